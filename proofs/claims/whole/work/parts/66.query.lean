/-! ===== query(), both sides ===== -/
theorem i32_nn {x : Int32} (h : ¬ x < 0) : ∃ n, n < 2 ^ 31 ∧ x = nI n := by
  have h1 : 0 ≤ x.toInt := by
    rw [Int32.lt_iff_toInt_lt] at h
    have : (0 : Int32).toInt = 0 := by decide
    omega
  have h2 := Int32.toInt_lt x
  refine ⟨x.toInt.toNat, by omega, ?_⟩
  apply Int32.toInt_inj.mp
  rw [nI_toInt (by omega)]
  omega
def isAsk (ls : List Nat) (Q : List Pt) : Bool := decide (keyW Q = []) || decide (0 < hct ls (keyW Q) ls.length)
theorem pk_nil : pkI [] = 0 := rfl
theorem pk_ne0 {u : List Nat} (h : okW u) : ¬ pkI u = 0 := by
  intro h0
  have := pkI_inj (v := []) h.2.2 (by simp) h.2.1 (by simp) (h0.trans pk_nil.symm)
  rw [this] at h
  simp [okW] at h
/-- the number of a query, if it is one -/
def qAt (hs : HS) (x : Int32) : Option (Nat × List Pt) := if x < 0 then none else (hs.1[x.toNatClampNeg]?).map (fun Q => (x.toNatClampNeg, Q))
def qans (hs : HS) (W : List (List Nat)) (x y : Int32) : Int32 := match qAt hs x with
  | none => -1
  | some (_, Q) => if y = 0 then nI Q.length else if y = 1 then bI (mtch hs.2 Q hs.2.length) else if y = 2 then snc hs.2 Q else if y = 3 then fnd (W.map pkI) (pkI (keyW Q)) else if y = 4 then bI (isAsk hs.2 Q) else -1
theorem qAt_cases (hs : HS) (x : Int32) : (qAt hs x = none ∧ (x < 0 ∨ ∃ n, n < 2 ^ 31 ∧ x = nI n ∧ hs.1.length ≤ n)) ∨ ∃ n Q, hs.1[n]? = some Q ∧ n < 2 ^ 31 ∧ x = nI n ∧ qAt hs x = some (n, Q) := by
  unfold qAt
  by_cases h : x < 0
  · exact Or.inl ⟨if_pos h, Or.inl h⟩
  · obtain ⟨n, hn, rfl⟩ := i32_nn h
    rw [if_neg h, nI_clamp hn]
    cases hq : hs.1[n]? with
    | none => exact Or.inl ⟨rfl, Or.inr ⟨n, hn, rfl, by simpa using hq⟩⟩
    | some Q => exact Or.inr ⟨n, Q, hq, hn, rfl, rfl⟩
section CKq
variable {I : Nat → Nat → Int32} {z : Zd} {W : List (List Nat)} {hs : HS}
theorem cisQuery_ok (h : CK I z W hs) (x : Int32) : m_X7_isQuery 0 x (I, z) = some (bI (qAt hs x).isSome, (I, z)) := by
  obtain ⟨hz, hB, hR, hW, h16, hL, hJ, hall⟩ := id h
  obtain ⟨o, ⟨-, f1, -, -, f4, f5, f6⟩, hho, hwo, -, s32⟩ := id hz
  have h8 := hB.1
  unfold m_X7_isQuery
  rcases qAt_cases hs x with ⟨e, hx⟩ | ⟨n, Q, hQ, hn, rfl, e⟩
  · rw [e]
    rcases hx with hx | ⟨n, hn, rfl, hl⟩
    · rw [if_pos hx]; rfl
    · rw [if_neg (nI_pos hn), mb_gR o f1, mb_gI hho.1]
      simp only [hR.1]
      rw [if_pos (nI_le hl hn)]
      rfl
  · have hl := (List.getElem?_eq_some_iff.mp hQ).1
    rw [e, if_neg (nI_pos hn), mb_gR o f1, mb_gI hho.1]
    simp only [hR.1]
    rw [if_neg (nI_ge hl (by omega))]
    rfl
theorem keyW_in (hB : HB hs) {q : Nat} {Q : List Pt} (hQ : hs.1[q]? = some Q) (hall : ∀ u ∈ aws hs.1, u ∈ W) : keyW Q = [] ∨ (okW (keyW Q) ∧ ∃ j : Nat, W[j]? = some (keyW Q)) := by
  obtain ⟨hQ4, hQP⟩ := hB.2.2.1 Q (List.mem_of_getElem? hQ)
  rcases keyW_mem Q Q.length with e | ⟨P', hp', c', e⟩
  · rw [List.take_length] at e; exact Or.inl e
  · rw [List.take_length] at e
    obtain ⟨p', hp2⟩ := List.getElem?_of_mem hp'
    rw [e]
    exact Or.inr ⟨(hQP P' hp').2.1, List.getElem?_of_mem (hall P'.2.1 (aws_mem hQ hp2 (by unfold pws; split <;> simp)))⟩
theorem cisAsked_ok (h : CK I z W hs) {q : Nat} {Q : List Pt} (hQ : hs.1[q]? = some Q) : m_X7_isAsked 0 (nI q) (I, z) = some (bI (isAsk hs.2 Q), (I, z)) := by
  obtain ⟨hz, hB, hR, hW, h16, hL, hJ, hall⟩ := id h
  obtain ⟨o, -⟩ := id hz
  have h40 := hB.2.1
  unfold m_X7_isAsked
  rw [mb_vc o, mb_call (keyOf_ok h hQ)]
  unfold isAsk
  rcases keyW_in hB hQ hall with e | ⟨hok, j, hj⟩
  · rw [e, pk_nil, if_pos rfl]; rfl
  · have hne : ¬ keyW Q = [] := fun e => by rw [e] at hok; simp [okW] at hok
    have hlt : hb hs.2 (keyW Q) hs.2.length < 2 ^ 40 := Nat.lt_of_lt_of_le (hb_lt _ _ _) (Nat.pow_le_pow_right (by omega) h40)
    have hcz : (lg_cmp (lN (hb hs.2 (keyW Q) hs.2.length)) 0 = 0) ↔ hct hs.2 (keyW Q) hs.2.length = 0 := by
      rw [lg0, show (0 : Int64) = lN 0 from rfl, lx_eq (by omega) (by omega), hb_zero]
    rw [if_neg (pk_ne0 hok), mb_vc o, mb_call (hitsOf_ok h hj), show decide (keyW Q = []) = false by simp [hne], Bool.false_or]
    by_cases hc : hct hs.2 (keyW Q) hs.2.length = 0
    · rw [if_pos (hcz.mpr hc), hc]; rfl
    · rw [if_neg (fun e => hc (hcz.mp e)), show decide (0 < hct hs.2 (keyW Q) hs.2.length) = true by simp; omega]; rfl
theorem cquery_ok (h : CK I z W hs) (x y : Int32) : m_X7_query 0 x y (I, z) = some (qans hs W x y, (I, z)) := by
  obtain ⟨hz, hB, hR, hW, h16, hL, hJ, hall⟩ := id h
  obtain ⟨o, ⟨-, f1, -, -, f4, f5, f6⟩, hho, hwo, -, s32⟩ := id hz
  obtain ⟨h0, ⟨hr2, -⟩, hs2, -⟩ := id hho
  have h8 := hB.1
  unfold m_X7_query qans
  rw [mb_vc o, mb_call (cisQuery_ok h x)]
  rcases qAt_cases hs x with ⟨e, hx⟩ | ⟨n, Q, hQ, hn, rfl, e⟩
  · rw [e, if_pos (show bI (none : Option (Nat × List Pt)).isSome = 0 from rfl)]; rfl
  · rw [e, if_neg (show ¬ bI (some (n, Q)).isSome = 0 from (by decide : ¬ bI true = 0))]
    have hl := (List.getElem?_eq_some_iff.mp hQ).1
    dsimp only
    by_cases y0 : y = 0
    · rw [if_pos y0, if_pos y0, mb_gR o f1, mb_gR h0 hr2, mb_aI hs2 (show n < 8 by omega) (by omega)]
      simp only [(hR.2.2.1 n Q hQ).1]
      rfl
    rw [if_neg y0, if_neg y0]
    by_cases y1 : y = 1
    · rw [if_pos y1, if_pos y1, mb_gR o f1, mb_gI h0]
      simp only [hR.2.1]
      rw [mb_vc o, mb_call (cmatches_ok h hQ (Nat.le_refl _))]
      cases mtch hs.2 Q hs.2.length <;> rfl
    rw [if_neg y1, if_neg y1]
    by_cases y2 : y = 2
    · rw [if_pos y2, if_pos y2, mb_vc o, mb_call (csince_ok h hQ)]
      rfl
    rw [if_neg y2, if_neg y2]
    by_cases y3 : y = 3
    · rw [if_pos y3, if_pos y3, mb_gR o f4, mb_vc o, mb_call (keyOf_ok h hQ), mb_vc hwo.1, mb_call (find_ok hwo hL (by rw [List.length_map]; exact h16) _)]
      rfl
    rw [if_neg y3, if_neg y3]
    by_cases y4 : y = 4
    · rw [if_pos y4, if_pos y4, mb_vc o, mb_call (cisAsked_ok h hQ)]
      cases isAsk hs.2 Q <;> rfl
    rw [if_neg y4, if_neg y4]
    rfl
end CKq
