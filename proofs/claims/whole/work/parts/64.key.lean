/-! ===== the key of a query ===== -/
def betK (u b : List Nat) : Bool := decide (b.length < u.length) || (decide (u.length = b.length) && decide (pk u < pk b))
def stepK (b : List Nat) (P : Pt) : List Nat := if P.1 = 0 then (if betK P.2.1 b then P.2.1 else b) else b
/-- the longest word that the query must have, the first of them; [] if none -/
def keyW (Q : List Pt) : List Nat := Q.foldl stepK []
theorem keyW_take {Q : List Pt} {p : Nat} {P : Pt} (hP : Q[p]? = some P) : keyW (Q.take (p + 1)) = stepK (keyW (Q.take p)) P := by
  obtain ⟨h1, h2⟩ := List.getElem?_eq_some_iff.mp hP
  unfold keyW
  rw [List.take_succ_eq_append_getElem h1, List.foldl_append, h2]
  rfl
theorem keyW_mem : ∀ (Q : List Pt) (i : Nat), keyW (Q.take i) = [] ∨ ∃ P ∈ Q, P.1 = 0 ∧ keyW (Q.take i) = P.2.1
  | Q, 0 => Or.inl rfl
  | Q, i + 1 => by
    by_cases h : i < Q.length
    · have hP := List.getElem?_eq_getElem h
      have hm := List.getElem_mem h
      rw [keyW_take hP]
      unfold stepK
      split
      · split
        · exact Or.inr ⟨_, hm, by assumption, rfl⟩
        · exact keyW_mem Q i
      · exact keyW_mem Q i
    · rw [show Q.take (i + 1) = Q.take i by rw [List.take_of_length_le (by omega), List.take_of_length_le (by omega)]]
      exact keyW_mem Q i
theorem betKey_ok {u b : List Nat} (hu : okW u) (hb : (∀ c ∈ b, c < 8) ∧ b.length ≤ 6) (w : Wd) : m_X7_isBetterKey (pkI u) (pkI b) w = some (bI (betK u b), w) := by
  obtain ⟨u1, u6, u8⟩ := hu
  obtain ⟨b8, b6⟩ := hb
  have h1 := pkw_lt u8
  have h2 := pkw_lt b8
  unfold m_X7_isBetterKey
  rw [mb_call (sizeOf_ok u8 u6 w), mb_call (sizeOf_ok b8 b6 w), mb_mp]
  unfold betK
  rcases Nat.lt_trichotomy b.length u.length with h | h | h
  · rw [show nI u.length - nI b.length = nI (u.length - b.length) from nI_sub (by omega), if_pos (show (0 : Int32) < nI (u.length - b.length) from nI_lt (a := 0) (by omega) (by omega)), show decide (b.length < u.length) = true by simp [h]]
    rfl
  · rw [h, show nI u.length - nI u.length = 0 by rw [nI_sub (Nat.le_refl _), Nat.sub_self]; rfl, if_neg (by decide), if_pos rfl, show decide (u.length < u.length) = false by simp, show decide (u.length = u.length) = true by simp, Bool.false_or, Bool.true_and]
    by_cases hp : pk u < pk b
    · rw [if_neg (show ¬ pkI b ≤ pkI u from nI_ge hp (by omega)), show decide (pk u < pk b) = true by simp [hp]]
      rfl
    · rw [if_pos (show pkI b ≤ pkI u from nI_le (by omega) (by omega)), show decide (pk u < pk b) = false by simp; omega]
      rfl
  · have hneg : ¬ (0 < nI u.length - nI b.length) ∧ ¬ (nI u.length - nI b.length) = 0 := by
      have : ∀ a, a ≤ 6 → ∀ c, c ≤ 6 → a < c → ¬ (0 < nI a - nI c) ∧ ¬ (nI a - nI c) = 0 := by decide +kernel
      exact this _ u6 _ b6 h
    rw [if_neg hneg.1, if_neg hneg.2, show decide (b.length < u.length) = false by simp; omega, show decide (u.length = b.length) = false by simp; omega]
    rfl
section CKk
variable {I : Nat → Nat → Int32} {z : Zd} {W : List (List Nat)} {hs : HS}
theorem keyOf_ok (h : CK I z W hs) {q : Nat} {Q : List Pt} (hQ : hs.1[q]? = some Q) : m_X7_keyOf 0 (nI q) (I, z) = some (pkI (keyW Q), (I, z)) := by
  obtain ⟨hz, hB, hR, hW, h16, hL, hJ, hall⟩ := id h
  obtain ⟨o, ⟨-, f1, -, -, f4, f5, f6⟩, hho, hwo, -, s32⟩ := id hz
  obtain ⟨h0, ⟨hr2, hr3, hr4, hr5, hr6, hr7⟩, hs2, hs3, hs4, hs5, hs6, hs7⟩ := id hho
  have hq8 : q < 8 := Nat.lt_of_lt_of_le (List.getElem?_eq_some_iff.mp hQ).1 hB.1
  obtain ⟨hQ4, hQP⟩ := hB.2.2.1 Q (List.mem_of_getElem? hQ)
  obtain ⟨rl, rp⟩ := hR.2.2.1 q Q hQ
  have key := lp_FU (F := fun k (s : Int32 × Int32) => m_X7_keyOf_B4 0 (nI q) k s.1 s.2) (fun i => (pkI (keyW (Q.take i)), nI i)) (fun _ => (I, z)) (X := some (pkI (keyW Q), (I, z))) Q.length (by omega) (fun i hi k => ?_) (fun k => ?_)
  · unfold m_X7_keyOf
    exact key
  · show m_X7_keyOf_B4 0 (nI q) k (pkI (keyW (Q.take i))) (nI i) (I, z) = _
    have hP := List.getElem?_eq_getElem hi
    generalize Q[i] = P at hP
    obtain ⟨r0, r1, r2, r3⟩ := rp i P hP
    obtain ⟨o1, o2, o3, o4⟩ := hQP P (List.mem_of_getElem? hP)
    have hkb : (∀ c ∈ keyW (Q.take i), c < 8) ∧ (keyW (Q.take i)).length ≤ 6 := by
      rcases keyW_mem Q i with e | ⟨P', hp', -, e⟩
      · rw [e]; exact ⟨by simp, by simp⟩
      · rw [e]; have := (hQP P' hp').2.1; exact ⟨this.2.2, this.2.1⟩
    unfold m_X7_keyOf_B4
    rw [mb_gR o f1, mb_gR h0 hr2, mb_aI hs2 (show q < 8 from hq8) (by omega)]
    simp only [rl]
    rw [if_neg (nI_ge hi (by omega)), mb_gR o f1, mb_vc h0, mb_call (place_ok 12 q i _), mb_gR o f1, mb_gR h0 hr3, mb_aI hs3 (show 4 * q + i < 32 by omega) (by omega)]
    simp only [r0]
    rw [keyW_take hP]
    unfold stepK
    by_cases c0 : P.1 = 0
    · rw [if_pos (show nI P.1 = 0 by rw [c0]; rfl), if_pos c0, mb_gR o f1, mb_gR h0 hr4, mb_aI hs4 (show 4 * q + i < 32 by omega) (by omega)]
      simp only [r1]
      rw [mb_call (betKey_ok o2 hkb _)]
      cases betK P.2.1 (keyW (Q.take i))
      · rw [if_pos (show bI false = 0 from rfl)]
        unfold m_X7_keyOf_J69
        rw [nI_1]
        rfl
      · rw [if_neg (show ¬ bI true = 0 by decide), mb_gR o f1, mb_gR h0 hr4, mb_aI hs4 (show 4 * q + i < 32 by omega) (by omega)]
        simp only [r1]
        unfold m_X7_keyOf_J69
        rw [nI_1]
        rfl
    · rw [if_neg (nI_ne0 (by omega) (by omega)), if_neg c0]
      unfold m_X7_keyOf_J69
      rw [nI_1]
  · show m_X7_keyOf_B4 0 (nI q) k (pkI (keyW (Q.take Q.length))) (nI Q.length) (I, z) = _
    unfold m_X7_keyOf_B4
    rw [mb_gR o f1, mb_gR h0 hr2, mb_aI hs2 (show q < 8 from hq8) (by omega)]
    simp only [rl]
    rw [if_pos (nI_le (Nat.le_refl _) (by omega)), List.take_length]
    rfl
end CKk
