/-! ===== the class's holds(), matches(), since() against the spec ===== -/
/-- what the class's rows hold of the state, its words and where they end -/
def CK (I : Nat → Nat → Int32) (z : Zd) (W : List (List Nat)) (hs : HS) : Prop := SQ z ∧ HB hs ∧ HR I 12 hs ∧ okL W ∧ W.length ≤ 16 ∧ WL (I 22) (I 23) (W.map pkI) ∧ HJ z.1 W hs.2 hs.2.length 0 ∧ ∀ u ∈ aws hs.1, u ∈ W
section CKs
variable {I : Nat → Nat → Int32} {z : Zd} {W : List (List Nat)} {hs : HS}
theorem fnd_pk (hW : okL W) {j : Nat} {u : List Nat} (hu : W[j]? = some u) : fnd (W.map pkI) (pkI u) = nI j := by
  obtain ⟨u1, u6, u8⟩ := hW.1 u (List.mem_of_getElem? hu)
  refine fnd_at (by rw [List.getElem?_map, hu]; rfl) (fun i y hi hy he => ?_)
  rw [List.getElem?_map] at hy
  cases hv : W[i]? with
  | none => rw [hv] at hy; cases hy
  | some v =>
    rw [hv] at hy
    have hy : pkI v = y := Option.some.inj hy
    obtain ⟨v1, v6, v8⟩ := hW.1 v (List.mem_of_getElem? hv)
    have hvu : v = u := pkI_inj v8 u8 v6 u6 (hy.trans he)
    subst hvu
    have := hW.idx hv hu
    omega
theorem hitsOf_ok (h : CK I z W hs) {j : Nat} {u : List Nat} (hu : W[j]? = some u) : m_X7_hitsOf 0 (pkI u) (I, z) = some (lN (hb hs.2 u hs.2.length), (I, z)) := by
  obtain ⟨hz, hB, hR, hW, h16, hL, hJ, hall⟩ := h
  obtain ⟨o, ⟨-, f1, -, -, f4, f5, f6⟩, -, hwo, -, s32⟩ := id hz
  have hj := (List.getElem?_eq_some_iff.mp hu).1
  have hJj := hJ j u hu
  rw [if_neg (by omega)] at hJj
  unfold m_X7_hitsOf
  rw [mb_gR o f4, mb_vc hwo.1, mb_call (find_ok hwo hL (by rw [List.length_map]; exact h16) (pkI u)), fnd_pk hW hu, if_pos (nI_pos' (by omega)), mb_gR o f6, mb_aJ s32 (show j < 16 by omega) (by omega)]
  show some (z.1 32 j, (I, z)) = _
  rw [hJj]
theorem cholds_ok (h : CK I z W hs) {q p : Nat} {Q : List Pt} {P : Pt} (hQ : hs.1[q]? = some Q) (hP : Q[p]? = some P) {n : Nat} (hn : n ≤ hs.2.length) :
    m_X7_holds 0 (nI (4 * q + p)) (nI n) (I, z) = some (bI (holdP hs.2 P n), (I, z)) := by
  obtain ⟨hz, hB, hR, hW, h16, hL, hJ, hall⟩ := id h
  obtain ⟨o, ⟨-, f1, -, -, f4, f5, f6⟩, ⟨h0, ⟨hr2, hr3, hr4, hr5, hr6, hr7⟩, hs2, hs3, hs4, hs5, hs6, hs7⟩, hwo, -, s32⟩ := id hz
  have h40 := hB.2.1
  have hq8 : q < 8 := Nat.lt_of_lt_of_le (List.getElem?_eq_some_iff.mp hQ).1 hB.1
  obtain ⟨hQ4, hQP⟩ := hB.2.2.1 Q (List.mem_of_getElem? hQ)
  have hp4 : p < 4 := Nat.lt_of_lt_of_le (List.getElem?_eq_some_iff.mp hP).1 hQ4
  obtain ⟨o1, o2, o3, o4⟩ := hQP P (List.mem_of_getElem? hP)
  obtain ⟨-, rp⟩ := hR.2.2.1 q Q hQ
  obtain ⟨r0, r1, r2, r3⟩ := rp p P hP
  obtain ⟨j, hj⟩ := List.getElem?_of_mem (hall P.2.1 (aws_mem hQ hP (by unfold pws; split <;> simp)))
  have hlL : ∀ u, hb hs.2 u hs.2.length < 2 ^ 40 := fun u => Nat.lt_of_lt_of_le (hb_lt _ _ _) (Nat.pow_le_pow_right (by omega) h40)
  have hln : ∀ u, hb hs.2 u n < 2 ^ 40 := fun u => Nat.lt_of_lt_of_le (hb_lt _ _ _) (Nat.pow_le_pow_right (by omega) (by omega))
  have hmask : lN (hb hs.2 P.2.1 hs.2.length) &&& (((1 : Int64) <<< ((nI n).toInt64 &&& 63)) - 1) = lN (hb hs.2 P.2.1 n) := by
    rw [show (1 : Int64) <<< ((nI n).toInt64 &&& 63) = lN (2 ^ n) by rw [show (1 : Int64) = lN 1 from rfl, lx_shl (by omega), Nat.one_mul]]
    have hpos : 0 < 2 ^ n := Nat.pos_of_ne_zero (by simp)
    rw [show lN (2 ^ n) - 1 = lN (2 ^ n - 1) by
      have : lN (2 ^ n) = lN (2 ^ n - 1) + 1 := by rw [lN_1, Nat.sub_add_cancel hpos]
      rw [this, Int64.add_sub_cancel], lx_and, hb_mask _ _ hn]
  have hcz : (lg_cmp (lN (hb hs.2 P.2.1 n)) 0 = 0) ↔ hct hs.2 P.2.1 n = 0 := by
    rw [lg0, show (0 : Int64) = lN 0 from rfl, lx_eq (by have := hln P.2.1; omega) (by omega), hb_zero]
  unfold m_X7_holds
  rw [mb_gR o f1, mb_gR h0 hr4, mb_aI hs4 (show 4 * q + p < 32 by omega) (by omega)]
  simp only [r1]
  rw [mb_vc o, mb_call (hitsOf_ok h hj), mb_mp, hmask, mb_gR o f1, mb_gR h0 hr3, mb_aI hs3 (show 4 * q + p < 32 by omega) (by omega)]
  simp only [r0]
  unfold holdP
  by_cases c0 : P.1 = 0
  · rw [if_pos (show nI P.1 = 0 by rw [c0]; rfl), if_neg (show ¬ P.1 = 2 by omega), if_pos c0]
    by_cases hc : hct hs.2 P.2.1 n = 0
    · rw [if_pos (hcz.mpr hc), hc]; rfl
    · rw [if_neg (fun e => hc (hcz.mp e)), show decide (0 < hct hs.2 P.2.1 n) = true by simp; omega]; rfl
  · rw [if_neg (nI_ne0 (by omega) (by omega))]
    by_cases c1 : P.1 = 1
    · rw [if_pos (show nI P.1 = 1 by rw [c1]; rfl), if_neg (show ¬ P.1 = 2 by omega), if_neg c0]
      by_cases hc : hct hs.2 P.2.1 n = 0
      · rw [if_pos (hcz.mpr hc), hc]; rfl
      · rw [if_neg (fun e => hc (hcz.mp e)), show decide (hct hs.2 P.2.1 n = 0) = false by simp; omega]; rfl
    · have h2 : P.1 = 2 := by omega
      obtain ⟨p1, p2, p3⟩ := o3 h2
      obtain ⟨l, hl⟩ := List.getElem?_of_mem (hall P.2.2.1 (aws_mem hQ hP (by unfold pws; rw [if_pos h2]; simp)))
      rw [if_neg (show ¬ nI P.1 = 1 from fun e => c1 ((nI_eq (b := 1) (by omega) (by omega)).mp e)), if_pos h2, mb_gR o f1, mb_gR h0 hr5, mb_aI hs5 (show 4 * q + p < 32 by omega) (by omega)]
      simp only [r2]
      rw [mb_vc o, mb_call (hitsOf_ok h hl), mb_gR o f1, mb_gR h0 hr6, mb_aI hs6 (show 4 * q + p < 32 by omega) (by omega)]
      simp only [r3]
      rw [mb_call (isNear_ok (hlL _) (hln _) p3 _), rZ_b, near_nz _ _ _ _ hn]
theorem cmatches_ok (h : CK I z W hs) {q : Nat} {Q : List Pt} (hQ : hs.1[q]? = some Q) {n : Nat} (hn : n ≤ hs.2.length) :
    m_X7_matches 0 (nI q) (nI n) (I, z) = some (bI (mtch hs.2 Q n), (I, z)) := by
  obtain ⟨hz, hB, hR, hW, h16, hL, hJ, hall⟩ := id h
  obtain ⟨o, ⟨-, f1, -, -, f4, f5, f6⟩, hho, hwo, -, s32⟩ := id hz
  obtain ⟨h0, ⟨hr2, hr3, hr4, hr5, hr6, hr7⟩, hs2, hs3, hs4, hs5, hs6, hs7⟩ := id hho
  have hq8 : q < 8 := Nat.lt_of_lt_of_le (List.getElem?_eq_some_iff.mp hQ).1 hB.1
  obtain ⟨hQ4, hQP⟩ := hB.2.2.1 Q (List.mem_of_getElem? hQ)
  obtain ⟨rl, -⟩ := hR.2.2.1 q Q hQ
  have hgen : ∀ k i, i + k = Q.length → ∀ f, k < f → lp (fun k s => m_X7_matches_B2 0 (nI q) (nI n) k s) f (nI i) (I, z) = some (bI (mtch hs.2 (Q.drop i) n), (I, z)) := by
    intro k
    induction k with
    | zero =>
      intro i hi f hf
      obtain ⟨g, rfl⟩ : ∃ g, f = g + 1 := ⟨f - 1, by omega⟩
      rw [lp_s]
      unfold m_X7_matches_B2
      rw [mb_gR o f1, mb_gR h0 hr2, mb_aI hs2 (show q < 8 from hq8) (by omega)]
      simp only [rl]
      rw [if_pos (nI_le (by omega) (by omega)), List.drop_eq_nil_of_le (by omega)]
      rfl
    | succ k ih =>
      intro i hi f hf
      obtain ⟨g, rfl⟩ : ∃ g, f = g + 1 := ⟨f - 1, by omega⟩
      rw [lp_s]
      have ih := ih (i + 1) (by omega) g (by omega)
      generalize lp (fun k s => m_X7_matches_B2 0 (nI q) (nI n) k s) g = kk at ih
      have hil : i < Q.length := by omega
      have hP := List.getElem?_eq_getElem hil
      have hd := List.drop_eq_getElem_cons hil
      generalize Q[i] = P at hP hd
      show m_X7_matches_B2 0 (nI q) (nI n) kk (nI i) (I, z) = _
      unfold m_X7_matches_B2
      rw [mb_gR o f1, mb_gR h0 hr2, mb_aI hs2 (show q < 8 from hq8) (by omega)]
      simp only [rl]
      rw [if_neg (nI_ge hil (by omega)), mb_gR o f1, mb_vc h0, mb_call (place_ok 12 q i _), mb_vc o, mb_call (cholds_ok h hQ hP hn), hd]
      show _ = some (bI (holdP hs.2 P n && mtch hs.2 (Q.drop (i + 1)) n), (I, z))
      cases holdP hs.2 P n
      · rw [if_pos (show bI false = 0 from rfl)]; rfl
      · rw [if_neg (show ¬ bI true = 0 by decide), nI_1, ih, Bool.true_and]
  unfold m_X7_matches
  exact hgen Q.length 0 (by omega) FU (by unfold FU; omega)
theorem csince_ok (h : CK I z W hs) {q : Nat} {Q : List Pt} (hQ : hs.1[q]? = some Q) : m_X7_since 0 (nI q) (I, z) = some (snc hs.2 Q, (I, z)) := by
  obtain ⟨hz, hB, hR, hW, h16, hL, hJ, hall⟩ := id h
  obtain ⟨o, ⟨-, f1, -, -, f4, f5, f6⟩, hho, hwo, -, s32⟩ := id hz
  have h40 := hB.2.1
  have hgen : ∀ n, n ≤ hs.2.length → ∀ f, n < f → lp (fun k s => m_X7_since_B20 0 (nI q) k s) f (nI n) (I, z) = some (nI (sncF hs.2 Q n), (I, z)) := by
    intro n
    induction n with
    | zero =>
      intro _ f hf
      obtain ⟨g, rfl⟩ : ∃ g, f = g + 1 := ⟨f - 1, by omega⟩
      rw [lp_s]
      unfold m_X7_since_B20
      rw [if_pos (show nI 0 ≤ 0 by decide)]
      rfl
    | succ n ih =>
      intro hn f hf
      obtain ⟨g, rfl⟩ : ∃ g, f = g + 1 := ⟨f - 1, by omega⟩
      rw [lp_s]
      have ih := ih (by omega) g (by omega)
      generalize lp (fun k s => m_X7_since_B20 0 (nI q) k s) g = kk at ih
      show m_X7_since_B20 0 (nI q) kk (nI (n + 1)) (I, z) = _
      unfold m_X7_since_B20
      rw [if_neg (nI_nle (by omega) (by omega)), mb_vc o, nI_pred, mb_call (cmatches_ok h hQ (by omega))]
      unfold sncF
      cases mtch hs.2 Q n
      · rw [if_pos (show bI false = 0 from rfl)]
        rfl
      · rw [if_neg (show ¬ bI true = 0 by decide), nI_m1, ih]
        rfl
  unfold m_X7_since
  rw [mb_gR o f1, mb_gI hho.1]
  simp only [hR.2.1]
  rw [mb_vc o, mb_call (cmatches_ok h hQ (Nat.le_refl _))]
  unfold snc
  cases mtch hs.2 Q hs.2.length
  · rw [if_pos (show bI false = 0 from rfl)]
    rfl
  · rw [if_neg (show ¬ bI true = 0 by decide), if_pos rfl]
    exact hgen hs.2.length (Nat.le_refl _) FU (by unfold FU; omega)
end CKs
