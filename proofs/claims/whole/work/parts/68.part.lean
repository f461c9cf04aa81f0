/-! ===== part(), both sides ===== -/
def lAt {α : Type} (l : List α) (x : Int32) : Option α := if x < 0 then none else l[x.toNatClampNeg]?
theorem lAt_cases {α : Type} (l : List α) (x : Int32) : (lAt l x = none ∧ (x < 0 ∨ ∃ n, n < 2 ^ 31 ∧ x = nI n ∧ l.length ≤ n)) ∨ ∃ n P, l[n]? = some P ∧ n < 2 ^ 31 ∧ x = nI n ∧ lAt l x = some P := by
  unfold lAt
  by_cases h : x < 0
  · exact Or.inl ⟨if_pos h, Or.inl h⟩
  · obtain ⟨n, hn, rfl⟩ := i32_nn h
    rw [if_neg h, nI_clamp hn]
    cases hq : l[n]? with
    | none => exact Or.inl ⟨rfl, Or.inr ⟨n, hn, rfl, by simpa using hq⟩⟩
    | some Q => exact Or.inr ⟨n, Q, hq, hn, rfl, rfl⟩
def pans1 (hs : HS) (W : List (List Nat)) (P : Pt) (y : Int32) : Int32 := if y = 0 then nI P.1 else if y = 1 then fnd (W.map pkI) (pkI P.2.1) else if y = 2 then fnd (W.map pkI) (pkI P.2.2.1) else if y = 3 then (if P.1 = 2 then nI P.2.2.2 else -9) else if y = 4 then bI (holdP hs.2 P hs.2.length) else -1
def pans (hs : HS) (W : List (List Nat)) (x k y : Int32) : Int32 := match qAt hs x with
  | none => -1
  | some (_, Q) => match lAt Q k with
    | none => -1
    | some P => pans1 hs W P y
section CKp
variable {I : Nat → Nat → Int32} {z : Zd} {W : List (List Nat)} {hs : HS}
theorem cpart_ok (h : CK I z W hs) (x k y : Int32) : m_X7_part 0 x k y (I, z) = some (pans hs W x k y, (I, z)) := by
  obtain ⟨hz, hB, hR, hW, h16, hL, hJ, hall⟩ := id h
  obtain ⟨o, ⟨-, f1, -, -, f4, f5, f6⟩, hho, hwo, -, s32⟩ := id hz
  obtain ⟨h0, ⟨hr2, hr3, hr4, hr5, hr6, hr7⟩, hs2, hs3, hs4, hs5, hs6, hs7⟩ := id hho
  have h8 := hB.1
  unfold m_X7_part pans
  rw [mb_vc o, mb_call (cisQuery_ok h x)]
  rcases qAt_cases hs x with ⟨e, hx⟩ | ⟨n, Q, hQ, hn, rfl, e⟩
  · rw [e, if_pos (show bI (none : Option (Nat × List Pt)).isSome = 0 from rfl)]; rfl
  rw [e, if_neg (show ¬ bI (some (n, Q)).isSome = 0 from (by decide : ¬ bI true = 0))]
  have hl := (List.getElem?_eq_some_iff.mp hQ).1
  obtain ⟨hQ4, hQP⟩ := hB.2.2.1 Q (List.mem_of_getElem? hQ)
  obtain ⟨rl, rp⟩ := hR.2.2.1 n Q hQ
  dsimp only
  rcases lAt_cases Q k with ⟨ek, hk⟩ | ⟨p, P, hP, hp, rfl, ek⟩
  · rw [ek]
    rcases hk with hk | ⟨p, hp, rfl, hpl⟩
    · rw [if_pos hk]; rfl
    · rw [if_neg (nI_pos hp), mb_gR o f1, mb_gR h0 hr2, mb_aI hs2 (show n < 8 by omega) (by omega)]
      simp only [rl]
      rw [if_neg (nI_nlt hpl hp)]
      rfl
  rw [ek]
  have hpl := (List.getElem?_eq_some_iff.mp hP).1
  obtain ⟨r0, r1, r2, r3⟩ := rp p P hP
  obtain ⟨o1, o2, o3, o4⟩ := hQP P (List.mem_of_getElem? hP)
  rw [if_neg (nI_pos hp), mb_gR o f1, mb_gR h0 hr2, mb_aI hs2 (show n < 8 by omega) (by omega)]
  simp only [rl]
  rw [if_pos (nI_lt hpl (by omega)), mb_gR o f1, mb_vc h0, mb_call (place_ok 12 n p _)]
  unfold pans1
  by_cases y0 : y = 0
  · rw [if_pos y0, if_pos y0, mb_gR o f1, mb_gR h0 hr3, mb_aI hs3 (show 4 * n + p < 32 by omega) (by omega)]
    simp only [r0]
    rfl
  rw [if_neg y0, if_neg y0]
  by_cases y1 : y = 1
  · rw [if_pos y1, if_pos y1, mb_gR o f4, mb_gR o f1, mb_gR h0 hr4, mb_aI hs4 (show 4 * n + p < 32 by omega) (by omega)]
    simp only [r1]
    rw [mb_vc hwo.1, mb_call (find_ok hwo hL (by rw [List.length_map]; exact h16) _)]
    rfl
  rw [if_neg y1, if_neg y1]
  by_cases y2 : y = 2
  · rw [if_pos y2, if_pos y2, mb_gR o f4, mb_gR o f1, mb_gR h0 hr5, mb_aI hs5 (show 4 * n + p < 32 by omega) (by omega)]
    simp only [r2]
    rw [mb_vc hwo.1, mb_call (find_ok hwo hL (by rw [List.length_map]; exact h16) _)]
    rfl
  rw [if_neg y2, if_neg y2]
  by_cases y3 : y = 3
  · rw [if_pos y3, if_pos y3, mb_gR o f1, mb_gR h0 hr3, mb_aI hs3 (show 4 * n + p < 32 by omega) (by omega)]
    simp only [r0]
    by_cases c2 : P.1 = 2
    · rw [if_pos (show nI P.1 = 2 by rw [c2]; rfl), if_pos c2, mb_gR o f1, mb_gR h0 hr6, mb_aI hs6 (show 4 * n + p < 32 by omega) (by omega)]
      simp only [r3]
      rfl
    · rw [if_neg (show ¬ nI P.1 = 2 from fun h => c2 ((nI_eq (b := 2) (by omega) (by omega)).mp h)), if_neg c2]
      rfl
  rw [if_neg y3, if_neg y3]
  by_cases y4 : y = 4
  · rw [if_pos y4, if_pos y4, mb_gR o f1, mb_gI h0]
    simp only [hR.2.1]
    rw [mb_vc o, mb_call (cholds_ok h hQ hP (Nat.le_refl _))]
    cases holdP hs.2 P hs.2.length <;> rfl
  rw [if_neg y4, if_neg y4]
  rfl
end CKp
section RP
variable {z : Zd} {m : Nat} {I : Nat → Nat → Int32} {W ns : List (List Nat)} {hs : HS}
theorem part_ok (hM : MO z m) (hB : HB hs) (hR : RR (I (m + 2)) hs) (hX : RX I m W ns) (hall : ∀ u ∈ aws hs.1, u ∈ W) (x k y : Int32) :
    ∃ I', m_X8_part m x k y (I, z) = some (pans hs W x k y, (I', z)) ∧ (∀ k, k ≠ 0 → I' m k = I m k) ∧ ∀ p, p ≠ m → p ≠ m + 12 → I' p = I p := by
  have h8 := hB.1
  have hR0 : RR (u2 I m 0 0 (m + 2)) hs := by rw [u2_row (by omega)]; exact hR
  have hX0 : RX (u2 I m 0 0) m W ns := hX.kept (u2_ne (Or.inr (by omega))) (u2_ne (Or.inr (by omega))) (fun j a b => u2_row (by omega))
  unfold m_X8_part pans
  rw [mb_sI hM.o]
  dsimp only
  rw [mb_vc hM.o, mb_call (isQuery_ok hM hB hR0 x)]
  rcases qAt_cases hs x with ⟨e, hx⟩ | ⟨n, Q, hQ, hn, rfl, e⟩
  · rw [e, if_pos (show bI (none : Option (Nat × List Pt)).isSome = 0 from rfl)]
    exact ⟨u2 I m 0 0, rfl, fun k hk => u2_ne (Or.inr hk), fun p hp _ => u2_row hp⟩
  rw [e, if_neg (show ¬ bI (some (n, Q)).isSome = 0 from (by decide : ¬ bI true = 0))]
  have hl := (List.getElem?_eq_some_iff.mp hQ).1
  obtain ⟨hQ4, hQP⟩ := hB.2.2.1 Q (List.mem_of_getElem? hQ)
  obtain ⟨rl, rp⟩ := hR0.2.2.2 n Q hQ
  rw [mb_gR hM.o hM.rNow, mb_call (parts_ok (w := (u2 I m 0 0, z)) hM.sNow (show n < 8 by omega))]
  simp only [rl]
  rw [mb_call (in_ok _ _ _ _)]
  have hx1 : (nI Q.length - 1).toInt = (Q.length : Int) - 1 := by
    have : ∀ n, n ≤ 4 → (nI n - 1).toInt = (n : Int) - 1 := by decide +kernel
    exact this _ hQ4
  rw [Int32.toInt_toInt64, Int32.toInt_toInt64, hx1, show (0 : Int64).toInt = 0 by decide]
  rcases lAt_cases Q k with ⟨ek, hk⟩ | ⟨p, P, hP, hp, rfl, ek⟩
  · rw [ek, show decide (0 ≤ k.toInt ∧ k.toInt ≤ (Q.length : Int) - 1) = false by
      rw [decide_eq_false_iff_not]
      rintro ⟨a, b⟩
      rcases hk with hk | ⟨p, hp, rfl, hpl⟩
      · have := Int32.lt_iff_toInt_lt.mp hk
        rw [show (0 : Int32).toInt = 0 by decide] at this
        omega
      · rw [nI_toInt hp] at b
        omega, if_pos (show bI false = 0 from rfl)]
    exact ⟨u2 I m 0 0, rfl, fun k hk => u2_ne (Or.inr hk), fun p hp _ => u2_row hp⟩
  have hpl := (List.getElem?_eq_some_iff.mp hP).1
  obtain ⟨r0, r1, r2, r3⟩ := rp p P hP
  obtain ⟨o1, o2, o3, o4⟩ := hQP P (List.mem_of_getElem? hP)
  rw [ek, nI_toInt hp, show decide (0 ≤ (p : Int) ∧ (p : Int) ≤ (Q.length : Int) - 1) = true by rw [decide_eq_true_iff]; omega, if_neg (show ¬ bI true = 0 by decide), mb_gR hM.o hM.rNow, mb_call (of0 (w := (u2 I m 0 0, z)) hM.sNow (show n < 8 by omega) (show p < 4 by omega))]
  simp only [r0]
  obtain ⟨I1, e1, hE, F⟩ := layEnds_ok hM hB hR0 hX0
  have hR1 : RR (I1 (m + 2)) hs := by rw [F (m + 2) (by omega)]; exact hR0
  have hX1 : RX I1 m W ns := hX0.kept (by rw [F m (by omega)]) (by rw [F m (by omega)]) (fun j a b => F (m + j) (by omega))
  obtain ⟨q0, q1, q2, q3⟩ := (hR1.2.2.2 n Q hQ).2 p P hP
  obtain ⟨hN, hW, h16, h97, hRW, -, -⟩ := id hX1
  refine ⟨I1, ?_, fun k hk => by rw [F m (by omega), u2_ne (Or.inr hk)], fun p hp hp2 => by rw [F p hp2, u2_row hp]⟩
  obtain ⟨j, hj⟩ := List.getElem?_of_mem (hall P.2.1 (aws_mem hQ hP (by unfold pws; split <;> simp)))
  rw [show (if nI P.1 = 2 then m_X8_part_J54 m (nI n) (nI p) y 1 else m_X8_part_J54 m (nI n) (nI p) y 0) = m_X8_part_J54 m (nI n) (nI p) y (bI (decide (P.1 = 2))) by
    by_cases c2 : P.1 = 2
    · rw [if_pos (show nI P.1 = 2 by rw [c2]; rfl), show decide (P.1 = 2) = true by simp [c2]]; rfl
    · rw [if_neg (show ¬ nI P.1 = 2 from fun h => c2 ((nI_eq (b := 2) (by omega) (by omega)).mp h)), show decide (P.1 = 2) = false by simp [c2]]; rfl]
  unfold m_X8_part_J54 pans1
  rw [mb_vc hM.o, mb_call e1]
  by_cases y0 : y = 0
  · rw [if_pos y0, if_pos y0, mb_gR hM.o hM.rNow, mb_call (of0 (w := (I1, z)) hM.sNow (show n < 8 by omega) (show p < 4 by omega))]
    simp only [q0]
    rfl
  rw [if_neg y0, if_neg y0]
  by_cases y1 : y = 1
  · rw [if_pos y1, if_pos y1, mb_gR hM.o hM.rNow, mb_call (of1 (w := (I1, z)) hM.sNow (show n < 8 by omega) (show p < 4 by omega))]
    simp only [q1]
    rw [mb_vc hM.o, mb_call (numberOf_ok hM hW h16 hRW hj), fnd_pk hW hj]
    rfl
  rw [if_neg y1, if_neg y1]
  by_cases y2 : y = 2
  · rw [if_pos y2, if_pos y2]
    by_cases c2 : P.1 = 2
    · obtain ⟨l, hl2⟩ := List.getElem?_of_mem (hall P.2.2.1 (aws_mem hQ hP (by unfold pws; rw [if_pos c2]; simp)))
      rw [show decide (P.1 = 2) = true by simp [c2], if_neg (show ¬ bI true = 0 by decide), mb_gR hM.o hM.rNow, mb_call (of2 (w := (I1, z)) hM.sNow (show n < 8 by omega) (show p < 4 by omega))]
      simp only [q2]
      rw [mb_vc hM.o, mb_call (numberOf_ok hM hW h16 hRW hl2), fnd_pk hW hl2]
      rfl
    · rw [show decide (P.1 = 2) = false by simp [c2], if_pos (show bI false = 0 from rfl), (o4 c2).1, fnd_nil hW]
      rfl
  rw [if_neg y2, if_neg y2]
  by_cases y3 : y = 3
  · rw [if_pos y3, if_pos y3]
    by_cases c2 : P.1 = 2
    · rw [show decide (P.1 = 2) = true by simp [c2], if_neg (show ¬ bI true = 0 by decide), if_pos c2, mb_gR hM.o hM.rNow, mb_call (of3 (w := (I1, z)) hM.sNow (show n < 8 by omega) (show p < 4 by omega))]
      simp only [q3]
      rfl
    · rw [show decide (P.1 = 2) = false by simp [c2], if_pos (show bI false = 0 from rfl), if_neg c2]
      rfl
  rw [if_neg y3, if_neg y3]
  by_cases y4 : y = 4
  · rw [if_pos y4, if_pos y4, mb_gR hM.o hM.rNow, show (1 : Int32) = nI 1 from rfl, mb_aI hM.sNow (show 1 < 178 by omega) (by omega)]
    simp only [hR1.2.1]
    rw [mb_vc hM.o, mb_call (holds_ok hM hB hR1 hX1 hE hall hQ hP (Nat.le_refl _))]
    cases holdP hs.2 P hs.2.length <;> rfl
  rw [if_neg y4, if_neg y4]
  rfl
end RP
