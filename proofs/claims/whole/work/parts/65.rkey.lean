/-! ===== the key: the reference's; who is asked ===== -/
theorem fnd_nil {W : List (List Nat)} (hW : okL W) : fnd (W.map pkI) (pkI []) = -9 := by
  refine fnd_none (fun i y hy he => ?_)
  rw [List.getElem?_map] at hy
  cases hv : W[i]? with
  | none => rw [hv] at hy; cases hy
  | some v =>
    rw [hv] at hy
    have hy : pkI v = y := Option.some.inj hy
    obtain ⟨v1, v6, v8⟩ := hW.1 v (List.mem_of_getElem? hv)
    have hvu : v = [] := pkI_inj v8 (by simp) v6 (by simp) (hy.trans he)
    subst hvu
    simp at v1
theorem okL.ord {W : List (List Nat)} (h : okL W) {i j : Nat} {u v : List Nat} (hi : W[i]? = some u) (hj : W[j]? = some v) : pk u < pk v ↔ i < j := by
  obtain ⟨i1, i2⟩ := List.getElem?_eq_some_iff.mp hi
  obtain ⟨j1, j2⟩ := List.getElem?_eq_some_iff.mp hj
  have hp := List.pairwise_iff_getElem.mp h.2
  constructor
  · intro hlt
    rcases Nat.lt_trichotomy i j with a | a | a
    · exact a
    · subst a
      rw [← i2, ← j2] at hlt
      omega
    · have := hp j i j1 i1 a
      rw [i2, j2] at this
      omega
  · intro a
    have := hp i j i1 j1 a
    rw [i2, j2] at this
    exact this
section RK
variable {z : Zd} {m : Nat} {I : Nat → Nat → Int32} {W ns : List (List Nat)} {hs : HS}
theorem key_ok (hM : MO z m) (hB : HB hs) (hR : RR (I (m + 2)) hs) (hX : RX I m W ns) (hall : ∀ u ∈ aws hs.1, u ∈ W) {q : Nat} {Q : List Pt} (hQ : hs.1[q]? = some Q) :
    m_X8_key m (nI q) (I, z) = some (fnd (W.map pkI) (pkI (keyW Q)), (I, z)) := by
  obtain ⟨hN, hW, h16, h97, hRW, -, -⟩ := hX
  have hq8 : q < 8 := Nat.lt_of_lt_of_le (List.getElem?_eq_some_iff.mp hQ).1 hB.1
  obtain ⟨hQ4, hQP⟩ := hB.2.2.1 Q (List.mem_of_getElem? hQ)
  obtain ⟨rl, rp⟩ := hR.2.2.2 q Q hQ
  have key := lp_FU (F := fun k (s : Int32 × Int32) => m_X8_key_B5 m (nI q) k s.1 s.2) (fun i => (fnd (W.map pkI) (pkI (keyW (Q.take i))), nI i)) (fun _ => (I, z)) (X := some (fnd (W.map pkI) (pkI (keyW Q)), (I, z))) Q.length (by omega) (fun i hi k => ?_) (fun k => ?_)
  · unfold m_X8_key
    rw [show ((-9 : Int32), (0 : Int32)) = (fnd (W.map pkI) (pkI (keyW (Q.take 0))), nI 0) by rw [show keyW (Q.take 0) = [] from rfl, fnd_nil hW]; rfl]
    exact key
  · show m_X8_key_B5 m (nI q) k (fnd (W.map pkI) (pkI (keyW (Q.take i)))) (nI i) (I, z) = _
    have hP := List.getElem?_eq_getElem hi
    generalize Q[i] = P at hP
    obtain ⟨r0, r1, r2, r3⟩ := rp i P hP
    obtain ⟨o1, o2, o3, o4⟩ := hQP P (List.mem_of_getElem? hP)
    obtain ⟨j, hj⟩ := List.getElem?_of_mem (hall P.2.1 (aws_mem hQ hP (by unfold pws; split <;> simp)))
    have hjl := (List.getElem?_eq_some_iff.mp hj).1
    unfold m_X8_key_B5
    rw [mb_gR hM.o hM.rNow, mb_call (parts_ok (w := (I, z)) hM.sNow hq8)]
    simp only [rl]
    rw [if_neg (nI_ge hi (by omega)), mb_gR hM.o hM.rNow, mb_call (of0 (w := (I, z)) hM.sNow hq8 (show i < 4 by omega))]
    simp only [r0]
    rw [keyW_take hP]
    unfold stepK
    by_cases c0 : P.1 = 0
    · rw [if_pos (show nI P.1 = 0 by rw [c0]; rfl), if_pos c0, mb_gR hM.o hM.rNow, mb_call (of1 (w := (I, z)) hM.sNow hq8 (show i < 4 by omega))]
      simp only [r1]
      rw [mb_vc hM.o, mb_call (numberOf_ok hM hW h16 hRW hj)]
      rcases keyW_mem Q i with e | ⟨P', hp', c', e⟩
      · rw [e, fnd_nil hW, if_pos rfl]
        have hbt : betK P.2.1 [] = true := by
          unfold betK
          rw [show decide (([] : List Nat).length < P.2.1.length) = true by have := o2.1; simp; omega]
          rfl
        rw [hbt, if_pos rfl, fnd_pk hW hj]
        unfold m_X8_key_J76
        rw [if_pos (by decide)]
        unfold m_X8_key_J94 m_X8_key_J100 m_X8_key_J101
        rw [nI_1]
      · obtain ⟨p', hp2⟩ := List.getElem?_of_mem hp'
        obtain ⟨l, hl⟩ := List.getElem?_of_mem (hall P'.2.1 (aws_mem hQ hp2 (by unfold pws; split <;> simp)))
        have hll := (List.getElem?_eq_some_iff.mp hl).1
        obtain ⟨b1, b6, b8⟩ := (hQP P' hp').2.1
        obtain ⟨u1, u6, u8⟩ := o2
        rw [e, fnd_pk hW hl, if_neg (show ¬ nI l = -9 by
          intro h9
          have := congrArg Int32.toInt h9
          rw [nI_toInt (by omega)] at this
          have h8 : (-9 : Int32).toInt = -9 := by decide
          omega)]
        rw [mb_gR hM.o hM.rWords, mb_aI hM.sWords (show j < 64 by omega) (by omega)]
        simp only [hRW.2 j _ hj]
        rw [mb_gR hM.o hM.rWords, mb_aI hM.sWords (show l < 64 by omega) (by omega)]
        simp only [hRW.2 l _ hl]
        rw [rcI_div u8 u6, rcI_div b8 b6]
        have hord := hW.ord hj hl
        unfold betK m_X8_key_J76
        rcases Nat.lt_trichotomy P'.2.1.length P.2.1.length with h | h | h
        · rw [show nI P.2.1.length - nI P'.2.1.length = nI (P.2.1.length - P'.2.1.length) from nI_sub (by omega), if_pos (show (0 : Int32) < nI (P.2.1.length - P'.2.1.length) from nI_lt (a := 0) (by omega) (by omega)), show decide (P'.2.1.length < P.2.1.length) = true by simp [h], Bool.true_or, if_pos rfl, fnd_pk hW hj]
          unfold m_X8_key_J94 m_X8_key_J100 m_X8_key_J101
          rw [nI_1]
        · rw [h, show nI P.2.1.length - nI P.2.1.length = 0 by rw [nI_sub (Nat.le_refl _), Nat.sub_self]; rfl, if_neg (by decide), if_pos rfl, show decide (P.2.1.length < P.2.1.length) = false by simp, show decide (P.2.1.length = P.2.1.length) = true by simp, Bool.false_or, Bool.true_and]
          by_cases hp : pk P.2.1 < pk P'.2.1
          · rw [if_neg (nI_ge (hord.mp hp) (by omega)), show decide (pk P.2.1 < pk P'.2.1) = true by simp [hp], if_pos rfl, fnd_pk hW hj]
            unfold m_X8_key_J94 m_X8_key_J100 m_X8_key_J101
            rw [nI_1]
          · rw [if_pos (nI_le (show l ≤ j by have := fun h => hp (hord.mpr h); omega) (by omega)), show decide (pk P.2.1 < pk P'.2.1) = false by simp; omega, if_neg (by decide), fnd_pk hW hl]
            unfold m_X8_key_J99 m_X8_key_J100 m_X8_key_J101
            rw [nI_1]
        · have hneg : ¬ (0 < nI P.2.1.length - nI P'.2.1.length) ∧ ¬ (nI P.2.1.length - nI P'.2.1.length) = 0 := by
            have : ∀ a, a ≤ 6 → ∀ c, c ≤ 6 → a < c → ¬ (0 < nI a - nI c) ∧ ¬ (nI a - nI c) = 0 := by decide +kernel
            exact this _ u6 _ b6 h
          rw [if_neg hneg.1, if_neg hneg.2, show decide (P'.2.1.length < P.2.1.length) = false by simp; omega, show decide (P.2.1.length = P'.2.1.length) = false by simp; omega, Bool.false_or, Bool.false_and, if_neg (by decide), fnd_pk hW hl]
          unfold m_X8_key_J99 m_X8_key_J100 m_X8_key_J101
          rw [nI_1]
    · rw [if_neg (nI_ne0 (by omega) (by omega)), if_neg c0]
      unfold m_X8_key_J101
      rw [nI_1]
  · show m_X8_key_B5 m (nI q) k (fnd (W.map pkI) (pkI (keyW (Q.take Q.length)))) (nI Q.length) (I, z) = _
    unfold m_X8_key_B5
    rw [mb_gR hM.o hM.rNow, mb_call (parts_ok (w := (I, z)) hM.sNow hq8)]
    simp only [rl]
    rw [if_pos (nI_le (Nat.le_refl _) (by omega)), List.take_length]
    rfl
end RK
