/-! ===== next(): the class's nodes ===== -/
theorem cisNode_ok {I : Nat → Nat → Int32} {z : Zd} {W ns : List (List Nat)} (hz : SQ z) (hA : AR I 24 W ns) (h97 : ns.length ≤ 97) (x : Int32) : m_X7_isNode 0 x (I, z) = some (bI (lAt ns x).isSome, (I, z)) := by
  obtain ⟨o, ⟨-, f1, -, -, f4, f5, f6⟩, hho, hwo, hao, s32⟩ := id hz
  unfold m_X7_isNode
  rcases lAt_cases ns x with ⟨e, hx⟩ | ⟨n, u, hu, hn, rfl, e⟩
  · rw [e]
    rcases hx with hx | ⟨n, hn, rfl, hl⟩
    · rw [if_pos hx]; rfl
    · rw [if_neg (nI_pos hn), mb_gR o f5, mb_gI hao.1]
      simp only [hA.2.1]
      rw [if_pos (nI_le hl hn)]; rfl
  · have hl := (List.getElem?_eq_some_iff.mp hu).1
    rw [e, if_neg (nI_pos hn), mb_gR o f5, mb_gI hao.1]
    simp only [hA.2.1]
    rw [if_neg (nI_ge hl (by omega))]; rfl
theorem isLetter_ok (y : Int32) (w : Wd) : (m_X7_isLetter y w = some (0, w) ∧ ¬ (97 ≤ y.toInt ∧ y.toInt ≤ 104)) ∨ ∃ c, c < 8 ∧ y = nI (97 + c) ∧ m_X7_isLetter y w = some (1, w) := by
  unfold m_X7_isLetter
  have h97 : (97 : Int32).toInt = 97 := by decide
  have h105 : (105 : Int32).toInt = 105 := by decide
  by_cases h1 : y < 97
  · have := Int32.lt_iff_toInt_lt.mp h1
    exact Or.inl ⟨by rw [if_pos h1]; rfl, by omega⟩
  · have a : ¬ y.toInt < 97 := fun h => h1 (Int32.lt_iff_toInt_lt.mpr (by omega))
    by_cases h2 : 105 ≤ y
    · have := Int32.le_iff_toInt_le.mp h2
      exact Or.inl ⟨by rw [if_neg h1, if_pos h2]; rfl, by omega⟩
    · have b : ¬ 105 ≤ y.toInt := fun h => h2 (Int32.le_iff_toInt_le.mpr (by omega))
      refine Or.inr ⟨y.toInt.toNat - 97, by omega, ?_, by rw [if_neg h1, if_neg h2]; rfl⟩
      apply Int32.toInt_inj.mp
      rw [nI_toInt (by omega)]
      omega
theorem next_same {I I' : Nat → Nat → Int32} {z z' : Zd} {m : Nat} {W ns : List (List Nat)} (hz : SQ z) (hA : AR I 24 W ns) (h97 : ns.length ≤ 97) (hM : MO z' m) (hX : RX I' m W ns) (x y : Int32) :
    ∃ r, m_X7_next 0 x y (I, z) = some (r, (I, z)) ∧ m_X8_next m x y (I', z') = some (r, (u2 I' m 0 0, z')) := by
  obtain ⟨o, ⟨-, f1, -, -, f4, f5, f6⟩, hho, hwo, ⟨a0, ⟨-, -, -, -, -, ar6, -⟩, ⟨-, -, -, -, -, as6, -⟩, -⟩, s32⟩ := id hz
  have hX0 : RX (u2 I' m 0 0) m W ns := hX.kept (u2_ne (Or.inr (by omega))) (u2_ne (Or.inr (by omega))) (fun j a b => u2_row (by omega))
  obtain ⟨hN, hW, h16, -, hRW, hRN, hRA⟩ := id hX0
  have hmn : u2 I' m 0 0 m 17 = nI ns.length := by have := hRN.1; rwa [List.length_map] at this
  have hl97 : (97 : Int64).toInt = 97 := by decide
  have hl104 : (104 : Int64).toInt = 104 := by decide
  unfold m_X7_next m_X8_next
  rw [mb_vc o, mb_call (cisNode_ok hz hA h97 x), mb_sI hM.o]
  dsimp only
  rw [mb_gI hM.o]
  simp only [hmn]
  rw [mb_call (in0_ok ns (by omega) x _)]
  rcases lAt_cases ns x with ⟨e, -⟩ | ⟨n, u, hu, hn, rfl, e⟩
  · rw [e, if_pos (show bI (none : Option (List Nat)).isSome = 0 from rfl), if_pos (show bI (none : Option (List Nat)).isSome = 0 from rfl)]
    exact ⟨-1, rfl, rfl⟩
  rw [e, if_neg (show ¬ bI (some u).isSome = 0 from (by decide : ¬ bI true = 0)), if_neg (show ¬ bI (some u).isSome = 0 from (by decide : ¬ bI true = 0)), mb_call (in_ok _ _ _ _), Int32.toInt_toInt64, hl97, hl104]
  have hl := (List.getElem?_eq_some_iff.mp hu).1
  rcases isLetter_ok y (I, z) with ⟨e2, hy⟩ | ⟨c, hc, rfl, e2⟩
  · rw [mb_call e2, if_pos rfl, show decide (97 ≤ y.toInt ∧ y.toInt ≤ 104) = false by rw [decide_eq_false_iff_not]; exact hy, if_pos (show bI false = 0 from rfl)]
    exact ⟨-1, rfl, rfl⟩
  · rw [mb_call e2, if_neg (show ¬ (1 : Int32) = 0 by decide), nI_toInt (by omega), show decide (97 ≤ ((97 + c : Nat) : Int) ∧ ((97 + c : Nat) : Int) ≤ 104) = true by rw [decide_eq_true_iff]; omega, if_neg (show ¬ bI true = 0 by decide)]
    obtain ⟨k, k1, k2⟩ := hA.2.2.2.2.2.2 n u c hu hc
    obtain ⟨-, -, kk⟩ := hRA n u hu hl
    obtain ⟨k', k1', k2'⟩ := kk c hc
    have hkk : k' = k := nodup_idx hN.nodup k1' k1
    subst hkk
    refine ⟨nI k', ?_, ?_⟩
    · rw [mb_gR o f5, mb_gR a0 ar6, show nI n * 8 + nI (97 + c) - 97 = nI (8 * n + c) by
        rw [show (8 : Int32) = nI 8 from rfl, pk_mul, nI_add, show (97 : Int32) = nI 97 from rfl, nI_sub (by omega)]
        congr 1; omega, mb_aI as6 (show 8 * n + c < (1 + 16 * 6) * 8 by omega) (by omega)]
      simp only [k2]
      rfl
    · rw [mb_gR hM.o hM.rNexts, show (8 : Int32) * nI n + nI (97 + c) - 97 = nI (8 * n + c) by
        rw [show (8 : Int32) = nI 8 from rfl, pk_mul, nI_add, show (97 : Int32) = nI 97 from rfl, nI_sub (by omega)]
        congr 1; omega, mb_aI hM.sNexts (show 8 * n + c < 800 by omega) (by omega)]
      simp only [k2']
      rfl
