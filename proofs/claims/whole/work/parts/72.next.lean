/-! ===== next(): the class's nodes ===== -/
theorem cisNode_ok {I : Nat → Nat → Int32} {z : Zd} {W ns : List (List Nat)} (hz : SQ z) (hA : AR I 24 W ns) (h97 : ns.length ≤ 97) (x : Int32) : m_X7_isNode 0 x (I, z) = some (bI (lAt ns x).isSome, (I, z)) := by
  obtain ⟨o, ⟨-, f1, -, -, f4, f5, f6⟩, hho, hwo, hao, s32⟩ := id hz
  unfold m_X7_isNode
  rcases lAt_cases ns x with ⟨e, hx⟩ | ⟨n, u, hu, hn, rfl, e⟩
  · rw [e]
    rcases hx with hx | ⟨n, hn, rfl, hl⟩
    · rw [if_pos hx]; rfl
    · rw [if_neg (nI_pos hn), mb_gR o f5, mb_gI hao.1]
      simp only [hA.2.1]
      rw [if_pos (nI_le hl hn)]; rfl
  · have hl := (List.getElem?_eq_some_iff.mp hu).1
    rw [e, if_neg (nI_pos hn), mb_gR o f5, mb_gI hao.1]
    simp only [hA.2.1]
    rw [if_neg (nI_ge hl (by omega))]; rfl
theorem isLetter_ok (y : Int32) (w : Wd) : (m_X7_isLetter y w = some (0, w) ∧ ¬ (97 ≤ y.toInt ∧ y.toInt ≤ 104)) ∨ ∃ c, c < 8 ∧ y = nI (97 + c) ∧ m_X7_isLetter y w = some (1, w) := by
  unfold m_X7_isLetter
  have h97 : (97 : Int32).toInt = 97 := by decide
  have h105 : (105 : Int32).toInt = 105 := by decide
  by_cases h1 : y < 97
  · have := Int32.lt_iff_toInt_lt.mp h1
    exact Or.inl ⟨by rw [if_pos h1]; rfl, by omega⟩
  · have a : ¬ y.toInt < 97 := fun h => h1 (Int32.lt_iff_toInt_lt.mpr (by omega))
    by_cases h2 : 105 ≤ y
    · have := Int32.le_iff_toInt_le.mp h2
      exact Or.inl ⟨by rw [if_neg h1, if_pos h2]; rfl, by omega⟩
    · have b : ¬ 105 ≤ y.toInt := fun h => h2 (Int32.le_iff_toInt_le.mpr (by omega))
      refine Or.inr ⟨y.toInt.toNat - 97, by omega, ?_, by rw [if_neg h1, if_neg h2]; rfl⟩
      apply Int32.toInt_inj.mp
      rw [nI_toInt (by omega)]
      omega
