/-! ===== next(): the class's nodes ===== -/
theorem cisNode_ok {I : Nat → Nat → Int32} {z : Zd} {W ns : List (List Nat)} (hz : SQ z) (hA : AR I 24 W ns) (h97 : ns.length ≤ 97) (x : Int32) : m_X7_isNode 0 x (I, z) = some (bI (lAt ns x).isSome, (I, z)) := by
  obtain ⟨o, ⟨-, f1, -, -, f4, f5, f6⟩, hho, hwo, hao, s32⟩ := id hz
  unfold m_X7_isNode
  rcases lAt_cases ns x with ⟨e, hx⟩ | ⟨n, u, hu, hn, rfl, e⟩
  · rw [e]
    rcases hx with hx | ⟨n, hn, rfl, hl⟩
    · rw [if_pos hx]; rfl
    · rw [if_neg (nI_pos hn), mb_gR o f5, mb_gI hao.1]
      simp only [hA.2.1]
      rw [if_pos (nI_le hl hn)]; rfl
  · have hl := (List.getElem?_eq_some_iff.mp hu).1
    rw [e, if_neg (nI_pos hn), mb_gR o f5, mb_gI hao.1]
    simp only [hA.2.1]
    rw [if_neg (nI_ge hl (by omega))]; rfl
