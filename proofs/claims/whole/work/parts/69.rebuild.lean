/-! ===== the class's rebuild() ===== -/
theorem mem_gatW {us : List (List Nat)} : ∀ {W : List (List Nat)}, okL W → (∀ u ∈ us, okW u) → ∀ v, v ∈ W ∨ v ∈ us → v ∈ gatW W us := by
  intro W hW hu v hv
  have hG := okL.gat hW hu
  have hvo : okW v := by
    rcases hv with h | h
    · exact hW.1 v h
    · exact hu v h
  have hm : pkI v ∈ (gatW W us).map pkI := by
    rw [gatW_map]
    have : ∀ (us : List (List Nat)) (L : List Int32), (pkI v ∈ L ∨ v ∈ us) → pkI v ∈ gat L us := by
      intro us
      induction us with
      | nil =>
        intro L h
        rcases h with h | h
        · exact h
        · cases h
      | cons a us ih =>
        intro L h
        show pkI v ∈ gat (wins L (pkI a)) us
        apply ih
        rcases h with h | h
        · exact Or.inl (mem_wins.mpr (Or.inr h))
        · rcases List.mem_cons.mp h with rfl | h
          · exact Or.inl (mem_wins.mpr (Or.inl rfl))
          · exact Or.inr h
    refine this us _ ?_
    rcases hv with h | h
    · exact Or.inl (List.mem_map_of_mem h)
    · exact Or.inr h
  obtain ⟨w, hw, e⟩ := List.mem_map.mp hm
  have hwo := hG.1 w hw
  have := pkI_inj hwo.2.2 hvo.2.2 hwo.2.1 hvo.2.1 e
  exact this ▸ hw
