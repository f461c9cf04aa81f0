/-! ===== the class's rebuild() ===== -/
theorem mem_gatW {us : List (List Nat)} : ∀ {W : List (List Nat)}, okL W → (∀ u ∈ us, okW u) → ∀ v, v ∈ W ∨ v ∈ us → v ∈ gatW W us := by
  intro W hW hu v hv
  have hG := okL.gat hW hu
  have hvo : okW v := by
    rcases hv with h | h
    · exact hW.1 v h
    · exact hu v h
  have hm : pkI v ∈ (gatW W us).map pkI := by
    rw [gatW_map]
    have : ∀ (us : List (List Nat)) (L : List Int32), (pkI v ∈ L ∨ v ∈ us) → pkI v ∈ gat L us := by
      intro us
      induction us with
      | nil =>
        intro L h
        rcases h with h | h
        · exact h
        · cases h
      | cons a us ih =>
        intro L h
        show pkI v ∈ gat (wins L (pkI a)) us
        apply ih
        rcases h with h | h
        · exact Or.inl (mem_wins.mpr (Or.inr h))
        · rcases List.mem_cons.mp h with rfl | h
          · exact Or.inl (mem_wins.mpr (Or.inl rfl))
          · exact Or.inr h
    refine this us _ ?_
    rcases hv with h | h
    · exact Or.inl (List.mem_map_of_mem h)
    · exact Or.inr h
  obtain ⟨w, hw, e⟩ := List.mem_map.mp hm
  have hwo := hG.1 w hw
  have := pkI_inj hwo.2.2 hvo.2.2 hwo.2.1 hvo.2.1 e
  exact this ▸ hw
theorem HB.allw {hs : HS} (hB : HB hs) : ∀ u ∈ aws hs.1, okW u := by
  intro u hu
  obtain ⟨Q, hQ, hu⟩ := List.mem_flatMap.mp hu
  obtain ⟨P, hP, hu⟩ := List.mem_flatMap.mp hu
  obtain ⟨q, hq⟩ := List.getElem?_of_mem hQ
  exact hB.words hq P hP u hu
theorem okL_nil : okL [] := ⟨by simp, by simp⟩
theorem rebuild_ok {z : Zd} (hz : SQ z) {I : Nat → Nat → Int32} {hs : HS} (hB : HB hs) (hR : HR I 12 hs) (hroom : (gatW [] (aws hs.1)).length ≤ 16) (h25 : I 25 0 = 0) :
    ∃ I' J ns k, m_X7_rebuild 0 (I, z) = some ((), (I', (J, z.2))) ∧ CK I' (J, z.2) (gatW [] (aws hs.1)) hs ∧ AR I' 24 (gatW [] (aws hs.1)) ns ∧ ns.length ≤ 97 ∧ ns[k]? = some (lsuf ns hs.2) ∧ I' 0 7 = nI k ∧ (∀ k, k ≠ 7 → I' 0 k = I 0 k) ∧ (∀ x, x ≠ 0 → x ≠ 22 → x ≠ 23 → (x < 24 ∨ 31 < x) → I' x = I x) ∧ ∀ x, x ≠ 32 → J x = z.1 x := by
  obtain ⟨o, ⟨-, f1, -, -, f4, f5, f6⟩, hho, hwo, hao, s32⟩ := id hz
  have hW : okL (gatW [] (aws hs.1)) := okL.gat okL_nil hB.allw
  have hall : ∀ u ∈ aws hs.1, u ∈ gatW [] (aws hs.1) := fun u hu => mem_gatW okL_nil hB.allw u (Or.inr hu)
  have hgm : (gatW [] (aws hs.1)).map pkI = gat [] (aws hs.1) := gatW_map [] _
  obtain ⟨I1, e1, L1, F1⟩ := gatherAll_ok hwo hho hR hB (by intro j hj; omega) (by rw [← hgm, List.length_map]; exact hroom)
  rw [← hgm] at L1
  generalize gatW [] (aws hs.1) = W at *
  obtain ⟨I2, ns, e2, A2, l2, F2⟩ := build_ok hao hwo L1 hroom hW hroom ⟨by unfold apart7; omega, by unfold apart3; omega⟩ ⟨by unfold apart7; omega, by unfold apart3; omega⟩ (by rw [F1 25 (by omega) (by omega)]; exact h25)
  have fr : ∀ x, x ≠ 22 → x ≠ 23 → (x < 24 ∨ 31 < x) → I2 x = I x := fun x a b c => by rw [F2 x (by unfold apart7; omega) (by unfold apart3; omega), F1 x a b]
  have hR2 : HR I2 12 hs := hR.kept (fun j hj => fr _ (by omega) (by omega) (by omega))
  have L2 : WL (I2 22) (I2 23) (W.map pkI) := by
    rw [F2 22 (by unfold apart7; omega) (by unfold apart3; omega), F2 23 (by unfold apart7; omega) (by unfold apart3; omega)]
    exact L1
  obtain ⟨k, J, e3, ek, hJ, FJ⟩ := walk_ok hz hB hR2 hroom (by have := L2.1; rwa [List.length_map] at this) A2 (by omega)
  refine ⟨u2 I2 0 7 (nI k), J, ns, k, ?_, ⟨hz.to J, hB, hR2.kept (fun j hj => u2_row (by omega)), hW, hroom, ?_, hJ, hall⟩, ?_, by omega, ek, u2_eq _ _ _ _, ?_, ?_, FJ⟩
  · unfold m_X7_rebuild
    rw [mb_gR o f4, mb_gR o f1, mb_vc hwo.1, mb_call e1, mb_gR (w := (I1, z)) o f5, mb_gR (w := (I1, z)) o f4, mb_vc (w := (I1, z)) hao.1, mb_call e2, mb_vc (w := (I2, z)) o, mb_call e3]
    rfl
  · rw [u2_row (by omega), u2_row (by omega)]; exact L2
  · unfold AR
    simp only [u2_row (show 24 ≠ 0 by omega), u2_row (show 24 + 1 ≠ 0 by omega), u2_row (show 24 + 2 ≠ 0 by omega), u2_row (show 24 + 3 ≠ 0 by omega), u2_row (show 24 + 4 ≠ 0 by omega), u2_row (show 24 + 5 ≠ 0 by omega), u2_row (show 24 + 6 ≠ 0 by omega)]
    exact A2
  · intro j hj
    rw [u2_ne (Or.inr hj), fr 0 (by omega) (by omega) (by omega)]
  · intro x a b c d
    rw [u2_row a, fr x b c d]
