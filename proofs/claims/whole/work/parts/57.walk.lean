/-! ===== the walk over the letters: the reference's ===== -/
/-- what the links of the reference give -/
def RX (I : Nat → Nat → Int32) (m : Nat) (W ns : List (List Nat)) : Prop := NS W ns ∧ okL W ∧ W.length ≤ 16 ∧ ns.length ≤ 97 ∧ RW I m W ∧ RN I m (ns.map rcI) ∧ RA I m W ns ns.length
theorem eb_lsuf {W ns : List (List Nat)} (hN : NS W ns) (t : List Nat) : eb W (lsuf ns t) = eb W t := by
  apply Nat.eq_of_testBit_eq
  intro i
  unfold eb
  rw [bitsL_bit, bitsL_bit]
  cases h : W[i]? with
  | none => rfl
  | some v =>
    show v.isSuffixOf (lsuf ns t) = v.isSuffixOf t
    rw [Bool.eq_iff_iff, List.isSuffixOf_iff_suffix, List.isSuffixOf_iff_suffix]
    exact ⟨fun a => a.trans (lsuf_suffix ns t), fun a => lsuf_max a (hN.word (List.mem_of_getElem? h))⟩
theorem RX.next {I : Nat → Nat → Int32} {m : Nat} {W ns : List (List Nat)} (h : RX I m W ns) {k c : Nat} {t : List Nat} (hk : ns[k]? = some (lsuf ns t)) (hc : c < 8) : ∃ k', ns[k']? = some (lsuf ns (t ++ [c])) ∧ I (m + 11) (8 * k + c) = nI k' := by
  obtain ⟨hN, -, -, -, -, -, hA⟩ := h
  obtain ⟨-, -, e⟩ := hA k _ hk (List.getElem?_eq_some_iff.mp hk).1
  obtain ⟨k', e1, e2⟩ := e c hc
  exact ⟨k', by rw [e1, ← lsuf_snoc hN.pre], e2⟩
theorem RX.ends {I : Nat → Nat → Int32} {m : Nat} {W ns : List (List Nat)} (h : RX I m W ns) {k : Nat} {t : List Nat} (hk : ns[k]? = some (lsuf ns t)) : I (m + 10) k = nI (eb W t) := by
  obtain ⟨hN, -, -, -, -, -, hA⟩ := h
  obtain ⟨-, e, -⟩ := hA k _ hk (List.getElem?_eq_some_iff.mp hk).1
  rw [e, eb_lsuf hN]
theorem nodeAt_ok {z : Zd} {m : Nat} (hM : MO z m) {I : Nat → Nat → Int32} {W ns : List (List Nat)} {hs : HS} (hB : HB hs) (hR : RR (I (m + 2)) hs) (hX : RX I m W ns) {n : Nat} (hn : n ≤ hs.2.length) :
    ∃ k, ns[k]? = some (lsuf ns (hs.2.take n)) ∧ m_X8_nodeAt m (nI n) (I, z) = some (nI k, (I, z)) := by
  have h40 := hB.2.1
  have h97 := hX.2.2.2.1
  obtain ⟨s, w, k, ⟨rfl, kk, ek, rfl⟩, e⟩ := lp_FUi (F := fun k (s : Int32 × Int32) => m_X8_nodeAt_B4 m (nI n) k s.1 s.2) (fun i s x => x = (I, z) ∧ ∃ kk, ns[kk]? = some (lsuf ns (hs.2.take i)) ∧ s = (nI kk, nI i)) n (by omega) (by
    intro i hi s x hP
    obtain ⟨rfl, kk, ek, rfl⟩ := hP
    have hl : i < hs.2.length := by omega
    have hc := List.getElem?_eq_getElem hl
    have hc8 := hB.2.2.2 _ (List.getElem_mem hl)
    generalize hs.2[i] = c at hc hc8
    have hkk := (List.getElem?_eq_some_iff.mp ek).1
    obtain ⟨k', e1, e2⟩ := hX.next ek hc8
    refine ⟨(nI k', nI (i + 1)), (I, z), ⟨rfl, k', by rw [take_snoc hc]; exact e1, rfl⟩, fun k => ?_⟩
    show m_X8_nodeAt_B4 m (nI n) k (nI kk) (nI i) (I, z) = _
    unfold m_X8_nodeAt_B4
    rw [if_neg (nI_ge hi (by omega)), mb_gR hM.o hM.rNexts, mb_gR hM.o hM.rNow, show (2 : Int32) + nI i = nI (2 + i) from nI_add 2 i, mb_aI hM.sNow (show 2 + i < 178 by omega) (by omega)]
    simp only [hR.2.2.1 i c hc]
    rw [show (8 : Int32) * nI kk + nI c = nI (8 * kk + c) by rw [show (8 : Int32) = nI 8 from rfl, pk_mul, nI_add], mb_aI hM.sNexts (show 8 * kk + c < 800 by omega) (by omega)]
    simp only [e2]
    rw [nI_1]) (s := (0, 0)) (w := (I, z)) ⟨rfl, 0, hX.1.zero, rfl⟩
  refine ⟨kk, ek, ?_⟩
  unfold m_X8_nodeAt
  rw [e]
  show m_X8_nodeAt_B4 m (nI n) k (nI kk) (nI n) (I, z) = _
  unfold m_X8_nodeAt_B4
  rw [if_pos (nI_le (Nat.le_refl _) (by omega))]
  rfl
/-- the row of the words that end at each letter -/
def RE (I : Nat → Nat → Int32) (m : Nat) (W : List (List Nat)) (ls : List Nat) (n : Nat) : Prop := ∀ i, i < n → I (m + 12) i = nI (eb W (ls.take (i + 1)))
theorem layEnds_ok {z : Zd} {m : Nat} (hM : MO z m) {I : Nat → Nat → Int32} {W ns : List (List Nat)} {hs : HS} (hB : HB hs) (hR : RR (I (m + 2)) hs) (hX : RX I m W ns) :
    ∃ I', m_X8_layEnds m (I, z) = some ((), (I', z)) ∧ RE I' m W hs.2 hs.2.length ∧ ∀ x, x ≠ m + 12 → I' x = I x := by
  have h40 := hB.2.1
  have h97 := hX.2.2.2.1
  obtain ⟨s, w, k, ⟨J, rfl, hE, F, kk, ek, rfl⟩, e⟩ := lp_FUi (F := fun k (s : Int32 × Int32) => m_X8_layEnds_B4 m k s.1 s.2) (fun i s x => ∃ J, x = (J, z) ∧ RE J m W hs.2 i ∧ (∀ y, y ≠ m + 12 → J y = I y) ∧ ∃ kk, ns[kk]? = some (lsuf ns (hs.2.take i)) ∧ s = (nI kk, nI i)) hs.2.length (by omega) (by
    intro i hl s x hP
    obtain ⟨J, rfl, hE, F, kk, ek, rfl⟩ := hP
    have hc := List.getElem?_eq_getElem hl
    have hc8 := hB.2.2.2 _ (List.getElem_mem hl)
    generalize hs.2[i] = c at hc hc8
    have hkk := (List.getElem?_eq_some_iff.mp ek).1
    obtain ⟨k', e1, e2⟩ := hX.next ek hc8
    have hk' := (List.getElem?_eq_some_iff.mp e1).1
    have e3 := hX.ends e1
    rw [← take_snoc hc] at e1 e3
    refine ⟨(nI k', nI (i + 1)), (u2 J (m + 12) i (nI (eb W (hs.2.take (i + 1)))), z), ⟨_, rfl, ?_, ?_, k', e1, rfl⟩, fun k => ?_⟩
    · intro j hj
      by_cases h : j = i
      · subst h; rw [u2_eq]
      · rw [u2_ne (Or.inr h)]; exact hE j (by omega)
    · intro y hy
      rw [u2_row hy, F y hy]
    show m_X8_layEnds_B4 m k (nI kk) (nI i) (J, z) = _
    unfold m_X8_layEnds_B4
    rw [mb_gR hM.o hM.rNow, show (1 : Int32) = nI 1 from rfl, mb_aI hM.sNow (show 1 < 178 by omega) (by omega)]
    simp only [F (m + 2) (by omega), hR.2.1]
    rw [if_neg (nI_ge hl (by omega)), mb_gR hM.o hM.rNexts, mb_gR hM.o hM.rNow, show (2 : Int32) + nI i = nI (2 + i) from nI_add 2 i, mb_aI hM.sNow (show 2 + i < 178 by omega) (by omega)]
    simp only [F (m + 2) (by omega), hR.2.2.1 i c hc]
    rw [show (8 : Int32) * nI kk + nI c = nI (8 * kk + c) by rw [show (8 : Int32) = nI 8 from rfl, pk_mul, nI_add], mb_aI hM.sNexts (show 8 * kk + c < 800 by omega) (by omega)]
    simp only [F (m + 11) (by omega), e2]
    rw [mb_gR hM.o hM.rEnded, mb_gR hM.o hM.rEnds, mb_aI hM.sEnds (show k' < 100 by omega) (by omega)]
    simp only [F (m + 10) (by omega), e3]
    rw [mb_tI hM.sEnded (show i < 40 by omega) (by omega), nI_add]) (s := (0, 0)) (w := (I, z)) ⟨I, rfl, fun i h => absurd h (by omega), fun _ _ => rfl, 0, hX.1.zero, rfl⟩
  refine ⟨J, ?_, hE, F⟩
  unfold m_X8_layEnds
  rw [e]
  show m_X8_layEnds_B4 m k (nI kk) (nI hs.2.length) (J, z) = _
  unfold m_X8_layEnds_B4
  rw [mb_gR hM.o hM.rNow, show (1 : Int32) = nI 1 from rfl, mb_aI hM.sNow (show 1 < 178 by omega) (by omega)]
  simp only [F (m + 2) (by omega), hR.2.1]
  rw [if_pos (nI_le (Nat.le_refl _) (by omega))]
  rfl
