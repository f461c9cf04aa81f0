/-! ===== the law's loop ===== -/
theorem mb_sc {β : Type} {xs : Nat → Int32} {L i : Nat} {f : Int32 → Mo β} {w : Wd} (hi : i < L) (hL : L < 2 ^ 31) : mb (sc xs L (nI i)) f w = f (xs i) w := mb_call (by unfold sc; rw [if_pos (nI_idx hi hL), nI_clamp (by omega)])
def Stt (w : Wd) : Prop := ∃ hs hi im tx ns, CI w hs hi im tx ns ∧ MI w hs hi im tx ns
def Nx (w w2 : Wd) : Prop := Stt w2 ∧ Rm w w2
theorem law_g {α : Type} {f g : Mo α} (h : Op f g) {w : Wd} (hw : Stt w) : ∃ r w1 w2, f w = some (r, w1) ∧ g w1 = some (r, w2) ∧ (wS w)[0]? = some (6, nf 6) ∧ (wS w1)[33]? = some (7, nf 7) ∧ Nx w w2 := by
  obtain ⟨hs, hi, im, tx, ns, hC, hM⟩ := hw
  obtain ⟨r, w1, w2, hs', hi', im', tx', ns', e1, e2, c, m, rm, es⟩ := h w hs hi im tx ns hC hM
  exact ⟨r, w1, w2, e1, e2, hC.2.2.1.1.1, by rw [es]; exact m.1.o, ⟨hs', hi', im', tx', ns', c, m⟩, rm⟩
section LW
variable {xs : Nat → Int32} {L : Nat} {w : Wd}
theorem law0 {f g : Mo Int32} (h : Op f g) (hw : Stt w) : ∃ w2, Nx w w2 ∧ ∀ k : Mo Int32, (mb (vc 6 0 f) fun c => mb (vc 7 33 g) fun c' => if c = c' then k else mz) w = k w2 := by
  obtain ⟨r, w1, w2, e1, e2, o1, o2, n⟩ := law_g h hw
  refine ⟨w2, n, fun k => ?_⟩
  rw [mb_vc o1, mb_call e1, mb_vc o2, mb_call e2, if_pos rfl]
theorem law1 {f g : Int32 → Mo Int32} {i : Nat} (h : ∀ x, Op (f x) (g x)) (hi : i < L) (hL : L < 2 ^ 31) (hw : Stt w) : ∃ w2, Nx w w2 ∧ ∀ k : Mo Int32, (mb (sc xs L (nI i)) fun x => mb (vc 6 0 (f x)) fun c => mb (sc xs L (nI i)) fun x' => mb (vc 7 33 (g x')) fun c' => if c = c' then k else mz) w = k w2 := by
  obtain ⟨r, w1, w2, e1, e2, o1, o2, n⟩ := law_g (h (xs i)) hw
  refine ⟨w2, n, fun k => ?_⟩
  rw [mb_sc hi hL, mb_vc o1, mb_call e1, mb_sc hi hL, mb_vc o2, mb_call e2, if_pos rfl]
theorem law2 {f g : Int32 → Int32 → Mo Int32} {i j : Nat} (h : ∀ x y, Op (f x y) (g x y)) (hi : i < L) (hj : j < L) (hL : L < 2 ^ 31) (hw : Stt w) : ∃ w2, Nx w w2 ∧ ∀ k : Mo Int32, (mb (sc xs L (nI i)) fun x => mb (sc xs L (nI j)) fun y => mb (vc 6 0 (f x y)) fun c => mb (sc xs L (nI i)) fun x' => mb (sc xs L (nI j)) fun y' => mb (vc 7 33 (g x' y')) fun c' => if c = c' then k else mz) w = k w2 := by
  obtain ⟨r, w1, w2, e1, e2, o1, o2, n⟩ := law_g (h (xs i) (xs j)) hw
  refine ⟨w2, n, fun k => ?_⟩
  rw [mb_sc hi hL, mb_sc hj hL, mb_vc o1, mb_call e1, mb_sc hi hL, mb_sc hj hL, mb_vc o2, mb_call e2, if_pos rfl]
theorem law2L {f g : Int32 → Int32 → Mo Int64} {i j : Nat} (h : ∀ x y, Op (f x y) (g x y)) (hi : i < L) (hj : j < L) (hL : L < 2 ^ 31) (hw : Stt w) : ∃ w2, Nx w w2 ∧ ∀ k : Mo Int32, (mb (sc xs L (nI i)) fun x => mb (sc xs L (nI j)) fun y => mb (vc 6 0 (f x y)) fun c => mb (sc xs L (nI i)) fun x' => mb (sc xs L (nI j)) fun y' => mb (vc 7 33 (g x' y')) fun c' => if (lg_cmp c c') = 0 then k else mz) w = k w2 := by
  obtain ⟨r, w1, w2, e1, e2, o1, o2, n⟩ := law_g (h (xs i) (xs j)) hw
  refine ⟨w2, n, fun k => ?_⟩
  have hcmp : lg_cmp r r = 0 := by unfold lg_cmp; simp
  rw [mb_sc hi hL, mb_sc hj hL, mb_vc o1, mb_call e1, mb_sc hi hL, mb_sc hj hL, mb_vc o2, mb_call e2, if_pos hcmp]
theorem law3 {f g : Int32 → Int32 → Int32 → Mo Int32} {i j l : Nat} (h : ∀ x y v, Op (f x y v) (g x y v)) (hi : i < L) (hj : j < L) (hl : l < L) (hL : L < 2 ^ 31) (hw : Stt w) : ∃ w2, Nx w w2 ∧ ∀ k : Mo Int32, (mb (sc xs L (nI i)) fun x => mb (sc xs L (nI j)) fun y => mb (sc xs L (nI l)) fun v => mb (vc 6 0 (f x y v)) fun c => mb (sc xs L (nI i)) fun x' => mb (sc xs L (nI j)) fun y' => mb (sc xs L (nI l)) fun v' => mb (vc 7 33 (g x' y' v')) fun c' => if c = c' then k else mz) w = k w2 := by
  obtain ⟨r, w1, w2, e1, e2, o1, o2, n⟩ := law_g (h (xs i) (xs j) (xs l)) hw
  refine ⟨w2, n, fun k => ?_⟩
  rw [mb_sc hi hL, mb_sc hj hL, mb_sc hl hL, mb_vc o1, mb_call e1, mb_sc hi hL, mb_sc hj hL, mb_sc hl hL, mb_vc o2, mb_call e2, if_pos rfl]
theorem body_ok {j : Nat} (hj : 4 * j + 4 ≤ L) (hL : L ≤ 2048) (hw : Stt w) : ∃ w2, Nx w w2 ∧ ∀ k : Int32 → Mo Int32, m_L_law_B18 L xs 0 33 k (nI (4 * j)) w = k (nI (4 * (j + 1))) w2 := by
  have hL31 : L < 2 ^ 31 := by omega
  have hend : ∀ w2, Nx w w2 → (∀ k : Int32 → Mo Int32, m_L_law_B18 L xs 0 33 k (nI (4 * j)) w = m_L_law_J666 L xs 0 33 (nI (4 * j)) k w2) → ∃ w2, Nx w w2 ∧ ∀ k : Int32 → Mo Int32, m_L_law_B18 L xs 0 33 k (nI (4 * j)) w = k (nI (4 * (j + 1))) w2 := fun w2 n h => ⟨w2, n, fun k => by
    rw [h k]
    unfold m_L_law_J666
    rw [show nI (4 * j) + 4 = nI (4 * (j + 1)) by rw [show (4 : Int32) = nI 4 from rfl, nI_add]; congr 1]⟩
  have hlt : ¬ (Int32.ofNat L - 4 < nI (4 * j)) := by
    rw [show Int32.ofNat L - 4 = nI (L - 4) from nI_sub (a := L) (b := 4) (by omega)]
    exact nI_nlt (by omega) (by omega)
  have a1 : nI (4 * j) + 1 = nI (4 * j + 1) := nI_1 _
  have a2 : nI (4 * j) + 2 = nI (4 * j + 2) := nI_add _ 2
  have a3 : nI (4 * j) + 3 = nI (4 * j + 3) := nI_add _ 3
  have i1 : 4 * j + 1 < L := by omega
  have i2 : 4 * j + 2 < L := by omega
  have i3 : 4 * j + 3 < L := by omega
  have hrun : ∀ k : Int32 → Mo Int32, m_L_law_B18 L xs 0 33 k (nI (4 * j)) w = m_L_law_B18 L xs 0 33 k (nI (4 * j)) w := fun _ => rfl
  generalize hx : xs (4 * j) &&& 31 = x at *
  by_cases h0 : x = 0
  · obtain ⟨w2, n, e⟩ := law1 (xs := xs) (f := m_X7_type 0) (g := m_X8_type 33) op_type i1 hL31 hw
    refine hend w2 n (fun k => ?_)
    unfold m_L_law_B18
    rw [if_neg hlt, mb_sc (by omega) hL31, hx, if_pos h0, a1]
    exact e _
  by_cases h1 : x = 1
  · obtain ⟨w2, n, e⟩ := law0 op_clear hw
    refine hend w2 n (fun k => ?_)
    unfold m_L_law_B18
    rw [if_neg hlt, mb_sc (by omega) hL31, hx, if_neg h0, if_pos h1]
    exact e _
  by_cases h2 : x = 2
  · obtain ⟨w2, n, e⟩ := law0 op_adds hw
    refine hend w2 n (fun k => ?_)
    unfold m_L_law_B18
    rw [if_neg hlt, mb_sc (by omega) hL31, hx, if_neg h0, if_neg h1, if_pos h2]
    exact e _
  by_cases h3 : x = 3
  · obtain ⟨w2, n, e⟩ := law1 (xs := xs) (f := m_X7_drops 0) (g := m_X8_drops 33) op_drops i1 hL31 hw
    refine hend w2 n (fun k => ?_)
    unfold m_L_law_B18
    rw [if_neg hlt, mb_sc (by omega) hL31, hx, if_neg h0, if_neg h1, if_neg h2, if_pos h3, a1]
    exact e _
  by_cases h4 : x = 4
  · obtain ⟨w2, n, e⟩ := law1 (xs := xs) (f := m_X7_feeds 0) (g := m_X8_feeds 33) op_feeds i1 hL31 hw
    refine hend w2 n (fun k => ?_)
    unfold m_L_law_B18
    rw [if_neg hlt, mb_sc (by omega) hL31, hx, if_neg h0, if_neg h1, if_neg h2, if_neg h3, if_pos h4, a1]
    exact e _
  by_cases h5 : x = 5
  · obtain ⟨w2, n, e⟩ := law0 op_cuts hw
    refine hend w2 n (fun k => ?_)
    unfold m_L_law_B18
    rw [if_neg hlt, mb_sc (by omega) hL31, hx, if_neg h0, if_neg h1, if_neg h2, if_neg h3, if_neg h4, if_pos h5]
    exact e _
  by_cases h6 : x = 6
  · obtain ⟨w2, n, e⟩ := law0 op_undo hw
    refine hend w2 n (fun k => ?_)
    unfold m_L_law_B18
    rw [if_neg hlt, mb_sc (by omega) hL31, hx, if_neg h0, if_neg h1, if_neg h2, if_neg h3, if_neg h4, if_neg h5, if_pos h6]
    exact e _
  by_cases h7 : x = 7
  · obtain ⟨w2, n, e⟩ := law2 (xs := xs) (f := m_X7_query 0) (g := m_X8_query 33) op_query i1 i2 hL31 hw
    refine hend w2 n (fun k => ?_)
    unfold m_L_law_B18
    rw [if_neg hlt, mb_sc (by omega) hL31, hx, if_neg h0, if_neg h1, if_neg h2, if_neg h3, if_neg h4, if_neg h5, if_neg h6, if_pos h7, a1, a2]
    exact e _
  by_cases h8 : x = 8
  · obtain ⟨w2, n, e⟩ := law3 (xs := xs) (f := m_X7_part 0) (g := m_X8_part 33) op_part i1 i2 i3 hL31 hw
    refine hend w2 n (fun k => ?_)
    unfold m_L_law_B18
    rw [if_neg hlt, mb_sc (by omega) hL31, hx, if_neg h0, if_neg h1, if_neg h2, if_neg h3, if_neg h4, if_neg h5, if_neg h6, if_neg h7, if_pos h8, a1, a2, a3]
    exact e _
  by_cases h9 : x = 9
  · obtain ⟨w2, n, e⟩ := law2 (xs := xs) (f := m_X7_shortest 0) (g := m_X8_shortest 33) op_shortest i1 i2 hL31 hw
    refine hend w2 n (fun k => ?_)
    unfold m_L_law_B18
    rw [if_neg hlt, mb_sc (by omega) hL31, hx, if_neg h0, if_neg h1, if_neg h2, if_neg h3, if_neg h4, if_neg h5, if_neg h6, if_neg h7, if_neg h8, if_pos h9, a1, a2]
    exact e _
  by_cases h10 : x = 10
  · obtain ⟨w2, n, e⟩ := law1 (xs := xs) (f := m_X7_more 0) (g := m_X8_more 33) op_more i1 hL31 hw
    refine hend w2 n (fun k => ?_)
    unfold m_L_law_B18
    rw [if_neg hlt, mb_sc (by omega) hL31, hx, if_neg h0, if_neg h1, if_neg h2, if_neg h3, if_neg h4, if_neg h5, if_neg h6, if_neg h7, if_neg h8, if_neg h9, if_pos h10, a1]
    exact e _
  by_cases h11 : x = 11
  · obtain ⟨w2, n, e⟩ := law2L (xs := xs) (f := m_X7_many 0) (g := m_X8_many 33) op_many i1 i2 hL31 hw
    refine hend w2 n (fun k => ?_)
    unfold m_L_law_B18
    rw [if_neg hlt, mb_sc (by omega) hL31, hx, if_neg h0, if_neg h1, if_neg h2, if_neg h3, if_neg h4, if_neg h5, if_neg h6, if_neg h7, if_neg h8, if_neg h9, if_neg h10, if_pos h11, a1, a2]
    exact e _
  by_cases h12 : x = 12
  · obtain ⟨w2, n, e⟩ := law2 (xs := xs) (f := m_X7_word 0) (g := m_X8_word 33) op_word i1 i2 hL31 hw
    refine hend w2 n (fun k => ?_)
    unfold m_L_law_B18
    rw [if_neg hlt, mb_sc (by omega) hL31, hx, if_neg h0, if_neg h1, if_neg h2, if_neg h3, if_neg h4, if_neg h5, if_neg h6, if_neg h7, if_neg h8, if_neg h9, if_neg h10, if_neg h11, if_pos h12, a1, a2]
    exact e _
  by_cases h13 : x = 13
  · obtain ⟨w2, n, e⟩ := law2 (xs := xs) (f := m_X7_hit 0) (g := m_X8_hit 33) op_hit i1 i2 hL31 hw
    refine hend w2 n (fun k => ?_)
    unfold m_L_law_B18
    rw [if_neg hlt, mb_sc (by omega) hL31, hx, if_neg h0, if_neg h1, if_neg h2, if_neg h3, if_neg h4, if_neg h5, if_neg h6, if_neg h7, if_neg h8, if_neg h9, if_neg h10, if_neg h11, if_neg h12, if_pos h13, a1, a2]
    exact e _
  by_cases h14 : x = 14
  · obtain ⟨w2, n, e⟩ := law2 (xs := xs) (f := m_X7_node 0) (g := m_X8_node 33) op_node i1 i2 hL31 hw
    refine hend w2 n (fun k => ?_)
    unfold m_L_law_B18
    rw [if_neg hlt, mb_sc (by omega) hL31, hx, if_neg h0, if_neg h1, if_neg h2, if_neg h3, if_neg h4, if_neg h5, if_neg h6, if_neg h7, if_neg h8, if_neg h9, if_neg h10, if_neg h11, if_neg h12, if_neg h13, if_pos h14, a1, a2]
    exact e _
  by_cases h15 : x = 15
  · obtain ⟨w2, n, e⟩ := law2 (xs := xs) (f := m_X7_next 0) (g := m_X8_next 33) op_next i1 i2 hL31 hw
    refine hend w2 n (fun k => ?_)
    unfold m_L_law_B18
    rw [if_neg hlt, mb_sc (by omega) hL31, hx, if_neg h0, if_neg h1, if_neg h2, if_neg h3, if_neg h4, if_neg h5, if_neg h6, if_neg h7, if_neg h8, if_neg h9, if_neg h10, if_neg h11, if_neg h12, if_neg h13, if_neg h14, if_pos h15, a1, a2]
    exact e _
  by_cases h16 : x = 16
  · obtain ⟨w2, n, e⟩ := law1 (xs := xs) (f := m_X7_letter 0) (g := m_X8_letter 33) op_letter i1 hL31 hw
    refine hend w2 n (fun k => ?_)
    unfold m_L_law_B18
    rw [if_neg hlt, mb_sc (by omega) hL31, hx, if_neg h0, if_neg h1, if_neg h2, if_neg h3, if_neg h4, if_neg h5, if_neg h6, if_neg h7, if_neg h8, if_neg h9, if_neg h10, if_neg h11, if_neg h12, if_neg h13, if_neg h14, if_neg h15, if_pos h16, a1]
    exact e _
  by_cases h17 : x = 17
  · obtain ⟨w2, n, e⟩ := law1 (xs := xs) (f := m_X7_now 0) (g := m_X8_now 33) op_now i1 hL31 hw
    refine hend w2 n (fun k => ?_)
    unfold m_L_law_B18
    rw [if_neg hlt, mb_sc (by omega) hL31, hx, if_neg h0, if_neg h1, if_neg h2, if_neg h3, if_neg h4, if_neg h5, if_neg h6, if_neg h7, if_neg h8, if_neg h9, if_neg h10, if_neg h11, if_neg h12, if_neg h13, if_neg h14, if_neg h15, if_neg h16, if_pos h17, a1]
    exact e _
  by_cases h18 : x = 18
  · obtain ⟨w2, n, e⟩ := law1 (xs := xs) (f := m_X7_keep 0) (g := m_X8_keep 33) op_keep i1 hL31 hw
    refine hend w2 n (fun k => ?_)
    unfold m_L_law_B18
    rw [if_neg hlt, mb_sc (by omega) hL31, hx, if_neg h0, if_neg h1, if_neg h2, if_neg h3, if_neg h4, if_neg h5, if_neg h6, if_neg h7, if_neg h8, if_neg h9, if_neg h10, if_neg h11, if_neg h12, if_neg h13, if_neg h14, if_neg h15, if_neg h16, if_neg h17, if_pos h18, a1]
    exact e _
  by_cases h19 : x = 19
  · obtain ⟨w2, n, e⟩ := law1 (xs := xs) (f := m_X7_back 0) (g := m_X8_back 33) op_back i1 hL31 hw
    refine hend w2 n (fun k => ?_)
    unfold m_L_law_B18
    rw [if_neg hlt, mb_sc (by omega) hL31, hx, if_neg h0, if_neg h1, if_neg h2, if_neg h3, if_neg h4, if_neg h5, if_neg h6, if_neg h7, if_neg h8, if_neg h9, if_neg h10, if_neg h11, if_neg h12, if_neg h13, if_neg h14, if_neg h15, if_neg h16, if_neg h17, if_neg h18, if_pos h19, a1]
    exact e _
  by_cases h20 : x = 20
  · obtain ⟨w2, n, e⟩ := law1 (xs := xs) (f := m_X7_count 0) (g := m_X8_count 33) op_count i1 hL31 hw
    refine hend w2 n (fun k => ?_)
    unfold m_L_law_B18
    rw [if_neg hlt, mb_sc (by omega) hL31, hx, if_neg h0, if_neg h1, if_neg h2, if_neg h3, if_neg h4, if_neg h5, if_neg h6, if_neg h7, if_neg h8, if_neg h9, if_neg h10, if_neg h11, if_neg h12, if_neg h13, if_neg h14, if_neg h15, if_neg h16, if_neg h17, if_neg h18, if_neg h19, if_pos h20, a1]
    exact e _
  refine hend w ⟨hw, Rm.same rfl rfl⟩ (fun k => ?_)
  unfold m_L_law_B18
  rw [if_neg hlt, mb_sc (by omega) hL31, hx, if_neg h0, if_neg h1, if_neg h2, if_neg h3, if_neg h4, if_neg h5, if_neg h6, if_neg h7, if_neg h8, if_neg h9, if_neg h10, if_neg h11, if_neg h12, if_neg h13, if_neg h14, if_neg h15, if_neg h16, if_neg h17, if_neg h18, if_neg h19, if_neg h20]
theorem loop_ok (hL : L ≤ 2048) (hw : Stt w) : ∃ w', lp (fun k s => m_L_law_B18 L xs 0 33 k s) FU 0 w = some (1, w') ∧ potS w' ≤ potS w + 94208 ∧ potC w' ≤ potC w + 3584 := by
  obtain ⟨s, x, k, ⟨rfl, h1, h2, h3⟩, e⟩ := lp_FUi (F := fun k s => m_L_law_B18 L xs 0 33 k s) (fun i s x => s = nI (4 * i) ∧ Stt x ∧ potS x ≤ potS w + 184 * i ∧ potC x ≤ potC w + 7 * i) (L / 4) (by omega) (by
    intro i hi s x hP
    obtain ⟨rfl, h1, h2, h3⟩ := hP
    obtain ⟨w2, ⟨n1, n2, n3⟩, e⟩ := body_ok (xs := xs) (j := i) (show 4 * i + 4 ≤ L by omega) hL h1
    exact ⟨nI (4 * (i + 1)), w2, ⟨rfl, n1, by omega, by omega⟩, e⟩) (s := 0) (w := w) ⟨rfl, hw, by omega, by omega⟩
  refine ⟨x, ?_, by omega, by omega⟩
  rw [e]
  unfold m_L_law_B18
  rw [if_pos]
  · rfl
  · by_cases h4 : 4 ≤ L
    · rw [show Int32.ofNat L - 4 = nI (L - 4) from nI_sub (a := L) (b := 4) h4]
      exact nI_lt (by omega) (by omega)
    · have h : L = 0 ∨ L = 1 ∨ L = 2 ∨ L = 3 := by omega
      rcases h with rfl | rfl | rfl | rfl <;> decide
end LW
