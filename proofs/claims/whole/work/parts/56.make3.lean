/-! ===== the reference's make(), whole ===== -/
theorem makeS_ok {z : Zd} {m : Nat} (hM : MO z m) {I : Nat → Nat → Int32} {W ns : List (List Nat)} (hW : okL W) (h16 : W.length ≤ 16) (hN : NS W ns) (hRW : RW I m W) (hR : RN I m (ns.map rcI)) (h97 : ns.length ≤ 97) (h8 : ∀ v ∈ ns, (∀ d ∈ v, d < 8) ∧ v.length ≤ 6) {n : Nat} {u : List Nat} (hu : ns[n]? = some u) (hA : RA I m W ns n) :
    ∃ I', RA I' m W ns (n + 1) ∧ (∀ x, x ≠ m + 9 → x ≠ m + 10 → x ≠ m + 11 → I' x = I x) ∧ ∀ k71 : Int32 → Mo Unit, m_X8_make_B71 m k71 (nI n) (I, z) = k71 (nI (n + 1)) (I', z) := by
  have hn := (List.getElem?_eq_some_iff.mp hu).1
  obtain ⟨u8, u6⟩ := h8 u (List.mem_of_getElem? hu)
  have hcode : I (m + 8) n = rcI u := hR.2 n _ (by rw [List.getElem?_map, hu]; rfl)
  -- the failure link
  obtain ⟨x, hx1, hx2⟩ : ∃ x : Int32, (if n = 0 then x = -9 else ∃ k, ns[k]? = some (lsuf ns u.tail) ∧ x = nI k) ∧ ∀ k71 : Int32 → Mo Unit, m_X8_make_B71 m k71 (nI n) (I, z) = m_X8_make_J116 m (nI n) (nI u.length) x (nI n) (m + 9) k71 (I, z) := by
    by_cases h0 : n = 0
    · refine ⟨-9, by rw [if_pos h0], fun k71 => ?_⟩
      unfold m_X8_make_B71
      rw [mb_gI hM.o]
      simp only [hR.1, List.length_map]
      rw [if_neg (nI_ge hn (by omega)), mb_gR hM.o hM.rNodes, mb_aI hM.sNodes (show n < 100 by omega) (by omega)]
      simp only [hcode]
      rw [mb_mp, rcI_div u8 u6, mb_gR hM.o hM.rFails, if_pos (show nI n = 0 by rw [h0]; rfl)]
    · have hne : u ≠ [] := fun h => h0 (nodup_idx hN.nodup (h ▸ hu) hN.zero)
      have hl := List.length_pos_iff.mpr hne
      obtain ⟨k, e1, e2⟩ := longest_ok hM hN hR (by omega) h8 u8 (show rc u % 1048576 = b8 u % 1048576 by unfold rc; omega) (u.length - 1) (by omega) (by omega)
      rw [show u.length - (u.length - 1) = 1 by omega, List.drop_one] at e1
      refine ⟨nI k, by rw [if_neg h0]; exact ⟨k, e1, rfl⟩, fun k71 => ?_⟩
      unfold m_X8_make_B71
      rw [mb_gI hM.o]
      simp only [hR.1, List.length_map]
      rw [if_neg (nI_ge hn (by omega)), mb_gR hM.o hM.rNodes, mb_aI hM.sNodes (show n < 100 by omega) (by omega)]
      simp only [hcode]
      rw [mb_mp, rcI_div u8 u6, mb_gR hM.o hM.rFails, if_neg (nI_ne0 (Nat.pos_of_ne_zero h0) (by omega)), mb_gR hM.o hM.rNodes, mb_aI hM.sNodes (show n < 100 by omega) (by omega)]
      simp only [hcode]
      rw [mb_vc hM.o, show nI u.length - 1 = nI (u.length - 1) from nI_sub (b := 1) hl, show rcI u = nI (rc u) from rfl, mb_call e2]
  generalize hI1 : u2 (u2 I (m + 9) n x) (m + 10) n 0 = I1
  have f1 : ∀ y, y ≠ m + 9 → y ≠ m + 10 → I1 y = I y := fun y a b => by rw [← hI1, u2_row b, u2_row a]
  have hRW1 : RW I1 m W := by unfold RW; rw [f1 m (by omega) (by omega), f1 (m + 7) (by omega) (by omega)]; exact hRW
  have hR1 : RN I1 m (ns.map rcI) := by unfold RN; rw [f1 m (by omega) (by omega), f1 (m + 8) (by omega) (by omega)]; exact hR
  have hE := makeE_ok hM hW h16 hRW1 hR1 h97 h8 hu (by rw [← hI1, u2_eq])
  generalize hI2 : uA I1 (m + 10) (va_up (I1 (m + 10)) n (nI (eb W u))) = I2 at hE
  have f2 : ∀ y, y ≠ m + 9 → y ≠ m + 10 → I2 y = I y := fun y a b => by rw [← hI2, uA_ne b, f1 y a b]
  have hR2 : RN I2 m (ns.map rcI) := by unfold RN; rw [f2 m (by omega) (by omega), f2 (m + 8) (by omega) (by omega)]; exact hR
  obtain ⟨g, hg1, hg2⟩ := makeN_ok hM hN hR2 h97 h8 hu
  generalize hI3 : uA I2 (m + 11) (fun q => if 8 * n ≤ q ∧ q < 8 * n + 8 then nI (g (q - 8 * n)) else I2 (m + 11) q) = I3 at hg2
  have q9 : ∀ j, I3 (m + 9) j = if j = n then x else I (m + 9) j := fun j => by
    rw [← hI3, uA_ne (by omega), ← hI2, uA_ne (by omega), ← hI1, u2_row (by omega)]
    by_cases h : j = n
    · subst h; rw [if_pos rfl, u2_eq]
    · rw [if_neg h, u2_ne (Or.inr h)]
  have q10 : ∀ j, I3 (m + 10) j = if j = n then nI (eb W u) else I (m + 10) j := fun j => by
    rw [← hI3, uA_ne (by omega), ← hI2, uA_eq]
    unfold va_up
    by_cases h : j = n
    · rw [if_pos h, if_pos h]
    · rw [if_neg h, if_neg h, ← hI1, u2_ne (Or.inr h), u2_row (by omega)]
  have q11 : ∀ q, I3 (m + 11) q = if 8 * n ≤ q ∧ q < 8 * n + 8 then nI (g (q - 8 * n)) else I (m + 11) q := fun q => by
    rw [← hI3, uA_eq, f2 (m + 11) (by omega) (by omega)]
  refine ⟨I3, ?_, fun y a b c => by rw [← hI3, uA_ne c, f2 y a b], fun k71 => ?_⟩
  · intro j v hv hj
    rw [q10]
    by_cases h : j = n
    · subst h
      have huv : v = u := Option.some.inj (hv.symm.trans hu)
      subst huv
      refine ⟨?_, by rw [if_pos rfl], fun c hc => ⟨g c, hg1 c hc, ?_⟩⟩
      · by_cases h0 : j = 0
        · rw [if_pos h0] at hx1 ⊢
          rw [q9, if_pos h0.symm]; exact hx1
        · rw [if_neg h0] at hx1 ⊢
          obtain ⟨k, a, b⟩ := hx1
          exact ⟨k, a, by rw [q9, if_pos rfl]; exact b⟩
      · rw [q11, if_pos (by omega), show 8 * j + c - 8 * j = c by omega]
    · obtain ⟨a, b, c⟩ := hA j v hv (by omega)
      refine ⟨?_, by rw [if_neg h]; exact b, fun d hd => ?_⟩
      · by_cases h0 : j = 0
        · rw [if_pos h0] at a ⊢
          rw [q9, if_neg (by omega)]; exact a
        · rw [if_neg h0] at a ⊢
          rw [q9, if_neg h]; exact a
      · obtain ⟨k, c1, c2⟩ := c d hd
        exact ⟨k, c1, by rw [q11, if_neg (by omega)]; exact c2⟩
  · rw [hx2]
    unfold m_X8_make_J116
    rw [mb_tI hM.sFails (show n < 100 by omega) (by omega), mb_gR hM.o hM.rEnds, mb_tI hM.sEnds (show n < 100 by omega) (by omega)]
    simp only [hI1]
    rw [hE, hg2]
theorem allPfx_take (W : List (List Nat)) {i : Nat} {u : List Nat} (hu : W[i]? = some u) : allPfx (W.take (i + 1)) = allPfx (W.take i) ++ pfx u u.length := by
  obtain ⟨h1, h2⟩ := List.getElem?_eq_some_iff.mp hu
  unfold allPfx
  rw [List.take_succ_eq_append_getElem h1, List.flatMap_append, h2]
  simp
theorem allPfx_len {W : List (List Nat)} (h : okL W) (i : Nat) : (allPfx (W.take i)).length ≤ 6 * (W.take i).length := by
  have : ∀ V : List (List Nat), (∀ u ∈ V, u.length ≤ 6) → (allPfx V).length ≤ 6 * V.length := by
    intro V
    induction V with
    | nil => intro _; simp [allPfx]
    | cons v V ih =>
      intro hv
      have h1 := ih (fun u hu => hv u (List.mem_cons_of_mem _ hu))
      have h2 := hv v List.mem_cons_self
      have h3 : (pfx v v.length).length = v.length := by unfold pfx; simp
      show (pfx v v.length ++ allPfx V).length ≤ 6 * (V.length + 1)
      rw [List.length_append]
      omega
  exact this _ (fun u hu => (h.1 u (List.mem_of_mem_take hu)).2.1)
theorem make_ok {z : Zd} {m : Nat} (hM : MO z m) {I : Nat → Nat → Int32} {hs : HS} (hB : HB hs) (hR : RR (I (m + 2)) hs) {ns : List (List Nat)} (hlen : (gatW [] (aws hs.1)).length ≤ 16) (hW : okL (gatW [] (aws hs.1))) (hN : NS (gatW [] (aws hs.1)) ns) (h97 : ns.length ≤ 97) :
    ∃ I', m_X8_make m (I, z) = some ((), (I', z)) ∧ RW I' m (gatW [] (aws hs.1)) ∧ RN I' m (ns.map rcI) ∧ RA I' m (gatW [] (aws hs.1)) ns ns.length ∧ (∀ x, x ≠ m → x ≠ m + 7 → x ≠ m + 8 → x ≠ m + 9 → x ≠ m + 10 → x ≠ m + 11 → I' x = I x) ∧ ∀ k, k ≠ 15 → k ≠ 17 → I' m k = I m k := by
  obtain ⟨I1, e1, R1, F1, G1⟩ := layWords_ok hM hM.sNow ⟨by omega, by omega⟩ hB hR hlen
  generalize gatW [] (aws hs.1) = W at *
  have h8 : ∀ v ∈ ns, (∀ d ∈ v, d < 8) ∧ v.length ≤ 6 := by
    intro v hv
    rcases (hN.2 v).mp hv with rfl | ⟨u, hu, hp⟩
    · exact ⟨by simp, by simp⟩
    · have := hW.1 u hu
      exact ⟨fun d hd => this.2.2 d (hp.subset hd), Nat.le_trans hp.length_le this.2.1⟩
  obtain ⟨I2, e2, N2, F2, G2⟩ := addNodeR_ok hM (I := u2 I1 m 17 0) (L := []) ⟨by rw [u2_eq]; rfl, by simp⟩ (by unfold Srt; simp) (by simp) 0
  have hw0 : wins [] (0 : Int32) = [0] := rfl
  rw [hw0] at N2
  have hfr2 : ∀ x, x ≠ m → x ≠ m + 7 → x ≠ m + 8 → I2 x = I x := fun x a b c => by rw [F2 x a c, u2_row a, F1 x a b]
  have hgr2 : ∀ k, k ≠ 15 → k ≠ 17 → I2 m k = I m k := fun k a b => by rw [G2 k b, u2_ne (Or.inr b), G1 k a]
  have R2 : RW I2 m W := by
    unfold RW
    rw [G2 15 (by omega), u2_ne (Or.inr (by omega)), F2 (m + 7) (by omega) (by omega), u2_row (by omega)]
    exact R1
  -- the nodes
  obtain ⟨s3, w3, k3, ⟨rfl, I3, rfl, N3, F3, G3⟩, e3⟩ := lp_FUi (F := fun k s => m_X8_make_B20 m k s) (fun i s x => s = nI i ∧ ∃ J, x = (J, z) ∧ RN J m (winsAll [0] (allPfx (W.take i))) ∧ (∀ y, y ≠ m → y ≠ m + 8 → J y = I2 y) ∧ ∀ k, k ≠ 17 → J m k = I2 m k) W.length (by omega) (by
    intro i hi s x hP
    obtain ⟨rfl, J, rfl, a, b, c⟩ := hP
    have hu := List.getElem?_eq_getElem hi
    generalize W[i] = u at hu
    have RJ : RW J m W := by
      unfold RW
      rw [c 15 (by omega), b (m + 7) (by omega) (by omega)]
      exact R2
    have hl1 := winsAll_le [0] (allPfx (W.take i))
    have hl2 := allPfx_len hW i
    have hl3 : (W.take i).length ≤ i := List.length_take_le _ _
    simp only [List.length_cons, List.length_nil] at hl1
    obtain ⟨J', n', f', g', e'⟩ := makeW_ok hM RJ hlen hu (hW.1 u (List.mem_of_getElem? hu)) a (winsAll_srt (by unfold Srt; simp) _) (by omega)
    refine ⟨nI (i + 1), (J', z), ⟨rfl, J', rfl, by rw [allPfx_take W hu, winsAll_app]; exact n', fun y p q => (f' y p q).trans (b y p q), fun k hk => (g' k hk).trans (c k hk)⟩, fun k => ?_⟩
    show m_X8_make_B20 m k (nI i) (J, z) = _
    unfold m_X8_make_B20
    rw [mb_gI hM.o]
    simp only [RJ.1]
    rw [if_neg (nI_ge hi (by omega)), e']) (s := 0) (w := (I2, z)) ⟨rfl, I2, rfl, N2, fun _ _ _ => rfl, fun _ _ => rfl⟩
  rw [List.take_length, nodes_same hW hN] at N3
  have R3 : RW I3 m W := by
    unfold RW
    rw [G3 15 (by omega), F3 (m + 7) (by omega) (by omega)]
    exact R2
  -- the links
  obtain ⟨s4, w4, k4, ⟨rfl, I4, rfl, A4, F4⟩, e4⟩ := lp_FUi (F := fun k s => m_X8_make_B71 m k s) (fun i s x => s = nI i ∧ ∃ J, x = (J, z) ∧ RA J m W ns i ∧ ∀ y, y ≠ m + 9 → y ≠ m + 10 → y ≠ m + 11 → J y = I3 y) ns.length (by omega) (by
    intro i hi s x hP
    obtain ⟨rfl, J, rfl, a, b⟩ := hP
    have hu := List.getElem?_eq_getElem hi
    generalize ns[i] = u at hu
    have RJ : RW J m W := by unfold RW; rw [b m (by omega) (by omega) (by omega), b (m + 7) (by omega) (by omega) (by omega)]; exact R3
    have NJ : RN J m (ns.map rcI) := by unfold RN; rw [b m (by omega) (by omega) (by omega), b (m + 8) (by omega) (by omega) (by omega)]; exact N3
    obtain ⟨J', a', f', e'⟩ := makeS_ok hM hW hlen hN RJ NJ h97 h8 hu a
    exact ⟨nI (i + 1), (J', z), ⟨rfl, J', rfl, a', fun y p q r => (f' y p q r).trans (b y p q r)⟩, fun k => e' k⟩) (s := 0) (w := (I3, z)) ⟨rfl, I3, rfl, fun j u _ h => absurd h (by omega), fun _ _ _ _ => rfl⟩
  refine ⟨I4, ?_, ?_, ?_, A4, ?_, ?_⟩
  · unfold m_X8_make
    rw [mb_gR hM.o hM.rNow, mb_vc hM.o, mb_call e1, mb_sI hM.o, mb_vc hM.o]
    rw [mb_call e2, e3]
    show m_X8_make_B20 m k3 (nI W.length) (I3, z) = _
    unfold m_X8_make_B20
    rw [mb_gI hM.o]
    simp only [R3.1]
    rw [if_pos (nI_le (Nat.le_refl _) (by omega)), e4]
    show m_X8_make_B71 m k4 (nI ns.length) (I4, z) = _
    unfold m_X8_make_B71
    rw [mb_gI hM.o]
    simp only [F4 m (by omega) (by omega) (by omega), N3.1, List.length_map]
    rw [if_pos (nI_le (Nat.le_refl _) (by omega))]
    rfl
  · unfold RW; rw [F4 m (by omega) (by omega) (by omega), F4 (m + 7) (by omega) (by omega) (by omega)]; exact R3
  · unfold RN; rw [F4 m (by omega) (by omega) (by omega), F4 (m + 8) (by omega) (by omega) (by omega)]; exact N3
  · intro x a b c d e f
    rw [F4 x d e f, F3 x a c, hfr2 x a b c]
  · intro k a b
    rw [F4 m (by omega) (by omega) (by omega), G3 k b, hgr2 k a b]
