/-! ===== feeds(), cuts(), drops(): the reference's; type(), clear(), count(): both ===== -/
section R3
variable {w : Wd} {hs : HS} {hi : List HS} {im : Nat → Option HS} {tx : List Nat} {ns : List (List Nat)}
theorem rfeed_ok (h : MI w hs hi im tx ns) (hO : OKS hs hi im tx) {c : Nat} (hc : c < 8) (hl : hs.2.length < 40) : ∃ w' k, m_X8_feeds 33 (nI (97 + c)) w = some (nI k, w') ∧ ns[k]? = some (lsuf ns (hs.2 ++ [c])) ∧ MI w' (hs.1, hs.2 ++ [c]) (hpush hi hs) im tx ns ∧ frM w w' := by
  obtain ⟨I1, e1, a1, a2, a3, a4⟩ := MI_acts h hO
  obtain ⟨h1, h2, h3, h4, h5, h6, h7⟩ := id h
  have hok' : okHS (hs.1, hs.2 ++ [c]) := okHS_let hO.1 (by simp; omega) (fun d hd => by
    rcases List.mem_append.mp hd with hd | hd
    · exact hO.1.1.2.2.2 d hd
    · rw [List.mem_singleton.mp hd]; exact hc)
  generalize hI2 : u2 (u2 I1 35 (2 + hs.2.length) (nI c)) 35 1 (nI (hs.2.length + 1)) = I2
  have f2 : ∀ x, x ≠ 35 → I2 x = I1 x := fun x a => by rw [← hI2, u2_row a, u2_row a]
  have r35 : ∀ k, k ≠ 1 → k ≠ 2 + hs.2.length → I2 35 k = w.1 35 k := fun k a b => by rw [← hI2, u2_ne (Or.inr a), u2_ne (Or.inr b), a4 35 (by omega) (by omega)]
  have hR2 : RR (I2 35) (hs.1, hs.2 ++ [c]) := by
    obtain ⟨b1, b2, b3, b4⟩ := h2
    refine ⟨by rw [r35 0 (by omega) (by omega)]; exact b1, by rw [← hI2, u2_eq]; simp, fun i d hd => ?_, fun q Q hq => ?_⟩
    · rcases app_get hd with hd | ⟨rfl, rfl⟩
      · have := (List.getElem?_eq_some_iff.mp hd).1
        rw [r35 _ (by omega) (by omega)]; exact b3 i d hd
      · rw [← hI2, u2_ne (Or.inr (by omega)), u2_eq]
    · obtain ⟨t1, t2⟩ := b4 q Q hq
      refine ⟨by rw [r35 _ (by omega) (by omega)]; exact t1, fun k P hP => ?_⟩
      rw [r35 _ (by omega) (by omega), r35 _ (by omega) (by omega), r35 _ (by omega) (by omega), r35 _ (by omega) (by omega)]
      exact t2 k P hP
  have fk : ∀ k, k ≠ 0 → k ≠ 11 → I2 33 k = w.1 33 k := fun k a b => by rw [f2 33 (by omega), a3 k b a]
  have fx : ∀ y, y ≠ 33 → y ≠ 35 → y ≠ 37 → I2 y = w.1 y := fun y a b c => by rw [f2 y b, a4 y a c]
  have hX : RX I2 33 (Wo hs) ns := h3.kept (fk 15 (by omega) (by omega)) (fk 17 (by omega) (by omega)) (fun j a b => fx _ (by omega) (by omega) (by omega))
  obtain ⟨k, k1, k2⟩ := nodeAt_ok (I := I2) (z := w.2) (hs := (hs.1, hs.2 ++ [c])) h1 hok'.1 hR2 hX (Nat.le_refl _)
  rw [List.take_length] at k1
  refine ⟨(I2, w.2), k, ?_, k1, ⟨h1, hR2, hX, ?_, ?_, ?_, ?_⟩, rfl, fun y hy => ⟨fx y (by omega) (by omega) (by omega), rfl⟩⟩
  · unfold m_X8_feeds
    have hl1 : u2 w.1 33 0 0 (33 + 2) 1 = nI hs.2.length := by rw [u2_row (by omega)]; exact h2.2.1
    have hl2 : I1 (33 + 2) 1 = nI hs.2.length := by rw [a4 _ (by omega) (by omega)]; exact h2.2.1
    have hl3 : u2 I1 (33 + 2) (2 + hs.2.length) (nI c) (33 + 2) 1 = nI hs.2.length := by rw [u2_ne (Or.inr (by omega))]; exact hl2
    have hl4 : I2 (33 + 2) 1 = nI (hs.2.length + 1) := by rw [← hI2, u2_eq]
    rw [mb_sI h1.o, mb_call (in_ok _ _ _ _), Int32.toInt_toInt64, show (97 : Int64).toInt = 97 by decide, show (104 : Int64).toInt = 104 by decide, nI_toInt (by omega), show decide (97 ≤ ((97 + c : Nat) : Int) ∧ ((97 + c : Nat) : Int) ≤ 104) = true by rw [decide_eq_true_iff]; omega, if_neg (show ¬ bI true = 0 by decide), mb_gR (w := (u2 w.1 33 0 0, w.2)) h1.o h1.rNow, mb_aI1 (w := (u2 w.1 33 0 0, w.2)) h1.sNow (by omega) (by omega)]
    simp only [hl1]
    rw [if_neg (show ¬ nI hs.2.length = 40 from fun e => by have := (nI_eq (b := 40) (by omega) (by omega)).mp e; omega), mb_vc (w := (u2 w.1 33 0 0, w.2)) h1.o, mb_call e1, mb_gR (w := (I1, w.2)) h1.o h1.rNow, mb_gR (w := (I1, w.2)) h1.o h1.rNow, mb_aI1 (w := (I1, w.2)) h1.sNow (by omega) (by omega)]
    simp only [hl2]
    rw [show nI (97 + c) - 97 = nI c by rw [show (97 : Int32) = nI 97 from rfl, nI_sub (by omega)]; congr 1; omega, show (2 : Int32) + nI hs.2.length = nI (2 + hs.2.length) from nI_add 2 _, mb_tI (w := (I1, w.2)) h1.sNow (show 2 + hs.2.length < 178 by omega) (by omega)]
    dsimp only
    rw [mb_gR (w := (u2 I1 (33 + 2) (2 + hs.2.length) (nI c), w.2)) h1.o h1.rNow, mb_aI1 (w := (u2 I1 (33 + 2) (2 + hs.2.length) (nI c), w.2)) h1.sNow (by omega) (by omega)]
    simp only [hl3]
    rw [nI_1, show tI (33 + 2) 1 (nI (hs.2.length + 1)) = tI (33 + 2) (nI 1) (nI (hs.2.length + 1)) from rfl, mb_tI (w := (u2 I1 (33 + 2) (2 + hs.2.length) (nI c), w.2)) h1.sNow (show 1 < 178 by omega) (by omega)]
    dsimp only
    rw [show u2 (u2 I1 (33 + 2) (2 + hs.2.length) (nI c)) (33 + 2) 1 (nI (hs.2.length + 1)) = I2 from hI2, mb_gR (w := (I2, w.2)) h1.o h1.rNow, mb_aI1 (w := (I2, w.2)) h1.sNow (by omega) (by omega)]
    simp only [hl4]
    rw [mb_vc (w := (I2, w.2)) h1.o]
    have k2' : m_X8_nodeAt 33 (nI (hs.2.length + 1)) (I2, w.2) = some (nI k, (I2, w.2)) := by
      have hle : (hs.2 ++ [c]).length = hs.2.length + 1 := by simp
      rw [← hle]; exact k2
    rw [mb_call k2']
    rfl
  · show I2 33 2 = _ ∧ ∀ (i c : Nat), tx[i]? = some c → I2 34 i = nI c
    rw [fk 2 (by omega) (by omega), fx 34 (by omega) (by omega) (by omega)]; exact h4
  · show I2 33 11 = _; rw [f2 33 (by omega)]; exact a1
  · show ∀ (j : Nat) (h : HS), (hpush hi hs)[j]? = some h → RR (fun k => I2 37 (178 * j + k)) h
    rw [f2 37 (by omega)]; exact a2
  · show ∀ i, i < 2 → (im i = none ∧ I2 38 i = 0) ∨ ∃ h, im i = some h ∧ I2 38 i = 1 ∧ RR (fun k => I2 39 (178 * i + k)) h
    rw [fx 38 (by omega) (by omega) (by omega), fx 39 (by omega) (by omega) (by omega)]; exact h7
theorem rcut_ok (h : MI w hs hi im tx ns) (hO : OKS hs hi im tx) {ls : List Nat} {c : Nat} (hls : hs.2 = ls ++ [c]) : ∃ w', m_X8_cuts 33 w = some (nI (97 + c), w') ∧ MI w' (hs.1, ls) (hpush hi hs) im tx ns ∧ frM w w' := by
  obtain ⟨I1, e1, a1, a2, a3, a4⟩ := MI_acts h hO
  obtain ⟨h1, h2, h3, h4, h5, h6, h7⟩ := id h
  have hlen : hs.2.length = ls.length + 1 := by rw [hls]; simp
  have h40 := hO.1.1.2.1
  have hget : ∀ (i d : Nat), ls[i]? = some d → hs.2[i]? = some d := fun i d hd => by rw [hls]; exact get_app hd
  generalize hI2 : u2 (u2 I1 35 1 (nI ls.length)) 35 (2 + ls.length) 0 = I2
  have f2 : ∀ x, x ≠ 35 → I2 x = I1 x := fun x a => by rw [← hI2, u2_row a, u2_row a]
  have r35 : ∀ k, k ≠ 1 → k ≠ 2 + ls.length → I2 35 k = w.1 35 k := fun k a b => by rw [← hI2, u2_ne (Or.inr b), u2_ne (Or.inr a), a4 35 (by omega) (by omega)]
  have hR2 : RR (I2 35) (hs.1, ls) := by
    obtain ⟨b1, b2, b3, b4⟩ := h2
    refine ⟨by rw [r35 0 (by omega) (by omega)]; exact b1, by rw [← hI2, u2_ne (Or.inr (by omega)), u2_eq], fun i d hd => ?_, fun q Q hq => ?_⟩
    · have : i < ls.length := (List.getElem?_eq_some_iff.mp hd).1
      rw [r35 _ (by omega) (by omega)]; exact b3 i d (hget i d hd)
    · obtain ⟨t1, t2⟩ := b4 q Q hq
      refine ⟨by rw [r35 _ (by omega) (by omega)]; exact t1, fun k P hP => ?_⟩
      rw [r35 _ (by omega) (by omega), r35 _ (by omega) (by omega), r35 _ (by omega) (by omega), r35 _ (by omega) (by omega)]
      exact t2 k P hP
  have fk : ∀ k, k ≠ 0 → k ≠ 11 → I2 33 k = w.1 33 k := fun k a b => by rw [f2 33 (by omega), a3 k b a]
  have fx : ∀ y, y ≠ 33 → y ≠ 35 → y ≠ 37 → I2 y = w.1 y := fun y a b c => by rw [f2 y b, a4 y a c]
  have hX : RX I2 33 (Wo hs) ns := h3.kept (fk 15 (by omega) (by omega)) (fk 17 (by omega) (by omega)) (fun j a b => fx _ (by omega) (by omega) (by omega))
  refine ⟨(I2, w.2), ?_, ⟨h1, hR2, hX, ?_, ?_, ?_, ?_⟩, rfl, fun y hy => ⟨fx y (by omega) (by omega) (by omega), rfl⟩⟩
  · unfold m_X8_cuts
    have hl1 : u2 w.1 33 0 0 (33 + 2) 1 = nI (ls.length + 1) := by rw [u2_row (by omega), ← hlen]; exact h2.2.1
    have hl2 : I1 (33 + 2) 1 = nI (ls.length + 1) := by rw [a4 _ (by omega) (by omega), ← hlen]; exact h2.2.1
    have hl3 : u2 I1 (33 + 2) 1 (nI ls.length) (33 + 2) 1 = nI ls.length := u2_eq _ _ _ _
    have hrow : u2 I1 (33 + 2) 1 (nI ls.length) (33 + 2) (2 + ls.length) = nI c := by rw [u2_ne (Or.inr (by omega)), a4 _ (by omega) (by omega)]; exact h2.2.2.1 _ c (by rw [hls]; simp)
    rw [mb_sI h1.o, mb_gR (w := (u2 w.1 33 0 0, w.2)) h1.o h1.rNow, mb_aI1 (w := (u2 w.1 33 0 0, w.2)) h1.sNow (by omega) (by omega)]
    simp only [hl1]
    rw [if_neg (nI_ne0 (by omega) (by omega)), mb_vc (w := (u2 w.1 33 0 0, w.2)) h1.o, mb_call e1, mb_gR (w := (I1, w.2)) h1.o h1.rNow, mb_aI1 (w := (I1, w.2)) h1.sNow (by omega) (by omega)]
    simp only [hl2]
    rw [nI_pred, show tI (33 + 2) 1 (nI ls.length) = tI (33 + 2) (nI 1) (nI ls.length) from rfl, mb_tI (w := (I1, w.2)) h1.sNow (show 1 < 178 by omega) (by omega)]
    dsimp only
    generalize hJ : u2 I1 (33 + 2) 1 (nI ls.length) = J at *
    rw [mb_gR (w := (J, w.2)) h1.o h1.rNow, mb_gR (w := (J, w.2)) h1.o h1.rNow, mb_aI1 (w := (J, w.2)) h1.sNow (by omega) (by omega)]
    simp only [hl3]
    rw [show (2 : Int32) + nI ls.length = nI (2 + ls.length) from nI_add 2 _, mb_aI (w := (J, w.2)) h1.sNow (show 2 + ls.length < 178 by omega) (by omega)]
    simp only [hrow]
    rw [mb_gR (w := (J, w.2)) h1.o h1.rNow, mb_gR (w := (J, w.2)) h1.o h1.rNow, mb_aI1 (w := (J, w.2)) h1.sNow (by omega) (by omega)]
    simp only [hl3]
    rw [show (2 : Int32) + nI ls.length = nI (2 + ls.length) from nI_add 2 _, mb_tI (w := (J, w.2)) h1.sNow (show 2 + ls.length < 178 by omega) (by omega)]
    dsimp only
    rw [show u2 J (33 + 2) (2 + ls.length) 0 = I2 from hI2]
    show some (nI 97 + nI c, (I2, w.2)) = _
    rw [nI_add]
  · show I2 33 2 = _ ∧ ∀ (i c : Nat), tx[i]? = some c → I2 34 i = nI c
    rw [fk 2 (by omega) (by omega), fx 34 (by omega) (by omega) (by omega)]; exact h4
  · show I2 33 11 = _; rw [f2 33 (by omega)]; exact a1
  · show ∀ (j : Nat) (h : HS), (hpush hi hs)[j]? = some h → RR (fun k => I2 37 (178 * j + k)) h
    rw [f2 37 (by omega)]; exact a2
  · show ∀ i, i < 2 → (im i = none ∧ I2 38 i = 0) ∨ ∃ h, im i = some h ∧ I2 38 i = 1 ∧ RR (fun k => I2 39 (178 * i + k)) h
    rw [fx 38 (by omega) (by omega) (by omega), fx 39 (by omega) (by omega) (by omega)]; exact h7
theorem rdrop_ok (h : MI w hs hi im tx ns) (hO : OKS hs hi im tx) {q : Nat} {Q : List Pt} (hq : hs.1[q]? = some Q) {ns' : List (List Nat)} (hN : NS (Wo (hs.1.eraseIdx q, hs.2)) ns') (h97 : ns'.length ≤ 97) : ∃ w', m_X8_drops 33 (nI q) w = some (nI (hs.1.length - 1), w') ∧ MI w' (hs.1.eraseIdx q, hs.2) (hpush hi hs) im tx ns' ∧ frM w w' := by
  obtain ⟨I1, e1, a1, a2, a3, a4⟩ := MI_acts h hO
  obtain ⟨h1, h2, h3, h4, h5, h6, h7⟩ := id h
  have hql := (List.getElem?_eq_some_iff.mp hq).1
  have h8 := hO.1.1.1
  have hB := hO.1.1
  have hok' := okHS_drop hO.1 q
  have hlen : (hs.1.eraseIdx q).length = hs.1.length - 1 := by rw [List.length_eraseIdx, if_pos hql]
  have e35 : I1 35 = w.1 35 := a4 35 (by omega) (by omega)
  -- moving
  obtain ⟨s, x, k, ⟨rfl, K, rfl, k1, k2⟩, e⟩ := lp_FUi (F := fun k s => m_X8_drops_B37 33 k s) (fun i s x => s = nI (42 + 17 * q + i) ∧ ∃ K, x = (K, w.2) ∧ (∀ j, K 35 j = if j = 0 then nI (hs.1.length - 1) else if 42 + 17 * q ≤ j ∧ j < 42 + 17 * q + i then w.1 35 (j + 17) else w.1 35 j) ∧ ∀ x, x ≠ 35 → K x = I1 x) (17 * (hs.1.length - 1 - q)) (by omega) (by
    intro i hi' s x hP
    obtain ⟨rfl, K, rfl, k1, k2⟩ := hP
    have hK0 : K (33 + 2) 0 = nI (hs.1.length - 1) := by rw [show (33 + 2) = 35 from rfl, k1, if_pos rfl]
    have hv : K (33 + 2) (42 + 17 * q + i + 17) = w.1 35 (42 + 17 * q + i + 17) := by rw [show (33 + 2) = 35 from rfl, k1, if_neg (by omega), if_neg (by omega)]
    refine ⟨nI (42 + 17 * q + (i + 1)), (u2 K 35 (42 + 17 * q + i) (w.1 35 (42 + 17 * q + i + 17)), w.2), ⟨rfl, _, rfl, fun j => ?_, fun x hx => by rw [u2_row hx]; exact k2 x hx⟩, fun k => ?_⟩
    · by_cases hj : j = 42 + 17 * q + i
      · subst hj; rw [u2_eq, if_neg (by omega), if_pos (by omega)]
      · rw [u2_ne (Or.inr hj), k1 j]
        by_cases hj0 : j = 0
        · rw [if_pos hj0, if_pos hj0]
        · rw [if_neg hj0, if_neg hj0]
          by_cases hh : 42 + 17 * q ≤ j ∧ j < 42 + 17 * q + i
          · rw [if_pos hh, if_pos (by omega)]
          · rw [if_neg hh, if_neg (by omega)]
    · unfold m_X8_drops_B37
      rw [mb_gR (w := (K, w.2)) h1.o h1.rNow, mb_aI0 (w := (K, w.2)) h1.sNow (by omega) (by omega)]
      simp only [hK0]
      rw [show (42 : Int32) + 17 * nI (hs.1.length - 1) = nI (42 + 17 * (hs.1.length - 1)) by rw [show (17 : Int32) = nI 17 from rfl, show (42 : Int32) = nI 42 from rfl, pk_mul, nI_add], if_neg (nI_ge (by omega) (by omega)), mb_gR (w := (K, w.2)) h1.o h1.rNow, mb_gR (w := (K, w.2)) h1.o h1.rNow, show nI (42 + 17 * q + i) + 17 = nI (42 + 17 * q + i + 17) from nI_add _ 17, mb_aI (w := (K, w.2)) h1.sNow (show 42 + 17 * q + i + 17 < 178 by omega) (by omega)]
      simp only [hv]
      rw [mb_tI (w := (K, w.2)) h1.sNow (show 42 + 17 * q + i < 178 by omega) (by omega), nI_1]
      rfl) (s := nI (42 + 17 * q)) (w := (u2 I1 35 0 (nI (hs.1.length - 1)), w.2)) ⟨rfl, _, rfl, fun j => by
        by_cases hj0 : j = 0
        · rw [hj0, u2_eq, if_pos rfl]
        · rw [u2_ne (Or.inr hj0), if_neg hj0, if_neg (by omega), e35], fun x hx => u2_row hx⟩
  -- clearing
  obtain ⟨s2, x2, kk2, ⟨rfl, K2, rfl, l1, l2⟩, e2⟩ := lp_FUi (F := fun k s => m_X8_drops_B76 33 k s) (fun i s x => s = nI i ∧ ∃ K2, x = (K2, w.2) ∧ (∀ j, j < 42 + 17 * (hs.1.length - 1) → K2 35 j = K 35 j) ∧ ∀ x, x ≠ 35 → K2 x = I1 x) 17 (by omega) (by
    intro i hi' s x hP
    obtain ⟨rfl, K2, rfl, l1, l2⟩ := hP
    have hK0 : K2 (33 + 2) 0 = nI (hs.1.length - 1) := by rw [show (33 + 2) = 35 from rfl, l1 0 (by omega), k1, if_pos rfl]
    refine ⟨nI (i + 1), (u2 K2 35 (42 + 17 * (hs.1.length - 1) + i) 0, w.2), ⟨rfl, _, rfl, fun j hj => by rw [u2_ne (Or.inr (by omega))]; exact l1 j hj, fun x hx => by rw [u2_row hx]; exact l2 x hx⟩, fun k => ?_⟩
    unfold m_X8_drops_B76
    rw [if_neg (show ¬ (17 : Int32) ≤ nI i from nI_ge (b := 17) hi' (by omega)), mb_gR (w := (K2, w.2)) h1.o h1.rNow, mb_gR (w := (K2, w.2)) h1.o h1.rNow, mb_aI0 (w := (K2, w.2)) h1.sNow (by omega) (by omega)]
    simp only [hK0]
    rw [show (42 : Int32) + 17 * nI (hs.1.length - 1) + nI i = nI (42 + 17 * (hs.1.length - 1) + i) by rw [show (17 : Int32) = nI 17 from rfl, show (42 : Int32) = nI 42 from rfl, pk_mul, nI_add, nI_add], mb_tI (w := (K2, w.2)) h1.sNow (show 42 + 17 * (hs.1.length - 1) + i < 178 by omega) (by omega), nI_1]) (s := 0) (w := (K, w.2)) ⟨rfl, K, rfl, fun _ _ => rfl, k2⟩
  have hR2 : RR (K2 35) (hs.1.eraseIdx q, hs.2) := by
    obtain ⟨b1, b2, b3, b4⟩ := h2
    refine ⟨by rw [l1 0 (by omega), k1, if_pos rfl, hlen], ?_, fun i c hc => ?_, fun j Q' hQ => ?_⟩
    · rw [l1 1 (by omega), k1, if_neg (by omega), if_neg (by omega)]; exact b2
    · have : i < hs.2.length := (List.getElem?_eq_some_iff.mp hc).1
      have := hB.2.1
      rw [l1 _ (by omega), k1, if_neg (by omega), if_neg (by omega)]; exact b3 i c hc
    · have hjl := (List.getElem?_eq_some_iff.mp hQ).1
      rw [hlen] at hjl
      rw [List.getElem?_eraseIdx] at hQ
      by_cases hjq : j < q
      · rw [if_pos hjq] at hQ
        obtain ⟨a, b⟩ := b4 j Q' hQ
        have hQ4 := (hB.2.2.1 Q' (List.mem_of_getElem? hQ)).1
        refine ⟨by rw [l1 _ (by omega), k1, if_neg (by omega), if_neg (by omega)]; exact a, fun k P hP => ?_⟩
        have hk4 := (List.getElem?_eq_some_iff.mp hP).1
        rw [l1 _ (by omega), l1 _ (by omega), l1 _ (by omega), l1 _ (by omega), k1, k1, k1, k1, if_neg (by omega), if_neg (by omega), if_neg (by omega), if_neg (by omega), if_neg (by omega), if_neg (by omega), if_neg (by omega), if_neg (by omega)]
        exact b k P hP
      · rw [if_neg hjq] at hQ
        obtain ⟨a, b⟩ := b4 (j + 1) Q' hQ
        have hQ4 := (hB.2.2.1 Q' (List.mem_of_getElem? hQ)).1
        refine ⟨by rw [l1 _ (by omega), k1, if_neg (by omega), if_pos (by omega), show 42 + 17 * j + 17 = 42 + 17 * (j + 1) by omega]; exact a, fun k P hP => ?_⟩
        have hk4 := (List.getElem?_eq_some_iff.mp hP).1
        rw [l1 _ (by omega), l1 _ (by omega), l1 _ (by omega), l1 _ (by omega), k1, k1, k1, k1, if_neg (by omega), if_pos (by omega), if_neg (by omega), if_pos (by omega), if_neg (by omega), if_pos (by omega), if_neg (by omega), if_pos (by omega), show 43 + 17 * j + 4 * k + 17 = 43 + 17 * (j + 1) + 4 * k by omega, show 44 + 17 * j + 4 * k + 17 = 44 + 17 * (j + 1) + 4 * k by omega, show 45 + 17 * j + 4 * k + 17 = 45 + 17 * (j + 1) + 4 * k by omega, show 46 + 17 * j + 4 * k + 17 = 46 + 17 * (j + 1) + 4 * k by omega]
        exact b k P hP
  obtain ⟨I2, e3, r1, r2, r3⟩ := rmake_ok (I := K2) h1 hok' hR2 hN h97
  have fx : ∀ y, y ≠ 33 → y ≠ 35 → y ≠ 37 → (y < 40 ∨ 44 < y) → I2 y = w.1 y := fun y a b c d => by rw [r2 y a d, l2 y b, a4 y a c]
  have fk : ∀ k, k ≠ 0 → k ≠ 11 → k ≠ 15 → k ≠ 17 → I2 33 k = w.1 33 k := fun k a b c d => by rw [r3 k c d, l2 33 (by omega), a3 k b a]
  have hR3 : RR (I2 35) (hs.1.eraseIdx q, hs.2) := by rw [r2 35 (by omega) (by omega)]; exact hR2
  refine ⟨(I2, w.2), ?_, ⟨h1, hR3, r1, ?_, ?_, ?_, ?_⟩, rfl, fun y hy => ⟨fx y (by omega) (by omega) (by omega) (by omega), rfl⟩⟩
  · have hqa : qAt hs (nI q) = some (q, Q) := by
      unfold qAt; rw [if_neg (nI_pos (by omega)), nI_clamp (by omega), hq]; rfl
    have hl0 : I1 (33 + 2) 0 = nI hs.1.length := by rw [show (33 + 2) = 35 from rfl, e35]; exact h2.1
    have hK0 : K (33 + 2) 0 = nI (hs.1.length - 1) := by rw [show (33 + 2) = 35 from rfl, k1, if_pos rfl]
    unfold m_X8_drops
    rw [mb_sI h1.o, mb_vc (w := (u2 w.1 33 0 0, w.2)) h1.o, mb_call (isQuery_ok (I := u2 w.1 33 0 0) h1 hB (by rw [u2_row (by omega)]; exact h2) (nI q)), hqa, if_neg (show ¬ bI (some (q, Q)).isSome = 0 from (by decide : ¬ bI true = 0)), mb_vc (w := (u2 w.1 33 0 0, w.2)) h1.o, mb_call e1, mb_gR (w := (I1, w.2)) h1.o h1.rNow, mb_aI0 (w := (I1, w.2)) h1.sNow (by omega) (by omega)]
    simp only [hl0]
    rw [show nI hs.1.length - 1 = nI (hs.1.length - 1) from nI_sub (b := 1) (by omega), show tI (33 + 2) 0 (nI (hs.1.length - 1)) = tI (33 + 2) (nI 0) (nI (hs.1.length - 1)) from rfl, mb_tI (w := (I1, w.2)) h1.sNow (show 0 < 178 by omega) (by omega), mb_mp, show (42 : Int32) + 17 * nI q = nI (42 + 17 * q) by rw [show (17 : Int32) = nI 17 from rfl, show (42 : Int32) = nI 42 from rfl, pk_mul, nI_add]]
    refine Eq.trans e ?_
    unfold m_X8_drops_B37
    rw [mb_gR (w := (K, w.2)) h1.o h1.rNow, mb_aI0 (w := (K, w.2)) h1.sNow (by omega) (by omega)]
    simp only [hK0]
    rw [show (42 : Int32) + 17 * nI (hs.1.length - 1) = nI (42 + 17 * (hs.1.length - 1)) by rw [show (17 : Int32) = nI 17 from rfl, show (42 : Int32) = nI 42 from rfl, pk_mul, nI_add], if_pos (nI_le (by omega) (by omega)), e2]
    unfold m_X8_drops_B76
    rw [if_pos (show (17 : Int32) ≤ nI 17 from nI_le (a := 17) (Nat.le_refl _) (by omega)), mb_vc (w := (K2, w.2)) h1.o, mb_call e3, mb_gR (w := (I2, w.2)) h1.o h1.rNow, mb_aI0 (w := (I2, w.2)) h1.sNow (by omega) (by omega)]
    show some (I2 35 0, (I2, w.2)) = _
    rw [hR3.1, hlen]
  · show I2 33 2 = _ ∧ ∀ (i c : Nat), tx[i]? = some c → I2 34 i = nI c
    rw [fk 2 (by omega) (by omega) (by omega) (by omega), fx 34 (by omega) (by omega) (by omega) (by omega)]; exact h4
  · show I2 33 11 = _; rw [r3 11 (by omega) (by omega), l2 33 (by omega)]; exact a1
  · show ∀ (j : Nat) (h : HS), (hpush hi hs)[j]? = some h → RR (fun k => I2 37 (178 * j + k)) h
    rw [r2 37 (by omega) (by omega), l2 37 (by omega)]; exact a2
  · show ∀ i, i < 2 → (im i = none ∧ I2 38 i = 0) ∨ ∃ h, im i = some h ∧ I2 38 i = 1 ∧ RR (fun k => I2 39 (178 * i + k)) h
    rw [fx 38 (by omega) (by omega) (by omega) (by omega), fx 39 (by omega) (by omega) (by omega) (by omega)]; exact h7
end R3
