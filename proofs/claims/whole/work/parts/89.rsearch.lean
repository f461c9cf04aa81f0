/-! ===== shortest(), more(), many(): the reference's ===== -/
theorem MI_own {w w' : Wd} {hs : HS} {hi : List HS} {im : Nat → Option HS} {tx : List Nat} {ns : List (List Nat)} (h : MI w hs hi im tx ns) (hz : w'.2.2 = w.2.2) (hk : ∀ k, (k = 2 ∨ k = 11 ∨ k = 15 ∨ k = 17) → w'.1 33 k = w.1 33 k) (hx : ∀ x, 34 ≤ x → x ≤ 44 → x ≠ 36 → w'.1 x = w.1 x) : MI w' hs hi im tx ns := by
  obtain ⟨h1, h2, h3, h4, h5, h6, h7⟩ := h
  refine ⟨MO_pre h1 (l := []) (fun x _ _ => by rw [hz]) (by rw [List.append_nil, hz]), by rw [hx 35 (by omega) (by omega) (by omega)]; exact h2, h3.kept (hk 15 (by omega)) (hk 17 (by omega)) (fun j p q => hx _ (by omega) (by omega) (by omega)), by rw [hk 2 (by omega), hx 34 (by omega) (by omega) (by omega)]; exact h4, by rw [hk 11 (by omega)]; exact h5, by rw [hx 37 (by omega) (by omega) (by omega)]; exact h6, by rw [hx 38 (by omega) (by omega) (by omega), hx 39 (by omega) (by omega) (by omega)]; exact h7⟩
section RSE
variable {z : Zd} {m q N : Nat} {I I0 : Nat → Nat → Int32} {σ : List Nat → Option Nat} {dn : Nat → Bool}
theorem RSys_shift (h : RSys m q I0 σ dn N) {rl : List Nat} (h8 : ok8 rl) : RSys m q I0 (fun t => σ (t ++ rl)) dn N := by
  obtain ⟨a, c, d, e, f⟩ := h
  exact ⟨a, Sys_shift c h8, fun t s ht hs => d (t ++ rl) s (ok8_app ht h8) hs, fun z I hz hI t s cc ht hs hc => e z I hz hI (t ++ rl) s cc (ok8_app ht h8) hs hc, f⟩
theorem rrow_ok (hM : MO z m) (hb : ∀ t s, ok8 t → σ t = some s → s < N) (hN : N ≤ 15520) {k : Nat} : ∀ (u : List Nat) (s : Nat), ok8 u → u.length ≤ 60 → σ u = some s → ChR (z.1 (m + 14)) σ u → k < u.length → ∀ f, u.length < f → lp (fun kk (s1 : Int32 × Int32) => m_X8_shortest_B80 m (nI k) kk s1.1 s1.2) f (nI s, nI (u.length - 1)) (I, z) = some (nI (97 + u.getD (u.length - 1 - k) 0), (I, z))
  | [], _, _, _, _, _, hk, _, _ => by simp at hk
  | d :: t, s, h8, h60, hs, hc, hk, f, hf => by
    obtain ⟨⟨s1, s', a, b, c⟩, hc'⟩ := hc
    have : s1 = s := Option.some.inj (a.symm.trans hs)
    subst this
    obtain ⟨d8, t8⟩ := ok8_cons.mp h8
    have hsN := hb _ _ h8 hs
    have hs'N := hb _ _ t8 b
    have h60' : t.length + 1 ≤ 60 := h60
    have hk' : k < t.length + 1 := hk
    obtain ⟨g, rfl⟩ : ∃ g, f = g + 1 := ⟨f - 1, by simp at hf; omega⟩
    rw [lp_s]
    have ih := fun hk2 : k < t.length => rrow_ok hM hb hN t s' t8 (by omega) b hc' hk2 g (by simp at hf; omega)
    generalize lp (fun kk (s1 : Int32 × Int32) => m_X8_shortest_B80 m (nI k) kk s1.1 s1.2) g = kk at ih
    show m_X8_shortest_B80 m (nI k) kk (nI s1) (nI (t.length + 1 - 1)) (I, z) = some (nI (97 + (d :: t).getD (t.length + 1 - 1 - k) 0), (I, z))
    rw [Nat.add_sub_cancel]
    have hdiv : lN (10 * s' + d) / 10 = lN s' := by
      apply Int64.toInt_inj.mp
      have e10 : (10 : Int64).toInt = 10 := by decide
      rw [Int64.toInt_div, pf_lI' (by omega), pf_lI' (by omega), e10]
      have : ((10 * s' + d : Nat) : Int).tdiv 10 = (s' : Int) := by
        rw [Int.tdiv_eq_ediv_of_nonneg (by omega)]; omega
      rw [this]
      rw [Int.bmod_eq_of_le (by omega) (by omega)]
    unfold m_X8_shortest_B80
    by_cases hend : t.length ≤ k
    · rw [if_pos (nI_le hend (by omega)), show t.length - k = 0 by omega, mb_gR hM.o hM.rCame, mb_aJ hM.sCame (show s1 < 15520 by omega) (by omega)]
      simp only [c]
      rw [hdiv, show (10 : Int64) = lN 10 from rfl, lN_mul, lN_sub (by omega), lN_i, show 10 * s' + d - s' * 10 = d by omega]
      show some (nI 97 + nI d, (I, z)) = _
      rw [nI_add]
      rfl
    · rw [if_neg (nI_ge (by omega) (by omega)), mb_gR hM.o hM.rCame, mb_aJ hM.sCame (show s1 < 15520 by omega) (by omega)]
      simp only [c]
      rw [hdiv, mb_mp, lN_i, show nI t.length + -1 = nI (t.length - 1) by
        rw [show nI t.length = nI ((t.length - 1) + 1) by congr 1; omega]; exact nI_m1 _, ih (by omega)]
      rw [show t.length - k = (t.length - 1 - k) + 1 by omega]
      rfl
theorem lg_gt0 {a : Nat} (ha : a < 2 ^ 62) : (lg_cmp (lN a) 0 ≤ 0) ↔ a = 0 := by
  have h := lg_pos (lN a) 0
  rw [pf_lI' (by omega), show (0 : Int64).toInt = 0 by decide] at h
  constructor
  · intro h1
    refine Classical.byContradiction fun hne => ?_
    exact i32_lt_nle (h.mpr (by omega)) h1
  · intro h1
    apply i32_nlt
    intro h2
    have := h.mp h2
    omega
theorem lenStateR_ok (hM : MO z m) (hC : RSys m q I0 σ dn N) (hI : SameR m I0 I) {n n' i : Nat} (hn : n ≤ 12) {s0 : Nat} (hs0 : s0 < N) (ha : z.1 (m + 13) s0 = lN (cS n (isS σ s0))) (hv : ∀ s', s' < N → z.1 (m + 14) s' = lN (VV σ n s0 0 s')) :
    ∃ J, (∀ s', s' < N → J (m + 14) s' = lN (VV σ n (s0 + 1) 0 s')) ∧ (∀ x, x ≠ m + 14 → J x = z.1 x) ∧ ∀ k68 k101 : Int32 → Mo Int64, lp (fun k s => m_X8_many_B117 m (nI q) (nI n') (nI i) (nI s0) k68 k101 k s) FU 0 (I, z) = k101 (nI (s0 + 1)) (I, (J, z.2)) := by
  obtain ⟨hN, hS, hb, hstep, hdone⟩ := id hC
  have hlt := cS_lt hn (isS σ s0)
  by_cases hc0 : cS n (isS σ s0) = 0
  · refine ⟨z.1, fun s' hs' => ?_, fun _ _ => rfl, fun k68 k101 => ?_⟩
    · rw [hv s' hs', ← VV_next, VV_none hc0 8 s']
    · rw [show FU = (FU - 1) + 1 by unfold FU; omega, lp_s]
      generalize lp (fun k s => m_X8_many_B117 m (nI q) (nI n') (nI i) (nI s0) k68 k101 k s) (FU - 1) = kk
      unfold m_X8_many_B117
      rw [if_neg (show ¬ (8 : Int32) ≤ 0 by decide), mb_gR hM.o hM.rQueue, mb_aJ hM.sQueue (show s0 < 15520 by omega) (by omega)]
      simp only [ha]
      rw [if_pos ((lg_gt0 (by omega)).mpr hc0)]
      unfold m_X8_many_J177
      rw [nI_1]
  · obtain ⟨t0, t8, -, ht0⟩ := cS_ex hc0
    have hst : σ t0 = some s0 := by unfold isS at ht0; simpa using ht0
    obtain ⟨w', ⟨J, rfl, hJ, hF⟩, e⟩ := lp_famU (F := fun (kk : (Int32 → Mo Int64) × (Int32 → Mo Int64)) k s => m_X8_many_B117 m (nI q) (nI n') (nI i) (nI s0) kk.1 kk.2 k s) (fun c => nI c) (fun c x => ∃ J, x = (I, (J, z.2)) ∧ (∀ s', s' < N → J (m + 14) s' = lN (VV σ n s0 c s')) ∧ ∀ x, x ≠ m + 14 → J x = z.1 x) 8 (by omega) (by
      intro c hc x hP
      obtain ⟨J, rfl, hJ, hF⟩ := hP
      have hJa : J (m + 13) s0 = lN (cS n (isS σ s0)) := by rw [hF _ (by omega)]; exact ha
      have hcall := hstep (J, z.2) I hM hI t0 s0 c t8 hst hc
      cases hs' : σ (c :: t0) with
      | none =>
        refine ⟨(I, (J, z.2)), ⟨J, rfl, fun s' hs => ?_, hF⟩, fun kk k => ?_⟩
        · rw [hJ s' hs, VV_step n s0 c s' hc, VV_some hS t8 hst hc, if_neg (by rw [hs']; simp), Nat.add_zero]
        · unfold m_X8_many_B117
          rw [if_neg (show ¬ (8 : Int32) ≤ nI c from nI_ge (b := 8) hc (by omega)), mb_gR (w := (I, (J, z.2))) hM.o hM.rQueue, mb_aJ (w := (I, (J, z.2))) hM.sQueue (show s0 < 15520 by omega) (by omega)]
          simp only [hJa]
          rw [if_neg (fun h => hc0 ((lg_gt0 (by omega)).mp h)), mb_vc (w := (I, (J, z.2))) hM.o, mb_call hcall, hs', show encR none = -9 from rfl, if_pos rfl]
          unfold m_X8_many_J171
          rw [nI_1]
      | some s1 =>
        have hs1 := hb (c :: t0) s1 (ok8_cons.mpr ⟨hc, t8⟩) hs'
        refine ⟨(I, (u2 J (m + 14) s1 (lN (VV σ n s0 c s1 + cS n (isS σ s0))), z.2)), ⟨_, rfl, fun s' hs => ?_, fun x hx => by rw [u2_row hx]; exact hF x hx⟩, fun kk k => ?_⟩
        · rw [VV_step n s0 c s' hc, VV_some hS t8 hst hc, hs']
          by_cases h : s' = s1
          · subst h; rw [u2_eq, if_pos rfl]
          · rw [u2_ne (Or.inr h), if_neg (fun e => h (Option.some.inj e).symm), Nat.add_zero]; exact hJ s' hs
        · unfold m_X8_many_B117
          rw [if_neg (show ¬ (8 : Int32) ≤ nI c from nI_ge (b := 8) hc (by omega)), mb_gR (w := (I, (J, z.2))) hM.o hM.rQueue, mb_aJ (w := (I, (J, z.2))) hM.sQueue (show s0 < 15520 by omega) (by omega)]
          simp only [hJa]
          rw [if_neg (fun h => hc0 ((lg_gt0 (by omega)).mp h)), mb_vc (w := (I, (J, z.2))) hM.o, mb_call hcall, hs', show encR (some s1) = nI s1 from rfl, if_neg (nI_nm9 (by omega)), mb_gR (w := (I, (J, z.2))) hM.o hM.rCame, mb_aJ (w := (I, (J, z.2))) hM.sCame (show s1 < 15520 by omega) (by omega), mb_gR (w := (I, (J, z.2))) hM.o hM.rQueue, mb_aJ (w := (I, (J, z.2))) hM.sQueue (show s0 < 15520 by omega) (by omega)]
          simp only [hJa, hJ s1 hs1]
          rw [mb_tJ (w := (I, (J, z.2))) hM.sCame (show s1 < 15520 by omega) (by omega), lN_add]
          unfold m_X8_many_J171
          rw [nI_1]) (w0 := (I, z)) ⟨z.1, rfl, hv, fun _ _ => rfl⟩
    refine ⟨J, fun s' hs' => by rw [hJ s' hs', VV_next], hF, fun k68 k101 => ?_⟩
    obtain ⟨k, ek⟩ := e (k68, k101)
    show lp _ FU (nI 0) (I, z) = _
    refine ek.trans ?_
    unfold m_X8_many_B117
    rw [if_pos (show (8 : Int32) ≤ nI 8 from nI_le (a := 8) (Nat.le_refl 8) (by omega))]
    unfold m_X8_many_J177
    rw [nI_1]
theorem roundR_ok (hM : MO z m) (hC : RSys m q I0 σ dn N) (hI : SameR m I0 I) {nn n' : Nat} (hnn : I0 m 17 = nI nn) (h160 : N = 160 * nn) (h97 : nn ≤ 97) {n : Nat} (hn : n ≤ 12) (ha : ∀ s, s < N → z.1 (m + 13) s = lN (cS n (isS σ s))) :
    ∃ J, (∀ s, s < N → J (m + 13) s = lN (cS (n + 1) (isS σ s))) ∧ FrJR m z.1 J ∧ ∀ k68 : Int32 → Mo Int64, lp (fun k s => m_X8_many_B76 m (nI q) (nI n') (nI n) k68 k s) FU 0 (I, z) = k68 (nI (n + 1)) (I, (J, z.2)) := by
  obtain ⟨hN, hS, hb, hstep, hdone⟩ := id hC
  have h17 : I m 17 = nI nn := (hI.1 17 (by omega)).trans hnn
  obtain ⟨x1, ⟨J1, rfl, hz1, hF1⟩, e1⟩ := lp_famU (F := fun (k68 : Int32 → Mo Int64) k s => m_X8_many_B76 m (nI q) (nI n') (nI n) k68 k s) (fun i => nI i) (fun i x => ∃ J, x = (I, (J, z.2)) ∧ (∀ j, j < i → J (m + 14) j = 0) ∧ ∀ x, x ≠ m + 14 → J x = z.1 x) 15520 (by omega) (by
    intro i hi x hP
    obtain ⟨J, rfl, h1, h2⟩ := hP
    refine ⟨(I, (u2 J (m + 14) i 0, z.2)), ⟨_, rfl, fun j hj => ?_, fun x hx => by rw [u2_row hx]; exact h2 x hx⟩, fun k68 k => ?_⟩
    · by_cases hji : j = i
      · subst hji; rw [u2_eq]
      · rw [u2_ne (Or.inr hji)]; exact h1 j (by omega)
    · unfold m_X8_many_B76
      rw [if_neg (show ¬ (15520 : Int32) ≤ nI i from nI_ge (b := 15520) hi (by omega)), mb_gR (w := (I, (J, z.2))) hM.o hM.rCame, mb_tJ (w := (I, (J, z.2))) hM.sCame hi (by omega), nI_1]) (w0 := (I, z)) ⟨z.1, rfl, fun j h => absurd h (by omega), fun _ _ => rfl⟩
  obtain ⟨x2, ⟨J2, rfl, hz2, hF2⟩, e2⟩ := lp_famU (F := fun (k68 : Int32 → Mo Int64) k s => m_X8_many_B101 m (nI q) (nI n') (nI n) k68 k s) (fun i => nI i) (fun i x => ∃ J, x = (I, (J, z.2)) ∧ (∀ s', s' < N → J (m + 14) s' = lN (VV σ n i 0 s')) ∧ ∀ x, x ≠ m + 14 → J x = z.1 x) N (by omega) (by
    intro i hi x hP
    obtain ⟨J, rfl, h1, h2⟩ := hP
    obtain ⟨J', g1, g2, g3⟩ := lenStateR_ok (z := (J, z.2)) (n' := n') (i := n) hM hC hI hn hi (by show J (m + 13) i = _; rw [h2 _ (by omega)]; exact ha i hi) h1
    refine ⟨(I, (J', z.2)), ⟨J', rfl, g1, fun x hx => (g2 x hx).trans (h2 x hx)⟩, fun k68 k => ?_⟩
    unfold m_X8_many_B101
    rw [mb_gI (w := (I, (J, z.2))) hM.o]
    simp only [h17]
    rw [show (160 : Int32) * nI nn = nI (160 * nn) by rw [show (160 : Int32) = nI 160 from rfl, pk_mul], if_neg (nI_ge (by omega) (by omega))]
    exact g3 k68 k) (w0 := (I, (J1, z.2))) ⟨J1, rfl, fun s' hs' => by rw [VV_zero, hz1 s' (by omega)]; rfl, hF1⟩
  obtain ⟨x3, ⟨J3, rfl, hz3, hF3⟩, e3⟩ := lp_famU (F := fun (k68 : Int32 → Mo Int64) k s => m_X8_many_B186 m (nI q) (nI n') (nI n) k68 k s) (fun i => nI i) (fun i x => ∃ J, x = (I, (J, z.2)) ∧ (∀ j, j < i → J (m + 13) j = J2 (m + 14) j) ∧ ∀ x, x ≠ m + 13 → J x = J2 x) 15520 (by omega) (by
    intro i hi x hP
    obtain ⟨J, rfl, h1, h2⟩ := hP
    refine ⟨(I, (u2 J (m + 13) i (J2 (m + 14) i), z.2)), ⟨_, rfl, fun j hj => ?_, fun x hx => by rw [u2_row hx]; exact h2 x hx⟩, fun k68 k => ?_⟩
    · by_cases hji : j = i
      · subst hji; rw [u2_eq]
      · rw [u2_ne (Or.inr hji)]; exact h1 j (by omega)
    · unfold m_X8_many_B186
      rw [if_neg (show ¬ (15520 : Int32) ≤ nI i from nI_ge (b := 15520) hi (by omega)), mb_gR (w := (I, (J, z.2))) hM.o hM.rQueue, mb_gR (w := (I, (J, z.2))) hM.o hM.rCame, mb_aJ (w := (I, (J, z.2))) hM.sCame hi (by omega), mb_tJ (w := (I, (J, z.2))) hM.sQueue hi (by omega), nI_1]
      dsimp only
      rw [h2 (m + 14) (by omega)]) (w0 := (I, (J2, z.2))) ⟨J2, rfl, fun j h => absurd h (by omega), fun _ _ => rfl⟩
  refine ⟨J3, fun s hs => ?_, fun x a b => ?_, fun k68 => ?_⟩
  · rw [hz3 s (by omega), hz2 s hs, VV_end hS hb]
  · rw [hF3 x a, hF2 x b]
  · obtain ⟨k1, g1⟩ := e1 k68
    obtain ⟨k2, g2⟩ := e2 k68
    obtain ⟨k3, g3⟩ := e3 k68
    show lp _ FU (nI 0) (I, z) = _
    refine g1.trans ?_
    unfold m_X8_many_B76
    rw [if_pos (show (15520 : Int32) ≤ nI 15520 from nI_le (a := 15520) (Nat.le_refl _) (by omega))]
    refine g2.trans ?_
    unfold m_X8_many_B101
    rw [mb_gI (w := (I, (J2, z.2))) hM.o]
    simp only [h17]
    rw [show (160 : Int32) * nI nn = nI (160 * nn) by rw [show (160 : Int32) = nI 160 from rfl, pk_mul], if_pos (nI_le (by omega) (by omega))]
    refine g3.trans ?_
    unfold m_X8_many_B186
    rw [if_pos (show (15520 : Int32) ≤ nI 15520 from nI_le (a := 15520) (Nat.le_refl _) (by omega)), nI_1]
theorem manyR_ok (hM : MO z m) (hC : RSys m q I0 σ dn N) (hI : SameR m I0 I) {nn : Nat} (hnn : I0 m 17 = nI nn) (h160 : N = 160 * nn) (h97 : nn ≤ 97) (h9 : σ [] = some 9) {n : Nat} (hn : n ≤ 12) :
    ∃ J, FrJR m z.1 J ∧ lp (fun k s => m_X8_many_B36 m (nI q) (nI n) k s) FU 0 (I, z) = some (lN (cS n (acc σ dn)), (I, (J, z.2))) := by
  obtain ⟨hN, hS, hb, hstep, hdone⟩ := id hC
  have h17 : I m 17 = nI nn := (hI.1 17 (by omega)).trans hnn
  have hN9 := hb [] 9 ok8_nil h9
  obtain ⟨s1, x1, k1, ⟨rfl, J1, rfl, hz1, hF1⟩, e1⟩ := lp_FUi (F := fun k s => m_X8_many_B36 m (nI q) (nI n) k s) (fun i s x => s = nI i ∧ ∃ J, x = (I, (J, z.2)) ∧ (∀ j, j < i → J (m + 13) j = 0) ∧ ∀ x, x ≠ m + 13 → J x = z.1 x) 15520 (by omega) (by
    intro i hi s x hP
    obtain ⟨rfl, J, rfl, h1, h2⟩ := hP
    refine ⟨nI (i + 1), (I, (u2 J (m + 13) i 0, z.2)), ⟨rfl, _, rfl, fun j hj => ?_, fun x hx => by rw [u2_row hx]; exact h2 x hx⟩, fun k => ?_⟩
    · by_cases hji : j = i
      · subst hji; rw [u2_eq]
      · rw [u2_ne (Or.inr hji)]; exact h1 j (by omega)
    · unfold m_X8_many_B36
      rw [if_neg (show ¬ (15520 : Int32) ≤ nI i from nI_ge (b := 15520) hi (by omega)), mb_gR (w := (I, (J, z.2))) hM.o hM.rQueue, mb_tJ (w := (I, (J, z.2))) hM.sQueue hi (by omega), nI_1]) (s := 0) (w := (I, z)) ⟨rfl, z.1, rfl, fun j h => absurd h (by omega), fun _ _ => rfl⟩
  obtain ⟨s2, x2, k2, ⟨rfl, J2, rfl, q3, q4⟩, e2⟩ := lp_FUi (F := fun k s => m_X8_many_B68 m (nI q) (nI n) k s) (fun i s x => s = nI i ∧ ∃ J, x = (I, (J, z.2)) ∧ (∀ s, s < N → J (m + 13) s = lN (cS i (isS σ s))) ∧ FrJR m z.1 J) n (by omega) (by
    intro i hi s x hP
    obtain ⟨rfl, J, rfl, q3, q4⟩ := hP
    obtain ⟨J', p1, p2, p3⟩ := roundR_ok (z := (J, z.2)) (n' := n) hM hC hI hnn h160 h97 (show i ≤ 12 by omega) q3
    refine ⟨nI (i + 1), (I, (J', z.2)), ⟨rfl, J', rfl, p1, fun x a b => (p2 x a b).trans (q4 x a b)⟩, fun k => ?_⟩
    unfold m_X8_many_B68
    rw [if_neg (nI_ge hi (by omega))]
    exact p3 k) (s := 0) (w := (I, (u2 J1 (m + 13) 9 1, z.2))) ⟨rfl, _, rfl, fun s hs => by
      show u2 J1 (m + 13) 9 1 (m + 13) s = lN (if isS σ s [] then 1 else 0)
      unfold isS
      rw [h9]
      by_cases h : s = 9
      · subst h; rw [u2_eq]; rfl
      · rw [u2_ne (Or.inr h), hz1 s (by omega)]
        rw [if_neg (by simp; omega)]; rfl, fun x a b => by
      show u2 J1 (m + 13) 9 1 x = _
      rw [u2_row a, hF1 x a]⟩
  refine ⟨J2, q4, ?_⟩
  rw [e1]
  unfold m_X8_many_B36
  rw [if_pos (show (15520 : Int32) ≤ nI 15520 from nI_le (a := 15520) (Nat.le_refl _) (by omega)), mb_gR (w := (I, (J1, z.2))) hM.o hM.rQueue, mb_vc (w := (I, (J1, z.2))) hM.o, mb_call (show m_X8_begins m (I, (J1, z.2)) = some (nI 9, (I, (J1, z.2))) from rfl), mb_tJ (w := (I, (J1, z.2))) hM.sQueue (show 9 < 15520 by omega) (by omega)]
  dsimp only
  rw [e2]
  unfold m_X8_many_B68
  rw [if_pos (nI_le (Nat.le_refl _) (by omega))]
  have key := lp_FU (F := fun k (s : Int64 × Int32) => m_X8_many_B225 m k s.1 s.2) (fun i => (lN (RRs σ dn n i), nI i)) (fun _ => (I, (J2, z.2))) (X := some (lN (cS n (acc σ dn)), (I, (J2, z.2)))) N (by omega) (fun i hi k => ?_) (fun k => ?_)
  · rw [RRs_zero] at key
    exact key
  · show m_X8_many_B225 m k (lN (RRs σ dn n i)) (nI i) (I, (J2, z.2)) = _
    unfold m_X8_many_B225
    rw [mb_gI (w := (I, (J2, z.2))) hM.o]
    simp only [h17]
    rw [show (160 : Int32) * nI nn = nI (160 * nn) by rw [show (160 : Int32) = nI 160 from rfl, pk_mul], if_neg (nI_ge (by omega) (by omega)), mb_vc (w := (I, (J2, z.2))) hM.o, mb_call (hdone (J2, z.2) I hM hI i hi), RRs_step]
    cases dn i
    · rw [if_pos (show bI false = 0 from rfl), if_neg (show ¬ false = true by decide)]
      unfold m_X8_many_J259
      rw [mb_mp, nI_1, show (0 : Int64) = lN 0 from rfl, lN_add]
    · rw [if_neg (show ¬ bI true = 0 by decide), if_pos (show true = true from rfl), mb_gR (w := (I, (J2, z.2))) hM.o hM.rQueue, mb_aJ (w := (I, (J2, z.2))) hM.sQueue (show i < 15520 by omega) (by omega)]
      simp only [q3 i hi]
      unfold m_X8_many_J259
      rw [mb_mp, lN_add, nI_1]
  · show m_X8_many_B225 m k (lN (RRs σ dn n N)) (nI N) (I, (J2, z.2)) = _
    unfold m_X8_many_B225
    rw [mb_gI (w := (I, (J2, z.2))) hM.o]
    simp only [h17]
    rw [show (160 : Int32) * nI nn = nI (160 * nn) by rw [show (160 : Int32) = nI 160 from rfl, pk_mul], if_pos (nI_le (by omega) (by omega)), RRs_end dn hb]
    rfl
end RSE
