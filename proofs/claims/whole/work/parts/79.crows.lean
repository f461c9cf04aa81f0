/-! ===== the class's rowsOf() ===== -/
def WY (z : Zd) (p a b : Nat) : Prop := z.2.1 p 5 = some a ∧ z.2.1 p 6 = some b ∧ ((a = p + 14 ∧ b = p + 15) ∨ (a = p + 15 ∧ b = p + 14))
theorem SO.wy {z : Zd} {p : Nat} (h : SO z p) : ∃ a b, WY z p a b := by
  rcases h.2.2.2.2.2 with ⟨h1, h2⟩ | ⟨h1, h2⟩
  · exact ⟨_, _, h1, h2, Or.inl ⟨rfl, rfl⟩⟩
  · exact ⟨_, _, h1, h2, Or.inr ⟨rfl, rfl⟩⟩
theorem WY.sa {z : Zd} {p a b : Nat} (h : SO z p) (hw : WY z p a b) : z.2.2[a]? = some (101, 3968) ∧ z.2.2[b]? = some (101, 3968) ∧ a ≠ b := by
  obtain ⟨-, -, -, -, ⟨-, -, -, h14, h15⟩, -⟩ := h
  rcases hw.2.2 with ⟨rfl, rfl⟩ | ⟨rfl, rfl⟩
  · exact ⟨h14, h15, by omega⟩
  · exact ⟨h15, h14, by omega⟩
theorem SO.toJ {z : Zd} {p : Nat} (h : SO z p) (J : Nat → Nat → Int64) : SO (J, z.2) p := h
theorem lg_le0 {a : Nat} (ha : a < 2 ^ 62) : (lg_cmp (lN a) 0 = 0) ↔ a = 0 := by
  rw [lg0, show (0 : Int64) = lN 0 from rfl, lx_eq (by omega) (by omega)]
section CR
variable {z : Zd} {p N : Nat} {I I0 : Nat → Nat → Int32} {σ : List Nat → Option Nat} {dn : Nat → Bool}
theorem lenState_ok (hz : SO z p) (hC : CSys p I0 σ dn N) (hI : SameS p I0 I) {a b : Nat} (hw : WY z p a b) {n : Nat} (hn : n ≤ 12) {s0 : Nat} (hs0 : s0 < N) (ha : z.1 a s0 = lN (cS n (isS σ s0))) (hv : ∀ s', s' < N → z.1 b s' = lN (VV σ n s0 0 s')) :
    ∃ J, (∀ s', s' < N → J b s' = lN (VV σ n (s0 + 1) 0 s')) ∧ (∀ x, x ≠ b → J x = z.1 x) ∧ ∀ k25 : Int32 → Mo Unit, lp (fun k s => m_X4_lengthenRows_B35 p (nI s0) k25 k s) FU 0 (I, z) = k25 (nI (s0 + 1)) (I, (J, z.2)) := by
  obtain ⟨hN, hN0, hS, hb, hstep, hmat⟩ := id hC
  obtain ⟨z0, -⟩ := id hz
  obtain ⟨sa, sb, hab⟩ := WY.sa hz hw
  obtain ⟨w5, w6, -⟩ := id hw
  have hlt := cS_lt hn (isS σ s0)
  by_cases hc0 : cS n (isS σ s0) = 0
  · refine ⟨z.1, fun s' hs' => ?_, fun _ _ => rfl, fun k25 => ?_⟩
    · rw [hv s' hs', ← VV_next, VV_none hc0 8 s']
    · rw [show FU = (FU - 1) + 1 by unfold FU; omega, lp_s]
      generalize lp (fun k s => m_X4_lengthenRows_B35 p (nI s0) k25 k s) (FU - 1) = kk
      unfold m_X4_lengthenRows_B35
      rw [mb_gR z0 w5, mb_aJ sa (show s0 < 3968 by omega) (by omega)]
      simp only [ha]
      rw [if_pos ((lg_le0 (by omega)).mpr hc0)]
      unfold m_X4_lengthenRows_J85
      rw [nI_1]
  · obtain ⟨t0, t8, -, ht0⟩ := cS_ex hc0
    have hst : σ t0 = some s0 := by unfold isS at ht0; simpa using ht0
    obtain ⟨w', ⟨J, rfl, hJ, hF⟩, e⟩ := lp_famU (F := fun (k25 : Int32 → Mo Unit) k s => m_X4_lengthenRows_B35 p (nI s0) k25 k s) (fun c => nI c) (fun c x => ∃ J, x = (I, (J, z.2)) ∧ (∀ s', s' < N → J b s' = lN (VV σ n s0 c s')) ∧ ∀ x, x ≠ b → J x = z.1 x) 8 (by omega) (by
      intro c hc x hP
      obtain ⟨J, rfl, hJ, hF⟩ := hP
      have hJa : J a s0 = lN (cS n (isS σ s0)) := by rw [hF a hab]; exact ha
      have hcall := hstep (J, z.2) I (hz.toJ J) hI t0 s0 c t8 hst hc
      cases hs' : σ (c :: t0) with
      | none =>
        refine ⟨(I, (J, z.2)), ⟨J, rfl, fun s' hs => ?_, hF⟩, fun k25 k => ?_⟩
        · rw [hJ s' hs, VV_step n s0 c s' hc, VV_some hS t8 hst hc, if_neg (by rw [hs']; simp), Nat.add_zero]
        · unfold m_X4_lengthenRows_B35
          rw [mb_gR (w := (I, (J, z.2))) z0 w5, mb_aJ (w := (I, (J, z.2))) sa (show s0 < 3968 by omega) (by omega)]
          simp only [hJa]
          rw [if_neg (fun h => hc0 ((lg_le0 (by omega)).mp h)), if_neg (show ¬ (8 : Int32) ≤ nI c from nI_ge (b := 8) hc (by omega)), mb_vc (w := (I, (J, z.2))) z0, mb_call hcall, hs', show encO none = -1 from rfl, if_pos rfl]
          unfold m_X4_lengthenRows_J79
          rw [nI_1]
      | some s1 =>
        have hs1 := hb (c :: t0) s1 (ok8_cons.mpr ⟨hc, t8⟩) hs'
        refine ⟨(I, (u2 J b s1 (lN (VV σ n s0 c s1 + cS n (isS σ s0))), z.2)), ⟨_, rfl, fun s' hs => ?_, fun x hx => by rw [u2_row hx]; exact hF x hx⟩, fun k25 k => ?_⟩
        · rw [VV_step n s0 c s' hc, VV_some hS t8 hst hc, hs']
          by_cases h : s' = s1
          · subst h; rw [u2_eq, if_pos rfl]
          · rw [u2_ne (Or.inr h), if_neg (fun e => h (Option.some.inj e).symm), Nat.add_zero]; exact hJ s' hs
        · unfold m_X4_lengthenRows_B35
          rw [mb_gR (w := (I, (J, z.2))) z0 w5, mb_aJ (w := (I, (J, z.2))) sa (show s0 < 3968 by omega) (by omega)]
          simp only [hJa]
          rw [if_neg (fun h => hc0 ((lg_le0 (by omega)).mp h)), if_neg (show ¬ (8 : Int32) ≤ nI c from nI_ge (b := 8) hc (by omega)), mb_vc (w := (I, (J, z.2))) z0, mb_call hcall, hs', show encO (some s1) = nI s1 from rfl, if_neg (nI_nm1 (by omega)), mb_gR (w := (I, (J, z.2))) z0 w6, mb_aJ (w := (I, (J, z.2))) sb (show s1 < 3968 by omega) (by omega), mb_gR (w := (I, (J, z.2))) z0 w5, mb_aJ (w := (I, (J, z.2))) sa (show s0 < 3968 by omega) (by omega)]
          simp only [hJa, hJ s1 hs1]
          rw [mb_tJ (w := (I, (J, z.2))) sb (show s1 < 3968 by omega) (by omega), lN_add]
          unfold m_X4_lengthenRows_J79
          rw [nI_1]) (w0 := (I, z)) ⟨z.1, rfl, hv, fun _ _ => rfl⟩
    refine ⟨J, fun s' hs' => by rw [hJ s' hs', VV_next], hF, fun k25 => ?_⟩
    obtain ⟨k, ek⟩ := e k25
    show lp _ FU (nI 0) (I, z) = _
    rw [ek]
    have hJa : J a s0 = lN (cS n (isS σ s0)) := by rw [hF a hab]; exact ha
    unfold m_X4_lengthenRows_B35
    rw [mb_gR (w := (I, (J, z.2))) z0 w5, mb_aJ (w := (I, (J, z.2))) sa (show s0 < 3968 by omega) (by omega)]
    simp only [hJa]
    rw [if_neg (fun h => hc0 ((lg_le0 (by omega)).mp h)), if_pos (show (8 : Int32) ≤ nI 8 from nI_le (a := 8) (Nat.le_refl 8) (by omega))]
    unfold m_X4_lengthenRows_J85
    rw [nI_1]
def FrJ (p : Nat) (z z' : Zd) : Prop := (∀ x, x ≠ p + 14 → x ≠ p + 15 → z'.1 x = z.1 x) ∧ (∀ x k, (x ≠ p ∨ (k ≠ 5 ∧ k ≠ 6)) → z'.2.1 x k = z.2.1 x k) ∧ z'.2.2 = z.2.2
theorem FrJ.refl (p : Nat) (z : Zd) : FrJ p z z := ⟨fun _ _ _ => rfl, fun _ _ _ => rfl, rfl⟩
theorem FrJ.trans {p : Nat} {z z' z2 : Zd} (h : FrJ p z z') (h2 : FrJ p z' z2) : FrJ p z z2 := ⟨fun x a b => (h2.1 x a b).trans (h.1 x a b), fun x k a => (h2.2.1 x k a).trans (h.2.1 x k a), h2.2.2.trans h.2.2⟩
theorem lengthen_ok (hz : SO z p) (hC : CSys p I0 σ dn N) (hI : SameS p I0 I) {a b : Nat} (hw : WY z p a b) {n : Nat} (hn : n ≤ 12) (ha : ∀ s, s < N → z.1 a s = lN (cS n (isS σ s))) :
    ∃ z', m_X4_lengthenRows p (I, z) = some ((), (I, z')) ∧ SO z' p ∧ WY z' p b a ∧ (∀ s, s < N → z'.1 b s = lN (cS (n + 1) (isS σ s))) ∧ FrJ p z z' := by
  obtain ⟨hN, hN0, hS, hb, hstep, hmat⟩ := id hC
  obtain ⟨z0, ⟨r0, r1, r2, r3, r4⟩, hwo, hao, hsh, -⟩ := id hz
  obtain ⟨sa, sb, hab⟩ := WY.sa hz hw
  obtain ⟨w5, w6, hab2⟩ := id hw
  have h11 : I p 11 = nI N := (hI.1 11 (by omega) (by omega)).trans hN0
  obtain ⟨s1, x1, k1, ⟨rfl, J1, rfl, hz1, hF1⟩, e1⟩ := lp_FUi (F := fun k s => m_X4_lengthenRows_B2 p k s) (fun i s x => s = nI i ∧ ∃ J, x = (I, (J, z.2)) ∧ (∀ j, j < i → J b j = 0) ∧ ∀ x, x ≠ b → J x = z.1 x) N (by omega) (by
    intro i hi s x hP
    obtain ⟨rfl, J, rfl, h1, h2⟩ := hP
    refine ⟨nI (i + 1), (I, (u2 J b i 0, z.2)), ⟨rfl, _, rfl, fun j hj => ?_, fun x hx => by rw [u2_row hx]; exact h2 x hx⟩, fun k => ?_⟩
    · by_cases hji : j = i
      · subst hji; rw [u2_eq]
      · rw [u2_ne (Or.inr hji)]; exact h1 j (by omega)
    · unfold m_X4_lengthenRows_B2
      rw [mb_gI (w := (I, (J, z.2))) z0]
      simp only [h11]
      rw [if_neg (nI_ge hi (by omega)), mb_gR (w := (I, (J, z.2))) z0 w6, mb_tJ (w := (I, (J, z.2))) sb (show i < 3968 by omega) (by omega), nI_1]) (s := 0) (w := (I, z)) ⟨rfl, z.1, rfl, fun j h => absurd h (by omega), fun _ _ => rfl⟩
  obtain ⟨s2, x2, k2, ⟨rfl, J2, rfl, hz2, hF2⟩, e2⟩ := lp_FUi (F := fun k s => m_X4_lengthenRows_B25 p k s) (fun i s x => s = nI i ∧ ∃ J, x = (I, (J, z.2)) ∧ (∀ s', s' < N → J b s' = lN (VV σ n i 0 s')) ∧ ∀ x, x ≠ b → J x = z.1 x) N (by omega) (by
    intro i hi s x hP
    obtain ⟨rfl, J, rfl, h1, h2⟩ := hP
    obtain ⟨J', g1, g2, g3⟩ := lenState_ok (z := (J, z.2)) (hz.toJ J) hC hI hw hn hi (by show J a i = _; rw [h2 a hab]; exact ha i hi) h1
    refine ⟨nI (i + 1), (I, (J', z.2)), ⟨rfl, J', rfl, g1, fun x hx => (g2 x hx).trans (h2 x hx)⟩, fun k => ?_⟩
    unfold m_X4_lengthenRows_B25
    rw [mb_gI (w := (I, (J, z.2))) z0]
    simp only [h11]
    rw [if_neg (nI_ge hi (by omega))]
    exact g3 k) (s := 0) (w := (I, (J1, z.2))) ⟨rfl, J1, rfl, fun s' hs' => by rw [VV_zero, hz1 s' hs']; rfl, hF1⟩
  have hpb : ∀ k, (u2 (u2 z.2.1 p 5 (some b)) p 6 (some a)) p k = if k = 6 then some a else if k = 5 then some b else z.2.1 p k := by
    intro k
    by_cases h6 : k = 6
    · rw [h6, u2_eq, if_pos rfl]
    · rw [u2_ne (Or.inr h6), if_neg h6]
      by_cases h5 : k = 5
      · rw [h5, u2_eq, if_pos rfl]
      · rw [u2_ne (Or.inr h5), if_neg h5]
  have hpx : ∀ x k, x ≠ p → (u2 (u2 z.2.1 p 5 (some b)) p 6 (some a)) x k = z.2.1 x k := fun x k hx => by rw [u2_ne (Or.inl hx), u2_ne (Or.inl hx)]
  refine ⟨(J2, (u2 (u2 z.2.1 p 5 (some b)) p 6 (some a)), z.2.2), ?_, ?_, ?_, ?_, ?_⟩
  · unfold m_X4_lengthenRows
    rw [e1]
    unfold m_X4_lengthenRows_B2
    rw [mb_gI (w := (I, (J1, z.2))) z0]
    simp only [h11]
    rw [if_pos (nI_le (Nat.le_refl _) (by omega)), e2]
    unfold m_X4_lengthenRows_B25
    rw [mb_gI (w := (I, (J2, z.2))) z0]
    simp only [h11]
    rw [if_pos (nI_le (Nat.le_refl _) (by omega)), mb_gR (w := (I, (J2, z.2))) z0 w5, mb_gR (w := (I, (J2, z.2))) z0 w6, mb_sR (w := (I, (J2, z.2))) z0, mb_sR z0]
    rfl
  · obtain ⟨a0, ⟨q1, q2, q3, q4, q5, q6, q7⟩, asz, anw⟩ := hao
    obtain ⟨o1, o2, o3, o4, o5⟩ := hwo
    refine ⟨z0, ⟨?_, ?_, ?_, ?_, ?_⟩, ⟨o1, ?_, o3, o4, o5⟩, ⟨a0, ⟨?_, ?_, ?_, ?_, ?_, ?_, ?_⟩, asz, anw⟩, hsh, ?_⟩
    · show (u2 (u2 z.2.1 p 5 (some b)) p 6 (some a)) p 0 = _; rw [hpb]; exact r0
    · show (u2 (u2 z.2.1 p 5 (some b)) p 6 (some a)) p 1 = _; rw [hpb]; exact r1
    · show (u2 (u2 z.2.1 p 5 (some b)) p 6 (some a)) p 2 = _; rw [hpb]; exact r2
    · show (u2 (u2 z.2.1 p 5 (some b)) p 6 (some a)) p 3 = _; rw [hpb]; exact r3
    · show (u2 (u2 z.2.1 p 5 (some b)) p 6 (some a)) p 4 = _; rw [hpb]; exact r4
    · show (u2 (u2 z.2.1 p 5 (some b)) p 6 (some a)) (p + 1) 0 = _; rw [hpx _ _ (by omega)]; exact o2
    · show (u2 (u2 z.2.1 p 5 (some b)) p 6 (some a)) (p + 3) 1 = _; rw [hpx _ _ (by omega)]; exact q1
    · show (u2 (u2 z.2.1 p 5 (some b)) p 6 (some a)) (p + 3) 2 = _; rw [hpx _ _ (by omega)]; exact q2
    · show (u2 (u2 z.2.1 p 5 (some b)) p 6 (some a)) (p + 3) 3 = _; rw [hpx _ _ (by omega)]; exact q3
    · show (u2 (u2 z.2.1 p 5 (some b)) p 6 (some a)) (p + 3) 4 = _; rw [hpx _ _ (by omega)]; exact q4
    · show (u2 (u2 z.2.1 p 5 (some b)) p 6 (some a)) (p + 3) 5 = _; rw [hpx _ _ (by omega)]; exact q5
    · show (u2 (u2 z.2.1 p 5 (some b)) p 6 (some a)) (p + 3) 6 = _; rw [hpx _ _ (by omega)]; exact q6
    · show (u2 (u2 z.2.1 p 5 (some b)) p 6 (some a)) (p + 3) 7 = _; rw [hpx _ _ (by omega)]; exact q7
    · show ((u2 (u2 z.2.1 p 5 (some b)) p 6 (some a)) p 5 = _ ∧ (u2 (u2 z.2.1 p 5 (some b)) p 6 (some a)) p 6 = _) ∨ ((u2 (u2 z.2.1 p 5 (some b)) p 6 (some a)) p 5 = _ ∧ (u2 (u2 z.2.1 p 5 (some b)) p 6 (some a)) p 6 = _)
      rw [hpb, hpb]
      rcases hab2 with ⟨rfl, rfl⟩ | ⟨rfl, rfl⟩
      · exact Or.inr ⟨rfl, rfl⟩
      · exact Or.inl ⟨rfl, rfl⟩
  · refine ⟨?_, ?_, ?_⟩
    · show (u2 (u2 z.2.1 p 5 (some b)) p 6 (some a)) p 5 = _; rw [hpb]; rfl
    · show (u2 (u2 z.2.1 p 5 (some b)) p 6 (some a)) p 6 = _; rw [hpb]; rfl
    · omega
  · intro s hs
    show J2 b s = _
    rw [hz2 s hs, VV_end hS hb]
  · refine ⟨fun x h14 h15 => ?_, fun x k h => ?_, rfl⟩
    · exact hF2 x (by omega)
    · show (u2 (u2 z.2.1 p 5 (some b)) p 6 (some a)) x k = _
      by_cases hx : x = p
      · subst hx
        rw [hpb, if_neg (by omega), if_neg (by omega)]
      · exact hpx x k hx
theorem rowsOf_ok (hz : SO z p) (hC : CSys p I0 σ dn N) (hI : SameS p I0 I) (h0 : σ [] = some 0) {n : Nat} (hn : n ≤ 12) :
    ∃ z', m_X4_rowsOf p (nI n) (I, z) = some (lN (cS n (acc σ dn)), (I, z')) ∧ SO z' p ∧ FrJ p z z' := by
  obtain ⟨hN, hN0, hS, hb, hstep, hmat⟩ := id hC
  obtain ⟨z0, -⟩ := id hz
  obtain ⟨a, b, hw⟩ := hz.wy
  obtain ⟨sa, sb, hab⟩ := WY.sa hz hw
  obtain ⟨w5, w6, hab2⟩ := id hw
  have h11 : I p 11 = nI N := (hI.1 11 (by omega) (by omega)).trans hN0
  have hN1 := hb [] 0 ok8_nil h0
  obtain ⟨s1, x1, k1, ⟨rfl, J1, rfl, hz1, hF1⟩, e1⟩ := lp_FUi (F := fun k s => m_X4_rowsOf_B2 p (nI n) k s) (fun i s x => s = nI i ∧ ∃ J, x = (I, (J, z.2)) ∧ (∀ j, j < i → J a j = 0) ∧ ∀ x, x ≠ a → J x = z.1 x) N (by omega) (by
    intro i hi s x hP
    obtain ⟨rfl, J, rfl, h1, h2⟩ := hP
    refine ⟨nI (i + 1), (I, (u2 J a i 0, z.2)), ⟨rfl, _, rfl, fun j hj => ?_, fun x hx => by rw [u2_row hx]; exact h2 x hx⟩, fun k => ?_⟩
    · by_cases hji : j = i
      · subst hji; rw [u2_eq]
      · rw [u2_ne (Or.inr hji)]; exact h1 j (by omega)
    · unfold m_X4_rowsOf_B2
      rw [mb_gI (w := (I, (J, z.2))) z0]
      simp only [h11]
      rw [if_neg (nI_ge hi (by omega)), mb_gR (w := (I, (J, z.2))) z0 w5, mb_tJ (w := (I, (J, z.2))) sa (show i < 3968 by omega) (by omega), nI_1]) (s := 0) (w := (I, z)) ⟨rfl, z.1, rfl, fun j h => absurd h (by omega), fun _ _ => rfl⟩
  obtain ⟨s2, x2, k2, ⟨rfl, z2, a2, b2, rfl, q1, q2, q3, q4⟩, e2⟩ := lp_FUi (F := fun k s => m_X4_rowsOf_B32 p (nI n) k s) (fun i s x => s = nI i ∧ ∃ z' a b, x = (I, z') ∧ SO z' p ∧ WY z' p a b ∧ (∀ s, s < N → z'.1 a s = lN (cS i (isS σ s))) ∧ FrJ p z z') n (by omega) (by
    intro i hi s x hP
    obtain ⟨rfl, z1, a1, b1, rfl, q1, q2, q3, q4⟩ := hP
    obtain ⟨z2, e, p1, p2, p3, p4⟩ := lengthen_ok q1 hC hI q2 (show i ≤ 12 by omega) q3
    refine ⟨nI (i + 1), (I, z2), ⟨rfl, z2, b1, a1, rfl, p1, p2, p3, q4.trans p4⟩, fun k => ?_⟩
    unfold m_X4_rowsOf_B32
    rw [if_neg (nI_ge hi (by omega)), mb_vc q1.1, mb_call e, nI_1]) (s := 0) (w := (I, (u2 J1 a 0 1, z.2))) ⟨rfl, _, a, b, rfl, hz.toJ _, hw, fun s hs => by
      show u2 J1 a 0 1 a s = lN (if isS σ s [] then 1 else 0)
      unfold isS
      rw [h0]
      by_cases h : s = 0
      · subst h; rw [u2_eq]; rfl
      · rw [u2_ne (Or.inr h), hz1 s hs]
        rw [if_neg (by simp; omega)]; rfl, ⟨fun x h14 h15 => by
      show u2 J1 a 0 1 x = _
      rw [u2_row (by omega), hF1 x (by omega)], fun _ _ _ => rfl, rfl⟩⟩
  refine ⟨z2, ?_, q1, q4⟩
  obtain ⟨sa2, sb2, hab3⟩ := WY.sa q1 q2
  unfold m_X4_rowsOf
  rw [e1]
  unfold m_X4_rowsOf_B2
  rw [mb_gI (w := (I, (J1, z.2))) z0]
  simp only [h11]
  rw [if_pos (nI_le (Nat.le_refl _) (by omega)), mb_gR (w := (I, (J1, z.2))) z0 w5, show tJ a 0 1 = tJ a (nI 0) 1 from rfl, mb_tJ (w := (I, (J1, z.2))) sa (show 0 < 3968 by omega) (by omega), e2]
  unfold m_X4_rowsOf_B32
  rw [if_pos (nI_le (Nat.le_refl _) (by omega))]
  have key := lp_FU (F := fun k (s : Int64 × Int32) => m_X4_rowsOf_B52 p k s.1 s.2) (fun i => (lN (RRs σ dn n i), nI i)) (fun _ => (I, z2)) (X := some (lN (cS n (acc σ dn)), (I, z2))) N (by omega) (fun i hi k => ?_) (fun k => ?_)
  · rw [RRs_zero] at key
    exact key
  · show m_X4_rowsOf_B52 p k (lN (RRs σ dn n i)) (nI i) (I, z2) = _
    unfold m_X4_rowsOf_B52
    rw [mb_gI q1.1]
    simp only [h11]
    rw [if_neg (nI_ge hi (by omega)), mb_vc q1.1, mb_call (hmat z2 I q1 hI i hi), RRs_step]
    cases dn i
    · rw [if_pos (show bI false = 0 from rfl), if_neg (show ¬ false = true by decide)]
      unfold m_X4_rowsOf_J80
      rw [nI_1]
      rfl
    · rw [if_neg (show ¬ bI true = 0 by decide), if_pos (show true = true from rfl), mb_gR q1.1 q2.1, mb_aJ sa2 (show i < 3968 by omega) (by omega)]
      simp only [q3 i hi]
      rw [mb_mp, lN_add]
      unfold m_X4_rowsOf_J80
      rw [nI_1]
  · show m_X4_rowsOf_B52 p k (lN (RRs σ dn n N)) (nI N) (I, z2) = _
    unfold m_X4_rowsOf_B52
    rw [mb_gI q1.1]
    simp only [h11]
    rw [if_pos (nI_le (Nat.le_refl _) (by omega)), RRs_end dn hb]
    rfl
end CR
