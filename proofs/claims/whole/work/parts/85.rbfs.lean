/-! ===== the reference's nearest() ===== -/
def ChR (g : Nat → Int64) (σ : List Nat → Option Nat) : List Nat → Prop
  | [] => True
  | d :: t => (∃ s s', σ (d :: t) = some s ∧ σ t = some s' ∧ g s = lN (10 * s' + d)) ∧ ChR g σ t
theorem ChR_upd {f f' : Nat → Int64} {σ : List Nat → Option Nat} {Qs : List (List Nat)} (hp : ∀ u ∈ Qs, u = [] ∨ ∃ d t, u = d :: t ∧ t ∈ Qs) (he : ∀ t ∈ Qs, ∀ s, σ t = some s → f' s = f s) : ∀ t, t ∈ Qs → ChR f σ t → ChR f' σ t
  | [], _, _ => trivial
  | d :: t, hm, h => by
    obtain ⟨⟨s, s', a, b, c⟩, h⟩ := h
    have ht : t ∈ Qs := by
      rcases hp _ hm with e | ⟨d', t', e, hm'⟩
      · cases e
      · obtain ⟨-, rfl⟩ := List.cons.inj e
        exact hm'
    exact ⟨⟨s, s', a, b, by rw [he _ hm s a]; exact c⟩, ChR_upd hp he t ht h⟩
def RQr (σ : List Nat → Option Nat) (N m : Nat) (J : Nat → Nat → Int64) (Qs : List (List Nat)) : Prop :=
  (∀ (i : Nat) (t : List Nat), Qs[i]? = some t → ∃ s, σ t = some s ∧ J (m + 13) i = lN s) ∧
  (∀ s, s < N → (J (m + 14) s = -9 ∧ ∀ t ∈ Qs, σ t ≠ some s) ∨ ((∃ x, x < 2 ^ 40 ∧ J (m + 14) s = lN x) ∧ ∃ t ∈ Qs, σ t = some s)) ∧
  (∀ t ∈ Qs, ChR (J (m + 14)) σ t)
theorem seen_x {x : Nat} (h : x < 2 ^ 40) : 0 ≤ lg_cmp (lN x) 0 := by
  apply i32_nlt
  intro h2
  have := (lg_neg _ _).mp h2
  rw [pf_lI' (by omega), show (0 : Int64).toInt = 0 by decide] at this
  omega
def FrJR (m : Nat) (J J' : Nat → Nat → Int64) : Prop := ∀ x, x ≠ m + 13 → x ≠ m + 14 → J' x = J x
section RB
variable {z : Zd} {m q N : Nat} {I0 : Nat → Nat → Int32} {σ : List Nat → Option Nat} {dn : Nat → Bool}
def FnR (σ : List Nat → Option Nat) (dn : Nat → Bool) (m : Nat) (J : Nat → Nat → Int64) (u : List Nat) (r : Int32) : Prop := BR (acc σ dn) (some u) ∧ ∃ s, σ u = some s ∧ r = nI s ∧ ChR (J (m + 14)) σ u
theorem RQr_push {J : Nat → Nat → Int64} {Qs : List (List Nat)} {j c s s' : Nat} {t : List Nat} (hB : BI σ dn Qs j c) (h : RQr σ N m J Qs) (ht : t ∈ Qs) (hst : σ t = some s) (hs : σ (c :: t) = some s') (hnew : ∀ u ∈ Qs, σ u ≠ some s') (hsN : s < 15520) (hc8 : c < 8) : RQr σ N m (u2 (u2 J (m + 14) s' (lN (10 * s + c))) (m + 13) Qs.length (lN s')) (Qs ++ [c :: t]) ∧ ChR (u2 (u2 J (m + 14) s' (lN (10 * s + c))) (m + 13) Qs.length (lN s') (m + 14)) σ (c :: t) := by
  obtain ⟨h1, h2, h4⟩ := h
  have r12 : u2 (u2 J (m + 14) s' (lN (10 * s + c))) (m + 13) Qs.length (lN s') (m + 14) = fun k => if k = s' then lN (10 * s + c) else J (m + 14) k := by
    rw [u2_row (by omega)]
    funext k
    by_cases hk : k = s'
    · rw [hk, u2_eq, if_pos rfl]
    · rw [u2_ne (Or.inr hk), if_neg hk]
  have hch : ∀ u ∈ Qs, ChR (u2 (u2 J (m + 14) s' (lN (10 * s + c))) (m + 13) Qs.length (lN s') (m + 14)) σ u := fun u hu => by
    refine ChR_upd hB.2.2.2.2.1 (fun v hv x hx => ?_) u hu (h4 u hu)
    rw [r12]
    dsimp only
    rw [if_neg (show ¬ x = s' from fun e => hnew v hv (by rw [← e]; exact hx))]
  have hcn : ChR (u2 (u2 J (m + 14) s' (lN (10 * s + c))) (m + 13) Qs.length (lN s') (m + 14)) σ (c :: t) := ⟨⟨s', s, hs, hst, by rw [r12]; dsimp only; rw [if_pos rfl]⟩, hch t ht⟩
  refine ⟨⟨?_, ?_, ?_⟩, hcn⟩
  · intro i u hi
    rcases app_get hi with hi | ⟨rfl, rfl⟩
    · obtain ⟨x, e1, e2⟩ := h1 i u hi
      have := (List.getElem?_eq_some_iff.mp hi).1
      exact ⟨x, e1, by rw [u2_ne (Or.inr (by omega)), u2_row (by omega)]; exact e2⟩
    · exact ⟨s', hs, u2_eq _ _ _ _⟩
  · intro x hx
    rw [r12]
    dsimp only
    by_cases hxs : x = s'
    · rw [if_pos hxs]
      exact Or.inr ⟨⟨10 * s + c, by omega, rfl⟩, c :: t, by simp, by rw [hs, hxs]⟩
    · rw [if_neg hxs]
      rcases h2 x hx with ⟨e1, e2⟩ | ⟨e1, u, hu, e2⟩
      · refine Or.inl ⟨e1, fun u hu => ?_⟩
        rcases List.mem_append.mp hu with hu | hu
        · exact e2 u hu
        · rw [List.mem_singleton.mp hu, hs]
          exact fun e => hxs (Option.some.inj e).symm
      · exact Or.inr ⟨e1, u, List.mem_append_left _ hu, e2⟩
  · intro u hu
    rcases List.mem_append.mp hu with hu | hu
    · exact hch u hu
    · rw [List.mem_singleton.mp hu]; exact hcn
theorem spreadR_ok (hM : MO z m) (hC : RSys m q I0 σ dn N) {I : Nat → Nat → Int32} (hI : SameR m I0 I) {t : List Nat} {s j E : Nat} (hst : σ t = some s) (hl : t.length < 60) (k59 k88 : Int32 × Int32 → Mo Int32) : ∀ n c, c + n = 8 → ∀ (Qs : List (List Nat)) (J : Nat → Nat → Int64), BI σ dn Qs j c → RQr σ N m J Qs → Qs[j]? = some t → ∀ f, n < f → ∃ J', FrJR m J J' ∧ ((∃ u r, u.length = t.length + 1 ∧ FnR σ dn m J' u r ∧ lp (fun k (s1 : Int32 × Int32) => m_X8_nearest_B109 m (nI q) (nI (j + 1)) (nI E) (nI s) k59 k88 k s1.1 s1.2) f (nI Qs.length, nI c) (I, (J, z.2)) = some (r, (I, (J', z.2)))) ∨ ∃ ext, BI σ dn (Qs ++ ext) j 8 ∧ RQr σ N m J' (Qs ++ ext) ∧ (∀ u ∈ ext, u.length = t.length + 1) ∧ lp (fun k (s1 : Int32 × Int32) => m_X8_nearest_B109 m (nI q) (nI (j + 1)) (nI E) (nI s) k59 k88 k s1.1 s1.2) f (nI Qs.length, nI c) (I, (J, z.2)) = k88 (nI (j + 1), nI (Qs ++ ext).length) (I, (J', z.2))) := by
  obtain ⟨hN, hS, hb, hstep, hdone⟩ := id hC
  intro n
  induction n with
  | zero =>
    intro c hc Qs J hB hQ ht f hf
    obtain ⟨g, rfl⟩ : ∃ g, f = g + 1 := ⟨f - 1, by omega⟩
    refine ⟨J, fun _ _ _ => rfl, Or.inr ⟨[], ?_, ?_, by simp, ?_⟩⟩
    · rw [List.append_nil, ← show c = 8 by omega]; exact hB
    · rw [List.append_nil]; exact hQ
    · rw [lp_s, List.append_nil]
      generalize lp (fun k (s1 : Int32 × Int32) => m_X8_nearest_B109 m (nI q) (nI (j + 1)) (nI E) (nI s) k59 k88 k s1.1 s1.2) g = kk
      show m_X8_nearest_B109 m (nI q) (nI (j + 1)) (nI E) (nI s) k59 k88 kk (nI Qs.length) (nI c) (I, (J, z.2)) = _
      unfold m_X8_nearest_B109
      rw [if_pos (show (8 : Int32) ≤ nI c from nI_le (a := 8) (by omega) (by omega))]
  | succ n ih =>
    intro c hc Qs J hB hQ ht f hf
    obtain ⟨g, rfl⟩ : ∃ g, f = g + 1 := ⟨f - 1, by omega⟩
    have htm := List.mem_of_getElem? ht
    have t8 := (hB.2.1 t htm).1
    have hsN := hb t s t8 hst
    have ih := fun Qs J b c' d => ih (c + 1) (by omega) Qs J b c' d g (by omega)
    rw [lp_s]
    generalize lp (fun k (s1 : Int32 × Int32) => m_X8_nearest_B109 m (nI q) (nI (j + 1)) (nI E) (nI s) k59 k88 k s1.1 s1.2) g = kk at ih
    show ∃ J', FrJR m J J' ∧ ((∃ u r, _ ∧ _ ∧ m_X8_nearest_B109 m (nI q) (nI (j + 1)) (nI E) (nI s) k59 k88 kk (nI Qs.length) (nI c) (I, (J, z.2)) = _) ∨ ∃ ext, _ ∧ _ ∧ _ ∧ m_X8_nearest_B109 m (nI q) (nI (j + 1)) (nI E) (nI s) k59 k88 kk (nI Qs.length) (nI c) (I, (J, z.2)) = _)
    have hcall := hstep (J, z.2) I hM hI t s c t8 hst (by omega)
    have hrun : m_X8_nearest_B109 m (nI q) (nI (j + 1)) (nI E) (nI s) k59 k88 kk (nI Qs.length) (nI c) (I, (J, z.2)) = (if encR (σ (c :: t)) = -9 then kk (nI Qs.length, nI (c + 1)) else mb (gR 7 29 m) fun came10 =>
        mb (aJ came10 (encR (σ (c :: t)))) fun x11 =>
        if 0 ≤ lg_cmp x11 0 then kk (nI Qs.length, nI (c + 1))
        else mb (gR 7 29 m) fun came12 => mb (tJ came12 (encR (σ (c :: t))) (10 * (nI s).toInt64 + (nI c).toInt64)) fun _ =>
          mb (gR 7 28 m) fun queue13 => mb (tJ queue13 (nI Qs.length) (encR (σ (c :: t))).toInt64) fun _ =>
          mb (vc 7 m (m_X8_isDone m (encR (σ (c :: t))))) fun c14 => if c14 = 0 then kk (nI Qs.length + 1, nI (c + 1)) else mp (encR (σ (c :: t)))) (I, (J, z.2)) := by
      unfold m_X8_nearest_B109 m_X8_nearest_J189
      rw [if_neg (show ¬ (8 : Int32) ≤ nI c from nI_ge (b := 8) (by omega) (by omega)), mb_vc (w := (I, (J, z.2))) hM.o, mb_call hcall, nI_1]
    rw [hrun]
    have skip : (σ (c :: t) = none ∨ ∃ u ∈ Qs, σ u = σ (c :: t)) → ∃ J', FrJR m J J' ∧ ((∃ u r, u.length = t.length + 1 ∧ FnR σ dn m J' u r ∧ kk (nI Qs.length, nI (c + 1)) (I, (J, z.2)) = some (r, (I, (J', z.2)))) ∨ ∃ ext, BI σ dn (Qs ++ ext) j 8 ∧ RQr σ N m J' (Qs ++ ext) ∧ (∀ u ∈ ext, u.length = t.length + 1) ∧ kk (nI Qs.length, nI (c + 1)) (I, (J, z.2)) = k88 (nI (j + 1), nI (Qs ++ ext).length) (I, (J', z.2))) := fun h => ih Qs J (BI_skip hB ht h) hQ ht
    cases hs : σ (c :: t) with
    | none =>
      rw [show encR none = -9 from rfl, if_pos rfl]
      exact skip (Or.inl hs)
    | some s' =>
      have hu8 : ok8 (c :: t) := ok8_cons.mpr ⟨by omega, t8⟩
      have hs'N := hb _ s' hu8 hs
      rw [show encR (some s') = nI s' from rfl, if_neg (nI_nm9 (by omega)), mb_gR (w := (I, (J, z.2))) hM.o hM.rCame, mb_aJ (w := (I, (J, z.2))) hM.sCame (show s' < 15520 by omega) (by omega)]
      dsimp only
      rcases hQ.2.1 s' hs'N with ⟨h0, hnew⟩ | ⟨⟨x, hx, h0⟩, u, hu, e⟩
      · have hlen := BI_len1 hb hB hu8 hs hnew
        rw [if_neg (show ¬ 0 ≤ lg_cmp (J (m + 14) s') 0 by rw [h0]; decide), mb_gR (w := (I, (J, z.2))) hM.o hM.rCame, mb_tJ (w := (I, (J, z.2))) hM.sCame (show s' < 15520 by omega) (by omega)]
        rw [show (10 : Int64) * (nI s).toInt64 + (nI c).toInt64 = lN (10 * s + c) by
          rw [nI_l (by omega), nI_l (by omega), show (10 : Int64) = lN 10 from rfl, lN_mul, lN_add]]
        dsimp only
        rw [mb_gR (w := (I, (u2 J (m + 14) s' (lN (10 * s + c)), z.2))) hM.o hM.rQueue, nI_l (show s' < 2 ^ 31 by omega), mb_tJ (w := (I, (u2 J (m + 14) s' (lN (10 * s + c)), z.2))) hM.sQueue (show Qs.length < 15520 by omega) (by omega)]
        dsimp only
        obtain ⟨hQ', hcn⟩ := RQr_push (N := N) hB hQ htm hst hs hnew (by omega) (by omega)
        rw [mb_vc (w := (I, (u2 (u2 J (m + 14) s' (lN (10 * s + c))) (m + 13) Qs.length (lN s'), z.2))) hM.o, mb_call (hdone (u2 (u2 J (m + 14) s' (lN (10 * s + c))) (m + 13) Qs.length (lN s'), z.2) I hM hI s' hs'N)]
        have hfr : FrJR m J (u2 (u2 J (m + 14) s' (lN (10 * s + c))) (m + 13) Qs.length (lN s')) := fun x a b => by rw [u2_row a, u2_row b]
        cases hd : dn s'
        · rw [if_pos (show bI false = 0 from rfl), nI_1]
          obtain ⟨J', hF, hE⟩ := ih _ _ (BI_push hB ht (by omega) hs hnew hd) hQ' (get_app ht)
          rw [show (Qs ++ [c :: t]).length = Qs.length + 1 by rw [List.length_append]; rfl] at hE
          refine ⟨J', fun x a b => (hF x a b).trans (hfr x a b), ?_⟩
          rcases hE with hE | ⟨ext, a1, a2, a5, a3⟩
          · exact Or.inl hE
          · refine Or.inr ⟨(c :: t) :: ext, ?_, ?_, ?_, ?_⟩
            · rw [List.append_assoc] at a1; exact a1
            · rw [List.append_assoc] at a2; exact a2
            · intro u hu
              rcases List.mem_cons.mp hu with rfl | hu
              · rfl
              · exact a5 u hu
            · rw [List.append_assoc] at a3; exact a3
        · rw [if_neg (show ¬ bI true = 0 by decide)]
          exact ⟨_, hfr, Or.inl ⟨c :: t, nI s', rfl, ⟨BI_found hS hB ht (by omega) hs hd hl, s', hs, rfl, hcn⟩, rfl⟩⟩
      · rw [if_pos (show 0 ≤ lg_cmp (J (m + 14) s') 0 by rw [h0]; exact seen_x hx)]
        exact skip (Or.inr ⟨u, hu, e.trans hs.symm⟩)
theorem levelR_ok (hM : MO z m) (hC : RSys m q I0 σ dn N) {I : Nat → Nat → Int32} (hI : SameR m I0 I) {d E : Nat} (hd : d < 60) (k59 : Int32 × Int32 → Mo Int32) : ∀ n j, j + n = E → ∀ (Qs : List (List Nat)) (J : Nat → Nat → Int64), BI σ dn Qs j 0 → RQr σ N m J Qs → E ≤ Qs.length → (∀ (i : Nat) (t : List Nat), Qs[i]? = some t → (j ≤ i → i < E → t.length = d) ∧ (E ≤ i → t.length = d + 1) ∧ (i < j → t.length ≤ d)) → ∀ f, n < f → ∃ J', FrJR m J J' ∧ ((∃ u r, u.length = d + 1 ∧ FnR σ dn m J' u r ∧ lp (fun k (s1 : Int32 × Int32) => m_X8_nearest_B88 m (nI q) (nI E) k59 k s1.1 s1.2) f (nI j, nI Qs.length) (I, (J, z.2)) = some (r, (I, (J', z.2)))) ∨ ∃ Qs', BI σ dn Qs' E 0 ∧ RQr σ N m J' Qs' ∧ E ≤ Qs'.length ∧ (∀ (i : Nat) (t : List Nat), Qs'[i]? = some t → (i < E → t.length ≤ d) ∧ (E ≤ i → t.length = d + 1)) ∧ lp (fun k (s1 : Int32 × Int32) => m_X8_nearest_B88 m (nI q) (nI E) k59 k s1.1 s1.2) f (nI j, nI Qs.length) (I, (J, z.2)) = k59 (nI E, nI Qs'.length) (I, (J', z.2))) := by
  obtain ⟨hN, hS, hb, hstep, hdone⟩ := id hC
  intro n
  induction n with
  | zero =>
    intro j hj Qs J hB hQ hE hlv f hf
    obtain ⟨g, rfl⟩ : ∃ g, f = g + 1 := ⟨f - 1, by omega⟩
    have hlen := BI_len hb hB
    refine ⟨J, fun _ _ _ => rfl, Or.inr ⟨Qs, ?_, hQ, hE, ?_, ?_⟩⟩
    · rw [← show j = E by omega]; exact hB
    · intro i t hi
      obtain ⟨a, b, c⟩ := hlv i t hi
      exact ⟨fun h => c (by omega), b⟩
    · rw [lp_s]
      generalize lp (fun k (s1 : Int32 × Int32) => m_X8_nearest_B88 m (nI q) (nI E) k59 k s1.1 s1.2) g = kk
      show m_X8_nearest_B88 m (nI q) (nI E) k59 kk (nI j) (nI Qs.length) (I, (J, z.2)) = _
      unfold m_X8_nearest_B88
      rw [if_pos (nI_le (by omega) (by omega)), show j = E by omega]
  | succ n ih =>
    intro j hj Qs J hB hQ hE hlv f hf
    obtain ⟨g, rfl⟩ : ∃ g, f = g + 1 := ⟨f - 1, by omega⟩
    have hlen := BI_len hb hB
    have hjl : j < Qs.length := by omega
    have ht := List.getElem?_eq_getElem hjl
    generalize Qs[j] = t at ht
    have htd := (hlv j t ht).1 (Nat.le_refl j) (by omega)
    obtain ⟨s, hst, hqs⟩ := hQ.1 j t ht
    have ih := fun Qs J a b c' d' => ih (j + 1) (by omega) Qs J a b c' d'
    rw [lp_s]
    generalize hkk : lp (fun k (s1 : Int32 × Int32) => m_X8_nearest_B88 m (nI q) (nI E) k59 k s1.1 s1.2) g = kk
    obtain ⟨J1, hF1, hE1⟩ := spreadR_ok hM hC hI (E := E) hst (by omega) k59 kk 8 0 (by omega) Qs J hB hQ ht FU (by unfold FU; omega)
    have hrun : m_X8_nearest_B88 m (nI q) (nI E) k59 kk (nI j) (nI Qs.length) (I, (J, z.2)) = lp (fun k (s1 : Int32 × Int32) => m_X8_nearest_B109 m (nI q) (nI (j + 1)) (nI E) (nI s) k59 kk k s1.1 s1.2) FU (nI Qs.length, nI 0) (I, (J, z.2)) := by
      unfold m_X8_nearest_B88
      rw [if_neg (nI_ge (by omega) (by omega)), mb_gR (w := (I, (J, z.2))) hM.o hM.rQueue, mb_aJ (w := (I, (J, z.2))) hM.sQueue (show j < 15520 by omega) (by omega)]
      simp only [hqs]
      rw [mb_mp, lN_i, nI_1]
      rfl
    show ∃ J', FrJR m J J' ∧ ((∃ u r, _ ∧ _ ∧ m_X8_nearest_B88 m (nI q) (nI E) k59 kk (nI j) (nI Qs.length) (I, (J, z.2)) = _) ∨ ∃ Qs', _ ∧ _ ∧ _ ∧ _ ∧ m_X8_nearest_B88 m (nI q) (nI E) k59 kk (nI j) (nI Qs.length) (I, (J, z.2)) = _)
    rw [hrun]
    rcases hE1 with ⟨u, r, hul, hFd, e⟩ | ⟨ext, a1, a2, a5, e⟩
    · exact ⟨J1, hF1, Or.inl ⟨u, r, by omega, hFd, e⟩⟩
    · have hBn := BI_next a1 (by rw [List.length_append]; omega)
      obtain ⟨J2, hF2, hR2⟩ := ih (Qs ++ ext) J1 hBn a2 (by rw [List.length_append]; omega) (by
        intro i u hi
        by_cases hil : i < Qs.length
        · rw [List.getElem?_append_left hil] at hi
          obtain ⟨b1, b2, b3⟩ := hlv i u hi
          refine ⟨fun h1 h2 => b1 (by omega) h2, b2, fun h => ?_⟩
          by_cases hij : i < j
          · exact b3 hij
          · exact Nat.le_of_eq (b1 (by omega) (by omega))
        · rw [List.getElem?_append_right (by omega)] at hi
          have := a5 u (List.mem_of_getElem? hi)
          exact ⟨fun _ h => by omega, fun _ => by omega, fun h => by omega⟩) g (by omega)
      rw [hkk] at hR2
      refine ⟨J2, fun x a b => (hF2 x a b).trans (hF1 x a b), ?_⟩
      rcases hR2 with ⟨u, r, b1, b2, b3⟩ | ⟨Qs', b1, b2, b4, b5, b6⟩
      · exact Or.inl ⟨u, r, b1, b2, e.trans b3⟩
      · exact Or.inr ⟨Qs', b1, b2, b4, b5, e.trans b6⟩
/-- what nearest() answers, with the depth -/
def NrO (σ : List Nat → Option Nat) (dn : Nat → Bool) (m : Nat) (I : Nat → Nat → Int32) (J : Nat → Nat → Int64) (o : Option (List Nat)) (r : Int32) : Prop := match o with
  | none => BR (acc σ dn) none ∧ r = -9
  | some u => FnR σ dn m J u r ∧ I m 30 = nI u.length
theorem SameR.dep {I : Nat → Nat → Int32} (h : SameR m I0 I) (v : Int32) : SameR m I0 (u2 I m 30 v) := ⟨fun k hk => by rw [u2_ne (Or.inr hk)]; exact h.1 k hk, fun x hx => by rw [u2_row hx]; exact h.2 x hx⟩
theorem levelsR_ok (hM : MO z m) (hC : RSys m q I0 σ dn N) : ∀ n d, d + n = 60 → ∀ (j : Nat) (Qs : List (List Nat)) (I : Nat → Nat → Int32) (J : Nat → Nat → Int64), SameR m I0 I → I m 30 = nI d → BI σ dn Qs j 0 → RQr σ N m J Qs → j ≤ Qs.length → (∀ (i : Nat) (t : List Nat), Qs[i]? = some t → (i < j → t.length < d) ∧ (j ≤ i → t.length = d)) → ∀ f, n < f → ∃ v J' o r, FrJR m J J' ∧ NrO σ dn m (u2 I m 30 v) J' o r ∧ lp (fun k (s1 : Int32 × Int32) => m_X8_nearest_B59 m (nI q) k s1.1 s1.2) f (nI j, nI Qs.length) (I, (J, z.2)) = some (r, (u2 I m 30 v, (J', z.2))) := by
  obtain ⟨hN, hS, hb, hstep, hdone⟩ := id hC
  intro n
  induction n with
  | zero =>
    intro d hd j Qs I J hI h30 hB hQ hj hlv f hf
    obtain ⟨g, rfl⟩ : ∃ g, f = g + 1 := ⟨f - 1, by omega⟩
    have hlen := BI_len hb hB
    have hself : u2 I m 30 (nI d) = I := by
      rw [← h30]
      funext x k
      unfold u2
      by_cases h : x = m ∧ k = 30
      · rw [if_pos h, h.1, h.2]
      · rw [if_neg h]
    refine ⟨nI d, J, none, -9, fun _ _ _ => rfl, ⟨BI_none hS hB (fun i t hi hl => ?_), rfl⟩, ?_⟩
    · obtain ⟨a, b⟩ := hlv i t hi
      by_cases h : i < j
      · exact h
      · have := b (by omega); omega
    · rw [lp_s, hself]
      unfold m_X8_nearest_B59
      dsimp only
      by_cases hex : Qs.length ≤ j
      · rw [if_pos (nI_le hex (by omega))]; rfl
      · rw [if_neg (nI_ge (by omega) (by omega)), mb_gI (w := (I, (J, z.2))) hM.o]
        simp only [h30]
        rw [if_pos (show (60 : Int32) ≤ nI d from nI_le (a := 60) (by omega) (by omega))]; rfl
  | succ n ih =>
    intro d hd j Qs I J hI h30 hB hQ hj hlv f hf
    obtain ⟨g, rfl⟩ : ∃ g, f = g + 1 := ⟨f - 1, by omega⟩
    have hlen := BI_len hb hB
    have hself : u2 I m 30 (nI d) = I := by
      rw [← h30]
      funext x k
      unfold u2
      by_cases h : x = m ∧ k = 30
      · rw [if_pos h, h.1, h.2]
      · rw [if_neg h]
    rw [lp_s]
    generalize hkk : lp (fun k (s1 : Int32 × Int32) => m_X8_nearest_B59 m (nI q) k s1.1 s1.2) g = kk
    show ∃ v J' o r, FrJR m J J' ∧ NrO σ dn m (u2 I m 30 v) J' o r ∧ m_X8_nearest_B59 m (nI q) kk (nI j) (nI Qs.length) (I, (J, z.2)) = _
    unfold m_X8_nearest_B59
    by_cases hex : Qs.length ≤ j
    · rw [if_pos (nI_le hex (by omega))]
      exact ⟨nI d, J, none, -9, fun _ _ _ => rfl, ⟨BI_none hS hB (fun i t hi _ => by have := (List.getElem?_eq_some_iff.mp hi).1; omega), rfl⟩, by rw [hself]; rfl⟩
    · rw [if_neg (nI_ge (by omega) (by omega)), mb_gI (w := (I, (J, z.2))) hM.o]
      simp only [h30]
      rw [if_neg (show ¬ (60 : Int32) ≤ nI d from nI_ge (b := 60) (by omega) (by omega)), mb_gI (w := (I, (J, z.2))) hM.o]
      simp only [h30]
      rw [nI_1, mb_sI (w := (I, (J, z.2))) hM.o]
      dsimp only
      obtain ⟨J1, hF1, hR1⟩ := levelR_ok hM hC (hI.dep (nI (d + 1))) (d := d) (E := Qs.length) (by omega) kk (Qs.length - j) j (by omega) Qs J hB hQ (Nat.le_refl _) (by
        intro i t hi
        obtain ⟨a, b⟩ := hlv i t hi
        have hil := (List.getElem?_eq_some_iff.mp hi).1
        exact ⟨fun h _ => b h, fun h => by omega, fun h => Nat.le_of_lt (a h)⟩) FU (by unfold FU; omega)
      rcases hR1 with ⟨u, r, b1, b2, b3⟩ | ⟨Qs', b1, b2, b4, b5, b6⟩
      · exact ⟨nI (d + 1), J1, some u, r, hF1, ⟨b2, by rw [u2_eq, b1]⟩, b3⟩
      · obtain ⟨v, J2, o, r, hF2, hR2, e2⟩ := ih (d + 1) (by omega) Qs.length Qs' (u2 I m 30 (nI (d + 1))) J1 (hI.dep _) (u2_eq _ _ _ _) b1 b2 b4 (by
          intro i t hi
          obtain ⟨a, b⟩ := b5 i t hi
          exact ⟨fun h => by have := a h; omega, b⟩) g (by omega)
        rw [hkk, u2_u2] at e2
        rw [u2_u2] at hR2
        exact ⟨v, J2, o, r, fun x a b => (hF2 x a b).trans (hF1 x a b), hR2, by rw [b6]; exact e2⟩
theorem nearest_ok (hM : MO z m) (hC : RSys m q I0 σ dn N) {I : Nat → Nat → Int32} (hI : SameR m I0 I) {s0 : Nat} (hs0 : σ [] = some s0) : ∃ v J' o r, FrJR m z.1 J' ∧ NrO σ dn m (u2 I m 30 v) J' o r ∧ m_X8_nearest m (nI q) (nI s0) (I, z) = some (r, (u2 I m 30 v, (J', z.2))) := by
  obtain ⟨hN, hS, hb, hstep, hdone⟩ := id hC
  have hsN := hb [] s0 ok8_nil hs0
  unfold m_X8_nearest
  rw [mb_sI hM.o]
  dsimp only
  rw [mb_vc hM.o, mb_call (hdone z _ hM (hI.dep 0) s0 hsN)]
  cases hd0 : dn s0
  · rw [if_pos (show bI false = 0 from rfl)]
    obtain ⟨s1, x1, k1, ⟨rfl, J1, rfl, hz1, hF1⟩, e1⟩ := lp_FUi (F := fun k s => m_X8_nearest_B17 m (nI q) (nI s0) k s) (fun i s x => s = nI i ∧ ∃ J, x = (u2 I m 30 0, (J, z.2)) ∧ (∀ j, j < i → J (m + 14) j = -9) ∧ ∀ x, x ≠ m + 14 → J x = z.1 x) 15520 (by omega) (by
      intro i hi s x hP
      obtain ⟨rfl, J, rfl, h1, h2⟩ := hP
      refine ⟨nI (i + 1), (u2 I m 30 0, (u2 J (m + 14) i (-9), z.2)), ⟨rfl, _, rfl, fun j hj => ?_, fun x hx => by rw [u2_row hx]; exact h2 x hx⟩, fun k => ?_⟩
      · by_cases hji : j = i
        · subst hji; rw [u2_eq]
        · rw [u2_ne (Or.inr hji)]; exact h1 j (by omega)
      · unfold m_X8_nearest_B17
        rw [if_neg (show ¬ (15520 : Int32) ≤ nI i from nI_ge (b := 15520) hi (by omega)), mb_gR (w := (u2 I m 30 0, (J, z.2))) hM.o hM.rCame, mb_tJ (w := (u2 I m 30 0, (J, z.2))) hM.sCame hi (by omega), nI_1]) (s := 0) (w := (u2 I m 30 0, z)) ⟨rfl, z.1, rfl, fun j h => absurd h (by omega), fun _ _ => rfl⟩
    generalize hJ2 : u2 (u2 J1 (m + 13) 0 (lN s0)) (m + 14) s0 0 = J2
    have r14 : ∀ s, s < N → J2 (m + 14) s = if s = s0 then 0 else -9 := by
      intro s hs
      rw [← hJ2]
      by_cases h : s = s0
      · rw [h, u2_eq, if_pos rfl]
      · rw [u2_ne (Or.inr h), u2_row (by omega), if_neg h]; exact hz1 s (by omega)
    obtain ⟨v, J3, o, r, hF3, hR3, e3⟩ := levelsR_ok hM hC 60 0 (by omega) 0 [[]] (u2 I m 30 0) J2 (hI.dep 0) (u2_eq _ _ _ _) (BI_init hs0 hd0) (by
      refine ⟨?_, ?_, ?_⟩
      · intro i t hi
        have h1 : i < 1 := (List.getElem?_eq_some_iff.mp hi).1
        rw [show i = 0 by omega] at hi ⊢
        rw [← Option.some.inj hi]
        exact ⟨s0, hs0, by rw [← hJ2, u2_row (by omega), u2_eq]⟩
      · intro s hs
        rw [r14 s hs]
        by_cases h : s = s0
        · rw [if_pos h]
          exact Or.inr ⟨⟨0, by omega, rfl⟩, [], by simp, by rw [hs0, h]⟩
        · rw [if_neg h]
          refine Or.inl ⟨rfl, fun t ht => ?_⟩
          rw [List.mem_singleton.mp ht, hs0]
          exact fun e => h (Option.some.inj e).symm
      · intro t ht
        rw [List.mem_singleton.mp ht]
        trivial) (by simp) (by
      intro i t hi
      have h1 : i < 1 := (List.getElem?_eq_some_iff.mp hi).1
      rw [show i = 0 by omega] at hi
      rw [← Option.some.inj hi]
      exact ⟨fun h => by omega, fun _ => rfl⟩) FU (by unfold FU; omega)
    rw [u2_u2] at hR3 e3
    refine ⟨v, J3, o, r, fun x a b => ?_, hR3, ?_⟩
    · rw [hF3 x a b, ← hJ2, u2_row b, u2_row a, hF1 x b]
    · rw [e1]
      unfold m_X8_nearest_B17
      rw [if_pos (show (15520 : Int32) ≤ nI 15520 from nI_le (a := 15520) (Nat.le_refl _) (by omega)), mb_gR (w := (u2 I m 30 0, (J1, z.2))) hM.o hM.rQueue, nI_l (by omega), show tJ (m + 13) 0 (lN s0) = tJ (m + 13) (nI 0) (lN s0) from rfl, mb_tJ (w := (u2 I m 30 0, (J1, z.2))) hM.sQueue (show 0 < 15520 by omega) (by omega)]
      dsimp only
      rw [mb_gR (w := (u2 I m 30 0, (u2 J1 (m + 13) 0 (lN s0), z.2))) hM.o hM.rCame, mb_tJ (w := (u2 I m 30 0, (u2 J1 (m + 13) 0 (lN s0), z.2))) hM.sCame (show s0 < 15520 by omega) (by omega)]
      dsimp only
      rw [hJ2]
      exact e3
  · rw [if_neg (show ¬ bI true = 0 by decide)]
    exact ⟨0, z.1, some [], nI s0, fun _ _ _ => rfl, ⟨⟨BR_zero hs0 hd0, s0, hs0, rfl, trivial⟩, by rw [u2_eq]; rfl⟩, rfl⟩
end RB
