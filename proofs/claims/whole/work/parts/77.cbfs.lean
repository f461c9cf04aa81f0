/-! ===== the class's search by levels ===== -/
def SO (z : Zd) (p : Nat) : Prop := z.2.2[p]? = some (3, nf 3) ∧ (z.2.1 p 0 = some (p + 1) ∧ z.2.1 p 1 = some (p + 3) ∧ z.2.1 p 2 = some (p + 11) ∧ z.2.1 p 3 = some (p + 12) ∧ z.2.1 p 4 = some (p + 13)) ∧ WO z (p + 1) (p + 2) 5 ∧ AO z (p + 3) 5 ∧ (z.2.2[p + 11]? = some (100, 31) ∧ z.2.2[p + 12]? = some (100, 3968) ∧ z.2.2[p + 13]? = some (100, 3968) ∧ z.2.2[p + 14]? = some (101, 3968) ∧ z.2.2[p + 15]? = some (101, 3968)) ∧ ((z.2.1 p 5 = some (p + 14) ∧ z.2.1 p 6 = some (p + 15)) ∨ (z.2.1 p 5 = some (p + 15) ∧ z.2.1 p 6 = some (p + 14)))
def SameS (p : Nat) (I0 I : Nat → Nat → Int32) : Prop := (∀ k, 7 ≤ k → k ≤ 11 → I p k = I0 p k) ∧ ∀ x, p + 1 ≤ x → x ≤ p + 11 → I x = I0 x
def encO : Option Nat → Int32
  | none => -1
  | some s => nI s
theorem nI_nm1 {n : Nat} (h : n < 2 ^ 31) : ¬ nI n = -1 := by
  intro e
  have := congrArg Int32.toInt e
  rw [nI_toInt h, show (-1 : Int32).toInt = -1 by decide] at this
  omega
/-- the Search object, prepared: it is a machine σ of N states, those that match by dn -/
def CSys (p : Nat) (I0 : Nat → Nat → Int32) (σ : List Nat → Option Nat) (dn : Nat → Bool) (N : Nat) : Prop :=
  N ≤ 3968 ∧ I0 p 11 = nI N ∧ Sys σ ∧ (∀ t s, ok8 t → σ t = some s → s < N) ∧
  (∀ (z : Zd) (I : Nat → Nat → Int32), SO z p → SameS p I0 I → ∀ t s c, ok8 t → σ t = some s → c < 8 → m_X4_step p (nI s) (nI c) (I, z) = some (encO (σ (c :: t)), (I, z))) ∧
  (∀ (z : Zd) (I : Nat → Nat → Int32), SO z p → SameS p I0 I → ∀ s, s < N → m_X4_isMatch p (nI s) (I, z) = some (bI (dn s), (I, z)))
def Chn (f : Nat → Int32) (σ : List Nat → Option Nat) : List Nat → Prop
  | [] => True
  | d :: t => (∃ s s', σ (d :: t) = some s ∧ σ t = some s' ∧ f s = nI (1 + 8 * s' + d)) ∧ Chn f σ t
theorem Chn_upd {f f' : Nat → Int32} {σ : List Nat → Option Nat} {Qs : List (List Nat)} (hp : ∀ u ∈ Qs, u = [] ∨ ∃ d t, u = d :: t ∧ t ∈ Qs) (he : ∀ t ∈ Qs, ∀ s, σ t = some s → f' s = f s) : ∀ t, t ∈ Qs → Chn f σ t → Chn f' σ t
  | [], _, _ => trivial
  | d :: t, hm, h => by
    obtain ⟨⟨s, s', a, b, c⟩, h⟩ := h
    have ht : t ∈ Qs := by
      rcases hp _ hm with e | ⟨d', t', e, hm'⟩
      · cases e
      · obtain ⟨-, rfl⟩ := List.cons.inj e
        exact hm'
    exact ⟨⟨s, s', a, b, by rw [he _ hm s a]; exact c⟩, Chn_upd hp he t ht h⟩
/-- how the rows hold what has been met -/
def SQr (σ : List Nat → Option Nat) (N p : Nat) (I : Nat → Nat → Int32) (Qs : List (List Nat)) : Prop :=
  (∀ (i : Nat) (t : List Nat), Qs[i]? = some t → ∃ s, σ t = some s ∧ I (p + 13) i = nI s) ∧
  (∀ s, s < N → I (p + 12) s = 0 → ∀ t ∈ Qs, σ t ≠ some s) ∧
  (∀ s, s < N → I (p + 12) s ≠ 0 → ∃ t ∈ Qs, σ t = some s) ∧
  (∀ t ∈ Qs, Chn (I (p + 12)) σ t)
theorem Qs_len {σ : List Nat → Option Nat} {N : Nat} (hb : ∀ t s, ok8 t → σ t = some s → s < N) {Qs : List (List Nat)} (h8 : ∀ t ∈ Qs, ok8 t ∧ ∃ s, σ t = some s) (hd : Qs.Pairwise (fun t u => σ t ≠ σ u)) : Qs.length ≤ N := by
  have h1 : (Qs.map σ).Nodup := List.pairwise_map.mpr hd
  have h2 := h1.length_le_of_subset (l₂ := (List.range N).map some) (by
    intro x hx
    obtain ⟨t, ht, rfl⟩ := List.mem_map.mp hx
    obtain ⟨a, s, e⟩ := h8 t ht
    rw [e]
    exact List.mem_map.mpr ⟨s, List.mem_range.mpr (hb t s a e), rfl⟩)
  simpa using h2
theorem BI_len {σ : List Nat → Option Nat} {dn : Nat → Bool} {N : Nat} (hb : ∀ t s, ok8 t → σ t = some s → s < N) {Qs : List (List Nat)} {j c : Nat} (h : BI σ dn Qs j c) : Qs.length ≤ N :=
  Qs_len hb (fun t ht => ⟨(h.2.1 t ht).1, (h.2.1 t ht).2.elim fun s e => ⟨s, e.1⟩⟩) (h.2.2.1.imp fun e => e.2)
theorem BI_len1 {σ : List Nat → Option Nat} {dn : Nat → Bool} {N : Nat} (hb : ∀ t s, ok8 t → σ t = some s → s < N) {Qs : List (List Nat)} {j c : Nat} (h : BI σ dn Qs j c) {u : List Nat} {s : Nat} (hu : ok8 u) (hs : σ u = some s) (hnew : ∀ t ∈ Qs, σ t ≠ some s) : Qs.length < N := by
  have := Qs_len hb (Qs := Qs ++ [u]) (fun t ht => by
    rcases List.mem_append.mp ht with ht | ht
    · exact ⟨(h.2.1 t ht).1, (h.2.1 t ht).2.elim fun s e => ⟨s, e.1⟩⟩
    · rw [List.mem_singleton.mp ht]; exact ⟨hu, s, hs⟩) (List.pairwise_append.mpr ⟨h.2.2.1.imp fun e => e.2, by simp, fun a ha b hb e => by
      rw [List.mem_singleton.mp hb, hs] at e
      exact hnew a ha e⟩)
  simp at this
  omega
section CB
variable {z : Zd} {p N : Nat} {I0 : Nat → Nat → Int32} {σ : List Nat → Option Nat} {dn : Nat → Bool}
def FrS (p : Nat) (I I' : Nat → Nat → Int32) : Prop := (∀ k, k ≠ 12 → I' p k = I p k) ∧ ∀ x, x ≠ p → x ≠ p + 12 → x ≠ p + 13 → I' x = I x
theorem FrS.refl (p : Nat) (I : Nat → Nat → Int32) : FrS p I I := ⟨fun _ _ => rfl, fun _ _ _ _ => rfl⟩
theorem FrS.trans {p : Nat} {I I' I2 : Nat → Nat → Int32} (h : FrS p I I') (h2 : FrS p I' I2) : FrS p I I2 := ⟨fun k hk => (h2.1 k hk).trans (h.1 k hk), fun x a b c => (h2.2 x a b c).trans (h.2 x a b c)⟩
theorem SameS.fr {I I' : Nat → Nat → Int32} (h : SameS p I0 I) (f : FrS p I I') : SameS p I0 I' := ⟨fun k a b => (f.1 k (by omega)).trans (h.1 k a b), fun x a b => (f.2 x (by omega) (by omega) (by omega)).trans (h.2 x a b)⟩
/-- it was found: the row u -/
def Fnd (σ : List Nat → Option Nat) (dn : Nat → Bool) (p : Nat) (I : Nat → Nat → Int32) (u : List Nat) : Prop := BR (acc σ dn) (some u) ∧ ∃ s, σ u = some s ∧ dn s = true ∧ I p 12 = nI s ∧ Chn (I (p + 12)) σ u
theorem SQr_push {I : Nat → Nat → Int32} {Qs : List (List Nat)} {j c s s' : Nat} {t : List Nat} (hB : BI σ dn Qs j c) (h : SQr σ N p I Qs) (ht : t ∈ Qs) (hst : σ t = some s) (hs : σ (c :: t) = some s') (hnew : ∀ u ∈ Qs, σ u ≠ some s') (hsN : s < 4000) (hc8 : c < 8) : SQr σ N p (u2 (u2 I (p + 12) s' (nI (1 + 8 * s + c))) (p + 13) Qs.length (nI s')) (Qs ++ [c :: t]) ∧ Chn (u2 (u2 I (p + 12) s' (nI (1 + 8 * s + c))) (p + 13) Qs.length (nI s') (p + 12)) σ (c :: t) := by
  obtain ⟨h1, h2, h3, h4⟩ := h
  have r12 : u2 (u2 I (p + 12) s' (nI (1 + 8 * s + c))) (p + 13) Qs.length (nI s') (p + 12) = fun k => if k = s' then nI (1 + 8 * s + c) else I (p + 12) k := by
    rw [u2_row (by omega)]
    funext k
    by_cases hk : k = s'
    · rw [hk, u2_eq, if_pos rfl]
    · rw [u2_ne (Or.inr hk), if_neg hk]
  have hch : ∀ u ∈ Qs, Chn (u2 (u2 I (p + 12) s' (nI (1 + 8 * s + c))) (p + 13) Qs.length (nI s') (p + 12)) σ u := fun u hu => by
    refine Chn_upd hB.2.2.2.2.1 (fun v hv x hx => ?_) u hu (h4 u hu)
    rw [r12]
    dsimp only
    rw [if_neg (show ¬ x = s' from fun e => hnew v hv (by rw [← e]; exact hx))]
  have hcn : Chn (u2 (u2 I (p + 12) s' (nI (1 + 8 * s + c))) (p + 13) Qs.length (nI s') (p + 12)) σ (c :: t) := ⟨⟨s', s, hs, hst, by rw [r12]; dsimp only; rw [if_pos rfl]⟩, hch t ht⟩
  refine ⟨⟨?_, ?_, ?_, ?_⟩, hcn⟩
  · intro i u hi
    rcases app_get hi with hi | ⟨rfl, rfl⟩
    · obtain ⟨x, e1, e2⟩ := h1 i u hi
      have := (List.getElem?_eq_some_iff.mp hi).1
      exact ⟨x, e1, by rw [u2_ne (Or.inr (by omega)), u2_row (by omega)]; exact e2⟩
    · exact ⟨s', hs, u2_eq _ _ _ _⟩
  · intro x hx h0 u hu
    rw [r12] at h0
    dsimp only at h0
    by_cases hxs : x = s'
    · exfalso
      rw [if_pos hxs] at h0
      exact nI_ne0 (by omega) (by omega) h0
    · rw [if_neg hxs] at h0
      rcases List.mem_append.mp hu with hu | hu
      · exact h2 x hx h0 u hu
      · rw [List.mem_singleton.mp hu, hs]
        exact fun e => hxs (Option.some.inj e).symm
  · intro x hx h0
    rw [r12] at h0
    dsimp only at h0
    by_cases hxs : x = s'
    · exact ⟨c :: t, by simp, by rw [hs, hxs]⟩
    · rw [if_neg hxs] at h0
      obtain ⟨u, hu, e⟩ := h3 x hx h0
      exact ⟨u, List.mem_append_left _ hu, e⟩
  · intro u hu
    rcases List.mem_append.mp hu with hu | hu
    · exact hch u hu
    · rw [List.mem_singleton.mp hu]; exact hcn
def SpE (σ : List Nat → Option Nat) (dn : Nat → Bool) (N p : Nat) (I : Nat → Nat → Int32) (Qs : List (List Nat)) (j : Nat) (t : List Nat) (r : Int32) (I' : Nat → Nat → Int32) : Prop :=
  FrS p I I' ∧ ((∃ u, u.length = t.length + 1 ∧ Fnd σ dn p I' u) ∨ ∃ ext, BI σ dn (Qs ++ ext) j 8 ∧ SQr σ N p I' (Qs ++ ext) ∧ r = nI (Qs ++ ext).length ∧ I' p 12 = I p 12 ∧ ∀ u ∈ ext, u.length = t.length + 1)
theorem spread_ok (hz : SO z p) (hC : CSys p I0 σ dn N) {t : List Nat} {s j : Nat} (hst : σ t = some s) (hl : t.length < 60) : ∀ n c, c + n = 8 → ∀ (Qs : List (List Nat)) (I : Nat → Nat → Int32), SameS p I0 I → BI σ dn Qs j c → SQr σ N p I Qs → Qs[j]? = some t → ∀ f, n < f → ∃ r I', lp (fun k (s1 : Int32 × Int32) => m_X4_spread_B5 p (nI s) k s1.1 s1.2) f (nI Qs.length, nI c) (I, z) = some (r, (I', z)) ∧ SpE σ dn N p I Qs j t r I' := by
  obtain ⟨hN, hN0, hS, hb, hstep, hmat⟩ := id hC
  obtain ⟨z0, ⟨r0, r1, r2, r3, r4⟩, -, -, ⟨s11, s12, s13, -, -⟩, -⟩ := id hz
  intro n
  induction n with
  | zero =>
    intro c hc Qs I hI hB hQ ht f hf
    obtain ⟨g, rfl⟩ : ∃ g, f = g + 1 := ⟨f - 1, by omega⟩
    refine ⟨nI Qs.length, I, ?_, FrS.refl p I, Or.inr ⟨[], ?_, ?_, ?_, rfl, by simp⟩⟩
    · rw [lp_s]
      unfold m_X4_spread_B5
      rw [if_pos (show (8 : Int32) ≤ nI c from nI_le (a := 8) (by omega) (by omega))]
      rfl
    · rw [List.append_nil, ← show c = 8 by omega]; exact hB
    · rw [List.append_nil]; exact hQ
    · rw [List.append_nil]
  | succ n ih =>
    intro c hc Qs I hI hB hQ ht f hf
    obtain ⟨g, rfl⟩ : ∃ g, f = g + 1 := ⟨f - 1, by omega⟩
    have htm := List.mem_of_getElem? ht
    have t8 := (hB.2.1 t htm).1
    have hsN := hb t s t8 hst
    have ih := fun Qs I a b c' d => ih (c + 1) (by omega) Qs I a b c' d g (by omega)
    rw [lp_s]
    generalize lp (fun k (s1 : Int32 × Int32) => m_X4_spread_B5 p (nI s) k s1.1 s1.2) g = kk at ih
    show ∃ r I', m_X4_spread_B5 p (nI s) kk (nI Qs.length) (nI c) (I, z) = some (r, (I', z)) ∧ _
    have hcall := hstep z I hz hI t s c t8 hst (by omega)
    unfold m_X4_spread_B5 m_X4_spread_J81
    rw [if_neg (show ¬ (8 : Int32) ≤ nI c from nI_ge (b := 8) (by omega) (by omega)), mb_vc z0, mb_call hcall]
    have skip : (σ (c :: t) = none ∨ ∃ u ∈ Qs, σ u = σ (c :: t)) → ∃ r I', kk (nI Qs.length, nI c + 1) (I, z) = some (r, (I', z)) ∧ SpE σ dn N p I Qs j t r I' := fun h => by
      obtain ⟨r, I', e, hE⟩ := ih Qs I hI (BI_skip hB ht h) hQ ht
      exact ⟨r, I', by rw [nI_1]; exact e, hE⟩
    cases hs : σ (c :: t) with
    | none =>
      rw [show encO none = -1 from rfl, if_pos rfl]
      exact skip (Or.inl hs)
    | some s' =>
      have hu8 : ok8 (c :: t) := ok8_cons.mpr ⟨by omega, t8⟩
      have hs'N := hb _ s' hu8 hs
      rw [show encO (some s') = nI s' from rfl, if_neg (nI_nm1 (by omega)), mb_gR z0 r3, mb_aI s12 (show s' < 3968 by omega) (by omega)]
      dsimp only
      by_cases h0 : I (p + 12) s' = 0
      · have hnew := hQ.2.1 s' hs'N h0
        have hlen := BI_len1 hb hB hu8 hs hnew
        rw [if_pos h0, mb_gR z0 r3, mb_tI s12 (show s' < 3968 by omega) (by omega), mb_gR z0 r4, mb_tI (w := (u2 I (p + 12) s' (1 + nI s * 8 + nI c), z)) s13 (show Qs.length < 3968 by omega) (by omega)]
        dsimp only
        rw [show (1 : Int32) + nI s * 8 + nI c = nI (1 + 8 * s + c) by
          rw [show (8 : Int32) = nI 8 from rfl, show (1 : Int32) = nI 1 from rfl, pk_mul, nI_add, nI_add, Nat.mul_comm]]
        obtain ⟨hQ', hcn⟩ := SQr_push (N := N) hB hQ htm hst hs hnew (by omega) (by omega)
        have hfr : FrS p I (u2 (u2 I (p + 12) s' (nI (1 + 8 * s + c))) (p + 13) Qs.length (nI s')) := ⟨fun k _ => by rw [u2_row (by omega), u2_row (by omega)], fun x a b d => by rw [u2_row d, u2_row b]⟩
        have hI' := hI.fr hfr
        rw [mb_vc z0, mb_call (hmat z _ hz hI' s' hs'N)]
        cases hd : dn s'
        · rw [if_pos (show bI false = 0 from rfl), nI_1, nI_1]
          obtain ⟨r, I', e, hF, hE⟩ := ih _ _ hI' (BI_push hB ht (by omega) hs hnew hd) hQ' (get_app ht)
          refine ⟨r, I', by rw [List.length_append] at e; exact e, hfr.trans hF, ?_⟩
          rcases hE with hE | ⟨ext, a1, a2, a3, a4, a5⟩
          · exact Or.inl hE
          · refine Or.inr ⟨(c :: t) :: ext, ?_, ?_, ?_, ?_, ?_⟩
            · rw [List.append_assoc] at a1; exact a1
            · rw [List.append_assoc] at a2; exact a2
            · rw [List.append_assoc] at a3; exact a3
            · rw [a4, u2_row (by omega), u2_row (by omega)]
            · intro u hu
              rcases List.mem_cons.mp hu with rfl | hu
              · rfl
              · exact a5 u hu
        · rw [if_neg (show ¬ bI true = 0 by decide), mb_sI z0]
          refine ⟨_, _, rfl, hfr.trans ⟨fun k hk => u2_ne (Or.inr hk), fun x a b d => u2_row a⟩, Or.inl ⟨c :: t, rfl, BI_found hS hB ht (by omega) hs hd hl, s', hs, hd, u2_eq _ _ _ _, ?_⟩⟩
          rw [u2_row (by omega)]
          exact hcn
      · rw [if_neg h0]
        obtain ⟨u, hu, e⟩ := hQ.2.2.1 s' hs'N h0
        exact skip (Or.inr ⟨u, hu, e.trans hs.symm⟩)
/-- one level -/
theorem level_ok (hz : SO z p) (hC : CSys p I0 σ dn N) {s0 : Nat} (hs0 : σ [] = some s0) (hd0 : dn s0 = false) {d E : Nat} (hd : d < 60) (k74 : Int32 × Int32 × Int32 → Mo Int32) : ∀ n j, j + n = E → ∀ (Qs : List (List Nat)) (I : Nat → Nat → Int32), SameS p I0 I → I p 12 = nI s0 → BI σ dn Qs j 0 → SQr σ N p I Qs → E ≤ Qs.length → (∀ (i : Nat) (t : List Nat), Qs[i]? = some t → (j ≤ i → i < E → t.length = d) ∧ (E ≤ i → t.length = d + 1) ∧ (i < j → t.length ≤ d)) → ∀ f, n < f → ∃ I', FrS p I I' ∧ ((∃ u, u.length = d + 1 ∧ Fnd σ dn p I' u ∧ lp (fun k (s1 : Int32 × Int32) => m_X4_fewestFrom_B89 p (nI (d + 1)) (nI E) k74 k s1.1 s1.2) f (nI j, nI Qs.length) (I, z) = some (nI (d + 1), (I', z))) ∨ ∃ Qs', BI σ dn Qs' E 0 ∧ SQr σ N p I' Qs' ∧ I' p 12 = nI s0 ∧ E ≤ Qs'.length ∧ (∀ (i : Nat) (t : List Nat), Qs'[i]? = some t → (i < E → t.length ≤ d) ∧ (E ≤ i → t.length = d + 1)) ∧ lp (fun k (s1 : Int32 × Int32) => m_X4_fewestFrom_B89 p (nI (d + 1)) (nI E) k74 k s1.1 s1.2) f (nI j, nI Qs.length) (I, z) = k74 (nI E, nI Qs'.length, nI (d + 2)) (I', z)) := by
  obtain ⟨hN, hN0, hS, hb, hstep, hmat⟩ := id hC
  obtain ⟨z0, ⟨r0, r1, r2, r3, r4⟩, -, -, ⟨s11, s12, s13, -, -⟩, -⟩ := id hz
  intro n
  induction n with
  | zero =>
    intro j hj Qs I hI h12 hB hQ hE hlv f hf
    obtain ⟨g, rfl⟩ : ∃ g, f = g + 1 := ⟨f - 1, by omega⟩
    have hlen := BI_len hb hB
    refine ⟨I, FrS.refl p I, Or.inr ⟨Qs, ?_, hQ, h12, hE, ?_, ?_⟩⟩
    · rw [← show j = E by omega]; exact hB
    · intro i t hi
      obtain ⟨a, b, c⟩ := hlv i t hi
      exact ⟨fun h => c (by omega), b⟩
    · rw [lp_s]
      generalize lp (fun k (s1 : Int32 × Int32) => m_X4_fewestFrom_B89 p (nI (d + 1)) (nI E) k74 k s1.1 s1.2) g = kk
      show m_X4_fewestFrom_B89 p (nI (d + 1)) (nI E) k74 kk (nI j) (nI Qs.length) (I, z) = _
      unfold m_X4_fewestFrom_B89
      rw [if_pos (nI_le (by omega) (by omega)), nI_1, show j = E by omega]
  | succ n ih =>
    intro j hj Qs I hI h12 hB hQ hE hlv f hf
    obtain ⟨g, rfl⟩ : ∃ g, f = g + 1 := ⟨f - 1, by omega⟩
    have hlen := BI_len hb hB
    have hjl : j < Qs.length := by omega
    have ht := List.getElem?_eq_getElem hjl
    generalize Qs[j] = t at ht
    have htd := (hlv j t ht).1 (Nat.le_refl j) (by omega)
    obtain ⟨s, hst, hq⟩ := hQ.1 j t ht
    obtain ⟨r, I1, e1, hF1, hE1⟩ := spread_ok hz hC hst (by omega) 8 0 (by omega) Qs I hI hB hQ ht FU (by unfold FU; omega)
    have hI1 := hI.fr hF1
    have ih := fun Qs I a b c' d' e' => ih (j + 1) (by omega) Qs I a b c' d' e'
    rw [lp_s]
    generalize hkk : lp (fun k (s1 : Int32 × Int32) => m_X4_fewestFrom_B89 p (nI (d + 1)) (nI E) k74 k s1.1 s1.2) g = kk
    have hgo : ∀ x y, m_X4_fewestFrom_B89 p (nI (d + 1)) (nI E) k74 kk x y = (fun k (s1 : Int32 × Int32) => m_X4_fewestFrom_B89 p (nI (d + 1)) (nI E) k74 k s1.1 s1.2) kk (x, y) := fun _ _ => rfl
    have hrun : ∀ b : Bool, m_X4_isMatch p (I1 p 12) (I1, z) = some (bI b, (I1, z)) → m_X4_fewestFrom_B89 p (nI (d + 1)) (nI E) k74 kk (nI j) (nI Qs.length) (I, z) = (if b then some (nI (d + 1), (I1, z)) else kk (nI (j + 1), r) (I1, z)) := by
      intro b hmb
      unfold m_X4_fewestFrom_B89
      rw [if_neg (nI_ge (by omega) (by omega)), mb_gR z0 r4, mb_aI s13 (show j < 3968 by omega) (by omega)]
      simp only [hq]
      rw [mb_vc z0, mb_call (show m_X4_spread p (nI s) (nI Qs.length) (I, z) = some (r, (I1, z)) from e1), mb_gI z0, mb_vc z0, mb_call hmb]
      cases b
      · rw [if_pos (show bI false = 0 from rfl), nI_1]; rfl
      · rw [if_neg (show ¬ bI true = 0 by decide)]; rfl
    rcases hE1 with ⟨u, hul, hFd⟩ | ⟨ext, a1, a2, a3, a4, a5⟩
    · obtain ⟨hBR, s', e2, e3, e4, e5⟩ := id hFd
      refine ⟨I1, hF1, Or.inl ⟨u, by omega, hFd, ?_⟩⟩
      have := hrun true (by rw [e4, ← e3]; exact hmat z I1 hz hI1 s' (hb u s' hBR.1 e2))
      exact this
    · have hb1 := BI_len hb a1
      have hBn := BI_next a1 (by rw [List.length_append]; omega)
      obtain ⟨I2, hF2, hR2⟩ := ih (Qs ++ ext) I1 hI1 (by rw [a4, h12]) hBn a2 (by rw [List.length_append]; omega) (by
        intro i u hi
        by_cases hil : i < Qs.length
        · rw [List.getElem?_append_left hil] at hi
          obtain ⟨b1, b2, b3⟩ := hlv i u hi
          refine ⟨fun h1 h2 => b1 (by omega) h2, b2, fun h => ?_⟩
          by_cases hij : i < j
          · exact b3 hij
          · exact Nat.le_of_eq (b1 (by omega) (by omega))
        · rw [List.getElem?_append_right (by omega)] at hi
          have := a5 u (List.mem_of_getElem? hi)
          exact ⟨fun _ h => by omega, fun _ => by omega, fun h => by omega⟩) g (by omega)
      rw [hkk, ← a3] at hR2
      have h0 := hrun false (by rw [a4, h12, ← hd0]; exact hmat z I1 hz hI1 s0 (hb [] s0 ok8_nil hs0))
      refine ⟨I2, hF1.trans hF2, ?_⟩
      rcases hR2 with ⟨u, b1, b2, b3⟩ | ⟨Qs', b1, b2, b3, b4, b5, b6⟩
      · exact Or.inl ⟨u, b1, b2, h0.trans b3⟩
      · exact Or.inr ⟨Qs', b1, b2, b3, b4, b5, h0.trans b6⟩
def resN : Option (List Nat) → Int32
  | none => -9
  | some t => nI t.length
def FndO (σ : List Nat → Option Nat) (dn : Nat → Bool) (p : Nat) (I : Nat → Nat → Int32) (r : Option (List Nat)) : Prop := match r with
  | none => BR (acc σ dn) none
  | some u => Fnd σ dn p I u
theorem levels_ok (hz : SO z p) (hC : CSys p I0 σ dn N) {s0 : Nat} (hs0 : σ [] = some s0) (hd0 : dn s0 = false) : ∀ n d, d + n = 60 → ∀ (j : Nat) (Qs : List (List Nat)) (I : Nat → Nat → Int32), SameS p I0 I → I p 12 = nI s0 → BI σ dn Qs j 0 → SQr σ N p I Qs → j ≤ Qs.length → (∀ (i : Nat) (t : List Nat), Qs[i]? = some t → (i < j → t.length < d) ∧ (j ≤ i → t.length = d)) → ∀ f, n < f → ∃ I' r, FrS p I I' ∧ FndO σ dn p I' r ∧ lp (fun k (s1 : Int32 × Int32 × Int32) => m_X4_fewestFrom_B74 p k s1.1 s1.2.1 s1.2.2) f (nI j, nI Qs.length, nI (d + 1)) (I, z) = some (resN r, (I', z)) := by
  obtain ⟨hN, hN0, hS, hb, hstep, hmat⟩ := id hC
  intro n
  induction n with
  | zero =>
    intro d hd j Qs I hI h12 hB hQ hj hlv f hf
    obtain ⟨g, rfl⟩ : ∃ g, f = g + 1 := ⟨f - 1, by omega⟩
    refine ⟨I, none, FrS.refl p I, BI_none hS hB (fun i t hi hl => ?_), ?_⟩
    · obtain ⟨a, b⟩ := hlv i t hi
      by_cases h : i < j
      · exact h
      · have := b (by omega); omega
    · rw [lp_s]
      unfold m_X4_fewestFrom_B74
      rw [if_pos (show (60 : Int32) < nI (d + 1) from nI_lt (a := 60) (by omega) (by omega))]
      rfl
  | succ n ih =>
    intro d hd j Qs I hI h12 hB hQ hj hlv f hf
    obtain ⟨g, rfl⟩ : ∃ g, f = g + 1 := ⟨f - 1, by omega⟩
    have hlen := BI_len hb hB
    rw [lp_s]
    generalize hkk : lp (fun k (s1 : Int32 × Int32 × Int32) => m_X4_fewestFrom_B74 p k s1.1 s1.2.1 s1.2.2) g = kk
    show ∃ I' r, FrS p I I' ∧ FndO σ dn p I' r ∧ m_X4_fewestFrom_B74 p kk (nI j) (nI Qs.length) (nI (d + 1)) (I, z) = _
    unfold m_X4_fewestFrom_B74
    rw [if_neg (show ¬ (60 : Int32) < nI (d + 1) from nI_nlt (b := d + 1) (a := 60) (by omega) (by omega))]
    by_cases hex : Qs.length ≤ j
    · rw [if_pos (nI_le hex (by omega))]
      exact ⟨I, none, FrS.refl p I, BI_none hS hB (fun i t hi _ => by have := (List.getElem?_eq_some_iff.mp hi).1; omega), rfl⟩
    · rw [if_neg (nI_ge (by omega) (by omega))]
      obtain ⟨I1, hF1, hR1⟩ := level_ok hz hC hs0 hd0 (d := d) (E := Qs.length) (by omega) kk (Qs.length - j) j (by omega) Qs I hI h12 hB hQ (Nat.le_refl _) (by
        intro i t hi
        obtain ⟨a, b⟩ := hlv i t hi
        have hil := (List.getElem?_eq_some_iff.mp hi).1
        exact ⟨fun h _ => b h, fun h => by omega, fun h => Nat.le_of_lt (a h)⟩) FU (by unfold FU; omega)
      rcases hR1 with ⟨u, b1, b2, b3⟩ | ⟨Qs', b1, b2, b3, b4, b5, b6⟩
      · exact ⟨I1, some u, hF1, b2, by rw [b3]; show _ = some (nI u.length, _); rw [b1]⟩
      · obtain ⟨I2, r, hF2, hR2, e2⟩ := ih (d + 1) (by omega) Qs.length Qs' I1 (hI.fr hF1) b3 b1 b2 b4 (by
          intro i t hi
          obtain ⟨a, b⟩ := b5 i t hi
          exact ⟨fun h => by have := a h; omega, b⟩) g (by omega)
        rw [hkk] at e2
        exact ⟨I2, r, hF1.trans hF2, hR2, by rw [b6]; exact e2⟩
theorem fewest_ok (hz : SO z p) (hC : CSys p I0 σ dn N) {s0 : Nat} (hs0 : σ [] = some s0) {I : Nat → Nat → Int32} (hI : SameS p I0 I) : ∃ I' r, FrS p I I' ∧ FndO σ dn p I' r ∧ m_X4_fewestFrom p (nI s0) (I, z) = some (resN r, (I', z)) := by
  obtain ⟨hN, hN0, hS, hb, hstep, hmat⟩ := id hC
  obtain ⟨z0, ⟨r0, r1, r2, r3, r4⟩, -, -, ⟨s11, s12, s13, -, -⟩, -⟩ := id hz
  have hsN := hb [] s0 ok8_nil hs0
  have h11 : I p 11 = nI N := (hI.1 11 (by omega) (by omega)).trans hN0
  generalize hIz : uA I (p + 12) (fun j => if j < N then 0 else I (p + 12) j) = Iz
  generalize hI1 : u2 (u2 (u2 Iz (p + 12) s0 (-1)) (p + 13) 0 (nI s0)) p 12 (nI s0) = I1
  have hF1 : FrS p I I1 := by
    refine ⟨fun k hk => ?_, fun x a b c => ?_⟩
    · rw [← hI1, u2_ne (Or.inr hk), u2_row (by omega), u2_row (by omega), ← hIz, uA_ne (by omega)]
    · rw [← hI1, u2_row a, u2_row c, u2_row b, ← hIz, uA_ne b]
  have hIs1 := hI.fr hF1
  have r12 : ∀ s, s < N → I1 (p + 12) s = if s = s0 then -1 else 0 := by
    intro s hs
    rw [← hI1, u2_row (by omega), u2_row (by omega)]
    by_cases h : s = s0
    · rw [h, u2_eq, if_pos rfl]
    · rw [u2_ne (Or.inr h), if_neg h, ← hIz, uA_eq, if_pos hs]
  have hend : ∀ k : Int32 → Mo Int32, m_X4_fewestFrom_B17 p (nI s0) k (nI N) (Iz, z) = (if dn s0 then mp 0 else lp (fun k (s1 : Int32 × Int32 × Int32) => m_X4_fewestFrom_B74 p k s1.1 s1.2.1 s1.2.2) FU (0, 1, 1)) (I1, z) := by
    intro k
    have hz11 : Iz p 11 = nI N := by rw [← hIz, uA_ne (by omega)]; exact h11
    unfold m_X4_fewestFrom_B17
    rw [mb_gI z0]
    simp only [hz11]
    rw [if_pos (nI_le (Nat.le_refl _) (by omega)), mb_gR z0 r3, mb_tI (w := (Iz, z)) s12 (show s0 < 3968 by omega) (by omega), mb_gR z0 r4, show tI (p + 13) 0 (nI s0) = tI (p + 13) (nI 0) (nI s0) from rfl, mb_tI (w := (u2 Iz (p + 12) s0 (-1), z)) s13 (show 0 < 3968 by omega) (by omega), mb_sI z0]
    dsimp only
    rw [hI1, mb_vc z0, mb_call (hmat z I1 hz hIs1 s0 hsN)]
    cases dn s0
    · rw [if_pos (show bI false = 0 from rfl), if_neg (show ¬ false = true by decide)]
    · rw [if_neg (show ¬ bI true = 0 by decide), if_pos (show true = true from rfl)]
  have hrun : m_X4_fewestFrom p (nI s0) (I, z) = (if dn s0 then mp 0 else lp (fun k (s1 : Int32 × Int32 × Int32) => m_X4_fewestFrom_B74 p k s1.1 s1.2.1 s1.2.2) FU (0, 1, 1)) (I1, z) := by
    unfold m_X4_fewestFrom
    rw [if_neg (nI_pos (by omega)), mb_gI z0]
    simp only [h11]
    rw [if_pos (nI_lt hsN (by omega))]
    have key := lp_FU (F := fun k s => m_X4_fewestFrom_B17 p (nI s0) k s) (fun i => nI i) (fun i => (uA I (p + 12) (fun j => if j < i then 0 else I (p + 12) j), z)) (X := (if dn s0 then mp 0 else lp (fun k (s1 : Int32 × Int32 × Int32) => m_X4_fewestFrom_B74 p k s1.1 s1.2.1 s1.2.2) FU (0, 1, 1)) (I1, z)) N (by omega) (fun i hi k => ?_) (fun k => ?_)
    · rw [show (uA I (p + 12) (fun j => if j < 0 then 0 else I (p + 12) j)) = I by rw [show (fun j => if j < 0 then 0 else I (p + 12) j) = I (p + 12) from funext fun j => if_neg (by omega)]; exact uA_self I (p + 12)] at key
      exact key
    · show m_X4_fewestFrom_B17 p (nI s0) k (nI i) _ = _
      have hz11 : uA I (p + 12) (fun j => if j < i then 0 else I (p + 12) j) p 11 = nI N := by rw [uA_ne (by omega)]; exact h11
      unfold m_X4_fewestFrom_B17
      rw [mb_gI z0]
      simp only [hz11]
      rw [if_neg (nI_ge hi (by omega)), mb_gR z0 r3, mb_tI s12 (show i < 3968 by omega) (by omega), nI_1]
      simp only [u2_uA2]
      congr 2
      congr 1
      funext j
      unfold va_up
      dsimp only
      by_cases hj : j = i
      · rw [if_pos hj, if_pos (by omega)]
      · rw [if_neg hj]
        by_cases h2 : j < i
        · rw [if_pos h2, if_pos (by omega)]
        · rw [if_neg h2, if_neg (by omega)]
    · show m_X4_fewestFrom_B17 p (nI s0) k (nI N) _ = _
      rw [hIz]
      exact hend k
  rw [hrun]
  cases hd0 : dn s0
  · rw [if_neg (show ¬ false = true by decide)]
    obtain ⟨I2, r, hF2, hR, e⟩ := levels_ok hz hC hs0 hd0 60 0 (by omega) 0 [[]] I1 hIs1 (by rw [← hI1, u2_eq]) (BI_init hs0 hd0) (by
      refine ⟨?_, ?_, ?_, ?_⟩
      · intro i t hi
        have h1 : i < 1 := (List.getElem?_eq_some_iff.mp hi).1
        rw [show i = 0 by omega] at hi ⊢
        rw [← Option.some.inj hi]
        exact ⟨s0, hs0, by rw [← hI1, u2_row (by omega), u2_eq]⟩
      · intro s hs h0 t ht
        rw [List.mem_singleton.mp ht, hs0]
        intro e
        rw [r12 s hs, if_pos (Option.some.inj e).symm] at h0
        exact absurd h0 (by decide)
      · intro s hs h0
        rw [r12 s hs] at h0
        by_cases h : s = s0
        · exact ⟨[], by simp, by rw [hs0, h]⟩
        · rw [if_neg h] at h0; exact absurd rfl h0
      · intro t ht
        rw [List.mem_singleton.mp ht]
        trivial) (by simp) (by
      intro i t hi
      have h1 : i < 1 := (List.getElem?_eq_some_iff.mp hi).1
      rw [show i = 0 by omega] at hi
      rw [← Option.some.inj hi]
      exact ⟨fun h => by omega, fun _ => rfl⟩) FU (by unfold FU; omega)
    exact ⟨I2, r, hF1.trans hF2, hR, e⟩
  · rw [if_pos (show true = true from rfl)]
    refine ⟨I1, some [], hF1, ⟨BR_zero hs0 hd0, s0, hs0, hd0, by rw [← hI1, u2_eq], trivial⟩, rfl⟩
end CB
