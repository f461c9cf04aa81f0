/-! ===== rows of letters (latest first) and their order; the search by levels, pure ===== -/
def rkT : List Nat → Nat
  | [] => 0
  | c :: t => 8 * rkT t + c + 1
def ok8 (t : List Nat) : Prop := ∀ c ∈ t, c < 8
theorem ok8_nil : ok8 [] := by intro c h; simp at h
theorem ok8_cons {c : Nat} {t : List Nat} : ok8 (c :: t) ↔ c < 8 ∧ ok8 t := by
  unfold ok8
  constructor
  · intro h
    exact ⟨h c List.mem_cons_self, fun d hd => h d (List.mem_cons_of_mem _ hd)⟩
  · rintro ⟨h1, h2⟩ d hd
    rcases List.mem_cons.mp hd with rfl | hd
    · exact h1
    · exact h2 d hd
theorem rkT_inj : ∀ {t u : List Nat}, ok8 t → ok8 u → rkT t = rkT u → t = u
  | [], [], _, _, _ => rfl
  | [], d :: u, _, _, h => by unfold rkT at h; omega
  | c :: t, [], _, _, h => by unfold rkT at h; omega
  | c :: t, d :: u, h1, h2, h => by
    obtain ⟨a1, a2⟩ := ok8_cons.mp h1
    obtain ⟨b1, b2⟩ := ok8_cons.mp h2
    unfold rkT at h
    have e : rkT t = rkT u := by omega
    rw [rkT_inj a2 b2 e, show c = d by omega]
theorem rkT_len : ∀ {t u : List Nat}, ok8 t → ok8 u → rkT t ≤ rkT u → t.length ≤ u.length
  | [], u, _, _, _ => Nat.zero_le _
  | c :: t, [], _, _, h => by unfold rkT at h; omega
  | c :: t, d :: u, h1, h2, h => by
    obtain ⟨a1, a2⟩ := ok8_cons.mp h1
    obtain ⟨b1, b2⟩ := ok8_cons.mp h2
    unfold rkT at h
    have := rkT_len a2 b2 (show rkT t ≤ rkT u by omega)
    simp
    omega
/-- a machine that reads rows of letters -/
def Sys (σ : List Nat → Option Nat) : Prop := (∀ t u c, ok8 t → ok8 u → c < 8 → σ t = σ u → σ (c :: t) = σ (c :: u)) ∧ ∀ t c, σ t = none → σ (c :: t) = none
/-- what the search by levels has met: Qs; up to the letter c behind Qs[j] -/
def BI (σ : List Nat → Option Nat) (dn : Nat → Bool) (Qs : List (List Nat)) (j c : Nat) : Prop :=
  Qs[0]? = some [] ∧ (∀ t ∈ Qs, ok8 t ∧ ∃ s, σ t = some s ∧ dn s = false) ∧ Qs.Pairwise (fun t u => rkT t < rkT u ∧ σ t ≠ σ u) ∧
  (∀ (i : Nat) (t : List Nat) (d : Nat), Qs[i]? = some t → d < 8 → (i < j ∨ (i = j ∧ d < c)) → σ (d :: t) = none ∨ ∃ u ∈ Qs, σ u = σ (d :: t) ∧ rkT u ≤ rkT (d :: t)) ∧
  (∀ u ∈ Qs, u = [] ∨ ∃ d t, u = d :: t ∧ t ∈ Qs) ∧
  (∀ u ∈ Qs, ∀ t, Qs[j]? = some t → rkT u < 8 * rkT t + c + 1)
theorem BI_init {σ : List Nat → Option Nat} {dn : Nat → Bool} {s : Nat} (h : σ [] = some s) (hd : dn s = false) : BI σ dn [[]] 0 0 := by
  refine ⟨rfl, ?_, by simp, ?_, ?_, ?_⟩
  · intro t ht
    rw [List.mem_singleton.mp ht]
    exact ⟨ok8_nil, s, h, hd⟩
  · intro i t d hi hd8 hc
    omega
  · intro u hu
    exact Or.inl (List.mem_singleton.mp hu)
  · intro u hu t ht
    rw [List.mem_singleton.mp hu]
    show 0 < 8 * rkT t + 0 + 1
    omega
theorem BI_skip {σ : List Nat → Option Nat} {dn : Nat → Bool} {Qs : List (List Nat)} {j c : Nat} {t : List Nat} (h : BI σ dn Qs j c) (ht : Qs[j]? = some t) (hs : σ (c :: t) = none ∨ ∃ u ∈ Qs, σ u = σ (c :: t)) : BI σ dn Qs j (c + 1) := by
  obtain ⟨h0, h1, h2, h3, h4, h5⟩ := h
  refine ⟨h0, h1, h2, ?_, h4, ?_⟩
  · intro i t' d hi hd hc
    by_cases hlt : i < j ∨ (i = j ∧ d < c)
    · exact h3 i t' d hi hd hlt
    · have hij : i = j := by omega
      have hdc : d = c := by omega
      subst hij; subst hdc
      have : t' = t := Option.some.inj (hi.symm.trans ht)
      subst this
      rcases hs with hs | ⟨u, hu, e⟩
      · exact Or.inl hs
      · exact Or.inr ⟨u, hu, e, Nat.le_of_lt (h5 u hu t' ht)⟩
  · intro u hu t' ht'
    have := h5 u hu t' ht'
    omega
theorem BI_push {σ : List Nat → Option Nat} {dn : Nat → Bool} {Qs : List (List Nat)} {j c s : Nat} {t : List Nat} (h : BI σ dn Qs j c) (ht : Qs[j]? = some t) (hc : c < 8) (hs : σ (c :: t) = some s) (hnew : ∀ u ∈ Qs, σ u ≠ some s) (hd : dn s = false) : BI σ dn (Qs ++ [c :: t]) j (c + 1) := by
  obtain ⟨h0, h1, h2, h3, h4, h5⟩ := h
  have htm := List.mem_of_getElem? ht
  have hjl := (List.getElem?_eq_some_iff.mp ht).1
  refine ⟨?_, ?_, ?_, ?_, ?_, ?_⟩
  · rw [List.getElem?_append_left (by omega)]; exact h0
  · intro u hu
    rcases List.mem_append.mp hu with hu | hu
    · exact h1 u hu
    · rw [List.mem_singleton.mp hu]
      exact ⟨ok8_cons.mpr ⟨hc, (h1 t htm).1⟩, s, hs, hd⟩
  · refine List.pairwise_append.mpr ⟨h2, by simp, ?_⟩
    intro a ha b hb
    rw [List.mem_singleton.mp hb]
    exact ⟨h5 a ha t ht, fun e => hnew a ha (e.trans hs)⟩
  · intro i t' d hi hd8 hlt
    have hi' : Qs[i]? = some t' := by
      rw [List.getElem?_append_left (by omega)] at hi; exact hi
    by_cases hl : i < j ∨ (i = j ∧ d < c)
    · rcases h3 i t' d hi' hd8 hl with e | ⟨u, hu, e⟩
      · exact Or.inl e
      · exact Or.inr ⟨u, List.mem_append_left _ hu, e⟩
    · have hij : i = j := by omega
      have hdc : d = c := by omega
      subst hij; subst hdc
      have : t' = t := Option.some.inj (hi'.symm.trans ht)
      subst this
      exact Or.inr ⟨d :: t', by simp, rfl, Nat.le_refl _⟩
  · intro u hu
    rcases List.mem_append.mp hu with hu | hu
    · rcases h4 u hu with e | ⟨d, t', e, hm⟩
      · exact Or.inl e
      · exact Or.inr ⟨d, t', e, List.mem_append_left _ hm⟩
    · exact Or.inr ⟨c, t, List.mem_singleton.mp hu, List.mem_append_left _ htm⟩
  · intro u hu t' ht'
    rw [List.getElem?_append_left hjl] at ht'
    have : t' = t := Option.some.inj (ht'.symm.trans ht)
    subst this
    rcases List.mem_append.mp hu with hu | hu
    · have := h5 u hu t' ht
      omega
    · rw [List.mem_singleton.mp hu]
      show 8 * rkT t' + c + 1 < _
      omega
theorem BI_lt {σ : List Nat → Option Nat} {dn : Nat → Bool} {Qs : List (List Nat)} {j c : Nat} (h : BI σ dn Qs j c) {i k : Nat} {t u : List Nat} (hi : Qs[i]? = some t) (hk : Qs[k]? = some u) : rkT t < rkT u ↔ i < k := by
  obtain ⟨-, -, h2, -⟩ := h
  obtain ⟨a1, a2⟩ := List.getElem?_eq_some_iff.mp hi
  obtain ⟨b1, b2⟩ := List.getElem?_eq_some_iff.mp hk
  rcases Nat.lt_trichotomy i k with hlt | heq | hgt
  · have := (List.pairwise_iff_getElem.mp h2 i k a1 b1 hlt).1
    rw [a2, b2] at this
    exact ⟨fun _ => hlt, fun _ => this⟩
  · subst heq
    have : t = u := Option.some.inj (hi.symm.trans hk)
    subst this
    exact ⟨fun h => absurd h (by omega), fun h => absurd h (by omega)⟩
  · have := (List.pairwise_iff_getElem.mp h2 k i b1 a1 hgt).1
    rw [a2, b2] at this
    exact ⟨fun h => by omega, fun h => by omega⟩
theorem BI_next {σ : List Nat → Option Nat} {dn : Nat → Bool} {Qs : List (List Nat)} {j : Nat} (h : BI σ dn Qs j 8) (hj : j < Qs.length) : BI σ dn Qs (j + 1) 0 := by
  obtain ⟨h0, h1, h2, h3, h4, h5⟩ := id h
  refine ⟨h0, h1, h2, ?_, h4, ?_⟩
  · intro i t d hi hd hlt
    exact h3 i t d hi hd (by omega)
  · intro u hu t ht
    have hj2 := List.getElem?_eq_getElem hj
    have a := h5 u hu _ hj2
    have b := (BI_lt h hj2 ht).mpr (by omega)
    omega
theorem BI_idx {σ : List Nat → Option Nat} {dn : Nat → Bool} {Qs : List (List Nat)} {j c : Nat} (h : BI σ dn Qs j c) {i k : Nat} {t u : List Nat} (hi : Qs[i]? = some t) (hk : Qs[k]? = some u) (e : rkT t = rkT u) : i = k := by
  rcases Nat.lt_trichotomy i k with hlt | heq | hgt
  · have := (BI_lt h hi hk).mpr hlt; omega
  · exact heq
  · have := (BI_lt h hk hi).mpr hgt; omega
/-- all that comes ahead has been met -/
theorem BI_cover {σ : List Nat → Option Nat} (hS : Sys σ) {dn : Nat → Bool} {Qs : List (List Nat)} {j c : Nat} {t : List Nat} (h : BI σ dn Qs j c) (ht : Qs[j]? = some t) (hc : c < 8) : ∀ u, ok8 u → rkT u < rkT (c :: t) → σ u = none ∨ ∃ v ∈ Qs, σ v = σ u ∧ rkT v ≤ rkT u := by
  obtain ⟨h0, h1, h2, h3, h4, h5⟩ := id h
  intro u
  induction u with
  | nil => intro _ _; exact Or.inr ⟨[], List.mem_of_getElem? h0, rfl, Nat.le_refl _⟩
  | cons d u ih =>
    intro hok hlt
    obtain ⟨d8, u8⟩ := ok8_cons.mp hok
    have hlt' : 8 * rkT u + d + 1 < 8 * rkT t + c + 1 := hlt
    rcases ih u8 (by show rkT u < 8 * rkT t + c + 1; omega) with e | ⟨v, hv, e, hr⟩
    · exact Or.inl (hS.2 u d e)
    · have hstep := hS.1 v u d (h1 v hv).1 u8 d8 e
      obtain ⟨i, hi⟩ := List.getElem?_of_mem hv
      have hpos : i < j ∨ (i = j ∧ d < c) := by
        rcases Nat.lt_trichotomy i j with hlt2 | heq | hgt
        · exact Or.inl hlt2
        · subst heq
          have : v = t := Option.some.inj (hi.symm.trans ht)
          subst this
          exact Or.inr ⟨rfl, by omega⟩
        · have := (BI_lt h ht hi).mpr hgt
          omega
      rcases h3 i v d hi d8 hpos with e2 | ⟨x, hx, e2, hr2⟩
      · exact Or.inl (by rw [← hstep]; exact e2)
      · refine Or.inr ⟨x, hx, by rw [e2, hstep], ?_⟩
        have : rkT (d :: v) = 8 * rkT v + d + 1 := rfl
        show rkT x ≤ 8 * rkT u + d + 1
        omega
theorem BI_cover_all {σ : List Nat → Option Nat} (hS : Sys σ) {dn : Nat → Bool} {Qs : List (List Nat)} {j D : Nat} (h : BI σ dn Qs j 0) (hD : ∀ (i : Nat) (t : List Nat), Qs[i]? = some t → t.length < D → i < j) : ∀ u, ok8 u → u.length ≤ D → σ u = none ∨ ∃ v ∈ Qs, σ v = σ u ∧ rkT v ≤ rkT u := by
  obtain ⟨h0, h1, h2, h3, h4, h5⟩ := id h
  intro u
  induction u with
  | nil => intro _ _; exact Or.inr ⟨[], List.mem_of_getElem? h0, rfl, Nat.le_refl _⟩
  | cons d u ih =>
    intro hok hl
    obtain ⟨d8, u8⟩ := ok8_cons.mp hok
    have hl' : u.length + 1 ≤ D := hl
    rcases ih u8 (by omega) with e | ⟨v, hv, e, hr⟩
    · exact Or.inl (hS.2 u d e)
    · have hstep := hS.1 v u d (h1 v hv).1 u8 d8 e
      obtain ⟨i, hi⟩ := List.getElem?_of_mem hv
      have hvl := rkT_len (h1 v hv).1 u8 hr
      rcases h3 i v d hi d8 (Or.inl (hD i v hi (by omega))) with e2 | ⟨x, hx, e2, hr2⟩
      · exact Or.inl (by rw [← hstep]; exact e2)
      · refine Or.inr ⟨x, hx, by rw [e2, hstep], ?_⟩
        have : rkT (d :: v) = 8 * rkT v + d + 1 := rfl
        show rkT x ≤ 8 * rkT u + d + 1
        omega
def acc (σ : List Nat → Option Nat) (dn : Nat → Bool) (u : List Nat) : Bool := match σ u with
  | none => false
  | some s => dn s
/-- what a search answers: the first of the shortest rows that are taken, of at most 60 letters -/
def BR (L : List Nat → Bool) (r : Option (List Nat)) : Prop := match r with
  | none => ∀ u, ok8 u → u.length ≤ 60 → L u = false
  | some t => ok8 t ∧ t.length ≤ 60 ∧ L t = true ∧ ∀ u, ok8 u → L u = true → rkT t ≤ rkT u
theorem BR_same {L L' : List Nat → Bool} (hL : ∀ u, ok8 u → L u = L' u) {r r' : Option (List Nat)} (h : BR L r) (h' : BR L' r') : r = r' := by
  cases r with
  | none =>
    cases r' with
    | none => rfl
    | some t =>
      obtain ⟨a, b, c, -⟩ := h'
      have := h t a b
      rw [hL t a, c] at this
      cases this
  | some t =>
    obtain ⟨a, b, c, d⟩ := h
    cases r' with
    | none =>
      have := h' t a b
      rw [← hL t a, c] at this
      cases this
    | some t' =>
      obtain ⟨a', b', c', d'⟩ := h'
      have h1 := d t' a' (by rw [hL t' a', c'])
      have h2 := d' t a (by rw [← hL t a, c])
      rw [rkT_inj a a' (by omega)]
theorem BI_found {σ : List Nat → Option Nat} (hS : Sys σ) {dn : Nat → Bool} {Qs : List (List Nat)} {j c s : Nat} {t : List Nat} (h : BI σ dn Qs j c) (ht : Qs[j]? = some t) (hc : c < 8) (hs : σ (c :: t) = some s) (hd : dn s = true) (hl : t.length < 60) : BR (acc σ dn) (some (c :: t)) := by
  refine ⟨ok8_cons.mpr ⟨hc, (h.2.1 t (List.mem_of_getElem? ht)).1⟩, by simp; omega, by unfold acc; rw [hs]; exact hd, ?_⟩
  intro u hu hL
  by_cases hlt : rkT u < rkT (c :: t)
  · rcases BI_cover hS h ht hc u hu hlt with e | ⟨v, hv, e, -⟩
    · unfold acc at hL; rw [e] at hL; cases hL
    · obtain ⟨-, s', e1, e2⟩ := h.2.1 v hv
      unfold acc at hL
      rw [← e, e1] at hL
      dsimp only at hL
      rw [e2] at hL
      cases hL
  · omega
theorem BI_none {σ : List Nat → Option Nat} (hS : Sys σ) {dn : Nat → Bool} {Qs : List (List Nat)} {j : Nat} (h : BI σ dn Qs j 0) (hD : ∀ (i : Nat) (t : List Nat), Qs[i]? = some t → t.length < 60 → i < j) : BR (acc σ dn) none := by
  intro u hu hl
  rcases BI_cover_all hS h hD u hu hl with e | ⟨v, hv, e, -⟩
  · unfold acc; rw [e]
  · obtain ⟨-, s', e1, e2⟩ := h.2.1 v hv
    unfold acc
    rw [← e, e1]
    exact e2
theorem BR_zero {σ : List Nat → Option Nat} {dn : Nat → Bool} {s : Nat} (h : σ [] = some s) (hd : dn s = true) : BR (acc σ dn) (some []) := ⟨ok8_nil, by simp, by unfold acc; rw [h]; exact hd, fun u _ _ => Nat.zero_le _⟩
