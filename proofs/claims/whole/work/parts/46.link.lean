/-! ===== longest endings; bits of words ===== -/
def lsuf (ns : List (List Nat)) : List Nat → List Nat
  | [] => []
  | c :: t => if (c :: t) ∈ ns then c :: t else lsuf ns t
theorem lsuf_nil (ns : List (List Nat)) : lsuf ns [] = [] := rfl
theorem lsuf_of_mem {ns : List (List Nat)} {t : List Nat} (h : t ∈ ns) : lsuf ns t = t := by
  cases t with
  | nil => rfl
  | cons c t => unfold lsuf; rw [if_pos h]
theorem lsuf_not {ns : List (List Nat)} {c : Nat} {t : List Nat} (h : (c :: t) ∉ ns) : lsuf ns (c :: t) = lsuf ns t := by
  rw [lsuf, if_neg h]
theorem lsuf_mem {ns : List (List Nat)} (h0 : [] ∈ ns) : ∀ t, lsuf ns t ∈ ns
  | [] => h0
  | c :: t => by
    by_cases h : (c :: t) ∈ ns
    · rw [lsuf_of_mem h]; exact h
    · rw [lsuf_not h]; exact lsuf_mem h0 t
theorem lsuf_suffix (ns : List (List Nat)) : ∀ t, lsuf ns t <:+ t
  | [] => List.suffix_refl _
  | c :: t => by
    by_cases h : (c :: t) ∈ ns
    · rw [lsuf_of_mem h]; exact List.suffix_refl _
    · rw [lsuf_not h]; exact List.IsSuffix.trans (lsuf_suffix ns t) (List.suffix_cons c t)
theorem lsuf_max {ns : List (List Nat)} : ∀ {t s : List Nat}, s <:+ t → s ∈ ns → s <:+ lsuf ns t
  | [], s, h, _ => h
  | c :: t, s, h, hs => by
    rcases List.suffix_cons_iff.mp h with rfl | h
    · rw [lsuf_of_mem hs]; exact List.suffix_refl _
    · by_cases hc : (c :: t) ∈ ns
      · rw [lsuf_of_mem hc]; exact List.IsSuffix.trans h (List.suffix_cons c t)
      · rw [lsuf_not hc]; exact lsuf_max h hs
theorem lsuf_snoc {ns : List (List Nat)} (hp : ∀ u c, u ++ [c] ∈ ns → u ∈ ns) (c : Nat) : ∀ t, lsuf ns (t ++ [c]) = lsuf ns (lsuf ns t ++ [c])
  | [] => rfl
  | a :: t => by
    by_cases h : (a :: t) ∈ ns
    · rw [lsuf_of_mem h]
    · rw [lsuf_not h, ← lsuf_snoc hp c t]
      show lsuf ns (a :: (t ++ [c])) = _
      exact lsuf_not (t := t ++ [c]) (fun hm => h (hp (a :: t) c hm))
def bitsL (f : List Nat → Bool) : List (List Nat) → Nat
  | [] => 0
  | v :: W => (if f v then 1 else 0) + 2 * bitsL f W
theorem bitsL_bit (f : List Nat → Bool) : ∀ (W : List (List Nat)) (i : Nat), (bitsL f W).testBit i = (match W[i]? with
    | none => false
    | some v => f v)
  | [], i => by simp [bitsL]
  | v :: W, 0 => by
    show ((if f v then 1 else 0) + 2 * bitsL f W).testBit 0 = f v
    rw [Nat.testBit_zero]
    cases f v <;> simp <;> omega
  | v :: W, i + 1 => by
    show ((if f v then 1 else 0) + 2 * bitsL f W).testBit (i + 1) = _
    rw [Nat.testBit_succ, show ((if f v then 1 else 0) + 2 * bitsL f W) / 2 = bitsL f W by cases f v <;> simp <;> omega, bitsL_bit f W i]
    rfl
theorem bitsL_lt (f : List Nat → Bool) : ∀ W : List (List Nat), bitsL f W < 2 ^ W.length
  | [] => by simp [bitsL]
  | v :: W => by
    have := bitsL_lt f W
    show (if f v then 1 else 0) + 2 * bitsL f W < 2 ^ (W.length + 1)
    rw [Nat.pow_succ]
    split <;> omega
/-- which words are endings, as bits -/
def eb (W : List (List Nat)) (u : List Nat) : Nat := bitsL (fun v => v.isSuffixOf u) W
/-- the nodes of some words -/
def NS (W ns : List (List Nat)) : Prop := ns.Pairwise nlt ∧ ∀ u, u ∈ ns ↔ u = [] ∨ ∃ v ∈ W, u <+: v
theorem NS.pre {W ns : List (List Nat)} (h : NS W ns) : ∀ u c, u ++ [c] ∈ ns → u ∈ ns := by
  intro u c hu
  rcases (h.2 _).mp hu with h1 | ⟨v, h1, h2⟩
  · simp at h1
  · exact (h.2 _).mpr (Or.inr ⟨v, h1, prefix_take_snoc h2⟩)
theorem NS.nil {W ns : List (List Nat)} (h : NS W ns) : [] ∈ ns := (h.2 _).mpr (Or.inl rfl)
theorem NS.word {W ns : List (List Nat)} (h : NS W ns) {v : List Nat} (hv : v ∈ W) : v ∈ ns := (h.2 _).mpr (Or.inr ⟨v, hv, List.prefix_refl _⟩)
theorem nlt_irr (u : List Nat) : ¬ nlt u u := by unfold nlt; omega
theorem NS.nodup {W ns : List (List Nat)} (h : NS W ns) : ns.Nodup := by
  refine List.Pairwise.imp (fun {a b} hab => ?_) h.1
  rintro rfl
  exact nlt_irr _ hab
theorem NS.lt {W ns : List (List Nat)} (h : NS W ns) {i j : Nat} {u v : List Nat} (hi : ns[i]? = some u) (hj : ns[j]? = some v) (hl : u.length < v.length) : i < j := by
  obtain ⟨h1, h2⟩ := List.getElem?_eq_some_iff.mp hi
  obtain ⟨h3, h4⟩ := List.getElem?_eq_some_iff.mp hj
  rcases Nat.lt_trichotomy i j with hlt | heq | hgt
  · exact hlt
  · subst heq; rw [h2] at h4; subst h4; omega
  · have := List.pairwise_iff_getElem.mp h.1 j i h3 h1 hgt
    rw [h2, h4] at this
    unfold nlt at this
    omega
theorem NS.zero {W ns : List (List Nat)} (h : NS W ns) : ns[0]? = some [] := by
  obtain ⟨i, hi⟩ := List.getElem?_of_mem h.nil
  have hl := (List.getElem?_eq_some_iff.mp hi).1
  by_cases h0 : i = 0
  · rw [← h0]; exact hi
  · have hz := List.getElem?_eq_getElem (show 0 < ns.length by omega)
    by_cases hn : ns[0] = []
    · rw [hz, hn]
    · have := h.lt hi hz (List.length_pos_iff.mpr hn)
      omega
theorem eb_step {W ns : List (List Nat)} (hW : okL W) (hN : NS W ns) {a : Nat} {t : List Nat} {i : Nat} : ((eb W (a :: t)).testBit i = true) ↔ (W[i]? = some (a :: t)) ∨ (eb W (lsuf ns t)).testBit i = true := by
  unfold eb
  rw [bitsL_bit, bitsL_bit]
  cases hi : W[i]? with
  | none => simp
  | some v =>
    simp only [List.isSuffixOf_iff_suffix, Option.some.injEq]
    constructor
    · intro h
      rcases List.suffix_cons_iff.mp h with h | h
      · exact Or.inl h
      · exact Or.inr (lsuf_max h (hN.word (List.mem_of_getElem? hi)))
    · rintro (h | h)
      · rw [h]; exact List.suffix_refl _
      · exact List.IsSuffix.trans h (List.IsSuffix.trans (lsuf_suffix ns t) (List.suffix_cons a t))
theorem eb_nil {W : List (List Nat)} (hW : okL W) : eb W [] = 0 := by
  apply Nat.eq_of_testBit_eq
  intro i
  unfold eb
  rw [bitsL_bit, Nat.zero_testBit]
  cases hi : W[i]? with
  | none => rfl
  | some v =>
    have h1 := (hW.1 v (List.mem_of_getElem? hi)).1
    simp only [Bool.eq_false_iff, ne_eq, List.isSuffixOf_iff_suffix]
    intro h
    have := List.suffix_nil.mp h
    rw [this] at h1
    simp at h1
theorem eb_lt {W : List (List Nat)} (hl : W.length ≤ 16) (u : List Nat) : eb W u < 65536 := by
  have h1 := bitsL_lt (fun v => v.isSuffixOf u) W
  have h2 : 2 ^ W.length ≤ 2 ^ 16 := Nat.pow_le_pow_right (by decide) hl
  unfold eb
  omega
/-- the value of ends at a node, out of what stood there and the one to fall back to -/
theorem eb_or {W ns : List (List Nat)} (hW : okL W) (hN : NS W ns) {a : Nat} {t : List Nat} {x : Nat} (hx : (∃ i, W[i]? = some (a :: t) ∧ x = 2 ^ i) ∨ ((a :: t) ∉ W ∧ x = 0)) : x ||| eb W (lsuf ns t) = eb W (a :: t) := by
  apply Nat.eq_of_testBit_eq
  intro i
  rw [Nat.testBit_or]
  rw [Bool.eq_iff_iff]
  rw [eb_step hW hN, Bool.or_eq_true]
  have hb : (x.testBit i = true) ↔ W[i]? = some (a :: t) := by
    rcases hx with ⟨j, h1, rfl⟩ | ⟨h1, rfl⟩
    · rw [Nat.testBit_two_pow]
      simp only [decide_eq_true_eq]
      constructor
      · rintro rfl; exact h1
      · intro h; exact hW.idx h1 h
    · simp only [Nat.zero_testBit, Bool.false_eq_true, false_iff]
      intro h
      exact h1 (List.mem_of_getElem? h)
  rw [hb]
/-! ===== the links ===== -/
def LK (I : Nat → Nat → Int32) (p : Nat) (W ns : List (List Nat)) (n c e : Nat) : Prop :=
  (∀ (j : Nat) (v : List Nat) (d : Nat), ns[j]? = some (v ++ [d]) → ∀ k, ns[k]? = some v → (k < n ∨ (k = n ∧ d < c)) → ∃ f, ns[f]? = some (lsuf ns (v ++ [d]).tail) ∧ I (p + 4) j = nI f) ∧
  (∀ (j : Nat) (u : List Nat) (d : Nat), ns[j]? = some u → d < 8 → (j < n ∨ (j = n ∧ d < c)) → ∃ k, ns[k]? = some (lsuf ns (u ++ [d])) ∧ I (p + 6) (8 * j + d) = nI k) ∧
  (∀ (j : Nat) (u : List Nat) (d : Nat), ns[j]? = some u → d < 8 → (n < j ∨ (j = n ∧ c ≤ d)) → (∃ k, ns[k]? = some (u ++ [d]) ∧ I (p + 6) (8 * j + d) = nI k) ∨ ((u ++ [d]) ∉ ns ∧ I (p + 6) (8 * j + d) = 0)) ∧
  (∀ (j : Nat) (u : List Nat), ns[j]? = some u → j < e → I (p + 5) j = nI (eb W u)) ∧
  (∀ (j : Nat) (u : List Nat), ns[j]? = some u → e ≤ j → (∃ i, W[i]? = some u ∧ I (p + 5) j = nI (2 ^ i)) ∨ (u ∉ W ∧ I (p + 5) j = 0))
theorem link_letter {z : Zd} {I : Nat → Nat → Int32} {p nw : Nat} {W ns : List (List Nat)} {n c : Nat} {u : List Nat} (hz : AO z p nw) (hN : NS W ns) (hm : ns.length ≤ 1 + nw * 6) (hu : ns[n]? = some u) (hc : c < 8) (h8 : ∀ v ∈ ns, ∀ d ∈ v, d < 8) (hL : LK I p W ns n c (n + 1)) :
    ∃ I', (∀ k2 k : Int32 → Mo Unit, m_X0_link_B36 p (nI n) k2 k (nI c) (I, z) = k (nI (c + 1)) (I', z)) ∧ LK I' p W ns n (c + 1) (n + 1) ∧ ∀ x, x ≠ p + 4 → x ≠ p + 6 → I' x = I x := by
  obtain ⟨z0, ⟨r1, r2, r3, r4, r5, r6, r7⟩, ⟨s1, s2, s3, s4, s5, s6, s7⟩, hw⟩ := hz
  obtain ⟨l1, l2, l3, l4, l5⟩ := hL
  have hn := (List.getElem?_eq_some_iff.mp hu).1
  have hmul : ∀ j d, nI j * 8 + nI d = nI (8 * j + d) := fun j d => by rw [show (8 : Int32) = nI 8 from rfl, pk_mul, nI_add, Nat.mul_comm]
  have hfall : ∃ kf, ns[kf]? = some (if u = [] then [] else lsuf ns (u.tail ++ [c])) ∧ ∀ k2 k : Int32 → Mo Unit, m_X0_link_B36 p (nI n) k2 k (nI c) (I, z) = m_X0_link_J66 p (nI n) (nI c) (nI kf) k2 k (I, z) := by
    by_cases h0 : n = 0
    · subst h0
      rw [hN.zero] at hu
      cases hu
      refine ⟨0, hN.zero, fun k2 k => ?_⟩
      unfold m_X0_link_B36
      rw [if_neg (show ¬ (8 : Int32) ≤ nI c from nI_ge (b := 8) hc (by omega)), if_pos (show nI 0 = 0 from rfl)]
      rfl
    · have hune : u ≠ [] := by
        rintro rfl
        exact h0 (nodup_idx hN.nodup hu hN.zero)
      obtain ⟨v, d, rfl⟩ : ∃ v d, u = v ++ [d] := ⟨u.dropLast, u.getLast hune, (List.dropLast_concat_getLast hune).symm⟩
      obtain ⟨kp, hkp⟩ := List.getElem?_of_mem (hN.pre v d (List.mem_of_getElem? hu))
      have hkn : kp < n := hN.lt hkp hu (by simp)
      obtain ⟨f, f1, f2⟩ := l1 n v d hu kp hkp (Or.inl hkn)
      have hfl : (lsuf ns (v ++ [d]).tail).length < (v ++ [d]).length := by
        have := (lsuf_suffix ns (v ++ [d]).tail).length_le
        simp at this ⊢
        omega
      have hfn : f < n := hN.lt f1 hu hfl
      obtain ⟨k, k1, k2⟩ := l2 f _ c f1 hc (Or.inl hfn)
      rw [← lsuf_snoc hN.pre] at k1
      refine ⟨k, by rw [if_neg hune]; exact k1, fun q2 q => ?_⟩
      unfold m_X0_link_B36
      rw [if_neg (show ¬ (8 : Int32) ≤ nI c from nI_ge (b := 8) hc (by omega)), if_neg (nI_ne0 (by omega) (by omega)), mb_gR z0 r6, mb_gR z0 r4, mb_aI s4 (show n < 1 + nw * 6 by omega) (by omega)]
      simp only [f2, hmul]
      rw [mb_aI s6 (show 8 * f + c < (1 + nw * 6) * 8 by omega) (by omega)]
      simp only [k2]
  obtain ⟨kf, hkf, hB⟩ := hfall
  have hread : ∀ (k2 k : Int32 → Mo Unit), m_X0_link_J66 p (nI n) (nI c) (nI kf) k2 k (I, z) = (if I (p + 6) (8 * n + c) = 0 then mb (gR 0 6 p) (fun follow9 => mb (tI follow9 (nI (8 * n + c)) (nI kf)) fun _ => m_X0_link_J108 p (nI n) (nI c) k2 k) else mb (gR 0 4 p) fun fail8 => mb (tI fail8 (I (p + 6) (8 * n + c)) (nI kf)) fun _ => m_X0_link_J108 p (nI n) (nI c) k2 k) (I, z) := by
    intro k2 k
    unfold m_X0_link_J66
    rw [mb_gR z0 r6, hmul, mb_aI s6 (show 8 * n + c < (1 + nw * 6) * 8 by omega) (by omega)]
  rcases l3 n u c hu hc (Or.inr ⟨rfl, Nat.le_refl c⟩) with ⟨k, k1, k2⟩ | ⟨k1, k2⟩
  · have hkl := (List.getElem?_eq_some_iff.mp k1).1
    have hk0 : 0 < k := by
      rcases Nat.eq_zero_or_pos k with h | h
      · rw [h, hN.zero] at k1; simp at k1
      · exact h
    refine ⟨u2 I (p + 4) k (nI kf), fun q2 q => ?_, ?_, fun x g4 g6 => u2_row g4⟩
    · rw [hB, hread, k2, if_neg (nI_ne0 hk0 (by omega)), mb_gR z0 r4, mb_tI s4 (show k < 1 + nw * 6 by omega) (by omega)]
      unfold m_X0_link_J108
      rw [nI_1]
    · have row6 : u2 I (p + 4) k (nI kf) (p + 6) = I (p + 6) := u2_row (by omega)
      have row5 : u2 I (p + 4) k (nI kf) (p + 5) = I (p + 5) := u2_row (by omega)
      have row4 : u2 I (p + 4) k (nI kf) (p + 4) = va_up (I (p + 4)) k (nI kf) := by rw [u2_uA, uA_eq]
      unfold LK
      rw [row6, row5, row4]
      refine ⟨?_, ?_, ?_, l4, l5⟩
      · intro j v d hj q hq hc2
        unfold va_up
        by_cases hjk : j = k
        · subst hjk
          rw [if_pos rfl]
          obtain ⟨e1, e2⟩ := snoc_inj (Option.some.inj (hj.symm.trans k1))
          subst e1; subst e2
          refine ⟨kf, ?_, rfl⟩
          rw [hkf]
          congr 1
          cases v with
          | nil => rfl
          | cons a t => rfl
        · rw [if_neg hjk]
          refine l1 j v d hj q hq ?_
          rcases hc2 with h | ⟨h1, h2⟩
          · exact Or.inl h
          · by_cases hd : d = c
            · subst hd; subst h1
              cases hq.symm.trans hu
              exact absurd (nodup_idx hN.nodup hj k1) hjk
            · exact Or.inr ⟨h1, by omega⟩
      · intro j v d hj hd hc2
        by_cases hh : j = n ∧ d = c
        · obtain ⟨rfl, rfl⟩ := hh
          cases hj.symm.trans hu
          exact ⟨k, by rw [lsuf_of_mem (List.mem_of_getElem? k1)]; exact k1, k2⟩
        · exact l2 j v d hj hd (by omega)
      · intro j v d hj hd hc2
        exact l3 j v d hj hd (by omega)
  · refine ⟨u2 I (p + 6) (8 * n + c) (nI kf), fun q2 q => ?_, ?_, fun x g4 g6 => u2_row g6⟩
    · rw [hB, hread, k2, if_pos rfl, mb_gR z0 r6, mb_tI s6 (show 8 * n + c < (1 + nw * 6) * 8 by omega) (by omega)]
      unfold m_X0_link_J108
      rw [nI_1]
    · have row4 : u2 I (p + 6) (8 * n + c) (nI kf) (p + 4) = I (p + 4) := u2_row (by omega)
      have row5 : u2 I (p + 6) (8 * n + c) (nI kf) (p + 5) = I (p + 5) := u2_row (by omega)
      have row6 : u2 I (p + 6) (8 * n + c) (nI kf) (p + 6) = va_up (I (p + 6)) (8 * n + c) (nI kf) := by rw [u2_uA, uA_eq]
      unfold LK
      rw [row6, row5, row4]
      refine ⟨?_, ?_, ?_, l4, l5⟩
      · intro j v d hj q hq hc2
        refine l1 j v d hj q hq ?_
        rcases hc2 with h | ⟨h1, h2⟩
        · exact Or.inl h
        · by_cases hd : d = c
          · subst hd; subst h1
            cases hq.symm.trans hu
            exact absurd (List.mem_of_getElem? hj) k1
          · exact Or.inr ⟨h1, by omega⟩
      · intro j v d hj hd hc2
        unfold va_up
        by_cases hh : j = n ∧ d = c
        · obtain ⟨rfl, rfl⟩ := hh
          cases hj.symm.trans hu
          rw [if_pos rfl]
          refine ⟨kf, ?_, rfl⟩
          rw [hkf]
          congr 1
          cases u with
          | nil =>
            rw [if_pos rfl]
            show [] = lsuf ns [d]
            rw [lsuf_not (show [d] ∉ ns from k1)]
            rfl
          | cons a t =>
            rw [if_neg (by simp)]
            exact (lsuf_not (t := t ++ [d]) k1).symm
        · rw [if_neg (by omega)]
          exact l2 j v d hj hd (by omega)
      · intro j v d hj hd hc2
        unfold va_up
        rw [if_neg (by omega)]
        exact l3 j v d hj hd (by omega)
def apart3 (p x : Nat) : Prop := x ≠ p + 4 ∧ x ≠ p + 5 ∧ x ≠ p + 6
theorem link_node {z : Zd} {I : Nat → Nat → Int32} {p nw : Nat} {W ns : List (List Nat)} {n : Nat} {u : List Nat} (hz : AO z p nw) (hW : okL W) (hWl : W.length ≤ 16) (hN : NS W ns) (hm : ns.length ≤ 1 + nw * 6) (h0 : I p 0 = nI ns.length) (hu : ns[n]? = some u) (h8 : ∀ v ∈ ns, ∀ d ∈ v, d < 8) (hL : LK I p W ns n 0 n) :
    ∃ I', (∀ k2 : Int32 → Mo Unit, m_X0_link_B2 p k2 (nI n) (I, z) = k2 (nI (n + 1)) (I', z)) ∧ LK I' p W ns (n + 1) 0 (n + 1) ∧ ∀ x, apart3 p x → I' x = I x := by
  obtain ⟨z0, ⟨r1, r2, r3, r4, r5, r6, r7⟩, ⟨s1, s2, s3, s4, s5, s6, s7⟩, hw⟩ := id hz
  have hn := (List.getElem?_eq_some_iff.mp hu).1
  obtain ⟨l1, l2, l3, l4, l5⟩ := id hL
  -- the bits of this node
  have hends : ∃ I1, (∀ k2 : Int32 → Mo Unit, m_X0_link_B2 p k2 (nI n) (I, z) = m_X0_link_J34 p (nI n) k2 (I1, z)) ∧ LK I1 p W ns n 0 (n + 1) ∧ ∀ x, x ≠ p + 5 → I1 x = I x := by
    by_cases hn0 : n = 0
    · subst hn0
      rw [hN.zero] at hu
      cases hu
      refine ⟨I, fun k2 => ?_, ⟨l1, l2, l3, ?_, fun j v hj h => l5 j v hj (by omega)⟩, fun _ _ => rfl⟩
      · unfold m_X0_link_B2
        rw [mb_gI z0]
        simp only [h0]
        rw [if_neg (nI_ge hn (by omega)), if_pos (show nI 0 ≤ 0 by decide)]
      · intro j v hj hlt
        rw [show j = 0 by omega] at hj ⊢
        rw [hN.zero] at hj
        cases hj
        rw [eb_nil hW]
        rcases l5 0 [] hN.zero (by omega) with ⟨i, h1, -⟩ | ⟨-, h⟩
        · have := (hW.1 _ (List.mem_of_getElem? h1)).1
          simp at this
        · exact h
    · have hune : u ≠ [] := by
        rintro rfl
        exact hn0 (nodup_idx hN.nodup hu hN.zero)
      obtain ⟨v, d, hvd⟩ : ∃ v d, u = v ++ [d] := ⟨u.dropLast, u.getLast hune, (List.dropLast_concat_getLast hune).symm⟩
      rw [hvd] at hu
      obtain ⟨kp, hkp⟩ := List.getElem?_of_mem (hN.pre v d (List.mem_of_getElem? hu))
      have hkn : kp < n := hN.lt hkp hu (by simp)
      obtain ⟨f, f1, f2⟩ := l1 n v d hu kp hkp (Or.inl hkn)
      rw [← hvd] at hu f1
      have hfl : (lsuf ns u.tail).length < u.length := by
        have g1 := (lsuf_suffix ns u.tail).length_le
        have g2 := List.length_pos_iff.mpr hune
        rw [List.length_tail] at g1
        omega
      have hfn : f < n := hN.lt f1 hu hfl
      have he := l4 f _ f1 hfn
      obtain ⟨a, t, rfl⟩ : ∃ a t, u = a :: t := by
        cases u with
        | nil => exact absurd rfl hune
        | cons a t => exact ⟨a, t, rfl⟩
      have hx : ∃ x, I (p + 5) n = nI x ∧ ((∃ i, W[i]? = some (a :: t) ∧ x = 2 ^ i) ∨ ((a :: t) ∉ W ∧ x = 0)) := by
        rcases l5 n _ hu (Nat.le_refl n) with ⟨i, h1, h2⟩ | ⟨h1, h2⟩
        · exact ⟨2 ^ i, h2, Or.inl ⟨i, h1, rfl⟩⟩
        · exact ⟨0, h2, Or.inr ⟨h1, rfl⟩⟩
      obtain ⟨x, hx1, hx2⟩ := hx
      have hor := eb_or hW hN hx2
      refine ⟨u2 I (p + 5) n (nI (eb W (a :: t))), fun k2 => ?_, ?_, fun q hq => u2_row hq⟩
      · unfold m_X0_link_B2
        rw [mb_gI z0]
        simp only [h0]
        rw [if_neg (nI_ge hn (by omega)), if_neg (nI_nle (by omega) (by omega)), mb_gR z0 r5, mb_aI s5 (show n < 1 + nw * 6 by omega) (by omega), mb_gR z0 r5, mb_gR z0 r4, mb_aI s4 (show n < 1 + nw * 6 by omega) (by omega)]
        simp only [f2]
        rw [mb_aI s5 (show f < 1 + nw * 6 by omega) (by omega)]
        simp only [he, hx1]
        rw [bx_or, show x ||| eb W (lsuf ns (a :: t).tail) = eb W (a :: t) from hor, mb_tI s5 (show n < 1 + nw * 6 by omega) (by omega)]
      · have row4 : u2 I (p + 5) n (nI (eb W (a :: t))) (p + 4) = I (p + 4) := u2_row (by omega)
        have row6 : u2 I (p + 5) n (nI (eb W (a :: t))) (p + 6) = I (p + 6) := u2_row (by omega)
        have row5 : u2 I (p + 5) n (nI (eb W (a :: t))) (p + 5) = va_up (I (p + 5)) n (nI (eb W (a :: t))) := by rw [u2_uA, uA_eq]
        unfold LK
        rw [row4, row5, row6]
        refine ⟨l1, l2, l3, fun j v hj hlt => ?_, fun j v hj hge => ?_⟩
        · unfold va_up
          by_cases hjn : j = n
          · subst hjn
            rw [if_pos rfl]
            cases hj.symm.trans hu
            rfl
          · rw [if_neg hjn]
            exact l4 j v hj (by omega)
        · unfold va_up
          rw [if_neg (by omega)]
          exact l5 j v hj (by omega)
  obtain ⟨I1, e1, L1, F1⟩ := hends
  -- the same memory for every rest: the loop's steps do not look at it
  have hrun : ∃ I', (∀ k2 : Int32 → Mo Unit, m_X0_link_J34 p (nI n) k2 (I1, z) = k2 (nI (n + 1)) (I', z)) ∧ LK I' p W ns n 8 (n + 1) ∧ ∀ x, x ≠ p + 4 → x ≠ p + 6 → I' x = I1 x := by
    have hall : ∀ m, m ≤ 8 → ∃ I', LK I' p W ns n m (n + 1) ∧ (∀ x, x ≠ p + 4 → x ≠ p + 6 → I' x = I1 x) ∧ ∀ (k2 : Int32 → Mo Unit) (f : Nat), lp (fun k s => m_X0_link_B36 p (nI n) k2 k s) (f + m) (nI 0) (I1, z) = lp (fun k s => m_X0_link_B36 p (nI n) k2 k s) f (nI m) (I', z) := by
      intro m
      induction m with
      | zero => intro _; exact ⟨I1, L1, fun _ _ _ => rfl, fun _ _ => rfl⟩
      | succ m ih =>
        intro hm8
        obtain ⟨I2, L2, F2, e2⟩ := ih (by omega)
        obtain ⟨I3, e3, L3, F3⟩ := link_letter hz hN hm hu (show m < 8 by omega) h8 L2
        refine ⟨I3, L3, fun x h4 h6 => (F3 x h4 h6).trans (F2 x h4 h6), fun k2 f => ?_⟩
        rw [show f + (m + 1) = (f + 1) + m by omega, e2, lp_s, e3]
    obtain ⟨I2, L2, F2, e2⟩ := hall 8 (Nat.le_refl 8)
    refine ⟨I2, fun k2 => ?_, L2, F2⟩
    unfold m_X0_link_J34
    rw [show FU = (99991 + 1) + 8 from rfl]
    show lp _ (99991 + 1 + 8) (nI 0) (I1, z) = _
    rw [e2, lp_s]
    unfold m_X0_link_B36
    rw [if_pos (show (8 : Int32) ≤ nI 8 from nI_le (a := 8) (Nat.le_refl 8) (by omega)), nI_1]
  obtain ⟨I2, e2, ⟨q1, q2, q3, q4, q5⟩, F2⟩ := hrun
  refine ⟨I2, fun k2 => by rw [e1, e2], ⟨?_, ?_, ?_, q4, q5⟩, fun x hx => (F2 x hx.1 hx.2.2).trans (F1 x hx.2.1)⟩
  · intro j v d hj k hk hc
    exact q1 j v d hj k hk (by have := h8 _ (List.mem_of_getElem? hj) d (by simp); omega)
  · intro j v d hj hd hc
    exact q2 j v d hj hd (by omega)
  · intro j v d hj hd hc
    exact q3 j v d hj hd (by omega)
/-- the automaton of some words, whole -/
def AR (I : Nat → Nat → Int32) (p : Nat) (W ns : List (List Nat)) : Prop := NS W ns ∧ I p 0 = nI ns.length ∧
  (∀ (j : Nat) (u : List Nat), ns[j]? = some u → I (p + 1) j = nI u.length) ∧
  (∀ (j : Nat) (u : List Nat) (c : Nat), ns[j]? = some (u ++ [c]) → I (p + 2) j = nI c ∧ ∃ k, ns[k]? = some u ∧ I (p + 3) j = nI k) ∧
  (∀ (j : Nat) (u : List Nat), ns[j]? = some u → u ≠ [] → ∃ k, ns[k]? = some (lsuf ns u.tail) ∧ I (p + 4) j = nI k) ∧
  (∀ (j : Nat) (u : List Nat), ns[j]? = some u → I (p + 5) j = nI (eb W u)) ∧
  (∀ (j : Nat) (u : List Nat) (c : Nat), ns[j]? = some u → c < 8 → ∃ k, ns[k]? = some (lsuf ns (u ++ [c])) ∧ I (p + 6) (8 * j + c) = nI k)
theorem link_ok {z : Zd} {I : Nat → Nat → Int32} {p nw : Nat} {W ns : List (List Nat)} (hz : AO z p nw) (hW : okL W) (hWl : W.length ≤ 16) (hN : NS W ns) (hT : TR I p (1 + nw * 6) ns)
    (hE : ∀ (j : Nat) (u : List Nat), ns[j]? = some u → (∃ i, W[i]? = some u ∧ I (p + 5) j = nI (2 ^ i)) ∨ (u ∉ W ∧ I (p + 5) j = 0)) :
    ∃ I', m_X0_link p (I, z) = some ((), (I', z)) ∧ AR I' p W ns ∧ ∀ x, apart3 p x → I' x = I x := by
  obtain ⟨t1, t2, t3, t4, t5, t6, t7⟩ := hT
  have hnw := hz.2.2.2
  have h8 : ∀ v ∈ ns, ∀ d ∈ v, d < 8 := by
    intro v hv d hd
    rcases (hN.2 v).mp hv with rfl | ⟨x, hx, hp⟩
    · simp at hd
    · exact (hW.1 x hx).2.2 d (hp.subset hd)
  have hall : ∀ m, m ≤ ns.length → ∃ I', LK I' p W ns m 0 m ∧ (∀ x, apart3 p x → I' x = I x) ∧ ∀ f : Nat, lp (fun k s => m_X0_link_B2 p k s) (f + m) (nI 0) (I, z) = lp (fun k s => m_X0_link_B2 p k s) f (nI m) (I', z) := by
    intro m
    induction m with
    | zero =>
      intro _
      refine ⟨I, ⟨fun j v d hj k hk h => by omega, fun j u d hj hd h => by omega, fun j u d hj hd _ => t6 j u d hj hd, fun j u hj h => by omega, fun j u hj _ => hE j u hj⟩, fun _ _ => rfl, fun _ => rfl⟩
    | succ m ih =>
      intro hm
      obtain ⟨I2, L2, F2, e2⟩ := ih (by omega)
      have hu := List.getElem?_eq_getElem (show m < ns.length by omega)
      obtain ⟨I3, e3, L3, F3⟩ := link_node (I := I2) hz hW hWl hN t2 (by rw [F2 p ⟨by omega, by omega, by omega⟩]; exact t1) hu h8 L2
      refine ⟨I3, L3, fun x hx => (F3 x hx).trans (F2 x hx), fun f => ?_⟩
      rw [show f + (m + 1) = (f + 1) + m by omega, e2, lp_s, e3]
  obtain ⟨I2, ⟨q1, q2, q3, q4, q5⟩, F2, e2⟩ := hall ns.length (Nat.le_refl _)
  have hp : I2 p = I p := F2 p ⟨by omega, by omega, by omega⟩
  have hp1 : I2 (p + 1) = I (p + 1) := F2 _ ⟨by omega, by omega, by omega⟩
  have hp2 : I2 (p + 2) = I (p + 2) := F2 _ ⟨by omega, by omega, by omega⟩
  have hp3 : I2 (p + 3) = I (p + 3) := F2 _ ⟨by omega, by omega, by omega⟩
  refine ⟨I2, ?_, ⟨hN, by rw [hp]; exact t1, by rw [hp1]; exact t4, by rw [hp2, hp3]; exact t5, ?_, ?_, ?_⟩, F2⟩
  · unfold m_X0_link
    have hb : ns.length ≤ 97 := by omega
    obtain ⟨f, hf⟩ : ∃ f, FU = (f + 1) + ns.length := ⟨99999 - ns.length, by unfold FU; omega⟩
    rw [hf]
    show lp _ (f + 1 + ns.length) (nI 0) (I, z) = _
    rw [e2, lp_s]
    unfold m_X0_link_B2
    rw [mb_gI hz.1]
    simp only [hp, t1]
    rw [if_pos (nI_le (Nat.le_refl _) (by omega))]
    rfl
  · intro j u hj hne
    obtain ⟨v, d, rfl⟩ : ∃ v d, u = v ++ [d] := ⟨u.dropLast, u.getLast hne, (List.dropLast_concat_getLast hne).symm⟩
    obtain ⟨k, hk⟩ := List.getElem?_of_mem (hN.pre v d (List.mem_of_getElem? hj))
    exact q1 j v d hj k hk (Or.inl (List.getElem?_eq_some_iff.mp hk).1)
  · intro j u hj
    exact q4 j u hj (List.getElem?_eq_some_iff.mp hj).1
  · intro j u c hj hc
    exact q2 j u c hj hc (Or.inl (List.getElem?_eq_some_iff.mp hj).1)
