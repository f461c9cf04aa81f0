/-! ===== the reference's make(): nodes ===== -/
def winsAll (L : List Int32) (xs : List Int32) : List Int32 := xs.foldl wins L
theorem winsAll_srt {L : List Int32} (h : Srt L) (xs : List Int32) : Srt (winsAll L xs) := by
  induction xs generalizing L with
  | nil => exact h
  | cons x xs ih => exact ih (wins_srt h x)
theorem mem_winsAll {L xs : List Int32} {y : Int32} : y ∈ winsAll L xs ↔ y ∈ L ∨ y ∈ xs := by
  induction xs generalizing L with
  | nil => simp [winsAll]
  | cons x xs ih =>
    show y ∈ winsAll (wins L x) xs ↔ _
    rw [ih, mem_wins, List.mem_cons]
    constructor
    · rintro ((h | h) | h)
      · exact Or.inr (Or.inl h)
      · exact Or.inl h
      · exact Or.inr (Or.inr h)
    · rintro (h | h | h)
      · exact Or.inl (Or.inr h)
      · exact Or.inl (Or.inl h)
      · exact Or.inr h
theorem winsAll_app (L xs ys : List Int32) : winsAll L (xs ++ ys) = winsAll (winsAll L xs) ys := List.foldl_append
theorem wins_le (L : List Int32) (x : Int32) : (wins L x).length ≤ L.length + 1 := by
  by_cases h : x ∈ L
  · unfold wins; rw [if_pos h]; omega
  · rw [wins_len h]; omega
theorem winsAll_le (L xs : List Int32) : (winsAll L xs).length ≤ L.length + xs.length := by
  induction xs generalizing L with
  | nil => exact Nat.le_refl _
  | cons x xs ih =>
    have h1 := ih (L := wins L x)
    have h2 := wins_le L x
    show (winsAll (wins L x) xs).length ≤ L.length + (xs.length + 1)
    omega
/-- the codes of a word's first letters -/
def pfx (u : List Nat) (n : Nat) : List Int32 := (List.range n).map (fun i => rcI (u.take (i + 1)))
theorem pfx_succ (u : List Nat) (n : Nat) : pfx u (n + 1) = pfx u n ++ [rcI (u.take (n + 1))] := by unfold pfx; rw [List.range_succ, List.map_append]; rfl
theorem makeW_ok {z : Zd} {m : Nat} (hM : MO z m) {I : Nat → Nat → Int32} {W : List (List Nat)} (hR : RW I m W) (h16 : W.length ≤ 16) {w : Nat} {u : List Nat} (hu : W[w]? = some u) (hok : okW u) {L : List Int32} (hN : RN I m L) (hs : Srt L) (hL : L.length ≤ 1 + 6 * w) :
    ∃ I', RN I' m (winsAll L (pfx u u.length)) ∧ (∀ y, y ≠ m → y ≠ m + 8 → I' y = I y) ∧ (∀ k, k ≠ 17 → I' m k = I m k) ∧ ∀ k20 : Int32 → Mo Unit, lp (fun k s => m_X8_make_B30 m (nI w) k20 k s) FU 1 (I, z) = k20 (nI (w + 1)) (I', z) := by
  have hwl := (List.getElem?_eq_some_iff.mp hu).1
  obtain ⟨o1, o2, o3⟩ := hok
  obtain ⟨w', ⟨I', rfl, h1, F1, F2⟩, e⟩ := lp_famU (F := fun (k20 : Int32 → Mo Unit) k s => m_X8_make_B30 m (nI w) k20 k s) (fun i => nI (i + 1)) (fun i x => ∃ I', x = (I', z) ∧ RN I' m (winsAll L (pfx u i)) ∧ (∀ y, y ≠ m → y ≠ m + 8 → I' y = I y) ∧ ∀ k, k ≠ 17 → I' m k = I m k) u.length (by omega) (by
    intro i hi x hP
    obtain ⟨I1, rfl, h1, F1, F2⟩ := hP
    have hlen := winsAll_le L (pfx u i)
    have hpl : (pfx u i).length = i := by unfold pfx; simp
    have hcode : I1 (m + 7) w = rcI u := by rw [F1 (m + 7) (by omega) (by omega)]; exact hR.2 w u hu
    obtain ⟨I2, e2, R2, G1, G2⟩ := addNodeR_ok hM h1 (winsAll_srt hs _) (by omega) (rcI (u.take (i + 1)))
    refine ⟨(I2, z), ⟨I2, rfl, ?_, fun y a b => (G1 y a b).trans (F1 y a b), fun k hk => (G2 k hk).trans (F2 k hk)⟩, fun k20 k => ?_⟩
    · rw [pfx_succ, winsAll_app]
      exact R2
    · unfold m_X8_make_B30
      rw [mb_gR hM.o hM.rWords, mb_aI hM.sWords (show w < 64 by omega) (by omega)]
      simp only [hcode]
      rw [rcI_div o3 o2, if_neg (nI_nlt (by omega) (by omega)), mb_gR hM.o hM.rWords, mb_aI hM.sWords (show w < 64 by omega) (by omega)]
      simp only [hcode]
      rw [mb_call (firsts_ok o3 o2 (by omega) _), mb_vc hM.o, mb_call e2, nI_1]) (w0 := (I, z)) ⟨I, rfl, hN, fun _ _ _ => rfl, fun _ _ => rfl⟩
  refine ⟨I', h1, F1, F2, fun k20 => ?_⟩
  obtain ⟨k, ek⟩ := e k20
  show lp _ FU (nI (0 + 1)) (I, z) = _
  rw [ek]
  have hcode : I' (m + 7) w = rcI u := by rw [F1 (m + 7) (by omega) (by omega)]; exact hR.2 w u hu
  unfold m_X8_make_B30
  rw [mb_gR hM.o hM.rWords, mb_aI hM.sWords (show w < 64 by omega) (by omega)]
  simp only [hcode]
  rw [rcI_div o3 o2, if_pos (nI_lt (by omega) (by omega)), nI_1]
def allPfx (W : List (List Nat)) : List Int32 := W.flatMap (fun u => pfx u u.length)
theorem mem_pfx {u : List Nat} {x : Int32} : x ∈ pfx u u.length ↔ ∃ v, v ≠ [] ∧ v <+: u ∧ x = rcI v := by
  unfold pfx
  rw [List.mem_map]
  constructor
  · rintro ⟨i, hi, rfl⟩
    have hi := List.mem_range.mp hi
    refine ⟨u.take (i + 1), ?_, List.take_prefix _ _, rfl⟩
    intro h
    have h2 := congrArg List.length h
    rw [List.length_take, List.length_nil] at h2
    omega
  · rintro ⟨v, hv, ⟨t, rfl⟩, rfl⟩
    have hl := List.length_pos_iff.mpr hv
    refine ⟨v.length - 1, List.mem_range.mpr (by simp; omega), ?_⟩
    rw [show v.length - 1 + 1 = v.length by omega, List.take_left]
/-- the codes of the nodes are those that the class's list has -/
theorem nodes_same {W ns : List (List Nat)} (hW : okL W) (hN : NS W ns) : winsAll [0] (allPfx W) = ns.map rcI := by
  have h8 : ∀ v ∈ ns, (∀ d ∈ v, d < 8) ∧ v.length ≤ 6 := by
    intro v hv
    rcases (hN.2 v).mp hv with rfl | ⟨u, hu, hp⟩
    · exact ⟨by simp, by simp⟩
    · have := hW.1 u hu
      exact ⟨fun d hd => this.2.2 d (hp.subset hd), Nat.le_trans hp.length_le this.2.1⟩
  refine srt_unique (winsAll_srt (by simp) _) ?_ (fun x => ?_)
  · unfold Srt
    rw [List.pairwise_map]
    exact List.Pairwise.imp_of_mem (fun {a b} ha hb hab => nlt_rc (h8 a ha).1 (h8 b hb).1 (h8 a ha).2 (h8 b hb).2 hab) hN.1
  · rw [mem_winsAll, List.mem_singleton, List.mem_map]
    unfold allPfx
    rw [List.mem_flatMap]
    constructor
    · rintro (rfl | ⟨u, hu, hx⟩)
      · exact ⟨[], hN.nil, rfl⟩
      · obtain ⟨v, -, hp, rfl⟩ := mem_pfx.mp hx
        exact ⟨v, (hN.2 v).mpr (Or.inr ⟨u, hu, hp⟩), rfl⟩
    · rintro ⟨v, hv, rfl⟩
      rcases (hN.2 v).mp hv with rfl | ⟨u, hu, hp⟩
      · exact Or.inl rfl
      · by_cases h0 : v = []
        · subst h0; exact Or.inl rfl
        · exact Or.inr ⟨u, hu, mem_pfx.mpr ⟨v, h0, hp, rfl⟩⟩
/-- what a node's rows must hold -/
def RA (I : Nat → Nat → Int32) (m : Nat) (W ns : List (List Nat)) (n : Nat) : Prop := ∀ (j : Nat) (u : List Nat), ns[j]? = some u → j < n → (if j = 0 then I (m + 9) 0 = -9 else ∃ k, ns[k]? = some (lsuf ns u.tail) ∧ I (m + 9) j = nI k) ∧ I (m + 10) j = nI (eb W u) ∧ ∀ c, c < 8 → ∃ k, ns[k]? = some (lsuf ns (u ++ [c])) ∧ I (m + 11) (8 * j + c) = nI k
theorem bitsL_take (f : List Nat → Bool) (W : List (List Nat)) {i : Nat} {v : List Nat} (hv : W[i]? = some v) : bitsL f (W.take (i + 1)) = bitsL f (W.take i) ||| (if f v then 2 ^ i else 0) := by
  have hi := (List.getElem?_eq_some_iff.mp hv).1
  apply Nat.eq_of_testBit_eq
  intro j
  rw [Nat.testBit_or, bitsL_bit, bitsL_bit, List.getElem?_take, List.getElem?_take]
  rcases Nat.lt_trichotomy j i with h | h | h
  · rw [if_pos (by omega), if_pos h]
    cases hf : f v
    · simp
    · simp only [if_true, Nat.testBit_two_pow]
      rw [show decide (i = j) = false by simp; omega, Bool.or_false]
  · subst h
    rw [if_pos (by omega), if_neg (by omega), hv]
    cases hf : f v
    · simp [hf]
    · simp [hf, Nat.testBit_two_pow]
  · rw [if_neg (by omega), if_neg (by omega)]
    cases hf : f v
    · simp
    · simp only [if_true, Nat.testBit_two_pow]
      rw [show decide (i = j) = false by simp; omega]
      rfl
theorem suffix_drop {v u : List Nat} (h : v.length ≤ u.length) : v <:+ u ↔ u.drop (u.length - v.length) = v := by
  constructor
  · rintro ⟨t, rfl⟩
    rw [show (t ++ v).length - v.length = t.length by simp]
    exact List.drop_left
  · intro h2
    exact ⟨u.take (u.length - v.length), by rw [← h2]; simp [List.take_append_drop]; rw [← List.take_append_drop (u.length - v.length) u] ; simp [h2]⟩
