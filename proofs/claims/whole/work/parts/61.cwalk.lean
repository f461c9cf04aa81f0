/-! ===== the class's walk() ===== -/
def SQ (z : Zd) : Prop := z.2.2[0]? = some (6, nf 6) ∧ (z.2.1 0 0 = some 1 ∧ z.2.1 0 1 = some 12 ∧ z.2.1 0 2 = some 19 ∧ z.2.1 0 3 = some 21 ∧ z.2.1 0 4 = some 22 ∧ z.2.1 0 5 = some 24 ∧ z.2.1 0 6 = some 32) ∧ HO z 12 ∧ WO z 22 23 16 ∧ AO z 24 16 ∧ z.2.2[32]? = some (101, 16)
theorem SQ.to {z : Zd} (h : SQ z) (J : Nat → Nat → Int64) : SQ (J, z.2) := h
/-- the bits of the letters at which u ends -/
def hb (ls u : List Nat) : Nat → Nat
  | 0 => 0
  | n + 1 => hb ls u n ||| (if En ls u n then 2 ^ n else 0)
theorem fillJ_ok {z : Zd} {I : Nat → Nat → Int32} {p n : Nat} (h : z.2.2[p]? = some (101, n)) (hn : n < 100000) (v : Int64) : ∃ J, m_J7_fill_d0a16 p v (I, z) = some ((), (I, (J, z.2))) ∧ (∀ j, j < n → J p j = v) ∧ ∀ x, x ≠ p → J x = z.1 x := by
  obtain ⟨s, w, k, ⟨rfl, J, rfl, a, b⟩, e⟩ := lp_FUi (F := fun k s => m_J7_fill_d0a16_B6 p v (nI n) k s) (fun i s x => s = nI i ∧ ∃ J, x = (I, (J, z.2)) ∧ (∀ j, j < i → J p j = v) ∧ ∀ x, x ≠ p → J x = z.1 x) n hn (by
    intro i hi s x hP
    obtain ⟨rfl, J, rfl, a, b⟩ := hP
    refine ⟨nI (i + 1), (I, (u2 J p i v, z.2)), ⟨rfl, _, rfl, fun j hj => ?_, fun x hx => by rw [u2_row hx]; exact b x hx⟩, fun k => ?_⟩
    · by_cases hji : j = i
      · subst hji; rw [u2_eq]
      · rw [u2_ne (Or.inr hji)]; exact a j (by omega)
    · show m_J7_fill_d0a16_B6 p v (nI n) k (nI i) (I, (J, z.2)) = _
      unfold m_J7_fill_d0a16_B6
      rw [if_neg (nI_ge hi (by omega)), mb_tJ (w := (I, (J, z.2))) h hi (by omega), nI_1]) (s := 0) (w := (I, z)) ⟨rfl, z.1, rfl, fun j h => absurd h (by omega), fun _ _ => rfl⟩
  refine ⟨J, ?_, a, b⟩
  unfold m_J7_fill_d0a16
  rw [mb_aL (w := (I, z)) h, e]
  show m_J7_fill_d0a16_B6 p v (nI n) k (nI n) (I, (J, z.2)) = _
  unfold m_J7_fill_d0a16_B6
  rw [if_pos (nI_le (Nat.le_refl _) (by omega))]
  rfl
/-- the class's row of hits -/
def HJ (J : Nat → Nat → Int64) (W : List (List Nat)) (ls : List Nat) (n w : Nat) : Prop := ∀ (j : Nat) (u : List Nat), W[j]? = some u → J 32 j = lN (hb ls u (if j < w then n + 1 else n))
theorem walkW_ok {z : Zd} (hz : SQ z) {I : Nat → Nat → Int32} {W : List (List Nat)} {ls : List Nat} (h16 : W.length ≤ 16) (hw : I 22 1 = nI W.length) {i : Nat} (hi : i < 40) (hJ : HJ z.1 W ls i 0) :
    ∃ J, HJ J W ls (i + 1) 0 ∧ (∀ x, x ≠ 32 → J x = z.1 x) ∧ ∀ k15 : Int32 → Mo Unit, lp (fun k s => m_X7_walk_B70 0 (nI i) (nI (eb W (ls.take (i + 1)))) k15 k s) FU 0 (I, z) = k15 (nI (i + 1)) (I, (J, z.2)) := by
  obtain ⟨o, ⟨-, -, -, -, f4, -, f6⟩, -, ⟨w1, w2, -⟩, -, s32⟩ := id hz
  have hlt := eb_lt h16 (ls.take (i + 1))
  obtain ⟨w', ⟨J, rfl, a, b⟩, e⟩ := lp_famU (F := fun (k15 : Int32 → Mo Unit) k s => m_X7_walk_B70 0 (nI i) (nI (eb W (ls.take (i + 1)))) k15 k s) (fun j => nI j) (fun j x => ∃ J, x = (I, (J, z.2)) ∧ HJ J W ls i j ∧ ∀ x, x ≠ 32 → J x = z.1 x) W.length (by omega) (by
    intro j hj x hP
    obtain ⟨J, rfl, a, b⟩ := hP
    have hu := List.getElem?_eq_getElem hj
    generalize W[j] = u at hu
    have hJj : J 32 j = lN (hb ls u i) := by rw [a j u hu, if_neg (by omega)]
    have hbit : nI (eb W (ls.take (i + 1))) >>> (nI j &&& 31) &&& 1 = nI (eb W (ls.take (i + 1)) / 2 ^ j % 2) := by
      rw [bx_shr (by omega) (by omega), show (1 : Int32) = nI (2 ^ 1 - 1) from rfl, bx_mask]
    have hb2 : En ls u i = decide (eb W (ls.take (i + 1)) / 2 ^ j % 2 = 1) := by
      rw [← Nat.testBit_eq_decide_div_mod_eq, eb_bit hu]; rfl
    have nxt : ∀ J', J' 32 j = lN (hb ls u (i + 1)) → (∀ l, l ≠ j → J' 32 l = J 32 l) → HJ J' W ls i (j + 1) := by
      intro J' h1 h2 l v hv
      by_cases hl : l = j
      · subst hl
        have : v = u := Option.some.inj (hv.symm.trans hu)
        subst this
        rw [if_pos (by omega), h1]
      · rw [h2 l hl, a l v hv]
        by_cases h3 : l < j
        · rw [if_pos h3, if_pos (by omega)]
        · rw [if_neg h3, if_neg (by omega)]
    rcases Nat.mod_two_eq_zero_or_one (eb W (ls.take (i + 1)) / 2 ^ j) with h | h
    · refine ⟨(I, (J, z.2)), ⟨J, rfl, nxt J ?_ (fun _ _ => rfl), b⟩, fun k15 k => ?_⟩
      · rw [hJj]
        rw [show hb ls u (i + 1) = hb ls u i ||| (if En ls u i then 2 ^ i else 0) from rfl, hb2, h]
        simp
      · unfold m_X7_walk_B70
        rw [mb_gR (w := (I, (J, z.2))) o f4, mb_gI (w := (I, (J, z.2))) w1]
        simp only [hw]
        rw [if_neg (nI_ge hj (by omega)), hbit, h, if_pos (show nI 0 = 0 from rfl)]
        unfold m_X7_walk_J101
        rw [nI_1]
    · refine ⟨(I, (u2 J 32 j (lN (hb ls u (i + 1))), z.2)), ⟨_, rfl, nxt _ (u2_eq _ _ _ _) (fun l hl => u2_ne (Or.inr hl)), fun x hx => by rw [u2_row hx]; exact b x hx⟩, fun k15 k => ?_⟩
      unfold m_X7_walk_B70
      rw [mb_gR (w := (I, (J, z.2))) o f4, mb_gI (w := (I, (J, z.2))) w1]
      simp only [hw]
      rw [if_neg (nI_ge hj (by omega)), hbit, h, if_neg (show ¬ nI 1 = 0 by decide), mb_gR (w := (I, (J, z.2))) o f6, mb_aJ (w := (I, (J, z.2))) s32 (show j < 16 by omega) (by omega)]
      simp only [hJj]
      rw [show (1 : Int64) = lN 1 from rfl, lx_shl (show i < 64 by omega), Nat.one_mul, lx_or, mb_tJ (w := (I, (J, z.2))) s32 (show j < 16 by omega) (by omega)]
      unfold m_X7_walk_J101
      rw [nI_1, show hb ls u (i + 1) = hb ls u i ||| 2 ^ i by rw [show hb ls u (i + 1) = hb ls u i ||| (if En ls u i then 2 ^ i else 0) from rfl, hb2, h]; rfl]) (w0 := (I, z)) ⟨z.1, rfl, hJ, fun _ _ => rfl⟩
  refine ⟨J, fun j u hu => ?_, b, fun k15 => ?_⟩
  · rw [a j u hu, if_pos (List.getElem?_eq_some_iff.mp hu).1, if_neg (by omega)]
  · obtain ⟨k, ek⟩ := e k15
    show lp _ FU (nI 0) (I, z) = _
    rw [ek]
    unfold m_X7_walk_B70
    rw [mb_gR (w := (I, (J, z.2))) o f4, mb_gI (w := (I, (J, z.2))) w1]
    simp only [hw]
    rw [if_pos (nI_le (Nat.le_refl _) (by omega)), nI_1]
theorem u2_u2 {α : Type} (f : Nat → Nat → α) (p k : Nat) (v v' : α) : u2 (u2 f p k v) p k v' = u2 f p k v' := by
  funext q j
  by_cases h : q = p ∧ j = k
  · simp [u2, h]
  · simp [u2, h]
theorem AR.next {I : Nat → Nat → Int32} {p : Nat} {W ns : List (List Nat)} (h : AR I p W ns) {k c : Nat} {t : List Nat} (hk : ns[k]? = some (lsuf ns t)) (hc : c < 8) : ∃ k', ns[k']? = some (lsuf ns (t ++ [c])) ∧ I (p + 6) (8 * k + c) = nI k' := by
  obtain ⟨hN, -, -, -, -, -, hA⟩ := h
  obtain ⟨k', e1, e2⟩ := hA k _ c hk hc
  exact ⟨k', by rw [e1, ← lsuf_snoc hN.pre], e2⟩
theorem AR.ends {I : Nat → Nat → Int32} {p : Nat} {W ns : List (List Nat)} (h : AR I p W ns) {k : Nat} {t : List Nat} (hk : ns[k]? = some (lsuf ns t)) : I (p + 5) k = nI (eb W t) := by
  obtain ⟨hN, -, -, -, -, hA, -⟩ := h
  rw [hA k _ hk, eb_lsuf hN]
theorem walk_ok {z : Zd} (hz : SQ z) {I : Nat → Nat → Int32} {W ns : List (List Nat)} {hs : HS} (hB : HB hs) (hR : HR I 12 hs) (h16 : W.length ≤ 16) (hw : I 22 1 = nI W.length) (hA : AR I 24 W ns) (h97 : ns.length ≤ 97) :
    ∃ k J, m_X7_walk 0 (I, z) = some ((), (u2 I 0 7 (nI k), (J, z.2))) ∧ ns[k]? = some (lsuf ns hs.2) ∧ HJ J W hs.2 hs.2.length 0 ∧ ∀ x, x ≠ 32 → J x = z.1 x := by
  obtain ⟨o, ⟨-, f1, -, -, f4, f5, f6⟩, ⟨h0, ⟨-, -, -, -, -, hr7⟩, -, -, -, -, -, hs7⟩, ⟨w1, w2, -⟩, ⟨a0, ⟨-, -, -, -, ar5, ar6, -⟩, ⟨-, -, -, -, as5, as6, -⟩, -⟩, s32⟩ := id hz
  have h40 := hB.2.1
  obtain ⟨J0, e0, z0, F0⟩ := fillJ_ok (z := z) (I := I) s32 (by omega) 0
  obtain ⟨s, w, k, ⟨rfl, kk, J, ek, rfl, a, b⟩, e⟩ := lp_FUi (F := fun k s => m_X7_walk_B15 0 k s) (fun i s x => s = nI i ∧ ∃ kk J, ns[kk]? = some (lsuf ns (hs.2.take i)) ∧ x = (u2 I 0 7 (nI kk), (J, z.2)) ∧ HJ J W hs.2 i 0 ∧ ∀ x, x ≠ 32 → J x = z.1 x) hs.2.length (by omega) (by
    intro i hi s x hP
    obtain ⟨rfl, kk, J, ek, rfl, a, b⟩ := hP
    have hc := List.getElem?_eq_getElem hi
    have hc8 := hB.2.2.2 _ (List.getElem_mem hi)
    generalize hs.2[i] = c at hc hc8
    have hkk := (List.getElem?_eq_some_iff.mp ek).1
    obtain ⟨k', e1, e2⟩ := hA.next ek hc8
    have hk' := (List.getElem?_eq_some_iff.mp e1).1
    have e3 := hA.ends e1
    rw [← take_snoc hc] at e1 e3
    have hc2 := hR.2.2.2 i c hc
    obtain ⟨J', a', b', ew⟩ := walkW_ok (z := (J, z.2)) (hz.to J) (I := u2 I 0 7 (nI k')) (ls := hs.2) (i := i) h16 (by rw [u2_row (by omega)]; exact hw) (by omega) a
    refine ⟨nI (i + 1), (u2 I 0 7 (nI k'), (J', z.2)), ⟨rfl, k', J', e1, rfl, a', fun x hx => (b' x hx).trans (b x hx)⟩, fun k => ?_⟩
    show m_X7_walk_B15 0 k (nI i) (u2 I 0 7 (nI kk), (J, z.2)) = _
    unfold m_X7_walk_B15
    rw [mb_gR (w := (u2 I 0 7 (nI kk), (J, z.2))) o f1, mb_gI (w := (u2 I 0 7 (nI kk), (J, z.2))) h0]
    simp only [u2_row (show 12 ≠ 0 by omega), hR.2.1]
    rw [if_neg (nI_ge hi (by omega)), mb_gR (w := (u2 I 0 7 (nI kk), (J, z.2))) o f5, mb_gR (w := (u2 I 0 7 (nI kk), (J, z.2))) a0 ar6, mb_gI (w := (u2 I 0 7 (nI kk), (J, z.2))) o]
    simp only [u2_eq]
    rw [mb_gR (w := (u2 I 0 7 (nI kk), (J, z.2))) o f1, mb_gR (w := (u2 I 0 7 (nI kk), (J, z.2))) h0 hr7, mb_aI (w := (u2 I 0 7 (nI kk), (J, z.2))) hs7 (show i < 40 by omega) (by omega)]
    simp only [u2_row (show 12 + 6 ≠ 0 by omega), hc2]
    rw [show nI kk * 8 + nI c = nI (8 * kk + c) by rw [show (8 : Int32) = nI 8 from rfl, pk_mul, nI_add, Nat.mul_comm], mb_aI (w := (u2 I 0 7 (nI kk), (J, z.2))) as6 (show 8 * kk + c < (1 + 16 * 6) * 8 by omega) (by omega)]
    simp only [u2_row (show 24 + 6 ≠ 0 by omega), e2]
    rw [mb_sI (w := (u2 I 0 7 (nI kk), (J, z.2))) o]
    simp only [u2_u2]
    rw [mb_gR (w := (u2 I 0 7 (nI k'), (J, z.2))) o f5, mb_gR (w := (u2 I 0 7 (nI k'), (J, z.2))) a0 ar5, mb_gI (w := (u2 I 0 7 (nI k'), (J, z.2))) o]
    simp only [u2_eq]
    rw [mb_aI (w := (u2 I 0 7 (nI k'), (J, z.2))) as5 (show k' < 1 + 16 * 6 by omega) (by omega)]
    simp only [u2_row (show 24 + 5 ≠ 0 by omega), e3]
    rw [ew]) (s := 0) (w := (u2 I 0 7 (nI 0), (J0, z.2))) ⟨rfl, 0, J0, hA.1.zero, rfl, fun j u hu => by
      have := (List.getElem?_eq_some_iff.mp hu).1
      rw [if_neg (by omega), z0 j (by omega)]; rfl, F0⟩
  rw [List.take_length] at ek
  refine ⟨kk, J, ?_, ek, a, b⟩
  unfold m_X7_walk
  rw [mb_gR (w := (I, z)) o f6, mb_call e0, mb_sI (w := (I, (J0, z.2))) o]
  show lp _ FU 0 (u2 I 0 7 (nI 0), (J0, z.2)) = _
  rw [e]
  show m_X7_walk_B15 0 k (nI hs.2.length) (u2 I 0 7 (nI kk), (J, z.2)) = _
  unfold m_X7_walk_B15
  rw [mb_gR (w := (u2 I 0 7 (nI kk), (J, z.2))) o f1, mb_gI (w := (u2 I 0 7 (nI kk), (J, z.2))) h0]
  simp only [u2_row (show 12 ≠ 0 by omega), hR.2.1]
  rw [if_pos (nI_le (Nat.le_refl _) (by omega))]
  rfl
