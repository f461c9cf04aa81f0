/-! ===== keepAct(), undo(), keep(), back(), drops(), feeds(), cuts(): the reference's ===== -/
theorem RR_cong {f f' : Nat → Int32} {hs : HS} (hB : HB hs) (h : RR f hs) (e : ∀ k, k < 178 → f' k = f k) : RR f' hs := by
  obtain ⟨h1, h2, h3, h4⟩ := h
  have hl := hB.2.1
  have h8 := hB.1
  refine ⟨(e 0 (by omega)).trans h1, (e 1 (by omega)).trans h2, fun i c hi => ?_, fun q Q hq => ?_⟩
  · have := (List.getElem?_eq_some_iff.mp hi).1
    rw [e _ (by omega)]; exact h3 i c hi
  · have hq8 := (List.getElem?_eq_some_iff.mp hq).1
    have hQ4 := (hB.2.2.1 Q (List.mem_of_getElem? hq)).1
    obtain ⟨a, b⟩ := h4 q Q hq
    refine ⟨by rw [e _ (by omega)]; exact a, fun k P hk => ?_⟩
    have hk4 := (List.getElem?_eq_some_iff.mp hk).1
    rw [e _ (by omega), e _ (by omega), e _ (by omega), e _ (by omega)]
    exact b k P hk
section RO
variable {z : Zd} {I : Nat → Nat → Int32} {w : Wd} {hs : HS} {hi : List HS} {im : Nat → Option HS} {tx : List Nat} {ns : List (List Nat)}
theorem rmake_ok (hM : MO z 33) (hok : okHS hs) (hR : RR (I 35) hs) (hN : NS (Wo hs) ns) (h97 : ns.length ≤ 97) : ∃ I', m_X8_make 33 (I, z) = some ((), (I', z)) ∧ RX I' 33 (Wo hs) ns ∧ (∀ x, x ≠ 33 → (x < 40 ∨ 44 < x) → I' x = I x) ∧ ∀ k, k ≠ 15 → k ≠ 17 → I' 33 k = I 33 k := by
  have hW : okL (Wo hs) := okL.gat okL_nil hok.1.allw
  obtain ⟨I', e, r1, r2, r3, r4, r5⟩ := make_ok (I := I) hM hok.1 hR hok.2.1 hW hN h97
  exact ⟨I', e, ⟨hN, hW, hok.2.1, h97, r1, r2, r3⟩, fun x a b => r4 x a (by omega) (by omega) (by omega) (by omega) (by omega), r5⟩
theorem keepAct_ok (hM : MO z 33) (hl : hi.length ≤ 10) (hO : ∀ h ∈ hi, HB h) (hB : HB hs) (hR : RR (I 35) hs) (h11 : I 33 11 = nI hi.length) (hW : ∀ (j : Nat) (h : HS), hi[j]? = some h → RR (fun k => I 37 (178 * j + k)) h) :
    ∃ I', m_X8_keepAct 33 (I, z) = some ((), (I', z)) ∧ I' 33 11 = nI (hpush hi hs).length ∧ (∀ (j : Nat) (h : HS), (hpush hi hs)[j]? = some h → RR (fun k => I' 37 (178 * j + k)) h) ∧ (∀ k, k ≠ 11 → I' 33 k = I 33 k) ∧ ∀ x, x ≠ 33 → x ≠ 37 → I' x = I x := by
  have hlp := hpush_len hl hs
  -- the end: the row now comes behind a rows
  have hend : ∀ (J : Nat → Nat → Int32) (a : Nat), a < 10 → J 33 11 = nI a → J 35 = I 35 → ∃ J', m_X8_keepAct_J50 33 (J, z) = some ((), (J', z)) ∧ J' 33 11 = nI (a + 1) ∧ (∀ j, J' 37 j = if 178 * a ≤ j ∧ j < 178 * a + 178 then I 35 (j - 178 * a) else J 37 j) ∧ (∀ k, k ≠ 11 → J' 33 k = J 33 k) ∧ ∀ x, x ≠ 33 → x ≠ 37 → J' x = J x := by
    intro J a ha hJa hJ35
    obtain ⟨s, x, k, ⟨rfl, K, rfl, k1, k2⟩, e⟩ := lp_FUi (F := fun k s => m_X8_keepAct_B52 33 k s) (fun i s x => s = nI i ∧ ∃ K, x = (K, z) ∧ (∀ j, K 37 j = if 178 * a ≤ j ∧ j < 178 * a + i then I 35 (j - 178 * a) else J 37 j) ∧ ∀ x, x ≠ 37 → K x = J x) 178 (by omega) (by
      intro i hi' s x hP
      obtain ⟨rfl, K, rfl, k1, k2⟩ := hP
      have hKa : K 33 11 = nI a := by rw [k2 33 (by omega)]; exact hJa
      have hK35 : K (33 + 2) i = I 35 i := by rw [k2 (33 + 2) (by omega)]; exact congrFun hJ35 i
      refine ⟨nI (i + 1), (u2 K 37 (178 * a + i) (I 35 i), z), ⟨rfl, _, rfl, fun j => ?_, fun x hx => by rw [u2_row hx]; exact k2 x hx⟩, fun k => ?_⟩
      · by_cases hj : j = 178 * a + i
        · subst hj; rw [u2_eq, if_pos (by omega)]; congr 1; omega
        · rw [u2_ne (Or.inr hj), k1 j]
          by_cases h2 : 178 * a ≤ j ∧ j < 178 * a + i
          · rw [if_pos h2, if_pos (by omega)]
          · rw [if_neg h2, if_neg (by omega)]
      · unfold m_X8_keepAct_B52
        rw [if_neg (show ¬ (178 : Int32) ≤ nI i from nI_ge (b := 178) hi' (by omega)), mb_gR (w := (K, z)) hM.o hM.rWas, mb_gI (w := (K, z)) hM.o]
        simp only [hKa]
        rw [mb_gR (w := (K, z)) hM.o hM.rNow, mb_aI (w := (K, z)) hM.sNow hi' (by omega)]
        simp only [hK35]
        rw [show (178 : Int32) * nI a + nI i = nI (178 * a + i) by rw [show (178 : Int32) = nI 178 from rfl, pk_mul, nI_add], mb_tI (w := (K, z)) hM.sWas (show 178 * a + i < 1780 by omega) (by omega), nI_1]) (s := 0) (w := (J, z)) ⟨rfl, J, rfl, fun j => by rw [if_neg (by omega)], fun _ _ => rfl⟩
    refine ⟨u2 K 33 11 (nI (a + 1)), ?_, u2_eq _ _ _ _, fun j => by rw [u2_row (by omega)]; exact k1 j, fun k hk => by rw [u2_ne (Or.inr hk), k2 33 (by omega)], fun x a b => by rw [u2_row a, k2 x b]⟩
    unfold m_X8_keepAct_J50
    rw [e]
    have hKa : K 33 11 = nI a := by rw [k2 33 (by omega)]; exact hJa
    unfold m_X8_keepAct_B52
    rw [if_pos (show (178 : Int32) ≤ nI 178 from nI_le (a := 178) (Nat.le_refl _) (by omega)), mb_gI (w := (K, z)) hM.o]
    simp only [hKa]
    rw [nI_1, mb_sI (w := (K, z)) hM.o]
    rfl
  have hrow : ∀ (J' : Nat → Nat → Int32) (a : Nat), a + 1 = (hpush hi hs).length → (∀ j, 178 * a ≤ j → j < 178 * a + 178 → J' 37 j = I 35 (j - 178 * a)) → (∀ j k, j < a → k < 178 → J' 37 (178 * j + k) = I 37 (178 * (j + (hi.length + 1 - (hpush hi hs).length)) + k)) → ∀ (j : Nat) (h : HS), (hpush hi hs)[j]? = some h → RR (fun k => J' 37 (178 * j + k)) h := by
    intro J' a ha p1 p2 j h hj
    rcases hpush_get hl hs hj with ⟨b, rfl⟩ | ⟨b, c⟩
    · have hja : j = a := by omega
      subst hja
      refine RR_cong hB hR (fun k hk => ?_)
      rw [p1 _ (by omega) (by omega)]
      congr 1
      omega
    · exact RR_cong (hO h (List.mem_of_getElem? c)) (hW _ h c) (fun k hk => p2 j k (by omega) hk)
  unfold m_X8_keepAct
  rw [mb_gI hM.o]
  simp only [h11]
  by_cases h10 : hi.length = 10
  · rw [if_pos (show nI hi.length = 10 by rw [h10]; rfl)]
    obtain ⟨s, x, k, ⟨rfl, K, rfl, k1, k2⟩, e⟩ := lp_FUi (F := fun k s => m_X8_keepAct_B11 33 k s) (fun i s x => s = nI i ∧ ∃ K, x = (K, z) ∧ (∀ j, K 37 j = if j < i then I 37 (j + 178) else I 37 j) ∧ ∀ x, x ≠ 37 → K x = I x) 1602 (by omega) (by
      intro i hi' s x hP
      obtain ⟨rfl, K, rfl, k1, k2⟩ := hP
      have hv : K (33 + 4) (i + 178) = I 37 (i + 178) := by rw [show (33 + 4) = 37 from rfl, k1, if_neg (by omega)]
      refine ⟨nI (i + 1), (u2 K 37 i (I 37 (i + 178)), z), ⟨rfl, _, rfl, fun j => ?_, fun x hx => by rw [u2_row hx]; exact k2 x hx⟩, fun k => ?_⟩
      · by_cases hj : j = i
        · subst hj; rw [u2_eq, if_pos (by omega)]
        · rw [u2_ne (Or.inr hj), k1 j]
          by_cases h2 : j < i
          · rw [if_pos h2, if_pos (by omega)]
          · rw [if_neg h2, if_neg (by omega)]
      · unfold m_X8_keepAct_B11
        rw [if_neg (show ¬ (1602 : Int32) ≤ nI i from nI_ge (b := 1602) hi' (by omega)), mb_gR (w := (K, z)) hM.o hM.rWas, mb_gR (w := (K, z)) hM.o hM.rWas, show nI i + 178 = nI (i + 178) from nI_add i 178, mb_aI (w := (K, z)) hM.sWas (show i + 178 < 1780 by omega) (by omega)]
        simp only [hv]
        rw [mb_tI (w := (K, z)) hM.sWas (show i < 1780 by omega) (by omega), nI_1]) (s := 0) (w := (I, z)) ⟨rfl, I, rfl, fun j => by rw [if_neg (by omega)], fun _ _ => rfl⟩
    have hKa : K 33 11 = nI 10 := by rw [k2 33 (by omega), h11, h10]
    obtain ⟨J', e2, j1, j2, j3, j4⟩ := hend (u2 K 33 11 (nI 9)) 9 (by omega) (u2_eq _ _ _ _) (by rw [u2_row (by omega)]; exact k2 35 (by omega))
    refine ⟨J', ?_, by rw [j1, hlp, h10]; rfl, hrow J' 9 (by omega) (fun j a b => by rw [j2, if_pos ⟨a, b⟩]) (fun j k hj hk => ?_), fun k hk => by rw [j3 k hk, u2_ne (Or.inr hk), k2 33 (by omega)], fun x a b => by rw [j4 x a b, u2_row a, k2 x b]⟩
    · rw [e]
      unfold m_X8_keepAct_B11
      rw [if_pos (show (1602 : Int32) ≤ nI 1602 from nI_le (a := 1602) (Nat.le_refl _) (by omega)), mb_gI (w := (K, z)) hM.o]
      simp only [hKa]
      rw [show nI 10 - 1 = nI 9 from nI_pred 9, mb_sI (w := (K, z)) hM.o]
      exact e2
    · rw [j2, if_neg (by omega), u2_row (by omega), k1, if_pos (by omega)]
      congr 1
      omega
  · rw [if_neg (show ¬ nI hi.length = 10 from fun e => h10 ((nI_eq (b := 10) (by omega) (by omega)).mp e))]
    obtain ⟨J', e2, j1, j2, j3, j4⟩ := hend I hi.length (by omega) h11 rfl
    refine ⟨J', e2, by rw [j1, hlp, Nat.min_eq_left (by omega)], hrow J' hi.length (by omega) (fun j a b => by rw [j2, if_pos ⟨a, b⟩]) (fun j k hj hk => ?_), j3, j4⟩
    rw [j2, if_neg (by omega)]
    congr 1
    omega
/-- MI in pieces: what keepAct leaves -/
theorem MI_acts (h : MI w hs hi im tx ns) (hO : OKS hs hi im tx) : ∃ I', m_X8_keepAct 33 (u2 w.1 33 0 0, w.2) = some ((), (I', w.2)) ∧ I' 33 11 = nI (hpush hi hs).length ∧ (∀ (j : Nat) (h : HS), (hpush hi hs)[j]? = some h → RR (fun k => I' 37 (178 * j + k)) h) ∧ (∀ k, k ≠ 11 → k ≠ 0 → I' 33 k = w.1 33 k) ∧ ∀ x, x ≠ 33 → x ≠ 37 → I' x = w.1 x := by
  obtain ⟨h1, h2, h3, h4, h5, h6, h7⟩ := h
  obtain ⟨I', e, a, b, c, d⟩ := keepAct_ok (I := u2 w.1 33 0 0) h1 hO.2.2.1 (fun x hx => (hO.2.1 x hx).1) hO.1.1 (by rw [u2_row (by omega)]; exact h2) (by rw [u2_ne (Or.inr (by omega))]; exact h5) (by rw [u2_row (by omega)]; exact h6)
  exact ⟨I', e, a, b, fun k h11 h0 => by rw [c k h11, u2_ne (Or.inr h0)], fun x p q => by rw [d x p q, u2_row p]⟩
theorem rundo_ok (h : MI w hs hi im tx ns) (hO : OKS hs hi im tx) {ns' : List (List Nat)} (hN : NS (Wo (unHs hs hi)) ns') (h97 : ns'.length ≤ 97) : ∃ w', m_X8_undo 33 w = some (unAns hi, w') ∧ (hi.length ≠ 0 → MI w' (unHs hs hi) hi.dropLast im tx ns') ∧ (hi.length = 0 → MI w' hs hi im tx ns) ∧ frM w w' := by
  obtain ⟨h0, f0⟩ := MI_th h
  obtain ⟨h1, h2, h3, h4, h5, h6, h7⟩ := id h0
  have hl := hO.2.2.1
  have e11 : u2 w.1 33 0 0 33 11 = nI hi.length := h5
  unfold m_X8_undo unAns
  rw [mb_sI (w := w) h.1.o, mb_gI (w := (u2 w.1 33 0 0, w.2)) h1.o]
  simp only [e11]
  by_cases hz0 : hi.length = 0
  · rw [if_pos (show nI hi.length = 0 by rw [hz0]; rfl), if_pos hz0]
    exact ⟨_, rfl, fun hne => absurd hz0 hne, fun _ => h0, f0⟩
  · obtain ⟨x, hx⟩ : ∃ x, hi[hi.length - 1]? = some x := ⟨_, List.getElem?_eq_getElem (by omega)⟩
    have hlast : hi.getLast? = some x := by rw [List.getLast?_eq_getElem?]; exact hx
    have hun : unHs hs hi = x := by unfold unHs; rw [hlast]
    rw [hun] at hN ⊢
    have hox : okHS x := hO.2.1 x (List.mem_of_getElem? hx)
    have hrx := h6 _ x hx
    rw [if_neg (nI_ne0 (by omega) (by omega)), if_neg hz0, mb_gI (w := (u2 w.1 33 0 0, w.2)) h1.o]
    simp only [e11]
    rw [show nI hi.length - 1 = nI (hi.length - 1) from nI_sub (b := 1) (by omega), mb_sI (w := (u2 w.1 33 0 0, w.2)) h1.o]
    dsimp only
    generalize hI1 : u2 (u2 w.1 33 0 0) 33 11 (nI (hi.length - 1)) = I1
    have f1 : ∀ y, y ≠ 33 → I1 y = w.1 y := fun y hy => by rw [← hI1, u2_row hy, u2_row hy]
    have g1 : ∀ k, k ≠ 0 → k ≠ 11 → I1 33 k = w.1 33 k := fun k a b => by rw [← hI1, u2_ne (Or.inr b), u2_ne (Or.inr a)]
    have g11 : I1 33 11 = nI (hi.length - 1) := by rw [← hI1, u2_eq]
    obtain ⟨s, y, k, ⟨rfl, K, rfl, k1, k2⟩, e⟩ := lp_FUi (F := fun k s => m_X8_undo_B27 33 k s) (fun i s y => s = nI i ∧ ∃ K, y = (K, w.2) ∧ (∀ j, j < i → K 35 j = w.1 37 (178 * (hi.length - 1) + j)) ∧ ∀ y, y ≠ 35 → K y = I1 y) 178 (by omega) (by
      intro i hi' s y hP
      obtain ⟨rfl, K, rfl, k1, k2⟩ := hP
      have hKa : K 33 11 = nI (hi.length - 1) := by rw [k2 33 (by omega)]; exact g11
      have hv : K (33 + 4) (178 * (hi.length - 1) + i) = w.1 37 (178 * (hi.length - 1) + i) := by rw [k2 (33 + 4) (by omega), f1 _ (by omega)]
      refine ⟨nI (i + 1), (u2 K 35 i (w.1 37 (178 * (hi.length - 1) + i)), w.2), ⟨rfl, _, rfl, fun j hj => ?_, fun y hy => by rw [u2_row hy]; exact k2 y hy⟩, fun k => ?_⟩
      · by_cases hji : j = i
        · subst hji; rw [u2_eq]
        · rw [u2_ne (Or.inr hji)]; exact k1 j (by omega)
      · unfold m_X8_undo_B27
        rw [if_neg (show ¬ (178 : Int32) ≤ nI i from nI_ge (b := 178) hi' (by omega)), mb_gR (w := (K, w.2)) h1.o h1.rNow, mb_gR (w := (K, w.2)) h1.o h1.rWas, mb_gI (w := (K, w.2)) h1.o]
        simp only [hKa]
        rw [show (178 : Int32) * nI (hi.length - 1) + nI i = nI (178 * (hi.length - 1) + i) by rw [show (178 : Int32) = nI 178 from rfl, pk_mul, nI_add], mb_aI (w := (K, w.2)) h1.sWas (show 178 * (hi.length - 1) + i < 1780 by omega) (by omega)]
        simp only [hv]
        rw [mb_tI (w := (K, w.2)) h1.sNow hi' (by omega), nI_1]) (s := 0) (w := (I1, w.2)) ⟨rfl, I1, rfl, fun j hj => absurd hj (by omega), fun _ _ => rfl⟩
    have hR2 : RR (K 35) x := RR_cong hox.1 hrx (fun j hj => by
      rw [k1 j hj]
      show w.1 37 _ = u2 w.1 33 0 0 37 _
      rw [u2_row (by omega)])
    obtain ⟨I2, e2, r1, r2, r3⟩ := rmake_ok (I := K) h1 hox hR2 hN h97
    have fx : ∀ y, y ≠ 33 → y ≠ 35 → (y < 40 ∨ 44 < y) → I2 y = w.1 y := fun y a b c => by rw [r2 y a c, k2 y b, f1 y a]
    have fk : ∀ k, k ≠ 0 → k ≠ 11 → k ≠ 15 → k ≠ 17 → I2 33 k = w.1 33 k := fun k a b c d => by rw [r3 k c d, k2 33 (by omega), g1 k a b]
    have f11 : I2 33 11 = nI (hi.length - 1) := by rw [r3 11 (by omega) (by omega), k2 33 (by omega)]; exact g11
    refine ⟨(I2, w.2), ?_, fun _ => ⟨h1, ?_, r1, ?_, ?_, ?_, ?_⟩, fun hh => absurd hh hz0, rfl, fun y hy => ⟨fx y (by omega) (by omega) (by omega), rfl⟩⟩
    · rw [e]
      unfold m_X8_undo_B27
      rw [if_pos (show (178 : Int32) ≤ nI 178 from nI_le (a := 178) (Nat.le_refl _) (by omega)), mb_vc (w := (K, w.2)) h1.o, mb_call e2, mb_gI (w := (I2, w.2)) h1.o]
      show some (I2 33 11, (I2, w.2)) = _
      rw [f11]
    · show RR (I2 35) x; rw [r2 35 (by omega) (by omega)]; exact hR2
    · show I2 33 2 = _ ∧ ∀ (i c : Nat), tx[i]? = some c → I2 34 i = nI c
      rw [fk 2 (by omega) (by omega) (by omega) (by omega), fx 34 (by omega) (by omega) (by omega)]
      exact h.2.2.2.1
    · show I2 33 11 = _; rw [f11, List.length_dropLast]
    · intro j y hy
      have hjl := (List.getElem?_eq_some_iff.mp hy).1
      rw [List.length_dropLast] at hjl
      rw [List.getElem?_dropLast, if_pos hjl] at hy
      show RR (fun k => I2 37 (178 * j + k)) y
      rw [fx 37 (by omega) (by omega) (by omega)]
      exact h.2.2.2.2.2.1 j y hy
    · show ∀ i, i < 2 → (im i = none ∧ I2 38 i = 0) ∨ ∃ h, im i = some h ∧ I2 38 i = 1 ∧ RR (fun k => I2 39 (178 * i + k)) h
      rw [fx 38 (by omega) (by omega) (by omega), fx 39 (by omega) (by omega) (by omega)]
      exact h.2.2.2.2.2.2
theorem inIm {x : Int32} (w : Wd) : m_X8_in x.toInt64 0 1 w = some (bI (imAt x).isSome, w) := by
  rw [in_ok, Int32.toInt_toInt64, show (0 : Int64).toInt = 0 by decide, show (1 : Int64).toInt = 1 by decide]
  rcases imAt_cases x with ⟨e, -, hx⟩ | ⟨i, hi2, rfl, e⟩
  · rw [e, show decide (0 ≤ x.toInt ∧ x.toInt ≤ 1) = false by rw [decide_eq_false_iff_not]; exact hx]; rfl
  · rw [e, nI_toInt (by omega), show decide (0 ≤ ((i : Nat) : Int) ∧ ((i : Nat) : Int) ≤ 1) = true by rw [decide_eq_true_iff]; omega]; rfl
theorem rkeep_ok (h : MI w hs hi im tx ns) (hO : OKS hs hi im tx) (x : Int32) : ∃ w', m_X8_keep 33 x w = some (kpAns hs x, w') ∧ MI w' hs hi (kpIm hs im x) tx ns ∧ frM w w' := by
  obtain ⟨h0, f0⟩ := MI_th h
  obtain ⟨h1, h2, h3, h4, h5, h6, h7⟩ := id h0
  unfold m_X8_keep kpAns kpIm
  rw [mb_sI (w := w) h.1.o, mb_call (inIm _)]
  rcases imAt_cases x with ⟨e, -, -⟩ | ⟨i, hi2, rfl, e⟩
  · rw [e, if_pos (show bI (none : Option Nat).isSome = 0 from rfl)]
    exact ⟨_, rfl, h0, f0⟩
  rw [e, if_neg (show ¬ bI (some i).isSome = 0 from (by decide : ¬ bI true = 0))]
  dsimp only
  obtain ⟨s, y, k, ⟨rfl, K, rfl, k1, k2⟩, e2⟩ := lp_FUi (F := fun k s => m_X8_keep_B19 33 (nI i) k s) (fun j s y => s = nI j ∧ ∃ K, y = (K, w.2) ∧ (∀ l, K 39 l = if 178 * i ≤ l ∧ l < 178 * i + j then w.1 35 (l - 178 * i) else w.1 39 l) ∧ ∀ y, y ≠ 39 → K y = u2 w.1 33 0 0 y) 178 (by omega) (by
    intro j hj s y hP
    obtain ⟨rfl, K, rfl, k1, k2⟩ := hP
    have hv : K (33 + 2) j = w.1 35 j := by rw [k2 (33 + 2) (by omega), u2_row (by omega)]
    refine ⟨nI (j + 1), (u2 K 39 (178 * i + j) (w.1 35 j), w.2), ⟨rfl, _, rfl, fun l => ?_, fun y hy => by rw [u2_row hy]; exact k2 y hy⟩, fun k => ?_⟩
    · by_cases hl : l = 178 * i + j
      · subst hl; rw [u2_eq, if_pos (by omega), show 178 * i + j - 178 * i = j by omega]
      · rw [u2_ne (Or.inr hl), k1 l]
        by_cases hh : 178 * i ≤ l ∧ l < 178 * i + j
        · rw [if_pos hh, if_pos (by omega)]
        · rw [if_neg hh, if_neg (by omega)]
    · unfold m_X8_keep_B19
      rw [if_neg (show ¬ (178 : Int32) ≤ nI j from nI_ge (b := 178) hj (by omega)), mb_gR (w := (K, w.2)) h1.o h1.rKept, mb_gR (w := (K, w.2)) h1.o h1.rNow, mb_aI (w := (K, w.2)) h1.sNow hj (by omega)]
      simp only [hv]
      rw [show (178 : Int32) * nI i + nI j = nI (178 * i + j) by rw [show (178 : Int32) = nI 178 from rfl, pk_mul, nI_add], mb_tI (w := (K, w.2)) h1.sKept (show 178 * i + j < 356 by omega) (by omega), nI_1]) (s := 0) (w := (u2 w.1 33 0 0, w.2)) ⟨rfl, _, rfl, fun l => by rw [if_neg (by omega), u2_row (by omega)], fun _ _ => rfl⟩
  generalize hI2 : u2 K 38 i 1 = I2
  have fx : ∀ y, y ≠ 33 → y ≠ 38 → y ≠ 39 → I2 y = w.1 y := fun y a b c => by rw [← hI2, u2_row b, k2 y c, u2_row a]
  have fk : ∀ k, k ≠ 0 → I2 33 k = w.1 33 k := fun k a => by rw [← hI2, u2_row (by omega), k2 33 (by omega), u2_ne (Or.inr a)]
  refine ⟨(I2, w.2), ?_, ⟨h1, ?_, ?_, ?_, ?_, ?_, ?_⟩, rfl, fun y hy => ⟨fx y (by omega) (by omega) (by omega), rfl⟩⟩
  · rw [e2]
    unfold m_X8_keep_B19
    rw [if_pos (show (178 : Int32) ≤ nI 178 from nI_le (a := 178) (Nat.le_refl _) (by omega)), mb_gR (w := (K, w.2)) h1.o h1.rIsKept, mb_tZ (w := (K, w.2)) h1.sIsKept hi2 (by omega) (Or.inr rfl)]
    dsimp only
    rw [show u2 K (33 + 5) i 1 = I2 from hI2, mb_gR (w := (I2, w.2)) h1.o h1.rNow, mb_aI0 (w := (I2, w.2)) h1.sNow (by omega) (by omega)]
    show some (I2 35 0, (I2, w.2)) = _
    rw [fx 35 (by omega) (by omega) (by omega), h.2.1.1]
  · show RR (I2 35) hs; rw [fx 35 (by omega) (by omega) (by omega)]; exact h.2.1
  · exact h.2.2.1.kept (fk 15 (by omega)) (fk 17 (by omega)) (fun j a b => fx _ (by omega) (by omega) (by omega))
  · show I2 33 2 = _ ∧ ∀ (i c : Nat), tx[i]? = some c → I2 34 i = nI c
    rw [fk 2 (by omega), fx 34 (by omega) (by omega) (by omega)]; exact h.2.2.2.1
  · show I2 33 11 = _; rw [fk 11 (by omega)]; exact h.2.2.2.2.1
  · show ∀ (j : Nat) (h : HS), hi[j]? = some h → RR (fun k => I2 37 (178 * j + k)) h
    rw [fx 37 (by omega) (by omega) (by omega)]; exact h.2.2.2.2.2.1
  · intro j hj
    show ((if j = i then some hs else im j) = none ∧ I2 38 j = 0) ∨ ∃ h, (if j = i then some hs else im j) = some h ∧ I2 38 j = 1 ∧ RR (fun k => I2 39 (178 * j + k)) h
    have h39 : I2 39 = K 39 := by rw [← hI2, u2_row (by omega)]
    rw [h39]
    by_cases hji : j = i
    · subst hji
      refine Or.inr ⟨hs, if_pos rfl, by rw [← hI2, u2_eq], ?_⟩
      refine RR_cong hO.1.1 h.2.1 (fun k hk => ?_)
      rw [k1, if_pos (by omega), show 178 * j + k - 178 * j = k by omega]
    · rw [if_neg hji, show I2 38 j = w.1 38 j by rw [← hI2, u2_ne (Or.inr hji), k2 38 (by omega), u2_row (by omega)]]
      rcases h.2.2.2.2.2.2 j hj with q | ⟨y, q1, q2, q3⟩
      · exact Or.inl q
      · refine Or.inr ⟨y, q1, q2, RR_cong (hO.2.2.2.1 j y q1).1 q3 (fun k hk => ?_)⟩
        rw [k1, if_neg (by omega)]
theorem rback_ok (h : MI w hs hi im tx ns) (hO : OKS hs hi im tx) (x : Int32) {ns' : List (List Nat)} (hN : NS (Wo (bkHs hs im x)) ns') (h97 : ns'.length ≤ 97) : ∃ w', m_X8_back 33 x w = some (bkAns im x, w') ∧ ((∃ i y, imAt x = some i ∧ im i = some y) → MI w' (bkHs hs im x) (bkHi hi im x) im tx ns') ∧ (¬ (∃ i y, imAt x = some i ∧ im i = some y) → MI w' hs hi im tx ns) ∧ frM w w' := by
  obtain ⟨h0, f0⟩ := MI_th h
  obtain ⟨h1, h2, h3, h4, h5, h6, h7⟩ := id h0
  unfold m_X8_back bkAns
  rw [mb_sI (w := w) h.1.o, mb_call (inIm _)]
  rcases imAt_cases x with ⟨e, -, -⟩ | ⟨i, hi2, rfl, e⟩
  · rw [e, if_pos (show bI (none : Option Nat).isSome = 0 from rfl)]
    refine ⟨_, rfl, fun hh => ?_, fun _ => h0, f0⟩
    obtain ⟨i, y, a, -⟩ := hh
    cases a
  rw [e, if_neg (show ¬ bI (some i).isSome = 0 from (by decide : ¬ bI true = 0)), mb_gR (w := (u2 w.1 33 0 0, w.2)) h1.o h1.rIsKept, mb_aZ (w := (u2 w.1 33 0 0, w.2)) h1.sIsKept hi2 (by omega)]
  dsimp only
  rcases h7 i hi2 with ⟨q1, q2⟩ | ⟨y, q1, q2, q3⟩
  · rw [if_pos (show u2 w.1 33 0 0 (33 + 5) i = 0 from q2), q1]
    refine ⟨_, rfl, fun hh => ?_, fun _ => h0, f0⟩
    obtain ⟨i', y, a, b⟩ := hh
    rw [Option.some.inj a] at q1
    rw [q1] at b
    cases b
  · rw [if_neg (show ¬ u2 w.1 33 0 0 (33 + 5) i = 0 by rw [show u2 w.1 33 0 0 (33 + 5) i = 1 from q2]; decide), q1]
    dsimp only
    have hbk : bkHs hs im (nI i) = y := by unfold bkHs; rw [e]; dsimp only; rw [q1]
    have hbi : bkHi hi im (nI i) = [] := by unfold bkHi; rw [e]; dsimp only; rw [q1]
    rw [hbk] at hN ⊢
    rw [hbi]
    have hox : okHS y := hO.2.2.2.1 i y q1
    obtain ⟨s, yy, k, ⟨rfl, K, rfl, k1, k2⟩, e2⟩ := lp_FUi (F := fun k s => m_X8_back_B31 33 (nI i) k s) (fun j s y => s = nI j ∧ ∃ K, y = (K, w.2) ∧ (∀ l, l < j → K 35 l = w.1 39 (178 * i + l)) ∧ ∀ y, y ≠ 35 → K y = u2 w.1 33 0 0 y) 178 (by omega) (by
      intro j hj s y hP
      obtain ⟨rfl, K, rfl, k1, k2⟩ := hP
      have hv : K (33 + 6) (178 * i + j) = w.1 39 (178 * i + j) := by rw [k2 (33 + 6) (by omega), u2_row (by omega)]
      refine ⟨nI (j + 1), (u2 K 35 j (w.1 39 (178 * i + j)), w.2), ⟨rfl, _, rfl, fun l hl => ?_, fun y hy => by rw [u2_row hy]; exact k2 y hy⟩, fun k => ?_⟩
      · by_cases hlj : l = j
        · subst hlj; rw [u2_eq]
        · rw [u2_ne (Or.inr hlj)]; exact k1 l (by omega)
      · unfold m_X8_back_B31
        rw [if_neg (show ¬ (178 : Int32) ≤ nI j from nI_ge (b := 178) hj (by omega)), mb_gR (w := (K, w.2)) h1.o h1.rNow, mb_gR (w := (K, w.2)) h1.o h1.rKept, show (178 : Int32) * nI i + nI j = nI (178 * i + j) by rw [show (178 : Int32) = nI 178 from rfl, pk_mul, nI_add], mb_aI (w := (K, w.2)) h1.sKept (show 178 * i + j < 356 by omega) (by omega)]
        simp only [hv]
        rw [mb_tI (w := (K, w.2)) h1.sNow hj (by omega), nI_1]) (s := 0) (w := (u2 w.1 33 0 0, w.2)) ⟨rfl, _, rfl, fun l hl => absurd hl (by omega), fun _ _ => rfl⟩
    have hR2 : RR (u2 K 33 11 0 35) y := by
      rw [u2_row (by omega)]
      refine RR_cong hox.1 q3 (fun j hj => ?_)
      rw [k1 j hj]
      show w.1 39 _ = u2 w.1 33 0 0 39 _
      rw [u2_row (by omega)]
    obtain ⟨I2, e3, r1, r2, r3⟩ := rmake_ok (I := u2 K 33 11 0) h1 hox hR2 hN h97
    have fx : ∀ y, y ≠ 33 → y ≠ 35 → (y < 40 ∨ 44 < y) → I2 y = w.1 y := fun y a b c => by rw [r2 y a c, u2_row a, k2 y b, u2_row a]
    have fk : ∀ k, k ≠ 0 → k ≠ 11 → k ≠ 15 → k ≠ 17 → I2 33 k = w.1 33 k := fun k a b c d => by rw [r3 k c d, u2_ne (Or.inr b), k2 33 (by omega), u2_ne (Or.inr a)]
    have f11 : I2 33 11 = 0 := by rw [r3 11 (by omega) (by omega), u2_eq]
    have hR3 : RR (I2 35) y := by rw [r2 35 (by omega) (by omega)]; exact hR2
    refine ⟨(I2, w.2), ?_, fun _ => ⟨h1, hR3, r1, ?_, f11, fun j y hy => by simp at hy, ?_⟩, fun hh => absurd ⟨i, y, rfl, q1⟩ hh, rfl, fun y hy => ⟨fx y (by omega) (by omega) (by omega), rfl⟩⟩
    · rw [e2]
      unfold m_X8_back_B31
      rw [if_pos (show (178 : Int32) ≤ nI 178 from nI_le (a := 178) (Nat.le_refl _) (by omega)), mb_sI (w := (K, w.2)) h1.o, mb_vc (w := (u2 K 33 11 0, w.2)) h1.o, mb_call e3, mb_gR (w := (I2, w.2)) h1.o h1.rNow, mb_aI0 (w := (I2, w.2)) h1.sNow (by omega) (by omega)]
      show some (I2 35 0, (I2, w.2)) = _
      rw [hR3.1]
    · show I2 33 2 = _ ∧ ∀ (i c : Nat), tx[i]? = some c → I2 34 i = nI c
      rw [fk 2 (by omega) (by omega) (by omega) (by omega), fx 34 (by omega) (by omega) (by omega)]
      exact h.2.2.2.1
    · show ∀ i, i < 2 → (im i = none ∧ I2 38 i = 0) ∨ ∃ h, im i = some h ∧ I2 38 i = 1 ∧ RR (fun k => I2 39 (178 * i + k)) h
      rw [fx 38 (by omega) (by omega) (by omega), fx 39 (by omega) (by omega) (by omega)]
      exact h.2.2.2.2.2.2
end RO
