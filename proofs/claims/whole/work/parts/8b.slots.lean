/-! ===== Held.take(); what is held aside ===== -/
theorem mb_cpI {β : Type} {f : Unit → Mo β} {w : Wd} {s d n : Nat} (hs : (wS w)[s]? = some (100, n)) (hd : (wS w)[d]? = some (100, n)) (h0 : 0 < n) (hn : n < 2 ^ 31) : mb (cpI s 0 d 0 (nI n)) f w = f () (uA w.1 d (va_cpy (w.1 s) (w.1 d) 0 0 n), w.2) := by
  refine mb_call ?_
  unfold cpI
  rw [alen_of hs, alen_of hd, nI_clamp hn, if_pos]
  · rfl
  · refine ⟨⟨by decide, by decide, nI_pos hn⟩, ⟨h0, h0⟩, ?_, ?_⟩
    · show 0 + n ≤ n; omega
    · show 0 + n ≤ n; omega
theorem HR_copy {I I' : Nat → Nat → Int32} {s d : Nat} {hs : HS} (hB : HB hs) (h : HR I s hs) (e0 : I' d 0 = I s 0) (e1 : I' d 1 = I s 1) (r1 : ∀ j, j < 8 → I' (d + 1) j = I (s + 1) j) (r2 : ∀ j, j < 32 → I' (d + 2) j = I (s + 2) j ∧ I' (d + 3) j = I (s + 3) j ∧ I' (d + 4) j = I (s + 4) j ∧ I' (d + 5) j = I (s + 5) j) (r6 : ∀ j, j < 40 → I' (d + 6) j = I (s + 6) j) : HR I' d hs := by
  obtain ⟨h1, h2, h3, h4⟩ := h
  refine ⟨e0.trans h1, e1.trans h2, fun q Q hq => ?_, fun i c hi => ?_⟩
  · have hq8 : q < 8 := by have := (List.getElem?_eq_some_iff.mp hq).1; have := hB.1; omega
    obtain ⟨a, b⟩ := h3 q Q hq
    have hQ4 := (hB.2.2.1 Q (List.mem_of_getElem? hq)).1
    refine ⟨(r1 q hq8).trans a, fun k P hk => ?_⟩
    have hk4 := (List.getElem?_eq_some_iff.mp hk).1
    obtain ⟨t2, t3, t4, t5⟩ := r2 (4 * q + k) (by omega)
    rw [t2, t3, t4, t5]
    exact b k P hk
  · have := (List.getElem?_eq_some_iff.mp hi).1
    have := hB.2.1
    rw [r6 i (by omega)]
    exact h4 i c hi
theorem cpy_lo {f g : Nat → Int32} {n j : Nat} (h : j < n) : va_cpy f g 0 0 n j = f j := by
  unfold va_cpy
  rw [if_pos ⟨by omega, by omega⟩]
  congr 1
  omega
theorem take_ok {z : Zd} {I : Nat → Nat → Int32} {d s : Nat} (hd : HO z d) (hs' : HO z s) (hne : d ≠ s) {hs : HS} (hB : HB hs) (hR : HR I s hs) : ∃ I', m_X1_take d s (I, z) = some ((), (I', z)) ∧ HR I' d hs ∧ ∀ x, (x < d ∨ d + 6 < x) → I' x = I x := by
  have hdis := HO_HO hd hs' hne
  obtain ⟨d0, ⟨d2, d3, d4, d5, d6, d7⟩, t1, t2, t3, t4, t5, t6⟩ := hd
  obtain ⟨s0, ⟨s2, s3, s4, s5, s6, s7⟩, u1, u2', u3, u4, u5, u6⟩ := hs'
  generalize hI1 : u2 (u2 I d 0 (I s 0)) d 1 (I s 1) = I1
  have g1 : ∀ x, x ≠ d → I1 x = I x := fun x hx => by rw [← hI1, u2_row hx, u2_row hx]
  generalize hI2 : uA I1 (d + 1) (va_cpy (I1 (s + 1)) (I1 (d + 1)) 0 0 8) = I2
  have g2 : ∀ x, x ≠ d + 1 → I2 x = I1 x := fun x hx => by rw [← hI2, uA_ne hx]
  generalize hI3 : uA I2 (d + 2) (va_cpy (I2 (s + 2)) (I2 (d + 2)) 0 0 32) = I3
  have g3 : ∀ x, x ≠ d + 2 → I3 x = I2 x := fun x hx => by rw [← hI3, uA_ne hx]
  generalize hI4 : uA I3 (d + 3) (va_cpy (I3 (s + 3)) (I3 (d + 3)) 0 0 32) = I4
  have g4 : ∀ x, x ≠ d + 3 → I4 x = I3 x := fun x hx => by rw [← hI4, uA_ne hx]
  generalize hI5 : uA I4 (d + 4) (va_cpy (I4 (s + 4)) (I4 (d + 4)) 0 0 32) = I5
  have g5 : ∀ x, x ≠ d + 4 → I5 x = I4 x := fun x hx => by rw [← hI5, uA_ne hx]
  generalize hI6 : uA I5 (d + 5) (va_cpy (I5 (s + 5)) (I5 (d + 5)) 0 0 32) = I6
  have g6 : ∀ x, x ≠ d + 5 → I6 x = I5 x := fun x hx => by rw [← hI6, uA_ne hx]
  generalize hI7 : uA I6 (d + 6) (va_cpy (I6 (s + 6)) (I6 (d + 6)) 0 0 40) = I7
  have g7 : ∀ x, x ≠ d + 6 → I7 x = I6 x := fun x hx => by rw [← hI7, uA_ne hx]
  refine ⟨I7, ?_, ?_, ?_⟩
  · unfold m_X1_take
    rw [mb_gI (w := (I, z)) s0, mb_sI (w := (I, z)) d0, mb_gI (w := (u2 I d 0 (I s 0), z)) s0]
    dsimp only
    rw [show u2 I d 0 (I s 0) s 1 = I s 1 from u2_ne (Or.inl (by omega)), mb_sI (w := (u2 I d 0 (I s 0), z)) d0]
    dsimp only
    rw [hI1, mb_gR (w := (I1, z)) s0 s2, mb_gR (w := (I1, z)) d0 d2, mb_gR (w := (I1, z)) d0 d2, mb_aL (w := (I1, z)) t1, mb_cpI (w := (I1, z)) u1 t1 (by omega) (by omega)]
    dsimp only
    rw [hI2, mb_gR (w := (I2, z)) s0 s3, mb_gR (w := (I2, z)) d0 d3, mb_gR (w := (I2, z)) d0 d3, mb_aL (w := (I2, z)) t2, mb_cpI (w := (I2, z)) u2' t2 (by omega) (by omega)]
    dsimp only
    rw [hI3, mb_gR (w := (I3, z)) s0 s4, mb_gR (w := (I3, z)) d0 d4, mb_gR (w := (I3, z)) d0 d4, mb_aL (w := (I3, z)) t3, mb_cpI (w := (I3, z)) u3 t3 (by omega) (by omega)]
    dsimp only
    rw [hI4, mb_gR (w := (I4, z)) s0 s5, mb_gR (w := (I4, z)) d0 d5, mb_gR (w := (I4, z)) d0 d5, mb_aL (w := (I4, z)) t4, mb_cpI (w := (I4, z)) u4 t4 (by omega) (by omega)]
    dsimp only
    rw [hI5, mb_gR (w := (I5, z)) s0 s6, mb_gR (w := (I5, z)) d0 d6, mb_gR (w := (I5, z)) d0 d6, mb_aL (w := (I5, z)) t5, mb_cpI (w := (I5, z)) u5 t5 (by omega) (by omega)]
    dsimp only
    rw [hI6, mb_gR (w := (I6, z)) s0 s7, mb_gR (w := (I6, z)) d0 d7, mb_gR (w := (I6, z)) d0 d7, mb_aL (w := (I6, z)) t6, mb_cpI (w := (I6, z)) u6 t6 (by omega) (by omega)]
    dsimp only
    rw [hI7]
    rfl
  · refine HR_copy hB hR ?_ ?_ (fun j hj => ?_) (fun j hj => ⟨?_, ?_, ?_, ?_⟩) (fun j hj => ?_)
    · rw [g7 d (by omega), g6 d (by omega), g5 d (by omega), g4 d (by omega), g3 d (by omega), g2 d (by omega), ← hI1, u2_ne (Or.inr (by omega)), u2_eq]
    · rw [g7 d (by omega), g6 d (by omega), g5 d (by omega), g4 d (by omega), g3 d (by omega), g2 d (by omega), ← hI1, u2_eq]
    · rw [g7 _ (by omega), g6 _ (by omega), g5 _ (by omega), g4 _ (by omega), g3 _ (by omega), ← hI2, uA_eq, cpy_lo hj, g1 _ (by omega)]
    · rw [g7 _ (by omega), g6 _ (by omega), g5 _ (by omega), g4 _ (by omega), ← hI3, uA_eq, cpy_lo hj, g2 _ (by omega), g1 _ (by omega)]
    · rw [g7 _ (by omega), g6 _ (by omega), g5 _ (by omega), ← hI4, uA_eq, cpy_lo hj, g3 _ (by omega), g2 _ (by omega), g1 _ (by omega)]
    · rw [g7 _ (by omega), g6 _ (by omega), ← hI5, uA_eq, cpy_lo hj, g4 _ (by omega), g3 _ (by omega), g2 _ (by omega), g1 _ (by omega)]
    · rw [g7 _ (by omega), ← hI6, uA_eq, cpy_lo hj, g5 _ (by omega), g4 _ (by omega), g3 _ (by omega), g2 _ (by omega), g1 _ (by omega)]
    · rw [← hI7, uA_eq, cpy_lo hj, g6 _ (by omega), g5 _ (by omega), g4 _ (by omega), g3 _ (by omega), g2 _ (by omega), g1 _ (by omega)]
  · intro x hx
    rw [g7 x (by omega), g6 x (by omega), g5 x (by omega), g4 x (by omega), g3 x (by omega), g2 x (by omega), g1 x (by omega)]
/-- all but what is held aside -/
def CB (w : Wd) (hs : HS) (tx : List Nat) (ns : List (List Nat)) : Prop :=
  48 ≤ cnt w ∧ okHS hs ∧ CK w.1 w.2 (Wo hs) hs ∧ AR w.1 24 (Wo hs) ns ∧ ns.length ≤ 97 ∧ (∃ k, ns[k]? = some (lsuf ns hs.2) ∧ w.1 0 7 = nI k) ∧ TX w.2 ∧ HY w.2 ∧ SLT w.2 ∧ SRC w ∧ TXT w tx
theorem CI_CB {w : Wd} {hs : HS} {hi : List HS} {im : Nat → Option HS} {tx : List Nat} {ns : List (List Nat)} (h : CI w hs hi im tx ns) : CB w hs tx ns ∧ OKS hs hi im tx ∧ HIS w hi ∧ IMG w im := by
  obtain ⟨h1, h2, h3, h4, h5, h6, h7, h8, h9, h10, h11, h12, h13⟩ := h
  exact ⟨⟨h1, h2.1, h3, h4, h5, h6, h7, h8, h9, h10, h11⟩, h2, h12, h13⟩
theorem CB_CI {w : Wd} {hs : HS} {hi : List HS} {im : Nat → Option HS} {tx : List Nat} {ns : List (List Nat)} (h : CB w hs tx ns) (h2 : OKS hs hi im tx) (h12 : HIS w hi) (h13 : IMG w im) : CI w hs hi im tx ns := by
  obtain ⟨h1, -, h3, h4, h5, h6, h7, h8, h9, h10, h11⟩ := h
  exact ⟨h1, h2, h3, h4, h5, h6, h7, h8, h9, h10, h11, h12, h13⟩
section SL
variable {w w' : Wd} {hs : HS} {tx : List Nat} {ns : List (List Nat)}
theorem CB_fr (h : CB w hs tx ns) (gi : ∀ x, x < 48 → x ≠ 19 → w'.1 x = w.1 x) (gj : ∀ x, x < 48 → w'.2.1 x = w.2.1 x) (gr : ∀ x k, x < 48 → x ≠ 20 → x ≠ 21 → w'.2.2.1 x k = w.2.2.1 x k) {l : List (Nat × Nat)} (e : wS w' = wS w ++ l) (gs : ∀ s, w.2.2.1 0 8 = some s → ∀ x, s ≤ x → x ≤ s + 15 → w'.1 x = w.1 x ∧ w'.2.2.1 x = w.2.2.1 x) (hsl : SLT w'.2) : CB w' hs tx ns ∧ frC w w' := by
  obtain ⟨h1, h2, ⟨k1, k2, k3, k4, k5, k6, k7, k8⟩, h4, h5, ⟨k, h6, h6'⟩, h7, h8, h9, h10, h11⟩ := h
  have hrr : ∀ x k, x < 33 → ¬ (x = 0 ∧ k = 8) → x ≠ 20 → x ≠ 21 → w'.2.2.1 x k = w.2.2.1 x k := fun x k hx _ a b => gr x k (by omega) a b
  refine ⟨⟨?_, h2, ⟨SQ_pre (z' := w'.2) k1 hrr e, k2, k3.kept (fun j hj => gi _ (by omega) (by omega)), k4, k5, ?_, ?_, k8⟩, h4.kept (fun j hj => gi _ (by omega) (by omega)), h5, ⟨k, h6, by rw [gi 0 (by omega) (by omega)]; exact h6'⟩, TX_pre (z' := w'.2) h7 hrr e, HY_pre (z' := w'.2) h8 hrr e, hsl, ?_, ?_⟩, ⟨fun x p q => ⟨gi x (by omega) (by omega), funext fun k => gr x k (by omega) (by omega) (by omega)⟩, l, e⟩⟩
  · unfold cnt at *; rw [e, List.length_append]; omega
  · rw [gi 22 (by omega) (by omega), gi 23 (by omega) (by omega)]; exact k6
  · intro j u hu
    rw [gj 32 (by omega)]; exact k7 j u hu
  · intro p hp
    rw [gr 0 8 (by omega) (by omega) (by omega)] at hp
    obtain ⟨q1, q2, q3⟩ := h10 p hp
    exact ⟨q1, SO_pre (z' := w'.2) q2 (fun x a b => (gs p hp x a b).2) e, by rw [(gs p hp _ (by omega) (by omega)).1]; exact q3⟩
  · unfold TXT; rw [gi 1 (by omega) (by omega), gi 2 (by omega) (by omega)]; exact h11
theorem slotTake_ok (h : CB w hs tx ns) {jn p : Nat} (hj : jn < 12) (hp : sl w.2 jn = some p) : ∃ I', m_X1_take p 12 w = some ((), (I', w.2)) ∧ HR I' p hs ∧ (∀ x, (x < p ∨ p + 6 < x) → I' x = w.1 x) ∧ CB (I', w.2) hs tx ns ∧ frC w (I', w.2) := by
  obtain ⟨-, h2, ⟨k1, k2, k3, -⟩, -, -, -, -, -, h9, h10, -⟩ := id h
  obtain ⟨p48, hHO⟩ := h9.1 jn p hj hp
  obtain ⟨I', e, hR, hF⟩ := take_ok hHO k1.2.2.1 (by omega) k2 k3
  refine ⟨I', e, hR, hF, ?_⟩
  refine CB_fr h (w' := (I', w.2)) (l := []) (fun x hx _ => hF x (by omega)) (fun _ _ => rfl) (fun _ _ _ _ _ => rfl) (by show w.2.2.2 = w.2.2.2 ++ []; rw [List.append_nil]) (fun s hs' x a b => ?_) h9
  have := HO_SO hHO (h10 s hs').2.1
  exact ⟨hF x (by omega), rfl⟩
/-- a new Held comes into the place jn, which lies at row, idx -/
theorem slotNew_ok (h : CB w hs tx ns) {jn row idx : Nat} (hj : jn < 12) (hn : sl w.2 jn = none) (hrow : (row = 20 ∧ idx = jn ∧ jn < 10) ∨ (row = 21 ∧ idx + 10 = jn)) {w1 : Wd} (a1 : HO w1.2 (cnt w)) (a3 : wS w1 = wS w ++ shH) (a4 : ∀ x, x < cnt w → w1.1 x = w.1 x ∧ w1.2.1 x = w.2.1 x ∧ w1.2.2.1 x = w.2.2.1 x) :
    CB (w1.1, w1.2.1, u2 w1.2.2.1 row idx (some (cnt w)), w1.2.2.2) hs tx ns ∧ frC w (w1.1, w1.2.1, u2 w1.2.2.1 row idx (some (cnt w)), w1.2.2.2) ∧ sl (w1.2.1, u2 w1.2.2.1 row idx (some (cnt w)), w1.2.2.2) jn = some (cnt w) ∧ (∀ j, j < 12 → j ≠ jn → sl (w1.2.1, u2 w1.2.2.1 row idx (some (cnt w)), w1.2.2.2) j = sl w.2 j) := by
  have h48 := h.1
  obtain ⟨-, h2, ⟨k1, k2, k3, -⟩, -, -, -, -, -, h9, h10, -⟩ := id h
  have hr : ∀ x k, x < cnt w → ¬ (x = row ∧ k = idx) → u2 w1.2.2.1 row idx (some (cnt w)) x k = w.2.2.1 x k := fun x k hx hk => by
    rw [u2_ne (by omega), (a4 x hx).2.2]
  have hsn : sl (w1.2.1, u2 w1.2.2.1 row idx (some (cnt w)), w1.2.2.2) jn = some (cnt w) := by
    unfold sl
    rcases hrow with ⟨rfl, rfl, hlt⟩ | ⟨rfl, hjn⟩
    · rw [if_pos hlt]; exact u2_eq _ _ _ _
    · rw [if_neg (by omega), show jn - 10 = idx by omega]; exact u2_eq _ _ _ _
  have hso : ∀ j, j < 12 → j ≠ jn → sl (w1.2.1, u2 w1.2.2.1 row idx (some (cnt w)), w1.2.2.2) j = sl w.2 j := by
    intro j hj12 hne
    unfold sl
    by_cases hlt : j < 10
    · rw [if_pos hlt, if_pos hlt]; exact hr 20 j (by omega) (by omega)
    · rw [if_neg hlt, if_neg hlt]; exact hr 21 (j - 10) (by omega) (by omega)
  have hlt : ∀ j q, j < 12 → sl w.2 j = some q → q + 6 < cnt w := fun j q hj12 hq => by
    obtain ⟨v, e1, -⟩ := HO_sh (h9.1 j q hj12 hq).2 (i := 6) (by omega)
    exact (List.getElem?_eq_some_iff.mp e1).1
  refine ⟨?_, ?_, hsn, hso⟩
  all_goals
    have hSLT : SLT (w1.2.1, u2 w1.2.2.1 row idx (some (cnt w)), w1.2.2.2) := by
      refine ⟨fun j q hj12 hq => ?_, fun i j q hi12 hj12 hq hq' => ?_⟩
      · by_cases hne : j = jn
        · subst hne
          rw [hsn] at hq
          have hqe := Option.some.inj hq
          subst hqe
          exact ⟨h48, HO_pre (z' := (w1.2.1, u2 w1.2.2.1 row idx (some (cnt w)), w1.2.2.2)) a1 (l := []) (u2_row (by omega)) (by rw [List.append_nil])⟩
        · rw [hso j hj12 hne] at hq
          obtain ⟨q1, q2⟩ := h9.1 j q hj12 hq
          have := hlt j q hj12 hq
          exact ⟨q1, HO_pre (z' := (w1.2.1, u2 w1.2.2.1 row idx (some (cnt w)), w1.2.2.2)) q2 (funext fun k => hr q k (by omega) (by omega)) a3⟩
      · by_cases hi' : i = jn
        · by_cases hj' : j = jn
          · rw [hi', hj']
          · exfalso
            rw [hi', hsn] at hq
            rw [hso j hj12 hj'] at hq'
            have := hlt j q hj12 hq'
            have := Option.some.inj hq
            omega
        · by_cases hj' : j = jn
          · exfalso
            rw [hj', hsn] at hq'
            rw [hso i hi12 hi'] at hq
            have := hlt i q hi12 hq
            have := Option.some.inj hq'
            omega
          · rw [hso i hi12 hi'] at hq
            rw [hso j hj12 hj'] at hq'
            exact h9.2 i j q hi12 hj12 hq hq'
    have hfin := CB_fr h (w' := (w1.1, w1.2.1, u2 w1.2.2.1 row idx (some (cnt w)), w1.2.2.2)) (l := shH) (fun x hx _ => (a4 x (by omega)).1) (fun x hx => (a4 x (by omega)).2.1) (fun x k hx a b => hr x k (by omega) (by omega)) a3 (fun s hs' x a b => by
      obtain ⟨q1, q2, -⟩ := h10 s hs'
      obtain ⟨v, e1, -⟩ := SO_sh q2 (j := 15) (by omega)
      have hlt' : s + 15 < cnt w := (List.getElem?_eq_some_iff.mp e1).1
      have hx : x < cnt w := by omega
      exact ⟨(a4 x hx).1, funext fun k => hr x k hx (by omega)⟩) hSLT
  · exact hfin.1
  · exact hfin.2
end SL
