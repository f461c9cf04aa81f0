/-! ===== the whole state; what each side keeps of it ===== -/
def TX (z : Zd) : Prop := z.2.2[1]? = some (4, nf 4) ∧ (z.2.1 1 0 = some 2 ∧ z.2.1 1 2 = some 3 ∧ z.2.1 1 3 = some 10) ∧ z.2.2[2]? = some (100, 150) ∧ HO z 3 ∧ WO z 10 11 16
def HY (z : Zd) : Prop := z.2.2[19]? = some (2, nf 2) ∧ z.2.1 19 0 = some 20 ∧ z.2.2[20]? = some (103, 10) ∧ z.2.2[21]? = some (103, 2)
/-- the places for what is held aside: 0 .. 9 the ring, 10 and 11 the images -/
def sl (z : Zd) (j : Nat) : Option Nat := if j < 10 then z.2.1 20 j else z.2.1 21 (j - 10)
def SLT (z : Zd) : Prop := (∀ j p, j < 12 → sl z j = some p → 48 ≤ p ∧ HO z p) ∧ ∀ i j p, i < 12 → j < 12 → sl z i = some p → sl z j = some p → i = j
def SRC (w : Wd) : Prop := ∀ p, w.2.2.1 0 8 = some p → 48 ≤ p ∧ SO w.2 p ∧ w.1 (p + 4) 0 = 0
def okHS (hs : HS) : Prop := HB hs ∧ (gatW [] (aws hs.1)).length ≤ 16 ∧ ∀ Q ∈ hs.1, oneN Q
def OKS (hs : HS) (hi : List HS) (im : Nat → Option HS) (tx : List Nat) : Prop := okHS hs ∧ (∀ h ∈ hi, okHS h) ∧ hi.length ≤ 10 ∧ (∀ i h, im i = some h → okHS h) ∧ tx.length ≤ 150 ∧ ∀ c ∈ tx, c < 256
def Wo (hs : HS) : List (List Nat) := gatW [] (aws hs.1)
def HIS (w : Wd) (hi : List HS) : Prop := ∃ lt, lt < 10 ∧ w.1 19 1 = nI lt ∧ w.1 19 2 = nI hi.length ∧ ∀ (j : Nat) (h : HS), hi[j]? = some h → ∃ p, w.2.2.1 20 ((lt + 11 + j - hi.length) % 10) = some p ∧ HR w.1 p h
def IMG (w : Wd) (im : Nat → Option HS) : Prop := ∀ i, i < 2 → (im i = none ∧ w.2.2.1 21 i = none) ∨ ∃ h p, im i = some h ∧ w.2.2.1 21 i = some p ∧ HR w.1 p h
def TXT (w : Wd) (tx : List Nat) : Prop := w.1 1 1 = nI tx.length ∧ ∀ (i c : Nat), tx[i]? = some c → w.1 2 i = nI c
def CI (w : Wd) (hs : HS) (hi : List HS) (im : Nat → Option HS) (tx : List Nat) (ns : List (List Nat)) : Prop :=
  48 ≤ cnt w ∧ OKS hs hi im tx ∧ CK w.1 w.2 (Wo hs) hs ∧ AR w.1 24 (Wo hs) ns ∧ ns.length ≤ 97 ∧ (∃ k, ns[k]? = some (lsuf ns hs.2) ∧ w.1 0 7 = nI k) ∧ TX w.2 ∧ HY w.2 ∧ SLT w.2 ∧ SRC w ∧ TXT w tx ∧ HIS w hi ∧ IMG w im
def MI (w : Wd) (hs : HS) (hi : List HS) (im : Nat → Option HS) (tx : List Nat) (ns : List (List Nat)) : Prop :=
  MO w.2 33 ∧ RR (w.1 35) hs ∧ RX w.1 33 (Wo hs) ns ∧ (w.1 33 2 = nI tx.length ∧ ∀ (i c : Nat), tx[i]? = some c → w.1 34 i = nI c) ∧ w.1 33 11 = nI hi.length ∧ (∀ (j : Nat) (h : HS), hi[j]? = some h → RR (fun k => w.1 37 (178 * j + k)) h) ∧ ∀ i, i < 2 → (im i = none ∧ w.1 38 i = 0) ∨ ∃ h, im i = some h ∧ w.1 38 i = 1 ∧ RR (fun k => w.1 39 (178 * i + k)) h
/-- what the class's calls leave: the reference's cells -/
def frC (w w' : Wd) : Prop := (∀ x, 33 ≤ x → x ≤ 47 → w'.1 x = w.1 x ∧ w'.2.2.1 x = w.2.2.1 x) ∧ ∃ l, wS w' = wS w ++ l
/-- what the reference's calls leave: all but its own cells -/
def frM (w w' : Wd) : Prop := w'.2.2 = w.2.2 ∧ ∀ x, (x < 33 ∨ 47 < x) → w'.1 x = w.1 x ∧ w'.2.1 x = w.2.1 x
theorem pre_get {S l : List (Nat × Nat)} {x : Nat} {v : Nat × Nat} (h : S[x]? = some v) : (S ++ l)[x]? = some v := by
  rw [List.getElem?_append_left (List.getElem?_eq_some_iff.mp h).1]; exact h
theorem frC.refl (w : Wd) : frC w w := ⟨fun _ _ _ => ⟨rfl, rfl⟩, [], by simp⟩
theorem frC.trans {w w1 w2 : Wd} (h : frC w w1) (h2 : frC w1 w2) : frC w w2 := by
  obtain ⟨a, l, e⟩ := h
  obtain ⟨b, l2, e2⟩ := h2
  exact ⟨fun x p q => ⟨(b x p q).1.trans (a x p q).1, (b x p q).2.trans (a x p q).2⟩, l ++ l2, by rw [e2, e, List.append_assoc]⟩
theorem MO_pre {z z' : Zd} (h : MO z 33) (hr : ∀ x, 33 ≤ x → x ≤ 47 → z'.2.1 x = z.2.1 x) {l : List (Nat × Nat)} (hl : z'.2.2 = z.2.2 ++ l) : MO z' 33 := by
  obtain ⟨o, ⟨r1, r2, r3, r4, r5, r6, r7, r8, r9, r10, r11, r12, r13, r14⟩, ⟨s1, s2, s3, s4, s5, s6, s7, s8, s9, s10, s11, s12, s13, s14⟩⟩ := h
  have e33 := hr 33 (by omega) (by omega)
  unfold MO
  rw [hl, e33]
  exact ⟨pre_get o, ⟨r1, r2, r3, r4, r5, r6, r7, r8, r9, r10, r11, r12, r13, r14⟩, pre_get s1, pre_get s2, pre_get s3, pre_get s4, pre_get s5, pre_get s6, pre_get s7, pre_get s8, pre_get s9, pre_get s10, pre_get s11, pre_get s12, pre_get s13, pre_get s14⟩
theorem MI_kept {w w' : Wd} {hs : HS} {hi : List HS} {im : Nat → Option HS} {tx : List Nat} {ns : List (List Nat)} (h : MI w hs hi im tx ns) (f : frC w w') : MI w' hs hi im tx ns := by
  obtain ⟨a, l, e⟩ := f
  obtain ⟨h1, h2, h3, h4, h5, h6, h7⟩ := h
  have g : ∀ x, 33 ≤ x → x ≤ 47 → w'.1 x = w.1 x := fun x p q => (a x p q).1
  refine ⟨MO_pre h1 (fun x p q => (a x p q).2) e, by rw [g 35 (by omega) (by omega)]; exact h2, h3.kept (by rw [g 33 (by omega) (by omega)]) (by rw [g 33 (by omega) (by omega)]) (fun j p q => g _ (by omega) (by omega)), by rw [g 33 (by omega) (by omega), g 34 (by omega) (by omega)]; exact h4, by rw [g 33 (by omega) (by omega)]; exact h5, by rw [g 37 (by omega) (by omega)]; exact h6, by rw [g 38 (by omega) (by omega), g 39 (by omega) (by omega)]; exact h7⟩
theorem HO_pre {z z' : Zd} {h : Nat} (ho : HO z h) (hr : z'.2.1 h = z.2.1 h) {l : List (Nat × Nat)} (hl : z'.2.2 = z.2.2 ++ l) : HO z' h := by
  obtain ⟨o, r, s1, s2, s3, s4, s5, s6⟩ := ho
  unfold HO
  rw [hl, hr]
  exact ⟨pre_get o, r, pre_get s1, pre_get s2, pre_get s3, pre_get s4, pre_get s5, pre_get s6⟩
theorem WO_pre {z z' : Zd} {p a n : Nat} (h : WO z p a n) (hr : z'.2.1 p = z.2.1 p) {l : List (Nat × Nat)} (hl : z'.2.2 = z.2.2 ++ l) : WO z' p a n := by
  obtain ⟨a1, a2, a3, a4, a5⟩ := h
  unfold WO
  rw [hl, hr]
  exact ⟨pre_get a1, a2, pre_get a3, a4, a5⟩
theorem AO_pre {z z' : Zd} {p n : Nat} (h : AO z p n) (hr : z'.2.1 p = z.2.1 p) {l : List (Nat × Nat)} (hl : z'.2.2 = z.2.2 ++ l) : AO z' p n := by
  obtain ⟨a0, r, ⟨s1, s2, s3, s4, s5, s6, s7⟩, n16⟩ := h
  unfold AO
  rw [hl, hr]
  exact ⟨pre_get a0, r, ⟨pre_get s1, pre_get s2, pre_get s3, pre_get s4, pre_get s5, pre_get s6, pre_get s7⟩, n16⟩
theorem SO_pre {z z' : Zd} {p : Nat} (h : SO z p) (hr : ∀ x, p ≤ x → x ≤ p + 15 → z'.2.1 x = z.2.1 x) {l : List (Nat × Nat)} (hl : z'.2.2 = z.2.2 ++ l) : SO z' p := by
  obtain ⟨o, r, hw, ha, ⟨s1, s2, s3, s4, s5⟩, d⟩ := h
  have e := hr p (by omega) (by omega)
  have hw' := WO_pre hw (hr _ (by omega) (by omega)) hl
  have ha' := AO_pre ha (hr _ (by omega) (by omega)) hl
  unfold SO
  refine ⟨by rw [hl]; exact pre_get o, by rw [e]; exact r, hw', ha', by rw [hl]; exact ⟨pre_get s1, pre_get s2, pre_get s3, pre_get s4, pre_get s5⟩, by rw [e]; exact d⟩
theorem SQ_pre {z z' : Zd} (h : SQ z) (hr : ∀ x k, x < 33 → ¬ (x = 0 ∧ k = 8) → x ≠ 20 → x ≠ 21 → z'.2.1 x k = z.2.1 x k) {l : List (Nat × Nat)} (hl : z'.2.2 = z.2.2 ++ l) : SQ z' := by
  obtain ⟨o, ⟨f0, f1, f2, f3, f4, f5, f6⟩, hho, hwo, hao, s32⟩ := h
  refine ⟨by rw [hl]; exact pre_get o, ⟨?_, ?_, ?_, ?_, ?_, ?_, ?_⟩, HO_pre hho (funext fun k => hr _ k (by omega) (by omega) (by omega) (by omega)) hl, WO_pre hwo (funext fun k => hr _ k (by omega) (by omega) (by omega) (by omega)) hl, AO_pre hao (funext fun k => hr _ k (by omega) (by omega) (by omega) (by omega)) hl, by rw [hl]; exact pre_get s32⟩
  · rw [hr 0 0 (by omega) (by omega) (by omega) (by omega)]; exact f0
  · rw [hr 0 1 (by omega) (by omega) (by omega) (by omega)]; exact f1
  · rw [hr 0 2 (by omega) (by omega) (by omega) (by omega)]; exact f2
  · rw [hr 0 3 (by omega) (by omega) (by omega) (by omega)]; exact f3
  · rw [hr 0 4 (by omega) (by omega) (by omega) (by omega)]; exact f4
  · rw [hr 0 5 (by omega) (by omega) (by omega) (by omega)]; exact f5
  · rw [hr 0 6 (by omega) (by omega) (by omega) (by omega)]; exact f6
theorem TX_pre {z z' : Zd} (h : TX z) (hr : ∀ x k, x < 33 → ¬ (x = 0 ∧ k = 8) → x ≠ 20 → x ≠ 21 → z'.2.1 x k = z.2.1 x k) {l : List (Nat × Nat)} (hl : z'.2.2 = z.2.2 ++ l) : TX z' := by
  obtain ⟨o, ⟨f0, f2, f3⟩, s2, hho, hwo⟩ := h
  refine ⟨by rw [hl]; exact pre_get o, ⟨?_, ?_, ?_⟩, by rw [hl]; exact pre_get s2, HO_pre hho (funext fun k => hr _ k (by omega) (by omega) (by omega) (by omega)) hl, WO_pre hwo (funext fun k => hr _ k (by omega) (by omega) (by omega) (by omega)) hl⟩
  · rw [hr 1 0 (by omega) (by omega) (by omega) (by omega)]; exact f0
  · rw [hr 1 2 (by omega) (by omega) (by omega) (by omega)]; exact f2
  · rw [hr 1 3 (by omega) (by omega) (by omega) (by omega)]; exact f3
theorem HY_pre {z z' : Zd} (h : HY z) (hr : ∀ x k, x < 33 → ¬ (x = 0 ∧ k = 8) → x ≠ 20 → x ≠ 21 → z'.2.1 x k = z.2.1 x k) {l : List (Nat × Nat)} (hl : z'.2.2 = z.2.2 ++ l) : HY z' := by
  obtain ⟨o, f0, s1, s2⟩ := h
  exact ⟨by rw [hl]; exact pre_get o, by rw [hr 19 0 (by omega) (by omega) (by omega) (by omega)]; exact f0, by rw [hl]; exact pre_get s1, by rw [hl]; exact pre_get s2⟩
/-- shapes of a Held -/
def isH (v : Nat × Nat) : Bool := v.1 == 1 || (v.1 == 100 && (v.2 == 8 || v.2 == 32 || v.2 == 40))
theorem HO_sh {z : Zd} {q i : Nat} (h : HO z q) (hi : i ≤ 6) : ∃ v, z.2.2[q + i]? = some v ∧ isH v = true ∧ (v.1 = 1 ↔ i = 0) := by
  obtain ⟨o, -, s1, s2, s3, s4, s5, s6⟩ := h
  have : i = 0 ∨ i = 1 ∨ i = 2 ∨ i = 3 ∨ i = 4 ∨ i = 5 ∨ i = 6 := by omega
  rcases this with rfl | rfl | rfl | rfl | rfl | rfl | rfl
  · exact ⟨_, o, rfl, by simp⟩
  · exact ⟨_, s1, rfl, by simp⟩
  · exact ⟨_, s2, rfl, by simp⟩
  · exact ⟨_, s3, rfl, by simp⟩
  · exact ⟨_, s4, rfl, by simp⟩
  · exact ⟨_, s5, rfl, by simp⟩
  · exact ⟨_, s6, rfl, by simp⟩
theorem SO_sh {z : Zd} {p j : Nat} (h : SO z p) (hj : j ≤ 15) : ∃ v, z.2.2[p + j]? = some v ∧ isH v = false := by
  obtain ⟨o, -, ⟨w1, -, w3, -⟩, ⟨a0, -, ⟨t1, t2, t3, t4, t5, t6, t7⟩, -⟩, ⟨s1, s2, s3, s4, s5⟩, -⟩ := h
  have : j = 0 ∨ j = 1 ∨ j = 2 ∨ j = 3 ∨ j = 4 ∨ j = 5 ∨ j = 6 ∨ j = 7 ∨ j = 8 ∨ j = 9 ∨ j = 10 ∨ j = 11 ∨ j = 12 ∨ j = 13 ∨ j = 14 ∨ j = 15 := by omega
  rcases this with rfl | rfl | rfl | rfl | rfl | rfl | rfl | rfl | rfl | rfl | rfl | rfl | rfl | rfl | rfl | rfl
  · exact ⟨_, o, rfl⟩
  · exact ⟨_, w1, rfl⟩
  · exact ⟨_, w3, rfl⟩
  · exact ⟨_, a0, rfl⟩
  · exact ⟨_, t1, rfl⟩
  · exact ⟨_, t2, rfl⟩
  · exact ⟨_, t3, rfl⟩
  · exact ⟨_, t4, rfl⟩
  · exact ⟨_, t5, rfl⟩
  · exact ⟨_, t6, rfl⟩
  · exact ⟨_, t7, rfl⟩
  · exact ⟨_, s1, rfl⟩
  · exact ⟨_, s2, rfl⟩
  · exact ⟨_, s3, rfl⟩
  · exact ⟨_, s4, rfl⟩
  · exact ⟨_, s5, rfl⟩
theorem HO_SO {z : Zd} {q p : Nat} (h : HO z q) (h2 : SO z p) : q + 6 < p ∨ p + 15 < q := by
  refine Classical.byContradiction fun hx => ?_
  by_cases hle : q ≤ p
  · obtain ⟨v, e1, e2, -⟩ := HO_sh h (i := p - q) (by omega)
    obtain ⟨v', e3, e4⟩ := SO_sh h2 (j := 0) (by omega)
    rw [show q + (p - q) = p + 0 by omega, e3] at e1
    rw [Option.some.inj e1, e2] at e4
    cases e4
  · obtain ⟨v, e1, e2, -⟩ := HO_sh h (i := 0) (by omega)
    obtain ⟨v', e3, e4⟩ := SO_sh h2 (j := q - p) (by omega)
    rw [show p + (q - p) = q + 0 by omega, e1] at e3
    rw [← Option.some.inj e3, e2] at e4
    cases e4
theorem HO_HO {z : Zd} {q p : Nat} (h : HO z q) (h2 : HO z p) (hne : q ≠ p) : q + 6 < p ∨ p + 6 < q := by
  have key : ∀ {q p : Nat}, HO z q → HO z p → q < p → q + 6 < p := by
    intro q p h h2 hlt
    refine Classical.byContradiction fun hx => ?_
    obtain ⟨v, e1, -, e2⟩ := HO_sh h (i := p - q) (by omega)
    obtain ⟨v', e3, -, e4⟩ := HO_sh h2 (i := 0) (by omega)
    rw [show q + (p - q) = p + 0 by omega, e3] at e1
    have e5 := e4.mpr rfl
    rw [Option.some.inj e1] at e5
    have := e2.mp e5
    omega
  rcases Nat.lt_or_gt_of_ne hne with hlt | hgt
  · exact Or.inl (key h h2 hlt)
  · exact Or.inr (key h2 h hgt)
/-- what the class keeps when only the Search and new cells change -/
def frK (w w' : Wd) : Prop := (∀ x, x < 48 → w'.1 x = w.1 x ∧ w'.2.1 x = w.2.1 x) ∧ (∀ x k, x < 48 → ¬ (x = 0 ∧ k = 8) → w'.2.2.1 x k = w.2.2.1 x k) ∧ (∃ l, wS w' = wS w ++ l) ∧ ∀ j p, j < 12 → sl w.2 j = some p → ∀ i, i ≤ 6 → w'.1 (p + i) = w.1 (p + i) ∧ w'.2.2.1 (p + i) = w.2.2.1 (p + i)
theorem frK.refl (w : Wd) : frK w w := ⟨fun _ _ => ⟨rfl, rfl⟩, fun _ _ _ _ => rfl, ⟨[], by simp⟩, fun _ _ _ _ _ _ => ⟨rfl, rfl⟩⟩
theorem frK.slE {w w' : Wd} (h : frK w w') (j : Nat) : sl w'.2 j = sl w.2 j := by
  unfold sl
  split
  · exact h.2.1 20 j (by omega) (by omega)
  · exact h.2.1 21 (j - 10) (by omega) (by omega)
theorem frK.trans {w w1 w2 : Wd} (h : frK w w1) (h2 : frK w1 w2) : frK w w2 := by
  have hs := h.slE
  obtain ⟨a, b, ⟨l, e⟩, c⟩ := h
  obtain ⟨a2, b2, ⟨l2, e2⟩, c2⟩ := h2
  refine ⟨fun x hx => ⟨(a2 x hx).1.trans (a x hx).1, (a2 x hx).2.trans (a x hx).2⟩, fun x k hx hk => (b2 x k hx hk).trans (b x k hx hk), ⟨l ++ l2, by rw [e2, e, List.append_assoc]⟩, fun j p hj hp i hi => ?_⟩
  have q1 := c j p hj hp i hi
  have q2 := c2 j p hj (by rw [hs]; exact hp) i hi
  exact ⟨q2.1.trans q1.1, q2.2.trans q1.2⟩
theorem CI_frK {w w' : Wd} {hs : HS} {hi : List HS} {im : Nat → Option HS} {tx : List Nat} {ns : List (List Nat)} (h : CI w hs hi im tx ns) (f : frK w w') (hs' : SRC w') : CI w' hs hi im tx ns ∧ frC w w' := by
  have hsl := f.slE
  obtain ⟨a, b, ⟨l, e⟩, c⟩ := f
  obtain ⟨h1, h2, ⟨k1, k2, k3, k4, k5, k6, k7, k8⟩, h4, h5, ⟨k, h6, h6'⟩, h7, h8, h9, h10, h11, ⟨lt, g1, g2, g3, g4⟩, h13⟩ := h
  have gi : ∀ x, x < 48 → w'.1 x = w.1 x := fun x hx => (a x hx).1
  have hrr : ∀ x k, x < 33 → ¬ (x = 0 ∧ k = 8) → x ≠ 20 → x ≠ 21 → w'.2.2.1 x k = w.2.2.1 x k := fun x k hx hk _ _ => b x k (by omega) hk
  have hrow : ∀ j p, j < 12 → sl w.2 j = some p → ∀ hh, HR w.1 p hh → HR w'.1 p hh := fun j p hj hp hh hr => hr.kept (fun i hi => (c j p hj hp i hi).1)
  refine ⟨⟨?_, h2, ⟨SQ_pre (z' := w'.2) k1 hrr e, k2, k3.kept (fun j hj => gi _ (by omega)), k4, k5, ?_, ?_, k8⟩, h4.kept (fun j hj => gi _ (by omega)), h5, ⟨k, h6, by rw [gi 0 (by omega)]; exact h6'⟩, TX_pre (z' := w'.2) h7 hrr e, HY_pre (z' := w'.2) h8 hrr e, ⟨?_, ?_⟩, hs', ?_, ⟨lt, g1, ?_, ?_, ?_⟩, ?_⟩, ⟨fun x p q => ⟨gi x (by omega), funext fun k => b x k (by omega) (by omega)⟩, l, e⟩⟩
  · unfold cnt at *; rw [e, List.length_append]; omega
  · rw [gi 22 (by omega), gi 23 (by omega)]; exact k6
  · intro j u hu
    rw [(a 32 (by omega)).2]; exact k7 j u hu
  · intro j p hj hp
    rw [hsl] at hp
    obtain ⟨q1, q2⟩ := h9.1 j p hj hp
    exact ⟨q1, HO_pre q2 ((c j p hj hp 0 (by omega)).2) e⟩
  · intro i j p hi hj hp hp'
    rw [hsl] at hp hp'
    exact h9.2 i j p hi hj hp hp'
  · unfold TXT; rw [gi 1 (by omega), gi 2 (by omega)]; exact h11
  · rw [gi 19 (by omega)]; exact g2
  · rw [gi 19 (by omega)]; exact g3
  · intro j h hj
    obtain ⟨p, q1, q2⟩ := g4 j h hj
    have hlt : (lt + 11 + j - hi.length) % 10 < 10 := Nat.mod_lt _ (by omega)
    refine ⟨p, by rw [b 20 _ (by omega) (by omega)]; exact q1, hrow ((lt + 11 + j - hi.length) % 10) p (by omega) (by unfold sl; rw [if_pos hlt]; exact q1) h q2⟩
  · intro i hi2
    rcases h13 i hi2 with ⟨q1, q2⟩ | ⟨h, p, q1, q2, q3⟩
    · exact Or.inl ⟨q1, by rw [b 21 i (by omega) (by omega)]; exact q2⟩
    · exact Or.inr ⟨h, p, q1, by rw [b 21 i (by omega) (by omega)]; exact q2, hrow (10 + i) p (by omega) (by unfold sl; rw [if_neg (by omega), show 10 + i - 10 = i by omega]; exact q2) h q3⟩
theorem CI_frM {w w' : Wd} {hs : HS} {hi : List HS} {im : Nat → Option HS} {tx : List Nat} {ns : List (List Nat)} (h : CI w hs hi im tx ns) (f : frM w w') : CI w' hs hi im tx ns := by
  obtain ⟨e, a⟩ := f
  obtain ⟨h1, h2, ⟨k1, k2, k3, k4, k5, k6, k7, k8⟩, h4, h5, ⟨k, h6, h6'⟩, h7, h8, h9, h10, h11, ⟨lt, g1, g2, g3, g4⟩, h13⟩ := h
  have gi : ∀ x, (x < 33 ∨ 47 < x) → w'.1 x = w.1 x := fun x hx => (a x hx).1
  have e1 : w'.2.2.1 = w.2.2.1 := by rw [e]
  have e2 : wS w' = wS w := by show w'.2.2.2 = w.2.2.2; rw [e]
  have hrow : ∀ p hh, 48 ≤ p → HR w.1 p hh → HR w'.1 p hh := fun p hh hp hr => hr.kept (fun i hi => gi _ (by omega))
  have hz : ∀ (P : Zd → Prop), (∀ (J J' : Nat → Nat → Int64) (y : (Nat → Nat → Option Nat) × List (Nat × Nat)), P (J, y) → P (J', y)) → P w.2 → P w'.2 := by
    intro P hP hp
    have := hP w.2.1 w'.2.1 w.2.2 hp
    rw [← e] at this
    exact this
  have hsl : ∀ j, sl w'.2 j = sl w.2 j := fun j => by unfold sl; rw [e1]
  refine ⟨by unfold cnt at *; rw [e2]; exact h1, h2, ⟨hz SQ (fun _ _ _ h => h) k1, k2, k3.kept (fun j hj => gi _ (by omega)), k4, k5, ?_, ?_, k8⟩, h4.kept (fun j hj => gi _ (by omega)), h5, ⟨k, h6, by rw [gi 0 (by omega)]; exact h6'⟩, hz TX (fun _ _ _ h => h) h7, hz HY (fun _ _ _ h => h) h8, hz SLT (fun _ _ _ h => h) h9, ?_, ?_, ⟨lt, g1, ?_, ?_, ?_⟩, ?_⟩
  · rw [gi 22 (by omega), gi 23 (by omega)]; exact k6
  · intro j u hu
    rw [(a 32 (by omega)).2]; exact k7 j u hu
  · intro p hp
    rw [e1] at hp
    obtain ⟨q1, q2, q3⟩ := h10 p hp
    exact ⟨q1, hz (fun z => SO z p) (fun _ _ _ h => h) q2, by rw [gi _ (by omega)]; exact q3⟩
  · unfold TXT; rw [gi 1 (by omega), gi 2 (by omega)]; exact h11
  · rw [gi 19 (by omega)]; exact g2
  · rw [gi 19 (by omega)]; exact g3
  · intro j h hj
    obtain ⟨p, q1, q2⟩ := g4 j h hj
    have hlt : (lt + 11 + j - hi.length) % 10 < 10 := Nat.mod_lt _ (by omega)
    have := h9.1 ((lt + 11 + j - hi.length) % 10) p (by omega) (by unfold sl; rw [if_pos hlt]; exact q1)
    exact ⟨p, by rw [e1]; exact q1, hrow p h this.1 q2⟩
  · intro i hi2
    rcases h13 i hi2 with ⟨q1, q2⟩ | ⟨h, p, q1, q2, q3⟩
    · exact Or.inl ⟨q1, by rw [e1]; exact q2⟩
    · have := h9.1 (10 + i) p (by omega) (by unfold sl; rw [if_neg (by omega), show 10 + i - 10 = i by omega]; exact q2)
      exact Or.inr ⟨h, p, q1, by rw [e1]; exact q2, hrow p h this.1 q3⟩
/-- room: a Search once, a Held a call -/
def potS (w : Wd) : Nat := slt w + (if w.2.2.1 0 8 = none then 17000 else 0)
def potC (w : Wd) : Nat := cnt w + (if w.2.2.1 0 8 = none then 16 else 0)
def Rm (w w' : Wd) : Prop := potS w' ≤ potS w + 184 ∧ potC w' ≤ potC w + 7
theorem Rm.same {w w' : Wd} (h : wS w' = wS w) (h8 : w'.2.2.1 0 8 = w.2.2.1 0 8) : Rm w w' := by
  unfold Rm potS potC slt cnt
  rw [h, h8]
  omega
theorem Rm.held {w w' : Wd} (h : wS w' = wS w ++ shH) (h8 : w'.2.2.1 0 8 = w.2.2.1 0 8) : Rm w w' := by
  unfold Rm potS potC slt cnt
  rw [h, h8, List.map_append, List.sum_append, List.length_append]
  have e1 : (shH.map (fun q => q.2)).sum = 184 := rfl
  have e2 : shH.length = 7 := rfl
  rw [e1, e2]
  omega
theorem Rm.search {w w' : Wd} (h : wS w' = wS w ++ shS) (h0 : w.2.2.1 0 8 = none) (h8 : w'.2.2.1 0 8 ≠ none) : Rm w w' := by
  unfold Rm potS potC slt cnt
  rw [h, if_pos h0, if_pos h0, if_neg h8, if_neg h8, List.map_append, List.sum_append, List.length_append]
  have e1 : (shS.map (fun q => q.2)).sum = 16339 := rfl
  have e2 : shS.length = 16 := rfl
  rw [e1, e2]
  omega
