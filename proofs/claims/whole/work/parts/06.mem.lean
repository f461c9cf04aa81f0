/-! ===== rules: fields, arrays, new cells ===== -/
theorem hat_i {C : KX} {w : Wd} {p n : Nat} {H : Heap} : Hat C w p (100, n) H ↔ H[kB C + p]? = some (vp_cell (kI C) (n, .inl (w.1 p))) := by simp [Hat]
theorem hat_j {C : KX} {w : Wd} {p n : Nat} {H : Heap} : Hat C w p (101, n) H ↔ H[kB C + p]? = some (vp_cell (kJ C) (n, .inr (.inl (w.2.1 p)))) := by simp [Hat]
theorem hat_z {C : KX} {w : Wd} {p n : Nat} {H : Heap} : Hat C w p (102, n) H ↔ H[kB C + p]? = some (vp_cell (kZ C) (n, .inl (w.1 p))) := by simp [Hat]
theorem hat_q {C : KX} {w : Wd} {p n : Nat} {H : Heap} : Hat C w p (103, n) H ↔ H[kB C + p]? = some (vp_cell (kH C) (n, .inr (.inr (.inr (.inr (fun k => (w.2.2.1 p k).map (fun q => kB C + q))))))) := by simp [Hat]
theorem hat_o {C : KX} {w : Wd} {p ci n : Nat} {H : Heap} (hc : ci < 100) : Hat C w p (ci, n) H ↔ t_OB (kB C + p) ((kD C).1 ci) n ((kD C).2 ci) H (fun k => fv C w p ci k) := by
  unfold Hat
  simp only [show ¬ ci = 100 by omega, show ¬ ci = 101 by omega, show ¬ ci = 102 by omega, show ¬ ci = 103 by omega, if_false]
theorem alen_at {w : Wd} {kd p i : Nat} (h : i < alen w kd p) : (wS w)[p]? = some (kd, alen w kd p) := by
  unfold alen at h ⊢
  cases hp : (wS w)[p]? with
  | none => rw [hp] at h; simp at h
  | some q =>
    rw [hp] at h
    simp only at h ⊢
    by_cases hk : q.1 = kd
    · rw [if_pos hk]; rw [← hk]
    · rw [if_neg hk] at h; omega
def FL (own : String) (idx ci k : Nat) (fin : Bool) : Prop := ∃ (Cn : String) (T : u_T) (ty : Nat → FieldType), vwCl[ci]? = some (Cn, T, nf ci) ∧ (∀ w ∈ u_ws Cn T (nf ci), w ∈ TB) ∧ k < nf ci ∧ Cond.fieldLink own idx Cn (T k).2.1 (T k).2.2.1 ∈ TB ∧ (T k).1 = Cn ∧
  (∀ k, k < nf ci → parseFieldDescriptor (T k).2.2.1 = some (ty k)) ∧ (∀ a, a < nf ci → ∀ b, b < nf ci → a ≠ b → (T a).2.1 ≠ (T b).2.1) ∧ (rk ci k = true → (∃ n, ty k = .object n) ∨ ∃ t, ty k = .array t) ∧ (rk ci k = false → ty k = .int) ∧ (T k).2.2.2 = fin
theorem cl_lt {ci : Nat} {q : vw_C} (h : vwCl[ci]? = some q) : ci < 8 := by
  have := (List.getElem?_eq_some_iff.mp h).1
  exact this
section RulesM
variable {α : Type} {C : KX} {D : MD} {Z : ZT α} {pc pc' : Nat} {ls : List (Nat × Value)} {st : List Value}
theorem get_any {X : CX} {w : Wd} {H : Heap} {locs : List Loc} {cells slots idx ci k p : Nat} {fin : Bool} {Q : State → Prop} {lsA : Array Slot} (G : CGood X D) (hS : Stb X w H locs cells slots) (hL : FL (dO D) idx ci k fin) (hd : decode (dC D) pc = .ok (.getfield idx, 3)) (hp : (wS w)[p]? = some (ci, nf ci))
    (kk : WX X H locs cells slots Q (F0 (xM X) (pc + 3) lsA (fv (xC X) w p ci k :: st))) : WX X H locs cells slots Q (F0 (xM X) pc lsA (.ref (kB (xC X) + p) :: st)) := by
  obtain ⟨Cn, T, ty, hc, hin, hk, hl, ho, hty, hnm, -⟩ := hL
  obtain ⟨hx, hb, hr, hlk, hml, hown, hts, hK, hn, -⟩ := G
  have hci := cl_lt hc
  obtain ⟨cell, q1, q2, q3, q4⟩ := (hat_o (by omega)).mp (hS.1.2 p _ hp)
  obtain ⟨hSl, hfc, kC, hkC, hkind⟩ := hK.1.1 ci _ hc
  obtain ⟨cf, kf, fi, f, hi, hsl⟩ := hSl k hk
  refine W.getf hx hb hown (hts _ hl) (by rw [← ho]; exact hi) (u_facts hfc hkC (u_lays hts hin hk) hi).1 q1 (by rw [q3]; exact fun h => by cases h) (v := fv (xC X) w p ci k) ?_ rfl rfl hd kk
  rw [hsl, q4 k hk]
theorem C_getI {idx ci k p : Nat} {fin : Bool} {f : Int32 → Mo α} (hL : FL (dO D) idx ci k fin) (hr : rk ci k = false) (hd : decode (dC D) pc = .ok (.getfield idx, 3)) (hp : pc + 3 = pc') (kk : ∀ v : Int32, Cmp C D Z pc' ls (.int v :: st) (f v)) : Cmp C D Z pc ls (.ref (kB C + p) :: st) (mb (gI ci k p) f) := by
  subst hp
  intro w r w' hm
  unfold mb gI at hm
  by_cases h0 : (wS w)[p]? = some (ci, nf ci)
  · rw [if_pos h0] at hm
    obtain ⟨h1, h2⟩ := kk _ w r w' hm
    refine ⟨h1, fun X G hC hF H locs lsA cells slots hS hl => ?_⟩
    subst hC
    refine get_any G hS hL hd h0 ?_
    rw [show fv (xC X) w p ci k = .int (w.1 p k) by unfold fv; rw [if_neg (by rw [hr]; decide)]]
    exact h2 X G rfl hF H locs lsA cells slots hS hl
  · rw [if_neg h0] at hm
    cases hm
theorem C_getR {idx ci k p : Nat} {fin : Bool} {f : Nat → Mo α} (hL : FL (dO D) idx ci k fin) (hr : rk ci k = true) (hd : decode (dC D) pc = .ok (.getfield idx, 3)) (hp : pc + 3 = pc') (kk : ∀ v : Nat, Cmp C D Z pc' ls (.ref (kB C + v) :: st) (f v)) : Cmp C D Z pc ls (.ref (kB C + p) :: st) (mb (gR ci k p) f) := by
  subst hp
  intro w r w' hm
  unfold mb gR at hm
  by_cases h0 : (wS w)[p]? = some (ci, nf ci)
  · rw [if_pos h0] at hm
    cases hq : w.2.2.1 p k with
    | none => rw [hq] at hm; cases hm
    | some q =>
      rw [hq] at hm
      obtain ⟨h1, h2⟩ := kk _ w r w' hm
      refine ⟨h1, fun X G hC hF H locs lsA cells slots hS hl => ?_⟩
      subst hC
      refine get_any G hS hL hd h0 ?_
      rw [show fv (xC X) w p ci k = .ref (kB (xC X) + q) by unfold fv; rw [if_pos hr, hq]; rfl]
      exact h2 X G rfl hF H locs lsA cells slots hS hl
  · rw [if_neg h0] at hm
    cases hm
theorem C_getQ {idx ci k p : Nat} {fin : Bool} {f : Option Nat → Mo α} (hL : FL (dO D) idx ci k fin) (hr : rk ci k = true) (hd : decode (dC D) pc = .ok (.getfield idx, 3)) (hp : pc + 3 = pc') (kn : Cmp C D Z pc' ls (.null :: st) (f none)) (kk : ∀ v : Nat, Cmp C D Z pc' ls (.ref (kB C + v) :: st) (f (some v))) : Cmp C D Z pc ls (.ref (kB C + p) :: st) (mb (gQ ci k p) f) := by
  subst hp
  intro w r w' hm
  unfold mb gQ at hm
  by_cases h0 : (wS w)[p]? = some (ci, nf ci)
  · rw [if_pos h0] at hm
    cases hq : w.2.2.1 p k with
    | none =>
      rw [hq] at hm
      obtain ⟨h1, h2⟩ := kn w r w' hm
      refine ⟨h1, fun X G hC hF H locs lsA cells slots hS hl => ?_⟩
      subst hC
      refine get_any G hS hL hd h0 ?_
      rw [show fv (xC X) w p ci k = .null by unfold fv; rw [if_pos hr, hq]; rfl]
      exact h2 X G rfl hF H locs lsA cells slots hS hl
    | some q =>
      rw [hq] at hm
      obtain ⟨h1, h2⟩ := kk _ w r w' hm
      refine ⟨h1, fun X G hC hF H locs lsA cells slots hS hl => ?_⟩
      subst hC
      refine get_any G hS hL hd h0 ?_
      rw [show fv (xC X) w p ci k = .ref (kB (xC X) + q) by unfold fv; rw [if_pos hr, hq]; rfl]
      exact h2 X G rfl hF H locs lsA cells slots hS hl
  · rw [if_neg h0] at hm
    cases hm
theorem stb_set {X : CX} {w w' : Wd} {H H1 : Heap} {locs : List Loc} {cells slots p s1 : Nat} (hS : Stb X w H locs cells slots) (hw : wS w' = wS w) (hH : Hld (xC X) w' H1) (ho : ∀ a : Nat, a ≠ kB (xC X) + p → H1[a]? = H[a]?) : Stb X w' H1 (locs ++ [⟨kB (xC X) + p, s1⟩]) cells slots := by
  obtain ⟨h1, h2, h3, h4, h5⟩ := hS
  refine ⟨hH, fun q hq => by rw [ho q (by omega)]; exact h2 q hq, fun q hq => ?_, ?_, ?_⟩
  · rcases List.mem_append.mp hq with h | h
    · exact h3 q h
    · rw [List.mem_singleton.mp h]; exact Nat.le_add_right _ _
  · rw [h4]; unfold cnt; rw [hw]
  · rw [h5]; unfold slt; rw [hw]
theorem put_any {X : CX} {w w1 : Wd} {H : Heap} {locs : List Loc} {cells slots idx ci k p : Nat} {fin : Bool} {Q : State → Prop} {lsA : Array Slot} {v : Value} (G : CGood X D) (hS : Stb X w H locs cells slots) (hL : FL (dO D) idx ci k fin) (hfin : fin = false ∨ (dM D = "<init>" ∧ (vwCl[ci]?).map (fun q => q.1) = some (dO D))) (hd : decode (dC D) pc = .ok (.putfield idx, 3)) (hp : (wS w)[p]? = some (ci, nf ci)) (hw : wS w1 = wS w)
    (hv : fv (xC X) w1 p ci k = v) (hvk : if rk ci k = true then ∃ a, v = .ref a else ∃ i, v = .int i) (hs : ∀ j, j ≠ k → fv (xC X) w1 p ci j = fv (xC X) w p ci j) (e1 : ∀ x, x ≠ p → w1.1 x = w.1 x) (e2 : ∀ x, x ≠ p → w1.2.1 x = w.2.1 x) (e3 : ∀ x, x ≠ p → w1.2.2.1 x = w.2.2.1 x)
    (kk : ∀ (H1 : Heap) (locs1 : List Loc), Stb X w1 H1 locs1 cells slots → WX X H1 locs1 cells slots Q (F0 (xM X) (pc + 3) lsA st)) : WX X H locs cells slots Q (F0 (xM X) pc lsA (v :: .ref (kB (xC X) + p) :: st)) := by
  obtain ⟨Cn, T, ty, hc, hin, hk, hl, ho, hty, hnm, ht1, ht2, hf⟩ := hL
  obtain ⟨hx, hb, hr, hlk, hml, hown, hts, hK, hn, -⟩ := G
  have hci := cl_lt hc
  have hap := va_apart (own := Cn) hts hin ty hty hnm hK.1 hc
  obtain ⟨cell, q1, q2, q3, q4⟩ := (hat_o (by omega)).mp (hS.1.2 p _ hp)
  obtain ⟨hSl, hfc, kC, hkC, hkind⟩ := hK.1.1 ci _ hc
  obtain ⟨cf, kf, fi, f, hi, hsl⟩ := hSl k hk
  have hlay := hts _ (hin _ (u_in_lay hk))
  unfold u_lay at hlay
  have hst := (u_facts hfc hkC (u_lays hts hin hk) hi).1
  have hnf : narrow (ty k) v = v ∧ fits (ty k) v = true := by
    cases hrk : rk ci k with
    | true =>
      rw [if_pos hrk] at hvk
      obtain ⟨a, rfl⟩ := hvk
      rcases ht1 hrk with ⟨n, e⟩ | ⟨t, e⟩ <;> rw [e] <;> exact ⟨rfl, rfl⟩
    | false =>
      rw [if_neg (by rw [hrk]; decide)] at hvk
      obtain ⟨i, rfl⟩ := hvk
      rw [ht2 hrk]
      exact ⟨rfl, rfl⟩
  have fin1 : ∀ (H1 : Heap), H1[kB (xC X) + p]? = some (cell.setSlot f.slot v) → H1.size = H.size → (∀ q, q ≠ kB (xC X) + p → H1[q]? = H[q]?) → WX X H1 (locs ++ [⟨kB (xC X) + p, f.slot⟩]) cells slots Q (F0 (xM X) (pc + 3) lsA st) := by
    intro H1 g1 g2 g3
    refine kk H1 _ (stb_set hS hw ?_ g3)
    refine hS.1.set hp hw g2 g3 e1 e2 e3 ((hat_o (by omega)).mpr ?_)
    rw [hsl] at g1
    refine t_OB.to (V := updV (fun j => fv (xC X) w p ci j) k v) ⟨_, g1, q2, q3, t_set q4 hap hk v⟩ (fun j _ => ?_)
    unfold updV
    by_cases hj : j = k
    · subst hj; simp [hv]
    · simp only [hj, if_false]; exact (hs j hj).symm
  cases hfb : fin with
  | false =>
    rw [if_neg (by rw [hf, hfb]; decide)] at hlay
    have h6 := u_store hfc hkC hkind hlay hi (hty k hk) hnf.1 hnf.2
    refine W.putK hx hb (f := f) ⟨hown, hts _ hl, ⟨_, _, _, by rw [← ho]; exact hi⟩, hst⟩ (by rw [q2]; exact h6) q1 q3 (by rw [hsl]; exact k2_hasslot (q4 k hk)) rfl rfl hd fun H' g1 g2 g3 => fin1 H' g1 g2 g3
  | true =>
    have hdecl : (T k).1 = dO D := by
      rcases hfin with h | h
      · rw [hfb] at h; cases h
      · have h2 := h.2
        rw [hc] at h2
        exact ho.trans (Option.some.inj h2)
    have hin2 : (xT X).name = "<init>" := by
      rcases hfin with h | h
      · rw [hfb] at h; cases h
      · rw [hn]; exact h.1
    rw [if_pos (by rw [hf, hfb])] at hlay
    have hcf : (xM X).cls = cf := by
      obtain ⟨_, _, c', _, _, _, -, -, hf', -, -, -, hown2, -⟩ := Cond.laysFinal_spec hlay
      have e1 : c' = cf := by have := hi.symm.trans hf'; simp at this; exact this.1.symm
      rw [hdecl] at hown2
      rw [← e1]; exact Option.some.inj (hown.symm.trans hown2)
    have h6 := u_fits hfc hkC hkind (Or.inr hlay) hi (hty k hk) hnf.1 hnf.2
    refine W.putFinK hx hb hown (hts _ hl) (by rw [← ho]; exact hi) hst hcf hin2 (by rw [q2]; exact h6) q1 q3 (by rw [hsl]; exact k2_hasslot (q4 k hk)) rfl rfl hd fun H' g1 g2 g3 => fin1 H' g1 g2 g3
theorem C_putI {idx ci k p : Nat} {v : Int32} {f : Unit → Mo α} (hL : FL (dO D) idx ci k false) (hr : rk ci k = false) (hd : decode (dC D) pc = .ok (.putfield idx, 3)) (hp : pc + 3 = pc') (kk : Cmp C D Z pc' ls st (f ())) : Cmp C D Z pc ls (.int v :: .ref (kB C + p) :: st) (mb (sI ci k p v) f) := by
  subst hp
  intro w r w' hm
  unfold mb sI at hm
  by_cases h0 : (wS w)[p]? = some (ci, nf ci)
  · rw [if_pos h0] at hm
    obtain ⟨h1, h2⟩ := kk _ r w' hm
    refine ⟨h1, fun X G hC hF H locs lsA cells slots hS hl => ?_⟩
    subst hC
    refine put_any (w1 := (u2 w.1 p k v, w.2)) (v := .int v) G hS hL (Or.inl rfl) hd h0 rfl ?_ ?_ ?_ ?_ (fun _ _ => rfl) (fun _ _ => rfl) ?_
    · unfold fv; rw [if_neg (by rw [hr]; decide)]; simp [u2]
    · rw [if_neg (by rw [hr]; decide)]; exact ⟨_, rfl⟩
    · intro j hj; unfold fv; simp [u2, hj]
    · intro x hx; funext j; simp [u2, hx]
    · intro H1 locs1 hS1
      exact h2 X G rfl hF H1 locs1 lsA cells slots hS1 hl
  · rw [if_neg h0] at hm
    cases hm
theorem C_putR {idx ci k p q : Nat} {fin : Bool} {f : Unit → Mo α} (hL : FL (dO D) idx ci k fin) (hfin : fin = false ∨ (dM D = "<init>" ∧ (vwCl[ci]?).map (fun q => q.1) = some (dO D))) (hr : rk ci k = true) (hd : decode (dC D) pc = .ok (.putfield idx, 3)) (hp : pc + 3 = pc') (kk : Cmp C D Z pc' ls st (f ())) : Cmp C D Z pc ls (.ref (kB C + q) :: .ref (kB C + p) :: st) (mb (sR ci k p q) f) := by
  subst hp
  intro w r w' hm
  unfold mb sR at hm
  by_cases h0 : (wS w)[p]? = some (ci, nf ci)
  · rw [if_pos h0] at hm
    obtain ⟨h1, h2⟩ := kk _ r w' hm
    refine ⟨h1, fun X G hC hF H locs lsA cells slots hS hl => ?_⟩
    subst hC
    refine put_any (w1 := (w.1, w.2.1, u2 w.2.2.1 p k (some q), w.2.2.2)) (v := .ref (kB (xC X) + q)) G hS hL hfin hd h0 rfl ?_ ?_ ?_ (fun _ _ => rfl) (fun _ _ => rfl) ?_ ?_
    · unfold fv; rw [if_pos hr]; simp [u2, rfv, va_rf]
    · rw [if_pos hr]; exact ⟨_, rfl⟩
    · intro j hj; unfold fv; simp [u2, hj]
    · intro x hx; funext j; simp [u2, hx]
    · intro H1 locs1 hS1
      exact h2 X G rfl hF H1 locs1 lsA cells slots hS1 hl
  · rw [if_neg h0] at hm
    cases hm
end RulesM
