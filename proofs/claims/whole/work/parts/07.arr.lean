/-! ===== rules: arrays, new cells, calls ===== -/
theorem stb_new {X : CX} {w : Wd} {H H1 : Heap} {locs : List Loc} {cells slots : Nat} {q : Nat × Nat} (hS : Stb X w H locs cells slots) (hz : H1.size = H.size + 1) (ho : ∀ a, a < H.size → H1[a]? = H[a]?) (hn : Hat (xC X) (wNew w q) (cnt w) q H1) : Stb X (wNew w q) H1 locs (cells + 1) (slots + q.2) := by
  obtain ⟨h1, h2, h3, h4, h5⟩ := hS
  have h6 := h1.1
  refine ⟨h1.push hz ho hn, fun a ha => by rw [ho a (by omega)]; exact h2 a ha, h3, ?_, ?_⟩
  · show x0 X + (cells + 1) = (w.2.2.2 ++ [q]).length
    have : x0 X + cells = w.2.2.2.length := h4
    simp; omega
  · show x1 X + (slots + q.2) = ((w.2.2.2 ++ [q]).map (fun q => q.2)).sum
    have : x1 X + slots = (w.2.2.2.map (fun q => q.2)).sum := h5
    simp; omega
theorem cnt_new (w : Wd) (q : Nat × Nat) : cnt (wNew w q) = cnt w + 1 := by show (w.2.2.2 ++ [q]).length = _; simp [cnt]
theorem slt_new (w : Wd) (q : Nat × Nat) : slt (wNew w q) = slt w + q.2 := by show ((w.2.2.2 ++ [q]).map (fun q => q.2)).sum = _; simp [slt]
theorem fit_new {X : CX} {w w' : Wd} {H : Heap} {locs : List Loc} {cells slots : Nat} {q : Nat × Nat} (hS : Stb X w H locs cells slots) (hF : Fit X w') (hm : cnt (wNew w q) ≤ cnt w' ∧ slt (wNew w q) ≤ slt w') : cells + 1 ≤ (xR X).cells ∧ slots + q.2 ≤ (xR X).slots := by
  obtain ⟨-, -, -, h4, h5⟩ := hS
  obtain ⟨h6, h7⟩ := hF
  rw [cnt_new, slt_new] at hm
  omega
theorem nin {i : Int32} {n : Nat} (h : ¬ i < 0 ∧ i.toNatClampNeg < n) : ¬ (i < 0 ∨ n ≤ i.toNatClampNeg) := fun h1 => h1.elim h.1 (Nat.not_le.mpr h.2)
section RulesN
variable {α : Type} {C : KX} {D : MD} {Z : ZT α} {pc pc' : Nat} {ls : List (Nat × Value)} {st : List Value}
theorem C_aI {p : Nat} {i : Int32} {f : Int32 → Mo α} (hd : decode (dC D) pc = .ok (.iaload, 1)) (hp : pc + 1 = pc') (kk : ∀ v : Int32, Cmp C D Z pc' ls (.int v :: st) (f v)) : Cmp C D Z pc ls (.int i :: .ref (kB C + p) :: st) (mb (aI p i) f) := by
  subst hp
  intro w r w' hm
  unfold mb aI at hm
  by_cases h0 : ¬ i < 0 ∧ i.toNatClampNeg < alen w 100 p
  · rw [if_pos h0] at hm
    obtain ⟨h1, h2⟩ := kk _ w r w' hm
    refine ⟨h1, fun X G hC hF H locs lsA cells slots hS hl => ?_⟩
    subst hC
    have hat := hat_i.mp (hS.1.2 p _ (alen_at h0.2))
    refine W.iald (v := .int (w.1 p i.toNatClampNeg)) G.1 G.2.1 hat ((G.2.2.2.2.2.2.2.1.1.2 0 _ rfl).1 _ (fun j => .int (w.1 p j))) (fun q => by cases q) ?_ ?_ rfl rfl hd (h2 X G rfl hF H locs lsA cells slots hS hl)
    · show ¬ (i < 0 ∨ (arrV _ _ _).slots.size ≤ _)
      rw [arrV_size]; exact nin h0
    · show (arrV _ _ _).slots[_]? = _
      rw [arrV_read _ _ h0.2]
  · rw [if_neg h0] at hm
    cases hm
theorem C_aJ {p : Nat} {i : Int32} {f : Int64 → Mo α} (hd : decode (dC D) pc = .ok (.laload, 1)) (hp : pc + 1 = pc') (kk : ∀ v : Int64, Cmp C D Z pc' ls (.long v :: st) (f v)) : Cmp C D Z pc ls (.int i :: .ref (kB C + p) :: st) (mb (aJ p i) f) := by
  subst hp
  intro w r w' hm
  unfold mb aJ at hm
  by_cases h0 : ¬ i < 0 ∧ i.toNatClampNeg < alen w 101 p
  · rw [if_pos h0] at hm
    obtain ⟨h1, h2⟩ := kk _ w r w' hm
    refine ⟨h1, fun X G hC hF H locs lsA cells slots hS hl => ?_⟩
    subst hC
    have hat := hat_j.mp (hS.1.2 p _ (alen_at h0.2))
    refine W.lald (v := .long (w.2.1 p i.toNatClampNeg)) G.1 G.2.1 hat ((G.2.2.2.2.2.2.2.1.1.2 1 _ rfl).1 _ (fun j => .long (w.2.1 p j))) (fun q => by cases q) ?_ ?_ rfl rfl hd (h2 X G rfl hF H locs lsA cells slots hS hl)
    · show ¬ (i < 0 ∨ (arrV _ _ _).slots.size ≤ _)
      rw [arrV_size]; exact nin h0
    · show (arrV _ _ _).slots[_]? = _
      rw [arrV_read _ _ h0.2]
  · rw [if_neg h0] at hm
    cases hm
theorem C_aZ {p : Nat} {i : Int32} {f : Int32 → Mo α} (hd : decode (dC D) pc = .ok (.baload, 1)) (hp : pc + 1 = pc') (kk : ∀ v : Int32, Cmp C D Z pc' ls (.int v :: st) (f v)) : Cmp C D Z pc ls (.int i :: .ref (kB C + p) :: st) (mb (aZ p i) f) := by
  subst hp
  intro w r w' hm
  unfold mb aZ at hm
  by_cases h0 : ¬ i < 0 ∧ i.toNatClampNeg < alen w 102 p
  · rw [if_pos h0] at hm
    obtain ⟨h1, h2⟩ := kk _ w r w' hm
    refine ⟨h1, fun X G hC hF H locs lsA cells slots hS hl => ?_⟩
    subst hC
    have hat := hat_z.mp (hS.1.2 p _ (alen_at h0.2))
    refine W.zald (v := .int (w.1 p i.toNatClampNeg)) G.1 G.2.1 hat ((G.2.2.2.2.2.2.2.1.1.2 2 _ rfl).1 _ (fun j => .int (w.1 p j))) (fun q => by cases q) ?_ ?_ rfl rfl hd (h2 X G rfl hF H locs lsA cells slots hS hl)
    · show ¬ (i < 0 ∨ (arrV _ _ _).slots.size ≤ _)
      rw [arrV_size]; exact nin h0
    · show (arrV _ _ _).slots[_]? = _
      rw [arrV_read _ _ h0.2]
  · rw [if_neg h0] at hm
    cases hm
theorem C_aQ {p : Nat} {i : Int32} {f : Option Nat → Mo α} (hd : decode (dC D) pc = .ok (.aaload, 1)) (hp : pc + 1 = pc') (kn : Cmp C D Z pc' ls (.null :: st) (f none)) (kk : ∀ v : Nat, Cmp C D Z pc' ls (.ref (kB C + v) :: st) (f (some v))) : Cmp C D Z pc ls (.int i :: .ref (kB C + p) :: st) (mb (aQ p i) f) := by
  subst hp
  intro w r w' hm
  unfold mb aQ at hm
  by_cases h0 : ¬ i < 0 ∧ i.toNatClampNeg < alen w 103 p
  · rw [if_pos h0] at hm
    have key : ∀ (X : CX) (v : Value), xC X = C → CGood X D → ∀ (H : Heap) (locs : List Loc) (lsA : Array Slot) (cells slots : Nat) (Q : State → Prop), Stb X w H locs cells slots → va_rf ((w.2.2.1 p i.toNatClampNeg).map (fun q => kB (xC X) + q)) = v → WX X H locs cells slots Q (F0 (xM X) (pc + 1) lsA (v :: st)) → WX X H locs cells slots Q (F0 (xM X) pc lsA (.int i :: .ref (kB (xC X) + p) :: st)) := by
      intro X v hC G H locs lsA cells slots Q hS hv k
      have hat := hat_q.mp (hS.1.2 p _ (alen_at h0.2))
      refine W.aald (v := v) (ty := .object RX1) G.1 G.2.1 hat ((G.2.2.2.2.2.2.2.1.1.2 3 _ rfl).1 _ (fun j => va_rf ((w.2.2.1 p j).map (fun q => kB (xC X) + q)))) rfl (fun q => by cases q) ?_ ?_ rfl rfl hd k
      · show ¬ (i < 0 ∨ (arrV _ _ _).slots.size ≤ _)
        rw [arrV_size]; exact nin h0
      · show (arrV _ _ _).slots[_]? = _
        rw [arrV_read _ _ h0.2, hv]
    cases hq : w.2.2.1 p i.toNatClampNeg with
    | none =>
      rw [hq] at hm
      obtain ⟨h1, h2⟩ := kn w r w' hm
      refine ⟨h1, fun X G hC hF H locs lsA cells slots hS hl => ?_⟩
      subst hC
      exact key X .null rfl G H locs lsA cells slots _ hS (by rw [hq]; rfl) (h2 X G rfl hF H locs lsA cells slots hS hl)
    | some q =>
      rw [hq] at hm
      obtain ⟨h1, h2⟩ := kk q w r w' hm
      refine ⟨h1, fun X G hC hF H locs lsA cells slots hS hl => ?_⟩
      subst hC
      exact key X (.ref (kB (xC X) + q)) rfl G H locs lsA cells slots _ hS (by rw [hq]; rfl) (h2 X G rfl hF H locs lsA cells slots hS hl)
  · rw [if_neg h0] at hm
    cases hm
theorem C_tI {p : Nat} {i v : Int32} {f : Unit → Mo α} (hd : decode (dC D) pc = .ok (.iastore, 1)) (hp : pc + 1 = pc') (kk : Cmp C D Z pc' ls st (f ())) : Cmp C D Z pc ls (.int v :: .int i :: .ref (kB C + p) :: st) (mb (tI p i v) f) := by
  subst hp
  intro w r w' hm
  unfold mb tI at hm
  by_cases h0 : ¬ i < 0 ∧ i.toNatClampNeg < alen w 100 p
  · rw [if_pos h0] at hm
    obtain ⟨h1, h2⟩ := kk _ r w' hm
    refine ⟨h1, fun X G hC hF H locs lsA cells slots hS hl => ?_⟩
    subst hC
    have hp := alen_at h0.2
    have hat := hat_i.mp (hS.1.2 p _ hp)
    refine W.iast G.1 G.2.1 hat ((G.2.2.2.2.2.2.2.1.1.2 0 _ rfl).1 _ (fun j => .int (w.1 p j))) (fun q => by cases q) ?_ rfl rfl hd fun H1 e z oq => ?_
    · show ¬ (i < 0 ∨ (arrV _ _ _).slots.size ≤ _)
      rw [arrV_size]; exact nin h0
    · refine h2 X G rfl hF H1 _ lsA cells slots (stb_set (w' := (u2 w.1 p i.toNatClampNeg v, w.2)) hS rfl (hS.1.set hp rfl z oq (fun x hx => by funext j; simp [u2, hx]) (fun _ _ => rfl) (fun _ _ => rfl) (hat_i.mpr ?_)) oq) hl
      rw [e, vp_cell_i, vp_cell_i, arrV_store]
      congr 2
      funext q
      by_cases hq : q = i.toNatClampNeg
      · subst hq; simp [updV, u2]
      · simp [updV, u2, hq]
  · rw [if_neg h0] at hm
    cases hm
theorem C_tZ {p : Nat} {i v : Int32} {f : Unit → Mo α} (hd : decode (dC D) pc = .ok (.bastore, 1)) (hp : pc + 1 = pc') (kk : Cmp C D Z pc' ls st (f ())) : Cmp C D Z pc ls (.int v :: .int i :: .ref (kB C + p) :: st) (mb (tZ p i v) f) := by
  subst hp
  intro w r w' hm
  unfold mb tZ at hm
  by_cases h0 : (¬ i < 0 ∧ i.toNatClampNeg < alen w 102 p) ∧ (v = 0 ∨ v = 1)
  · rw [if_pos h0] at hm
    obtain ⟨h1, h2⟩ := kk _ r w' hm
    refine ⟨h1, fun X G hC hF H locs lsA cells slots hS hl => ?_⟩
    subst hC
    have hp := alen_at h0.1.2
    have hat := hat_z.mp (hS.1.2 p _ hp)
    refine W.zast G.1 G.2.1 hat ((G.2.2.2.2.2.2.2.1.1.2 2 _ rfl).1 _ (fun j => .int (w.1 p j))) (fun q => by cases q) ?_ rfl rfl hd fun H1 e z oq => ?_
    · show ¬ (i < 0 ∨ (arrV _ _ _).slots.size ≤ _)
      rw [arrV_size]; exact nin h0.1
    · refine h2 X G rfl hF H1 _ lsA cells slots (stb_set (w' := (u2 w.1 p i.toNatClampNeg v, w.2)) hS rfl (hS.1.set hp rfl z oq (fun x hx => by funext j; simp [u2, hx]) (fun _ _ => rfl) (fun _ _ => rfl) (hat_z.mpr ?_)) oq) hl
      have hnv : narrow .boolean (.int v) = .int v := by rcases h0.2 with rfl | rfl <;> rfl
      rw [e, hnv, vp_cell_i, vp_cell_i, arrV_store]
      congr 2
      funext q
      by_cases hq : q = i.toNatClampNeg
      · subst hq; simp [updV, u2]
      · simp [updV, u2, hq]
  · rw [if_neg h0] at hm
    cases hm
theorem C_tJ {p : Nat} {i : Int32} {v : Int64} {f : Unit → Mo α} (hd : decode (dC D) pc = .ok (.lastore, 1)) (hp : pc + 1 = pc') (kk : Cmp C D Z pc' ls st (f ())) : Cmp C D Z pc ls (.long v :: .int i :: .ref (kB C + p) :: st) (mb (tJ p i v) f) := by
  subst hp
  intro w r w' hm
  unfold mb tJ at hm
  by_cases h0 : ¬ i < 0 ∧ i.toNatClampNeg < alen w 101 p
  · rw [if_pos h0] at hm
    obtain ⟨h1, h2⟩ := kk _ r w' hm
    refine ⟨h1, fun X G hC hF H locs lsA cells slots hS hl => ?_⟩
    subst hC
    have hp := alen_at h0.2
    have hat := hat_j.mp (hS.1.2 p _ hp)
    refine W.last G.1 G.2.1 hat ((G.2.2.2.2.2.2.2.1.1.2 1 _ rfl).1 _ (fun j => .long (w.2.1 p j))) (fun q => by cases q) ?_ rfl rfl hd fun H1 e z oq => ?_
    · show ¬ (i < 0 ∨ (arrV _ _ _).slots.size ≤ _)
      rw [arrV_size]; exact nin h0
    · refine h2 X G rfl hF H1 _ lsA cells slots (stb_set (w' := (w.1, u2 w.2.1 p i.toNatClampNeg v, w.2.2)) hS rfl (hS.1.set hp rfl z oq (fun _ _ => rfl) (fun x hx => by funext j; simp [u2, hx]) (fun _ _ => rfl) (hat_j.mpr ?_)) oq) hl
      rw [e, vp_cell_l, vp_cell_l, arrV_store]
      congr 2
      funext q
      by_cases hq : q = i.toNatClampNeg
      · subst hq; simp [updV, u2]
      · simp [updV, u2, hq]
  · rw [if_neg h0] at hm
    cases hm
theorem C_tQ {p q : Nat} {i : Int32} {f : Unit → Mo α} (hd : decode (dC D) pc = .ok (.aastore, 1)) (hp : pc + 1 = pc') (kk : Cmp C D Z pc' ls st (f ())) : Cmp C D Z pc ls (.ref (kB C + q) :: .int i :: .ref (kB C + p) :: st) (mb (tQ p i q) f) := by
  subst hp
  intro w r w' hm
  unfold mb tQ at hm
  by_cases h0 : (¬ i < 0 ∧ i.toNatClampNeg < alen w 103 p) ∧ (wS w)[q]? = some (1, nf 1)
  · rw [if_pos h0] at hm
    obtain ⟨h1, h2⟩ := kk _ r w' hm
    refine ⟨h1, fun X G hC hF H locs lsA cells slots hS hl => ?_⟩
    subst hC
    have hp := alen_at h0.1.2
    have hat := hat_q.mp (hS.1.2 p _ hp)
    obtain ⟨cellV, g1, g2, g3, -⟩ := (hat_o (by decide)).mp (hS.1.2 q _ h0.2)
    have hK := G.2.2.2.2.2.2.2.1.1
    have hcls := (hK.1 1 _ rfl).2
    obtain ⟨kA, comp, k1, k2, k3, -⟩ := (hK.2 3 _ rfl).2
    have hcomp : comp = (kD (xC X)).1 1 := Option.some.inj (k3.symm.trans hcls.1)
    subst hcomp
    obtain ⟨kC, hkC, hkind⟩ := hcls.2
    refine W.aast G.1 G.2.1 hat (fun q h => by cases h) (fun h => by cases h) k1 k2 rfl hkC ⟨h0.1.1, by show _ < (arrV _ _ _).slots.size; rw [arrV_size]; exact h0.1.2⟩ g1 (fun q h => by rw [g3] at h; cases h) (by rw [g2]; exact hkC) (by rw [g2]; exact va_assign hcls) rfl rfl hd fun H1 e z oq => ?_
    refine h2 X G rfl hF H1 _ lsA cells slots (stb_set (w' := (w.1, w.2.1, u2 w.2.2.1 p i.toNatClampNeg (some q), w.2.2.2)) hS rfl (hS.1.set hp rfl z oq (fun _ _ => rfl) (fun _ _ => rfl) (fun x hx => by funext j; simp [u2, hx]) (hat_q.mpr ?_)) oq) hl
    rw [e, vp_cell_q, vp_cell_q, arrV_store]
    congr 2
    funext q2
    by_cases hq : q2 = i.toNatClampNeg
    · subst hq; simp [updV, u2, va_rf]
    · simp [updV, u2, hq]
  · rw [if_neg h0] at hm
    cases hm
theorem C_alen {kd p : Nat} {f : Int32 → Mo α} (hkd : kd = 100 ∨ kd = 101) (hd : decode (dC D) pc = .ok (.arraylength, 1)) (hp : pc + 1 = pc') (kk : ∀ v : Int32, Cmp C D Z pc' ls (.int v :: st) (f v)) : Cmp C D Z pc ls (.ref (kB C + p) :: st) (mb (aL kd p) f) := by
  subst hp
  intro w r w' hm
  unfold mb aL at hm
  cases hq : (wS w)[p]? with
  | none => rw [hq] at hm; cases hm
  | some q =>
    rw [hq] at hm
    simp only at hm
    by_cases hk : q.1 = kd
    · rw [if_pos hk] at hm
      obtain ⟨h1, h2⟩ := kk _ w r w' hm
      refine ⟨h1, fun X G hC hF H locs lsA cells slots hS hl => ?_⟩
      subst hC
      obtain ⟨q1, n⟩ := q
      simp only at hk
      subst hk
      rcases hkd with rfl | rfl
      · have hat := hat_i.mp (hS.1.2 p _ hq)
        refine W.alen (n := Int32.ofNat n) G.1 G.2.1 hat ((G.2.2.2.2.2.2.2.1.1.2 0 _ rfl).1 _ (fun j => .int (w.1 p j))) ?_ rfl rfl hd (h2 X G rfl hF H locs lsA cells slots hS hl)
        show (arrV _ _ _).slots.size.toInt32 = _
        rw [arrV_size]
      · have hat := hat_j.mp (hS.1.2 p _ hq)
        refine W.alen (n := Int32.ofNat n) G.1 G.2.1 hat ((G.2.2.2.2.2.2.2.1.1.2 1 _ rfl).1 _ (fun j => .long (w.2.1 p j))) ?_ rfl rfl hd (h2 X G rfl hF H locs lsA cells slots hS hl)
        show (arrV _ _ _).slots.size.toInt32 = _
        rw [arrV_size]
    · rw [if_neg hk] at hm
      cases hm
end RulesN
