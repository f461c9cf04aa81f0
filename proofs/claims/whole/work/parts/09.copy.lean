/-! ===== rule: System.arraycopy over int[] ===== -/
section RulesP
variable {α : Type} {C : KX} {D : MD} {Z : ZT α} {pc pc' : Nat} {ls : List (Nat × Value)} {st : List Value}
theorem C_copy {idx src dst : Nat} {sp dp n : Int32} {f : Unit → Mo α} (hw1 : Cond.methodLink (dO D) idx arraycopyName ∈ TB) (hw2 : Cond.native arraycopyName ∈ TB) (hw3 : Cond.static arraycopyName ∈ TB) (hw4 : Cond.initialized "java/lang/System" ∈ TB) (hd : decode (dC D) pc = .ok (.invokestatic idx, 3)) (hp : pc + 3 = pc') (hF : 1 ≤ dF D) (hL : (st.map fun v => v.category).sum + (nativeFrameWords "java/lang/System" "arraycopy" 5 + 11) ≤ dL D)
    (kk : Cmp C D Z pc' ls st (f ())) : Cmp C D Z pc ls (.int n :: .int dp :: .ref (kB C + dst) :: .int sp :: .ref (kB C + src) :: st) (mb (cpI src sp dst dp n) f) := by
  subst hp
  intro w r w' hm
  unfold mb cpI at hm
  by_cases h0 : (¬ sp < 0 ∧ ¬ dp < 0 ∧ ¬ n < 0) ∧ (0 < alen w 100 src ∧ 0 < alen w 100 dst) ∧ sp.toNatClampNeg + n.toNatClampNeg ≤ alen w 100 src ∧ dp.toNatClampNeg + n.toNatClampNeg ≤ alen w 100 dst
  · rw [if_pos h0] at hm
    obtain ⟨k1, k2⟩ := kk _ r w' hm
    obtain ⟨⟨h1, h2, h3⟩, ⟨p0, p1⟩, h4, h5⟩ := h0
    refine ⟨k1, fun X G hC hFit H locs lsA cells slots hS hl => ?_⟩
    subst hC
    have hts := G.2.2.2.2.2.2.1
    have hK := G.2.2.2.2.2.2.2.1
    have hfr : (xR X).frames = dF D := G.2.2.2.2.2.2.2.2.2.1
    have hlo : (xR X).locals = dL D := G.2.2.2.2.2.2.2.2.2.2.1
    have nn : ∀ z : Int32, ¬ z < 0 → z.toInt = (z.toNatClampNeg : Int) := by
      intro z hz
      have hz0 : (0 : Int) ≤ z.toInt := by
        have := Int32.not_lt.mp hz
        simpa using Int32.le_iff_toInt_le.mp this
      show z.toInt = ((z.toInt.toNat : Nat) : Int)
      omega
    have s0 := alen_at p0
    have s1 := alen_at p1
    have hc0 := hat_i.mp (hS.1.2 src _ s0)
    have hc1 := hat_i.mp (hS.1.2 dst _ s1)
    generalize hn0 : alen w 100 src = n0 at *
    generalize hn1 : alen w 100 dst = n1 at *
    generalize hf0 : w.1 src = fs at *
    generalize hf1 : w.1 dst = gs at *
    intro T hT S
    obtain ⟨-, q0, hk0, cm0, hkk0⟩ := (hK.1.2 0 _ rfl).1 n0 (fun j => .int (fs j))
    obtain ⟨-, q1, hk1, cm1, hkk1⟩ := (hK.1.2 0 _ rfl).1 n1 (fun j => .int (gs j))
    obtain ⟨vm', S', step⟩ := S.arraycopy G.1 G.2.2.2.2.2.1 (hts _ hw1) (hts _ hw2) (hts _ hw3) (hts _ hw4) (src := kB (xC X) + src) (dst := kB (xC X) + dst) (cs := vp_cell (kI (xC X)) (n0, .inl fs)) (cd := vp_cell (kI (xC X)) (n1, .inl gs)) (srcPos := sp) (destPos := dp) (n := n) (by rw [hT]; exact hc0) (by rw [hT]; exact hc1)
      (fun _ h => by cases h) (fun _ h => by cases h) (fun h => by cases h) (fun h => by cases h) hk0 hk1 hkk0 hkk1 (by simp [refKind]) h1 h2 h3
      (by rw [nn sp h1, nn n h3]; show ¬ _ > ((arrV _ n0 (fun j => .int (fs j))).slots.size : Int); rw [arrV_size]; omega)
      (by rw [nn dp h2, nn n h3]; show ¬ _ > ((arrV _ n1 (fun j => .int (gs j))).slots.size : Int); rw [arrV_size]; omega)
      (fun vm₁ _ i hi => by
        have e : (vp_cell (kI (xC X)) (n0, .inl fs)).slots.getD (sp.toNatClampNeg + i) .null = .int (fs (sp.toNatClampNeg + i)) := by
          show (arrV _ n0 (fun j => .int (fs j))).slots.getD _ _ = _
          rw [Array.getD_eq_getD_getElem?, arrV_read _ _ (by omega)]
          rfl
        refine ⟨?_, ?_⟩
        · rw [e]
          rfl
        · rw [e]
          exact trivial)
      (g := F0 (xM X) pc lsA (.int n :: .int dp :: .ref (kB (xC X) + dst) :: .int sp :: .ref (kB (xC X) + src) :: st)) rfl (by rw [G.2.2.2.2.1]; exact hl.1) (rest := st) rfl (by rw [G.2.1]; exact hd) (by omega) (by show 2 * 0 + _ + _ ≤ _; omega)
    have e1 : copied (vp_cell (kI (xC X)) (n0, .inl fs)) (vp_cell (kI (xC X)) (n1, .inl gs)) sp dp n = vp_cell (kI (xC X)) (n1, .inl (va_cpy fs gs sp.toNatClampNeg dp.toNatClampNeg n.toNatClampNeg)) := va_copied (fun z => .int z) _ _ fs gs h4
    rw [e1] at S' step
    have hl2 : kB (xC X) + dst < H.size := (Array.getElem?_eq_some_iff.mp hc1).1
    have oq : ∀ q : Nat, q ≠ kB (xC X) + dst → (H.setIfInBounds (kB (xC X) + dst) (vp_cell (kI (xC X)) (n1, .inl (va_cpy fs gs sp.toNatClampNeg dp.toNatClampNeg n.toNatClampNeg))))[q]? = H[q]? := fun q hq => by simp [Array.getElem?_setIfInBounds, Ne.symm hq]
    have hheap : ((T.setVm vm').setCell (kB (xC X) + dst) (vp_cell (kI (xC X)) (n1, .inl (va_cpy fs gs sp.toNatClampNeg dp.toNatClampNeg n.toNatClampNeg)))).heap = H.setIfInBounds (kB (xC X) + dst) (vp_cell (kI (xC X)) (n1, .inl (va_cpy fs gs sp.toNatClampNeg dp.toNatClampNeg n.toNatClampNeg))) := by rw [← hT]; rfl
    have hst : Stb X (uA w.1 dst (va_cpy fs gs sp.toNatClampNeg dp.toNatClampNeg n.toNatClampNeg), w.2) (H.setIfInBounds (kB (xC X) + dst) (vp_cell (kI (xC X)) (n1, .inl (va_cpy fs gs sp.toNatClampNeg dp.toNatClampNeg n.toNatClampNeg)))) (locs ++ []) cells slots := by
      obtain ⟨g1, g2, g3, g4, g5⟩ := hS
      refine ⟨g1.set s1 rfl (by simp) oq (fun x hx => by funext j; simp [uA, hx]) (fun _ _ => rfl) (fun _ _ => rfl) (hat_i.mpr ?_), fun q hq => by rw [oq q (by omega)]; exact g2 q hq, by simpa using g3, g4, g5⟩
      rw [show ((uA w.1 dst (va_cpy fs gs sp.toNatClampNeg dp.toNatClampNeg n.toNatClampNeg), w.2) : Wd).1 dst = va_cpy fs gs sp.toNatClampNeg dp.toNatClampNeg n.toNatClampNeg by funext j; simp [uA]]
      simp [Array.getElem?_setIfInBounds, hl2]
    obtain ⟨hs1, hs2, hs3, hs4, hs5⟩ := hst
    obtain ⟨t, a1, b1⟩ := k2 X G rfl hFit _ _ lsA cells slots ⟨hs1, hs2, (fun q hq => by
      rcases List.mem_append.mp hq with h | h
      · exact hS.2.2.1 q h
      · obtain ⟨z, -, hz⟩ := List.mem_map.mp h
        rw [← hz]
        exact Nat.le_add_right _ _), hs4, hs5⟩ hl _ hheap S'
    exact ⟨t, step t a1, b1⟩
  · rw [if_neg h0] at hm
    cases hm
end RulesP
section RulesQ
variable {α : Type} {C : KX} {D : MD} {Z : ZT α} {pc pc' : Nat} {ls : List (Nat × Value)} {st : List Value}
theorem C_loop {σ : Type} (L : σ → List (Nat × Value)) {F : (σ → Mo α) → σ → Mo α} (h : ∀ (k : σ → Mo α), (∀ s, Cmp C D Z pc (L s) [] (k s)) → ∀ s, Cmp C D Z pc (L s) [] (F k s)) : ∀ (n : Nat) (s : σ), Cmp C D Z pc (L s) [] (lp F n s) := by
  intro n
  induction n with
  | zero => intro s; exact C_mz
  | succ n ih => intro s; exact h (lp F n) ih s
theorem C_letI {e : Int32} {f : Int32 → Mo α} (kk : ∀ v : Int32, Cmp C D Z pc ls (.int v :: st) (f v)) : Cmp C D Z pc ls (.int e :: st) (mb (mp e) f) := kk e
theorem C_letL {e : Int64} {f : Int64 → Mo α} (kk : ∀ v : Int64, Cmp C D Z pc ls (.long v :: st) (f v)) : Cmp C D Z pc ls (.long e :: st) (mb (mp e) f) := kk e
end RulesQ
