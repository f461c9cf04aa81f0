/-! ===== the class's automaton, built ===== -/
theorem pre_closed {ns : List (List Nat)} (h : ∀ u c, u ++ [c] ∈ ns → u ∈ ns) : ∀ (x u : List Nat), u ++ x ∈ ns → u ∈ ns := by
  intro x
  induction x with
  | nil => intro u hu; simpa using hu
  | cons c x ih =>
    intro u hu
    have : u ++ [c] ∈ ns := ih (u ++ [c]) (by simpa using hu)
    exact h u c this
theorem build_ok {z : Zd} {I : Nat → Nat → Int32} {p nw pw aw cw : Nat} {W : List (List Nat)} (hz : AO z p nw) (hzw : WO z pw aw cw) (hWL : WL (I pw) (I aw) (W.map pkI)) (hcw : W.length ≤ cw) (hW : okL W) (hlen : W.length ≤ nw) (hpw : apart7 p pw ∧ apart3 p pw) (haw : apart7 p aw ∧ apart3 p aw) (hsz : I (p + 1) 0 = 0) :
    ∃ I' ns, m_X0_build p pw (I, z) = some ((), (I', z)) ∧ AR I' p W ns ∧ ns.length ≤ 1 + nw * 6 ∧ ∀ x, apart7 p x → apart3 p x → I' x = I x := by
  obtain ⟨z0, ⟨r1, r2, r3, r4, r5, r6, r7⟩, ⟨s1, s2, s3, s4, s5, s6, s7⟩, hw⟩ := id hz
  -- the beginning
  have hstart : ∃ I0, (∀ X, lp (fun k s => m_X0_build_B31 p pw k s) FU 1 (I0, z) = X → m_X0_build p pw (I, z) = X) ∧ GR I0 p nw W 1 0 [[]] [] ∧ ∀ x, apart7 p x → apart3 p x → I0 x = I x := by
    refine ⟨uA (uA (uA (u2 I p 0 1) (p + 6) (fun j => if j < (1 + nw * 6) * 8 then 0 else I (p + 6) j)) (p + 5) (fun j => if j < 1 + nw * 6 then 0 else I (p + 5) j)) (p + 7) (fun j => if j < nw then 0 else I (p + 7) j), fun X hX => ?_, ?_, ?_⟩
    · unfold m_X0_build
      rw [mb_sI z0, mb_gR z0 r6, mb_call (fill_ok s6 (by omega) 0), mb_gR z0 r5, mb_call (fill_ok s5 (by omega) 0), mb_gR z0 r7, mb_call (fill_ok s7 (by omega) 0)]
      simp only [u2_row (show p + 6 ≠ p by omega), uA_ne (show p + 5 ≠ p + 6 by omega), u2_row (show p + 5 ≠ p by omega), uA_ne (show p + 7 ≠ p + 5 by omega), uA_ne (show p + 7 ≠ p + 6 by omega), u2_row (show p + 7 ≠ p by omega)]
      exact hX
    · generalize hI0 : uA (uA (uA (u2 I p 0 1) (p + 6) (fun j => if j < (1 + nw * 6) * 8 then 0 else I (p + 6) j)) (p + 5) (fun j => if j < 1 + nw * 6 then 0 else I (p + 5) j)) (p + 7) (fun j => if j < nw then 0 else I (p + 7) j) = I0
      have e0 : I0 p 0 = nI 1 := by rw [← hI0, uA_ne (by omega), uA_ne (by omega), uA_ne (by omega), u2_eq]; rfl
      have e1 : I0 (p + 1) 0 = 0 := by rw [← hI0, uA_ne (by omega), uA_ne (by omega), uA_ne (by omega), u2_row (by omega)]; exact hsz
      have e5 : ∀ k, k < 1 + nw * 6 → I0 (p + 5) k = 0 := fun k hk => by rw [← hI0, uA_ne (by omega), uA_eq, if_pos hk]
      have e6 : ∀ k, k < (1 + nw * 6) * 8 → I0 (p + 6) k = 0 := fun k hk => by rw [← hI0, uA_ne (by omega), uA_ne (by omega), uA_eq, if_pos hk]
      have e7 : ∀ k, k < nw → I0 (p + 7) k = 0 := fun k hk => by rw [← hI0, uA_eq, if_pos hk]
      have hone : ∀ (j : Nat) (u : List Nat), ([[]] : List (List Nat))[j]? = some u → j = 0 ∧ u = [] := by
        intro j u hj
        have h1 : j < 1 := (List.getElem?_eq_some_iff.mp hj).1
        rw [show j = 0 by omega] at hj
        exact ⟨by omega, (Option.some.inj hj).symm⟩
      refine ⟨⟨e0, by simp, by simp, ?_, ?_, ?_, ?_⟩, by simp, by simp, ?_, ?_, by simp, ?_, ?_, ?_, Or.inl ⟨rfl, by simp⟩⟩
      · intro j u hj
        obtain ⟨rfl, rfl⟩ := hone j u hj
        exact e1
      · intro j u c hj
        obtain ⟨-, h⟩ := hone j _ hj
        simp at h
      · intro j u c hj hc
        obtain ⟨rfl, rfl⟩ := hone j u hj
        exact Or.inr ⟨by simp, e6 _ (by omega)⟩
      · intro k _ h2
        exact e6 k h2
      · intro u hu
        simp at hu
        subst hu
        exact ⟨by simp, [], by simp, List.prefix_refl _⟩
      · intro u c hu
        simp at hu
      · intro j u hj
        obtain ⟨rfl, rfl⟩ := hone j u hj
        refine Or.inr ⟨fun i hi _ => ?_, e5 0 (by omega)⟩
        have := (hW.1 _ (List.mem_of_getElem? hi)).1
        simp at this
      · intro k _ h2
        exact e5 k h2
      · intro i u hi
        have hil := (List.getElem?_eq_some_iff.mp hi).1
        refine ⟨0, by simp, e7 i (by omega)⟩
    · intro x hx7 hx3
      rw [uA_ne hx7.2.2.2.2.2.2, uA_ne hx3.2.1, uA_ne hx3.2.2, u2_row hx7.1]
  obtain ⟨I0, hgo, G0, F0⟩ := hstart
  have hall : ∀ m, m ≤ 6 → ∃ I' ns, GR I' p nw W (m + 1) 0 ns [] ∧ (∀ x, apart7 p x → apart3 p x → I' x = I x) ∧ ∀ f : Nat, lp (fun k s => m_X0_build_B31 p pw k s) (f + m) (nI 1) (I0, z) = lp (fun k s => m_X0_build_B31 p pw k s) f (nI (m + 1)) (I', z) := by
    intro m
    induction m with
    | zero => intro _; exact ⟨I0, [[]], G0, F0, fun _ => rfl⟩
    | succ m ih =>
      intro hm
      obtain ⟨I2, ns2, G2, F2, e2⟩ := ih (by omega)
      obtain ⟨I3, ns3, b3, e3, G3, F3⟩ := growTo_ok (I := I2) hz hzw (by rw [F2 pw hpw.1 hpw.2, F2 aw haw.1 haw.2]; exact hWL) hcw hW hlen (by omega) (show m + 1 ≤ 6 by omega) hpw.1 haw.1 G2
      refine ⟨I3, ns3, G3.next (by omega), fun x h7 h3 => (F3 x h7).trans (F2 x h7 h3), fun f => ?_⟩
      rw [show f + (m + 1) = (f + 1) + m by omega, e2, lp_s]
      unfold m_X0_build_B31
      rw [if_neg (show ¬ (6 : Int32) < nI (m + 1) from nI_nlt (b := 6) (a := 6) (by omega) (by omega) |> fun _ => fun h => absurd ((nI_ltI (a := 6) (by omega) (by omega)).mp h) (by omega)), mb_vc z0, mb_call e3, nI_1]
  obtain ⟨I2, ns, G2, F2, e2⟩ := hall 6 (Nat.le_refl 6)
  obtain ⟨g1, g2, g3, g4, g5, g6, g7, g8, g9, g10⟩ := G2
  have hN : NS W ns := by
    refine ⟨g2, fun u => ⟨fun hu => ?_, fun hu => ?_⟩⟩
    · obtain ⟨-, v, hv, hp⟩ := g4 u hu
      rcases List.mem_append.mp hv with hv | hv
      · exact Or.inr ⟨v, hv, hp⟩
      · rw [List.mem_singleton.mp hv] at hp
        exact Or.inl (List.prefix_nil.mp hp)
    · rcases hu with rfl | ⟨v, hv, x, hx⟩
      · exact g3
      · obtain ⟨i, hi⟩ := List.getElem?_of_mem hv
        obtain ⟨j, a1, -⟩ := g9 i v hi
        rw [if_neg (by omega), List.take_of_length_le (by have := (hW.1 v hv).2.1; omega)] at a1
        exact pre_closed g5 x u (by rw [hx]; exact List.mem_of_getElem? a1)
  have hE : ∀ (j : Nat) (u : List Nat), ns[j]? = some u → (∃ i, W[i]? = some u ∧ I2 (p + 5) j = nI (2 ^ i)) ∨ (u ∉ W ∧ I2 (p + 5) j = 0) := by
    intro j u hj
    rcases g7 j u hj with ⟨i, a1, -, a3⟩ | ⟨a1, a2⟩
    · exact Or.inl ⟨i, a1, a3⟩
    · refine Or.inr ⟨fun hm => ?_, a2⟩
      obtain ⟨i, hi⟩ := List.getElem?_of_mem hm
      exact a1 i hi (Or.inl (by have := (hW.1 u hm).2.1; omega))
  obtain ⟨I3, e3, A3, F3⟩ := link_ok hz hW (by omega) hN g1 hE
  refine ⟨I3, ns, hgo _ ?_, A3, g1.2.1, fun x h7 h3 => (F3 x h3).trans (F2 x h7 h3)⟩
  rw [show FU = (99993 + 1) + 6 from rfl]
  show lp _ (99993 + 1 + 6) (nI 1) (I0, z) = _
  rw [e2, lp_s]
  unfold m_X0_build_B31
  rw [if_pos (show (6 : Int32) < nI (6 + 1) from nI_lt (a := 6) (by omega) (by omega)), mb_vc z0, mb_call e3]
  rfl
