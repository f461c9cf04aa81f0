/-! ===== the class's step(): a machine over rows of letters ===== -/
def kIx (ns : List (List Nat)) (t : List Nat) : Nat := ns.idxOf (lsuf ns t.reverse)
theorem kIx_get {W ns : List (List Nat)} (h : NS W ns) (t : List Nat) : ns[kIx ns t]? = some (lsuf ns t.reverse) := by
  have hm := lsuf_mem h.nil t.reverse
  unfold kIx
  rw [List.getElem?_eq_getElem (List.idxOf_lt_length_of_mem hm)]
  congr 1
  exact List.getElem_idxOf _
theorem kIx_eq {W ns : List (List Nat)} (h : NS W ns) {t : List Nat} {k : Nat} (hk : ns[k]? = some (lsuf ns t.reverse)) : k = kIx ns t := nodup_idx h.nodup hk (kIx_get h t)
def nrV (Q : List Pt) (t : List Nat) : Nat := match nPt Q with
  | none => 0
  | some P => nrS P.2.1 P.2.2.1 P.2.2.2 t
def lowC (Q : List Pt) (t : List Nat) : Nat := hsT (fun u => hadW u t) Q Q.length * 2 ^ nbT Q Q.length + nrV Q t
def wdC (Q : List Pt) : Nat := nbT Q Q.length + hc Q Q.length
def sgC (Q : List Pt) (ns : List (List Nat)) (t : List Nat) : Option Nat := if alv Q t then some (kIx ns t * 2 ^ wdC Q + lowC Q t) else none
def dnC (Q : List Pt) (s : Nat) : Bool := decide (s % 2 ^ wdC Q = (2 ^ hc Q Q.length - 1) * 2 ^ nbT Q Q.length + (if nbT Q Q.length = 0 then 0 else 10))
def okQ (Q : List Pt) : Prop := Q.length ≤ 4 ∧ (∀ P ∈ Q, okP P) ∧ oneN Q
theorem okQ.two {Q : List Pt} (h : okQ Q) : ∀ P ∈ Q, P.1 ≤ 2 := fun P hP => (h.2.1 P hP).1
theorem okQ.nb {Q : List Pt} (h : okQ Q) : (nPt Q = none ∧ nbT Q Q.length = 0) ∨ ∃ P, nPt Q = some P ∧ nbT Q Q.length = 4 ∧ rchT Q Q.length = P.2.2.2 ∧ 1 ≤ P.2.2.2 ∧ P.2.2.2 ≤ 9 := by
  cases e : nPt Q with
  | none => exact Or.inl ⟨rfl, (nbT_none h.two e _).1⟩
  | some P =>
    obtain ⟨a, b⟩ := nbT_near h.two h.2.2 e
    obtain ⟨c, d⟩ := nPt_some e
    have := (h.2.1 P c).2.2.1 d
    exact Or.inr ⟨P, rfl, a, b, this.2.1, this.2.2⟩
theorem nrV_lt {Q : List Pt} (h : okQ Q) (t : List Nat) : nrV Q t < 2 ^ nbT Q Q.length ∧ nrV Q t ≤ 10 := by
  unfold nrV
  rcases h.nb with ⟨e, a⟩ | ⟨P, e, a, -, b, c⟩
  · rw [e, a]; simp
  · rw [e, a]
    dsimp only
    have := nrS_le (u := P.2.1) (v := P.2.2.1) b c t
    omega
theorem lowC_lt {Q : List Pt} (h : okQ Q) (t : List Nat) : lowC Q t < 2 ^ wdC Q := by
  have h1 := hsT_lt (fun u => hadW u t) Q Q.length (Nat.le_refl _)
  have h2 := (nrV_lt h t).1
  unfold lowC wdC
  rw [Nat.pow_add, Nat.mul_comm (2 ^ nbT Q Q.length)]
  have h3 : (hsT (fun u => hadW u t) Q Q.length + 1) * 2 ^ nbT Q Q.length ≤ 2 ^ hc Q Q.length * 2 ^ nbT Q Q.length := Nat.mul_le_mul_right _ h1
  rw [Nat.add_mul] at h3
  omega
theorem wdC_le {Q : List Pt} (h : okQ Q) : wdC Q ≤ 7 ∧ nbT Q Q.length ≤ 4 := by
  have := hc_nb (Q := Q) Q.length (Nat.le_refl _)
  have := h.1
  unfold wdC
  omega
theorem mul_add_div' (a b n : Nat) (h : b < 2 ^ n) : (a * 2 ^ n + b) / 2 ^ n = a ∧ (a * 2 ^ n + b) % 2 ^ n = b := by
  have hp : 0 < 2 ^ n := Nat.pos_of_ne_zero (by simp)
  constructor
  · rw [Nat.mul_comm, Nat.mul_add_div hp, Nat.div_eq_of_lt h, Nat.add_zero]
  · rw [Nat.mul_comm, Nat.mul_add_mod, Nat.mod_eq_of_lt h]
theorem or_add' (a b n : Nat) (h : b < 2 ^ n) : a * 2 ^ n ||| b = a * 2 ^ n + b := by
  rw [Nat.mul_comm]
  exact (Nat.two_pow_add_eq_or_of_lt h a).symm
theorem mkT_cong {D E : List Nat → Bool} {Q : List Pt} (h2 : ∀ P ∈ Q, P.1 ≤ 2) (h : ∀ P ∈ Q, D P.2.1 = E P.2.1 ∧ (P.1 = 2 → D P.2.2.1 = E P.2.2.1)) : ∀ k, mkT D Q k = mkT E Q k
  | 0 => rfl
  | k + 1 => by
    show mkT D Q k ||| _ = mkT E Q k ||| _
    rw [mkT_cong h2 h k]
    cases hQ : Q[k]? with
    | none => rfl
    | some P =>
      have hm := List.mem_of_getElem? hQ
      obtain ⟨a, b⟩ := h P hm
      have := h2 P hm
      dsimp only
      congr 1
      unfold mkP
      rw [a]
      by_cases h0 : P.1 = 0
      · rw [if_pos h0, if_pos h0]
      · rw [if_neg h0, if_neg h0]
        by_cases h1 : P.1 = 1
        · rw [if_pos h1, if_pos h1]
        · rw [if_neg h1, if_neg h1, b (by omega)]
theorem suf_node {W ns : List (List Nat)} (hN : NS W ns) {u : List Nat} (hu : u ∈ W) (t : List Nat) : u.isSuffixOf (lsuf ns t.reverse) = Eu u t := by
  obtain ⟨w, hw⟩ := List.getElem?_of_mem hu
  have h1 := eb_bit hw (lsuf ns t.reverse)
  have h2 := eb_bit hw t.reverse
  rw [eb_lsuf hN] at h1
  exact h1.symm.trans h2
theorem bit_and {M k : Nat} (hM : M < 2 ^ 31) (hk : k < 31) : (nI M &&& nI (2 ^ k) = 0) ↔ M.testBit k = false := by
  have e : (M &&& 2 ^ k = 0) ↔ M.testBit k = false := by
    constructor
    · intro h
      have := congrArg (fun x => x.testBit k) h
      simpa [Nat.testBit_and, Nat.testBit_two_pow_self] using this
    · intro h
      apply Nat.eq_of_testBit_eq
      intro i
      rw [Nat.testBit_and, Nat.testBit_two_pow]
      by_cases hi : k = i
      · subst hi; simp [h]
      · simp [hi]
  have hle : M &&& 2 ^ k ≤ M := Nat.and_le_left
  rw [bx_and, ← e]
  exact nI_eq (b := 0) (by omega) (by omega)
section CS
variable {z : Zd} {p : Nat} {I I0 : Nat → Nat → Int32} {Q : List Pt} {ns : List (List Nat)}
theorem stepNear_ok (hz : SO z p) {r : Nat} (hr : I p 8 = nI r) (hr9 : r ≤ 9) {near M : Nat} (hn : near ≤ 10) (hM : M < 2 ^ 31) : m_X4_stepNear p (nI near) (nI M) (I, z) = some (nI (stN near (M.testBit 6) (M.testBit 5) r), (I, z)) := by
  have b6 := bit_and hM (show 6 < 31 by omega)
  have b5 := bit_and hM (show 5 < 31 by omega)
  have h20 : near ≠ 10 → ¬ (0 < near ∧ M.testBit 6 = true) → m_X4_stepNear_J20 p (nI near) (nI M) (I, z) = some (nI (stN near (M.testBit 6) (M.testBit 5) r), (I, z)) := by
    intro h1 h2
    unfold m_X4_stepNear_J20 stN
    rw [if_neg (show ¬ (near = 10 ∨ (0 < near ∧ M.testBit 6 = true)) from fun h => h.elim h1 h2)]
    cases h5 : M.testBit 5
    · rw [if_pos (show nI M &&& 32 = 0 from b5.mpr h5), if_neg (show ¬ false = true by decide)]
      by_cases h0 : near = 0
      · rw [if_pos (show nI near ≤ 0 by rw [h0]; decide), if_neg (by omega)]; rfl
      · rw [if_neg (nI_nle (by omega) (by omega)), mb_gI hz.1]
        simp only [hr]
        by_cases h3 : near < r
        · rw [if_neg (nI_ge h3 (by omega)), if_pos ⟨by omega, h3⟩, nI_1]; rfl
        · rw [if_pos (nI_le (by omega) (by omega)), if_neg (by omega)]; rfl
    · rw [if_neg (show ¬ nI M &&& 32 = 0 from fun h => by rw [b5.mp h] at h5; cases h5), if_pos rfl]; rfl
  unfold m_X4_stepNear
  by_cases h10 : near = 10
  · rw [if_pos (show nI near = 10 by rw [h10]; rfl)]
    unfold stN
    rw [if_pos (Or.inl h10)]; rfl
  · rw [if_neg (show ¬ nI near = 10 from fun h => h10 ((nI_eq (b := 10) (by omega) (by omega)).mp h))]
    by_cases h0 : near = 0
    · rw [if_pos (show nI near ≤ 0 by rw [h0]; decide)]
      exact h20 h10 (by omega)
    · rw [if_neg (nI_nle (by omega) (by omega))]
      cases h6 : M.testBit 6
      · rw [if_pos (show nI M &&& 64 = 0 from b6.mpr h6)]
        have := h20 h10 (by rw [h6]; simp)
        rw [h6] at this
        exact this
      · rw [if_neg (show ¬ nI M &&& 64 = 0 from fun h => by rw [b6.mp h] at h6; cases h6)]
        unfold stN
        rw [if_pos (Or.inr ⟨by omega, rfl⟩)]; rfl
theorem cstep_ok (hz : SO z p) (hP : PRE p I0 Q ns) (hQ : okQ Q) (hI : SameS p I0 I) {t : List Nat} {s c : Nat} (hs : sgC Q ns t = some s) (hc8 : c < 8) :
    m_X4_step p (nI s) (nI c) (I, z) = some (encO (sgC Q ns (c :: t)), (I, z)) := by
  obtain ⟨hA0, h31, hm0, i7, i8, i9, i10, i11⟩ := hP
  obtain ⟨z0, ⟨r0, r1, r2, r3, r4⟩, hwo, hao, ⟨s11, s12, s13, -, -⟩, -⟩ := id hz
  obtain ⟨a0, ⟨-, -, -, -, ar5, ar6, -⟩, ⟨-, -, -, -, as5, as6, -⟩, -⟩ := id hao
  have hA : AR I (p + 3) (gatW [] (qws Q)) ns := hA0.kept (fun j hj => hI.2 _ (by omega) (by omega))
  have hN := hA.1
  have hqw : ∀ u ∈ qws Q, okW u := fun u hu => by
    obtain ⟨P, hP, hu⟩ := List.mem_flatMap.mp hu
    obtain ⟨o1, o2, o3, -⟩ := hQ.2.1 P hP
    unfold pws at hu
    by_cases h2 : P.1 = 2
    · rw [if_pos h2] at hu
      rcases List.mem_cons.mp hu with rfl | hu
      · exact o2
      · rw [List.mem_singleton.mp hu]; exact (o3 h2).1
    · rw [if_neg h2] at hu
      rw [List.mem_singleton.mp hu]; exact o2
  have hin : ∀ u ∈ qws Q, u ∈ gatW [] (qws Q) := fun u hu => mem_gatW okL_nil hqw u (Or.inr hu)
  have hal : alv Q t = true := by
    unfold sgC at hs
    cases h : alv Q t
    · rw [h, if_neg (by decide)] at hs; cases hs
    · rfl
  have hsv : kIx ns t * 2 ^ wdC Q + lowC Q t = s := by
    unfold sgC at hs
    rw [hal, if_pos rfl] at hs
    exact Option.some.inj hs
  obtain ⟨hw7, hnb4⟩ := wdC_le hQ
  have hlow := lowC_lt hQ t
  obtain ⟨d1, d2⟩ := mul_add_div' (kIx ns t) (lowC Q t) (wdC Q) hlow
  rw [hsv] at d1 d2
  have hkt := kIx_get hN t
  have hkl := (List.getElem?_eq_some_iff.mp hkt).1
  obtain ⟨k', hk', hnx⟩ := hA.next hkt hc8
  rw [show t.reverse ++ [c] = (c :: t).reverse by simp] at hk'
  have hk'e := kIx_eq hN hk'
  subst hk'e
  have hk'l := (List.getElem?_eq_some_iff.mp hk').1
  have hpw : 2 ^ wdC Q ≤ 128 := by have := Nat.pow_le_pow_right (show 0 < 2 by omega) hw7; omega
  have hs31 : s < 2 ^ 31 := by
    have := Nat.mul_le_mul (show kIx ns t ≤ 31 by omega) hpw
    omega
  generalize hM : mkT (fun u => Eu u (c :: t)) Q Q.length = M
  have hMlt : M < 128 := by rw [← hM]; exact mkT_lt _ hQ.1 _ (Nat.le_refl _)
  have hmark : I (p + 11) (kIx ns (c :: t)) = nI M := by
    rw [hI.2 _ (by omega) (by omega), hm0 _ _ hk', ← hM]
    congr 1
    refine mkT_cong hQ.two (fun P hP => ⟨suf_node hN (hin _ (List.mem_flatMap.mpr ⟨P, hP, by unfold pws; split <;> simp⟩)) _, fun h2 => suf_node hN (hin _ (List.mem_flatMap.mpr ⟨P, hP, by unfold pws; rw [if_pos h2]; simp⟩)) _⟩) _
  obtain ⟨m4, m6, m5⟩ := mkT_bit (fun u => Eu u (c :: t)) hQ.1 Q.length (Nat.le_refl _)
  rw [hM, List.take_length] at m4 m6 m5
  have m15 := mkT_has (fun u => Eu u (c :: t)) hQ.1 Q.length (Nat.le_refl _)
  rw [hM] at m15
  have h9 : I p 9 = nI (wdC Q) := (hI.1 9 (by omega) (by omega)).trans i9
  have h7 : I p 7 = nI (nbT Q Q.length) := (hI.1 7 (by omega) (by omega)).trans i7
  have h8 : I p 8 = nI (rchT Q Q.length) := (hI.1 8 (by omega) (by omega)).trans i8
  have b4 := bit_and (show M < 2 ^ 31 by omega) (show 4 < 31 by omega)
  unfold m_X4_step
  rw [mb_gR z0 r1, mb_gR a0 ar6, mb_gI z0]
  simp only [h9]
  rw [bx_shr hs31 (by omega), d1, show nI (kIx ns t) * 8 + nI c = nI (8 * kIx ns t + c) by rw [show (8 : Int32) = nI 8 from rfl, pk_mul, nI_add, Nat.mul_comm], mb_aI as6 (show 8 * kIx ns t + c < (1 + 5 * 6) * 8 by omega) (by omega)]
  simp only [hnx]
  rw [mb_gR z0 r2, mb_aI s11 (show kIx ns (c :: t) < 31 by omega) (by omega)]
  simp only [hmark]
  cases hb4 : M.testBit 4
  · rw [if_pos (show nI M &&& 16 = 0 from b4.mpr hb4), mb_gI z0]
    simp only [h9]
    have hal2 : alv Q (c :: t) = true := by
      show (alv Q t && !(Q.any (fun P => decide (P.1 = 1) && Eu P.2.1 (c :: t)))) = true
      rw [hal, ← m4, hb4]; rfl
    have hp1 : 1 ≤ 2 ^ wdC Q := Nat.pos_of_ne_zero (by simp)
    rw [mb_mp, msk_shl (by omega), show nI (2 ^ wdC Q) - 1 = nI (2 ^ wdC Q - 1) from nI_sub (b := 1) hp1, bx_mask, d2, mb_gI z0]
    simp only [h7]
    have hnrl := nrV_lt hQ t
    obtain ⟨e1, e2⟩ := mul_add_div' (hsT (fun u => hadW u t) Q Q.length) (nrV Q t) (nbT Q Q.length) hnrl.1
    have h72 : nrV Q (c :: t) = nrV Q (c :: t) → m_X4_step_J72 p (nI (kIx ns (c :: t))) (nI M) (nI (lowC Q t)) (nI (nrV Q (c :: t))) (I, z) = some (encO (sgC Q ns (c :: t)), (I, z)) := by
      intro _
      unfold m_X4_step_J72
      rw [mb_gI z0]
      simp only [h7]
      rw [bx_shr (by omega) (by omega), show lowC Q t / 2 ^ nbT Q Q.length = hsT (fun u => hadW u t) Q Q.length from e1, show (15 : Int32) = nI 15 from rfl, bx_and, m15, bx_or, hsT_or, mb_mp, mb_gI z0]
      simp only [h9]
      rw [mb_gI z0]
      simp only [h7]
      rw [bx_shl (by omega), bx_shl (by omega), bx_or, bx_or]
      have hl2 := lowC_lt hQ (c :: t)
      have hnr2 := (nrV_lt hQ (c :: t)).1
      have hh2 : hsT (fun u => hadW u t || Eu u (c :: t)) Q Q.length = hsT (fun u => hadW u (c :: t)) Q Q.length := rfl
      have hle : hsT (fun u => hadW u (c :: t)) Q Q.length * 2 ^ nbT Q Q.length < 2 ^ wdC Q := by unfold lowC at hl2; omega
      rw [hh2, or_add' _ _ _ hle]
      have hsplit : kIx ns (c :: t) * 2 ^ wdC Q + hsT (fun u => hadW u (c :: t)) Q Q.length * 2 ^ nbT Q Q.length = (kIx ns (c :: t) * 2 ^ hc Q Q.length + hsT (fun u => hadW u (c :: t)) Q Q.length) * 2 ^ nbT Q Q.length := by
        unfold wdC
        rw [Nat.pow_add, Nat.add_mul, Nat.mul_assoc, Nat.mul_comm (2 ^ hc Q Q.length)]
      rw [hsplit, or_add' _ _ _ hnr2, ← hsplit]
      unfold sgC
      rw [hal2, if_pos rfl]
      unfold lowC
      rw [Nat.add_assoc]
      rfl
    rcases hQ.nb with ⟨en, eb⟩ | ⟨P, en, eb, er, hr1, hr9⟩
    · rw [if_pos (show nI (nbT Q Q.length) ≤ 0 by rw [eb]; decide)]
      have e0 : nrV Q (c :: t) = 0 := by unfold nrV; rw [en]
      rw [e0] at h72
      exact h72 rfl
    · rw [if_neg (nI_nle (by omega) (by omega))]
      rw [show (15 : Int32) = nI (2 ^ 4 - 1) from rfl, bx_mask, show lowC Q t % 2 ^ 4 = nrV Q t by have := e2; rw [eb] at this; unfold lowC; rw [eb]; exact this, mb_vc z0, mb_call (stepNear_ok hz (h8.trans (by rw [er])) hr9 hnrl.2 (by omega))]
      have e0 : nrV Q (c :: t) = stN (nrV Q t) (M.testBit 6) (M.testBit 5) P.2.2.2 := by
        rw [m6, m5, near_any hQ.two hQ.2.2 en (fun P => Eu P.2.1 (c :: t)), near_any hQ.two hQ.2.2 en (fun P => Eu P.2.2.1 (c :: t))]
        unfold nrV
        rw [en]
        rfl
      rw [← e0]
      exact h72 rfl
  · rw [if_neg (show ¬ nI M &&& 16 = 0 from fun h => by rw [b4.mp h] at hb4; cases hb4)]
    have hal2 : alv Q (c :: t) = false := by
      show (alv Q t && !(Q.any (fun P => decide (P.1 = 1) && Eu P.2.1 (c :: t)))) = false
      rw [← m4, hb4]; simp
    unfold sgC
    rw [hal2, if_neg (show ¬ false = true by decide)]
    rfl
theorem mt_add {Q : List Pt} (hQ : okQ Q) : ((2 ^ hc Q Q.length - 1) * 2 ^ nbT Q Q.length) ||| (if nbT Q Q.length = 0 then 0 else 10) = (2 ^ hc Q Q.length - 1) * 2 ^ nbT Q Q.length + (if nbT Q Q.length = 0 then 0 else 10) := by
  apply or_add'
  rcases hQ.nb with ⟨-, e⟩ | ⟨P, -, e, -⟩ <;> rw [e] <;> decide
theorem cmatch_ok (hz : SO z p) (hP : PRE p I0 Q ns) (hQ : okQ Q) (hI : SameS p I0 I) {s : Nat} (hs : s < 3968) : m_X4_isMatch p (nI s) (I, z) = some (bI (dnC Q s), (I, z)) := by
  obtain ⟨hA0, h31, hm0, i7, i8, i9, i10, i11⟩ := hP
  obtain ⟨hw7, hnb4⟩ := wdC_le hQ
  have h9 : I p 9 = nI (wdC Q) := (hI.1 9 (by omega) (by omega)).trans i9
  have h10 : I p 10 = nI ((2 ^ hc Q Q.length - 1) * 2 ^ nbT Q Q.length + (if nbT Q Q.length = 0 then 0 else 10)) := by rw [← mt_add hQ]; exact (hI.1 10 (by omega) (by omega)).trans i10
  have hp1 : 1 ≤ 2 ^ wdC Q := Nat.pos_of_ne_zero (by simp)
  have hmt : (2 ^ hc Q Q.length - 1) * 2 ^ nbT Q Q.length + (if nbT Q Q.length = 0 then 0 else 10) < 2 ^ 31 := by
    have a : 2 ^ hc Q Q.length ≤ 2 ^ 7 := Nat.pow_le_pow_right (by omega) (by unfold wdC at hw7; omega)
    have b : 2 ^ nbT Q Q.length ≤ 2 ^ 4 := Nat.pow_le_pow_right (by omega) hnb4
    have := Nat.mul_le_mul (show 2 ^ hc Q Q.length - 1 ≤ 2 ^ 7 by omega) b
    split <;> omega
  unfold m_X4_isMatch
  rw [mb_gI hz.1]
  simp only [h9]
  rw [mb_gI hz.1]
  simp only [h10]
  rw [msk_shl (by omega), show nI (2 ^ wdC Q) - 1 = nI (2 ^ wdC Q - 1) from nI_sub (b := 1) hp1, bx_mask]
  have hlt : s % 2 ^ wdC Q ≤ s := Nat.mod_le _ _
  unfold dnC
  by_cases h : s % 2 ^ wdC Q = (2 ^ hc Q Q.length - 1) * 2 ^ nbT Q Q.length + (if nbT Q Q.length = 0 then 0 else 10)
  · rw [if_pos (by rw [h]), decide_eq_true h]; rfl
  · rw [if_neg (fun e => h ((nI_eq (by omega) hmt).mp e)), decide_eq_false h]; rfl
theorem csys_ok (hz : SO z p) (hP : PRE p I0 Q ns) (hQ : okQ Q) : CSys p I0 (sgC Q ns) (dnC Q) (ns.length * 2 ^ wdC Q) := by
  obtain ⟨hA0, h31, hm0, i7, i8, i9, i10, i11⟩ := id hP
  obtain ⟨hw7, hnb4⟩ := wdC_le hQ
  have hpw : 2 ^ wdC Q ≤ 128 := by have := Nat.pow_le_pow_right (show 0 < 2 by omega) hw7; omega
  have hN : ns.length * 2 ^ wdC Q ≤ 3968 := by have := Nat.mul_le_mul h31 hpw; omega
  have hb : ∀ t s, ok8 t → sgC Q ns t = some s → s < ns.length * 2 ^ wdC Q := by
    intro t s _ hs
    unfold sgC at hs
    cases h : alv Q t
    · rw [h, if_neg (by decide)] at hs; cases hs
    · rw [h, if_pos rfl] at hs
      have h1 := Option.some.inj hs
      have h2 := lowC_lt hQ t
      have h3 := (List.getElem?_eq_some_iff.mp (kIx_get hA0.1 t)).1
      have h4 := Nat.mul_le_mul_right (2 ^ wdC Q) (show kIx ns t + 1 ≤ ns.length from h3)
      rw [Nat.add_mul] at h4
      omega
  refine ⟨hN, i11, ⟨?_, ?_⟩, hb, fun z' I hz' hI t s c _ hs hc => cstep_ok hz' hP hQ hI hs hc, fun z' I hz' hI s hs => cmatch_ok hz' hP hQ hI (by omega)⟩
  · intro t u c ht hu hc e
    cases hs : sgC Q ns t with
    | none =>
      have a : alv Q t = false := by
        cases h : alv Q t
        · rfl
        · unfold sgC at hs; rw [h, if_pos rfl] at hs; cases hs
      have b : alv Q u = false := by
        cases h : alv Q u
        · rfl
        · rw [hs] at e; unfold sgC at e; rw [h, if_pos rfl] at e; cases e
      have a2 : alv Q (c :: t) = false := by show (alv Q t && _) = false; rw [a]; rfl
      have b2 : alv Q (c :: u) = false := by show (alv Q u && _) = false; rw [b]; rfl
      unfold sgC
      rw [a2, b2]
      rfl
    | some s =>
      have h1 := cstep_ok hz hP hQ (I := I0) ⟨fun _ _ _ => rfl, fun _ _ _ => rfl⟩ hs hc
      have h2 := cstep_ok hz hP hQ (I := I0) ⟨fun _ _ _ => rfl, fun _ _ _ => rfl⟩ (e.symm.trans hs) hc
      have h3 : encO (sgC Q ns (c :: t)) = encO (sgC Q ns (c :: u)) := by
        have := Option.some.inj (h1.symm.trans h2)
        exact (Prod.mk.inj this).1
      cases ha : sgC Q ns (c :: t) with
      | none =>
        cases hb' : sgC Q ns (c :: u) with
        | none => rfl
        | some y =>
          rw [ha, hb'] at h3
          have := hb _ y (ok8_cons.mpr ⟨hc, hu⟩) hb'
          exact absurd h3.symm (nI_nm1 (by omega))
      | some x =>
        have hx := hb _ x (ok8_cons.mpr ⟨hc, ht⟩) ha
        cases hb' : sgC Q ns (c :: u) with
        | none =>
          rw [ha, hb'] at h3
          exact absurd h3 (nI_nm1 (by omega))
        | some y =>
          rw [ha, hb'] at h3
          have hy := hb _ y (ok8_cons.mpr ⟨hc, hu⟩) hb'
          rw [(nI_eq (by omega) (by omega)).mp h3]
  · intro t c hs
    have a : alv Q t = false := by
      cases h : alv Q t
      · rfl
      · unfold sgC at hs; rw [h, if_pos rfl] at hs; cases hs
    have a2 : alv Q (c :: t) = false := by show (alv Q t && _) = false; rw [a]; rfl
    unfold sgC
    rw [a2]
    rfl
theorem cacc_ok (hQ : okQ Q) (t : List Nat) : acc (sgC Q ns) (dnC Q) t = accQ Q t := by
  unfold acc sgC accQ
  cases h : alv Q t
  · rfl
  · rw [if_pos rfl, Bool.true_and]
    dsimp only
    have hl := lowC_lt hQ t
    have hnrl := nrV_lt hQ t
    obtain ⟨-, d2⟩ := mul_add_div' (kIx ns t) (lowC Q t) (wdC Q) hl
    unfold dnC
    rw [d2]
    have hpos : 1 ≤ 2 ^ hc Q Q.length := Nat.pos_of_ne_zero (by simp)
    have hfull := hsT_full (D := fun u => hadW u t) (Q := Q) Q.length (Nat.le_refl _)
    have hall : (Q.all (fun P => !decide (P.1 = 0) || hadW P.2.1 t) = true) ↔ hsT (fun u => hadW u t) Q Q.length = 2 ^ hc Q Q.length - 1 := by
      rw [hfull, List.all_eq_true]
      constructor
      · intro h i P hi hP h0
        have := h P (List.mem_of_getElem? hP)
        simpa [h0] using this
      · intro h P hP
        obtain ⟨i, hi⟩ := List.getElem?_of_mem hP
        have := h i P (List.getElem?_eq_some_iff.mp hi).1 hi
        by_cases h0 : P.1 = 0
        · simp [this h0]
        · simp [h0]
    have hx : (if nbT Q Q.length = 0 then 0 else 10) < 2 ^ nbT Q Q.length := by
      rcases hQ.nb with ⟨-, e⟩ | ⟨P, -, e, -⟩ <;> rw [e] <;> decide
    rw [Bool.eq_iff_iff, decide_eq_true_iff, Bool.and_eq_true, hall]
    have hnr : nrA Q t = true ↔ nrV Q t = (if nbT Q Q.length = 0 then 0 else 10) := by
      unfold nrV nrA
      rcases hQ.nb with ⟨e, e2⟩ | ⟨P, e, e2, -⟩
      · rw [e, e2]; simp
      · rw [e, e2]; simp
    rw [hnr]
    unfold lowC
    obtain ⟨a1, a2⟩ := mul_add_div' (hsT (fun u => hadW u t) Q Q.length) (nrV Q t) (nbT Q Q.length) hnrl.1
    obtain ⟨b1, b2⟩ := mul_add_div' (2 ^ hc Q Q.length - 1) (if nbT Q Q.length = 0 then 0 else 10) (nbT Q Q.length) hx
    constructor
    · intro e
      rw [e] at a1 a2
      exact ⟨a1.symm.trans b1, a2.symm.trans b2⟩
    · rintro ⟨e1, e2⟩
      rw [e1, e2]
theorem sgC_nil {W : List (List Nat)} (hN : NS W ns) : sgC Q ns [] = some 0 := by
  have hk : kIx ns [] = 0 := by
    have := kIx_get hN []
    exact (hN.idx0 this).mpr rfl
  have hh : ∀ k, hsT (fun u => hadW u []) Q k = 0 := by
    intro k
    induction k with
    | zero => rfl
    | succ k ih =>
      show hsT (fun u => hadW u []) Q k ||| _ = 0
      rw [ih]
      cases Q[k]? with
      | none => simp
      | some P => simp [hadW]
  unfold sgC lowC
  rw [hk, hh]
  have hn : nrV Q [] = 0 := by unfold nrV; cases nPt Q <;> rfl
  rw [hn]
  simp [alv]
end CS
