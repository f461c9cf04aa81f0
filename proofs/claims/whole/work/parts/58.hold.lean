/-! ===== where words end, what holds: the spec, and the reference's side ===== -/
/-- the word u ends at the letter number i -/
def En (ls u : List Nat) (i : Nat) : Bool := u.isSuffixOf (ls.take (i + 1))
/-- how often u ends among the first n letters -/
def hct (ls u : List Nat) : Nat → Nat
  | 0 => 0
  | n + 1 => hct ls u n + (if En ls u n then 1 else 0)
theorem hct_le (ls u : List Nat) : ∀ n, hct ls u n ≤ n
  | 0 => Nat.le_refl 0
  | n + 1 => by
    have := hct_le ls u n
    unfold hct
    split <;> omega
theorem hct_pos (ls u : List Nat) : ∀ n, 0 < hct ls u n ↔ ∃ i, i < n ∧ En ls u i = true
  | 0 => by simp [hct]
  | n + 1 => by
    unfold hct
    constructor
    · intro h
      by_cases he : En ls u n = true
      · exact ⟨n, by omega, he⟩
      · rw [if_neg he, Nat.add_zero] at h
        obtain ⟨i, a, b⟩ := (hct_pos ls u n).mp h
        exact ⟨i, by omega, b⟩
    · rintro ⟨i, a, b⟩
      by_cases he : i = n
      · subst he; rw [if_pos b]; omega
      · have := (hct_pos ls u n).mpr ⟨i, by omega, b⟩
        omega
theorem eb_bit {W : List (List Nat)} {j : Nat} {u : List Nat} (hu : W[j]? = some u) (t : List Nat) : (eb W t).testBit j = u.isSuffixOf t := by
  unfold eb
  rw [bitsL_bit, hu]
theorem has_ok {a j : Nat} (ha : a < 2 ^ 31) (hj : j < 32) (w : Wd) : m_X8_has (nI a) (nI j) w = some (if a.testBit j then 1 else 0, w) := by
  unfold m_X8_has
  rw [bx_shr ha hj, show (1 : Int32) = nI (2 ^ 1 - 1) from rfl, bx_mask]
  have hb : a.testBit j = decide (a / 2 ^ j % 2 = 1) := by rw [Nat.testBit_eq_decide_div_mod_eq]
  rw [hb]
  rcases Nat.mod_two_eq_zero_or_one (a / 2 ^ j) with h | h
  · rw [show a / 2 ^ j % 2 ^ 1 = 0 from h, if_neg (show ¬ nI 0 = nI (2 ^ 1 - 1) by decide)]
    rfl
  · rw [show a / 2 ^ j % 2 ^ 1 = 1 from h, if_pos (show nI 1 = nI (2 ^ 1 - 1) from rfl)]
    rfl
theorem hits_ok {z : Zd} {m : Nat} (hM : MO z m) {I : Nat → Nat → Int32} {W : List (List Nat)} {ls : List Nat} (h16 : W.length ≤ 16) (hE : RE I m W ls ls.length) (h40 : ls.length ≤ 40) {j : Nat} {u : List Nat} (hu : W[j]? = some u) {n : Nat} (hn : n ≤ ls.length) :
    m_X8_hits m (nI j) (nI n) (I, z) = some (nI (hct ls u n), (I, z)) := by
  have hj := (List.getElem?_eq_some_iff.mp hu).1
  have key := lp_FU (F := fun k (s : Int32 × Int32) => m_X8_hits_B5 m (nI j) (nI n) k s.1 s.2) (fun i => (nI (hct ls u i), nI i)) (fun _ => (I, z)) (X := some (nI (hct ls u n), (I, z))) n (by omega) (fun i hi k => ?_) (fun k => ?_)
  · unfold m_X8_hits
    exact key
  · show m_X8_hits_B5 m (nI j) (nI n) k (nI (hct ls u i)) (nI i) (I, z) = _
    have hlt := eb_lt h16 (ls.take (i + 1))
    unfold m_X8_hits_B5
    rw [if_neg (nI_ge hi (by omega)), mb_gR hM.o hM.rEnded, mb_aI hM.sEnded (show i < 40 by omega) (by omega)]
    simp only [hE i (by omega)]
    rw [mb_call (has_ok (by omega) (by omega) _), eb_bit hu]
    show _ = k (nI (hct ls u i + (if u.isSuffixOf (ls.take (i + 1)) then 1 else 0)), nI (i + 1)) (I, z)
    by_cases he : u.isSuffixOf (ls.take (i + 1)) = true
    · rw [if_pos he, if_neg (show ¬ (1 : Int32) = 0 by decide), if_pos he]
      unfold m_X8_hits_J31
      rw [mb_mp, nI_1, nI_1]
    · rw [if_neg he, if_pos rfl, if_neg he]
      unfold m_X8_hits_J31
      rw [mb_mp, nI_1, show nI (hct ls u i) + 0 = nI (hct ls u i + 0) from nI_add _ 0]
  · show m_X8_hits_B5 m (nI j) (nI n) k (nI (hct ls u n)) (nI n) (I, z) = _
    unfold m_X8_hits_B5
    rw [if_pos (nI_le (Nat.le_refl _) (by omega))]
    rfl
theorem numberOf_ok {z : Zd} {m : Nat} (hM : MO z m) {I : Nat → Nat → Int32} {W : List (List Nat)} (hW : okL W) (h16 : W.length ≤ 16) (hR : RW I m W) {j : Nat} {u : List Nat} (hu : W[j]? = some u) :
    m_X8_numberOf m (rcI u) (I, z) = some (nI j, (I, z)) := by
  have hj := (List.getElem?_eq_some_iff.mp hu).1
  obtain ⟨u1, u6, u8⟩ := hW.1 u (List.mem_of_getElem? hu)
  have key := lp_FU (F := fun k s => m_X8_numberOf_B2 m (rcI u) k s) (fun i => nI i) (fun _ => (I, z)) (X := some (nI j, (I, z))) j (by omega) (fun i hi k => ?_) (fun k => ?_)
  · unfold m_X8_numberOf
    exact key
  · show m_X8_numberOf_B2 m (rcI u) k (nI i) (I, z) = _
    have hv := List.getElem?_eq_getElem (show i < W.length by omega)
    generalize W[i]'(by omega) = v at hv
    obtain ⟨v1, v6, v8⟩ := hW.1 v (List.mem_of_getElem? hv)
    unfold m_X8_numberOf_B2
    rw [mb_gR hM.o hM.rWords, mb_aI hM.sWords (show i < 64 by omega) (by omega)]
    simp only [hR.2 i v hv]
    rw [if_neg, nI_1]
    intro h
    have hvu : v = u := rcI_inj v8 u8 v6 u6 h
    subst hvu
    have := hW.idx hv hu
    omega
  · show m_X8_numberOf_B2 m (rcI u) k (nI j) (I, z) = _
    unfold m_X8_numberOf_B2
    rw [mb_gR hM.o hM.rWords, mb_aI hM.sWords (show j < 64 by omega) (by omega)]
    simp only [hR.2 j u hu]
    rw [if_pos trivial]
    rfl
