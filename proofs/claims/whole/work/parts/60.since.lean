/-! ===== the reference's since(); bits of longs ===== -/
def sncF (ls : List Nat) (Q : List Pt) : Nat → Nat
  | 0 => 0
  | n + 1 => if mtch ls Q n then sncF ls Q n else n + 1
/-- since how many letters the query matches; -9 if it does not -/
def snc (ls : List Nat) (Q : List Pt) : Int32 := if mtch ls Q ls.length then nI (sncF ls Q ls.length) else -9
theorem since_ok {z : Zd} {m : Nat} {I : Nat → Nat → Int32} {W ns : List (List Nat)} {hs : HS} (hM : MO z m) (hB : HB hs) (hR : RR (I (m + 2)) hs) (hX : RX I m W ns) (hE : RE I m W hs.2 hs.2.length) (hall : ∀ u ∈ aws hs.1, u ∈ W) {q : Nat} {Q : List Pt} (hQ : hs.1[q]? = some Q) :
    m_X8_since m (nI q) (I, z) = some (snc hs.2 Q, (I, z)) := by
  have h40 := hB.2.1
  have hgen : ∀ n, n ≤ hs.2.length → ∀ f, n < f → lp (fun k s => m_X8_since_B19 m (nI q) k s) f (nI n) (I, z) = some (nI (sncF hs.2 Q n), (I, z)) := by
    intro n
    induction n with
    | zero =>
      intro _ f hf
      obtain ⟨g, rfl⟩ : ∃ g, f = g + 1 := ⟨f - 1, by omega⟩
      rw [lp_s]
      unfold m_X8_since_B19
      rw [if_pos (show nI 0 ≤ 0 by decide)]
      rfl
    | succ n ih =>
      intro hn f hf
      obtain ⟨g, rfl⟩ : ∃ g, f = g + 1 := ⟨f - 1, by omega⟩
      rw [lp_s]
      have ih := ih (by omega) g (by omega)
      generalize lp (fun k s => m_X8_since_B19 m (nI q) k s) g = kk at ih
      show m_X8_since_B19 m (nI q) kk (nI (n + 1)) (I, z) = _
      unfold m_X8_since_B19
      rw [if_neg (nI_nle (by omega) (by omega)), mb_vc hM.o, nI_pred, mb_call (matches_ok hM hB hR hX hE hall hQ (by omega))]
      unfold sncF
      cases mtch hs.2 Q n
      · rw [if_pos (show bI false = 0 from rfl)]
        rfl
      · rw [if_neg (show ¬ bI true = 0 by decide), nI_m1, ih]
        rfl
  unfold m_X8_since
  rw [mb_gR hM.o hM.rNow, show (1 : Int32) = nI 1 from rfl, mb_aI hM.sNow (show 1 < 178 by omega) (by omega)]
  simp only [hR.2.1]
  rw [mb_vc hM.o, mb_call (matches_ok hM hB hR hX hE hall hQ (Nat.le_refl _))]
  unfold snc
  cases mtch hs.2 Q hs.2.length
  · rw [if_pos (show bI false = 0 from rfl)]
    rfl
  · rw [if_neg (show ¬ bI true = 0 by decide), if_pos rfl]
    exact hgen hs.2.length (Nat.le_refl _) FU (by unfold FU; omega)
theorem lx_and (a b : Nat) : lN a &&& lN b = lN (a &&& b) := by
  apply Int64.toBitVec_inj.1
  show BitVec.ofNat 64 a &&& BitVec.ofNat 64 b = BitVec.ofNat 64 (a &&& b)
  apply BitVec.eq_of_getLsbD_eq
  intro i hi
  simp [hi]
theorem lx_or (a b : Nat) : lN a ||| lN b = lN (a ||| b) := by
  apply Int64.toBitVec_inj.1
  show BitVec.ofNat 64 a ||| BitVec.ofNat 64 b = BitVec.ofNat 64 (a ||| b)
  apply BitVec.eq_of_getLsbD_eq
  intro i hi
  simp [hi]
theorem lx_sm : ∀ n, n < 64 → (((nI n).toInt64 &&& 63).toBitVec.smod 64).toNat = n := by decide +kernel
theorem lx_shl {a s : Nat} (hs : s < 64) : lN a <<< ((nI s).toInt64 &&& 63) = lN (a * 2 ^ s) := by
  apply Int64.toBitVec_inj.1
  rw [Int64.toBitVec_shiftLeft]
  show (BitVec.ofNat 64 a) <<< (((nI s).toInt64 &&& 63).toBitVec.smod 64).toNat = BitVec.ofNat 64 (a * 2 ^ s)
  rw [lx_sm s hs]
  apply BitVec.eq_of_toNat_eq
  simp [Nat.shiftLeft_eq]
theorem lx_eq {a b : Nat} (ha : a < 2 ^ 64) (hb : b < 2 ^ 64) : lN a = lN b ↔ a = b := by
  constructor
  · intro h
    have h1 := congrArg (fun x => x.toBitVec.toNat) h
    have e : ∀ n, n < 2 ^ 64 → (lN n).toBitVec.toNat = n := fun n hn => by
      show (BitVec.ofNat 64 n).toNat = n
      rw [BitVec.toNat_ofNat, Nat.mod_eq_of_lt hn]
    rw [e a ha, e b hb] at h1
    exact h1
  · intro h; rw [h]
