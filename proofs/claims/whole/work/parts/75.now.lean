/-! ===== now(): both sides ===== -/
def msk (f : Nat → Bool) : Nat → Nat
  | 0 => 0
  | q + 1 => msk f q ||| (if f q then 2 ^ q else 0)
theorem msk_bit (f : Nat → Bool) : ∀ (n i : Nat), (msk f n).testBit i = (decide (i < n) && f i)
  | 0, i => by simp [msk]
  | n + 1, i => by
    show (msk f n ||| (if f n then 2 ^ n else 0)).testBit i = _
    rw [Nat.testBit_or, msk_bit f n i]
    by_cases h : i = n
    · subst h
      cases f i <;> simp
    · have e : (if f n then 2 ^ n else 0).testBit i = false := by
        cases f n
        · simp
        · simp [Nat.testBit_two_pow, Ne.symm h]
      rw [e, Bool.or_false]
      by_cases h2 : i < n
      · rw [show decide (i < n) = true by simp [h2], show decide (i < n + 1) = true by simp; omega]
      · rw [show decide (i < n) = false by simp; omega, show decide (i < n + 1) = false by simp; omega]
theorem msk_andn (f g : Nat → Bool) (n : Nat) : nI (msk f n) &&& (nI (msk g n) ^^^ (-1)) = nI (msk (fun q => f q && !g q) n) := by
  apply Int32.toBitVec_inj.1
  show BitVec.ofNat 32 (msk f n) &&& (BitVec.ofNat 32 (msk g n) ^^^ BitVec.allOnes 32) = BitVec.ofNat 32 (msk (fun q => f q && !g q) n)
  apply BitVec.eq_of_getLsbD_eq
  intro i hi
  rw [BitVec.getLsbD_and, BitVec.getLsbD_xor, BitVec.getLsbD_ofNat, BitVec.getLsbD_ofNat, BitVec.getLsbD_ofNat, BitVec.getLsbD_allOnes, msk_bit, msk_bit, msk_bit]
  by_cases h2 : i < n <;> simp [hi, h2]
theorem msk_cong {f g : Nat → Bool} : ∀ {n : Nat}, (∀ q, q < n → f q = g q) → msk f n = msk g n
  | 0, _ => rfl
  | n + 1, h => by
    show msk f n ||| (if f n then 2 ^ n else 0) = msk g n ||| (if g n then 2 ^ n else 0)
    rw [msk_cong (fun q hq => h q (by omega)), h n (by omega)]
theorem msk_shl {q : Nat} (h : q < 32) : (1 : Int32) <<< (nI q &&& 31) = nI (2 ^ q) := by
  rw [show (1 : Int32) = nI 1 from rfl, bx_shl h, Nat.one_mul]
/-- the query number q, matching -/
def mq (hs : HS) (n q : Nat) : Bool := match hs.1[q]? with
  | none => false
  | some Q => mtch hs.2 Q n
def aq (hs : HS) (q : Nat) : Bool := match hs.1[q]? with
  | none => false
  | some Q => isAsk hs.2 Q
def sumH (ls : List Nat) (W : List (List Nat)) : Nat → Nat
  | 0 => 0
  | w + 1 => sumH ls W w + (match W[w]? with
    | none => 0
    | some u => hct ls u ls.length)
theorem matching_ok {I : Nat → Nat → Int32} {z : Zd} {W : List (List Nat)} {hs : HS} (h : CK I z W hs) {n : Nat} (hn : n ≤ hs.2.length) :
    m_X7_matching 0 (nI n) (I, z) = some (nI (msk (mq hs n) hs.1.length), (I, z)) := by
  obtain ⟨hz, hB, hR, hW, h16, hL, hJ, hall⟩ := id h
  obtain ⟨o, ⟨-, f1, -, -, f4, f5, f6⟩, hho, hwo, -, s32⟩ := id hz
  have h8 := hB.1
  unfold m_X7_matching
  refine lp_FU (F := fun k (s : Int32 × Int32) => m_X7_matching_B4 0 (nI n) k s.1 s.2) (fun i => (nI (msk (mq hs n) i), nI i)) (fun _ => (I, z)) hs.1.length (by omega) (fun i hi k => ?_) (fun k => ?_)
  · show m_X7_matching_B4 0 (nI n) k (nI (msk (mq hs n) i)) (nI i) (I, z) = _
    have hQ := List.getElem?_eq_getElem hi
    generalize hs.1[i] = Q at hQ
    unfold m_X7_matching_B4
    rw [mb_gR o f1, mb_gI hho.1]
    simp only [hR.1]
    rw [if_neg (nI_ge hi (by omega)), mb_vc o, mb_call (cmatches_ok h hQ hn)]
    show _ = k (nI (msk (mq hs n) i ||| (if mq hs n i then 2 ^ i else 0)), nI (i + 1)) (I, z)
    have e : mq hs n i = mtch hs.2 Q n := by unfold mq; rw [hQ]
    rw [e]
    cases mtch hs.2 Q n
    · rw [if_pos (show bI false = 0 from rfl), if_neg (by decide), Nat.or_zero]
      unfold m_X7_matching_J30
      rw [nI_1]
    · rw [if_neg (show ¬ bI true = 0 by decide), if_pos rfl, mb_mp, msk_shl (by omega), bx_or]
      unfold m_X7_matching_J30
      rw [nI_1]
  · show m_X7_matching_B4 0 (nI n) k (nI (msk (mq hs n) hs.1.length)) (nI hs.1.length) (I, z) = _
    unfold m_X7_matching_B4
    rw [mb_gR o f1, mb_gI hho.1]
    simp only [hR.1]
    rw [if_pos (nI_le (Nat.le_refl _) (by omega))]
    rfl
theorem asked_ok {I : Nat → Nat → Int32} {z : Zd} {W : List (List Nat)} {hs : HS} (h : CK I z W hs) :
    m_X7_asked 0 (I, z) = some (nI (msk (aq hs) hs.1.length), (I, z)) := by
  obtain ⟨hz, hB, hR, hW, h16, hL, hJ, hall⟩ := id h
  obtain ⟨o, ⟨-, f1, -, -, f4, f5, f6⟩, hho, hwo, -, s32⟩ := id hz
  have h8 := hB.1
  unfold m_X7_asked
  refine lp_FU (F := fun k (s : Int32 × Int32) => m_X7_asked_B4 0 k s.1 s.2) (fun i => (nI (msk (aq hs) i), nI i)) (fun _ => (I, z)) hs.1.length (by omega) (fun i hi k => ?_) (fun k => ?_)
  · show m_X7_asked_B4 0 k (nI (msk (aq hs) i)) (nI i) (I, z) = _
    have hQ := List.getElem?_eq_getElem hi
    generalize hs.1[i] = Q at hQ
    unfold m_X7_asked_B4
    rw [mb_gR o f1, mb_gI hho.1]
    simp only [hR.1]
    rw [if_neg (nI_ge hi (by omega)), mb_vc o, mb_call (cisAsked_ok h hQ)]
    show _ = k (nI (msk (aq hs) i ||| (if aq hs i then 2 ^ i else 0)), nI (i + 1)) (I, z)
    have e : aq hs i = isAsk hs.2 Q := by unfold aq; rw [hQ]
    rw [e]
    cases isAsk hs.2 Q
    · rw [if_pos (show bI false = 0 from rfl), if_neg (by decide), Nat.or_zero]
      unfold m_X7_asked_J29
      rw [nI_1]
    · rw [if_neg (show ¬ bI true = 0 by decide), if_pos rfl, mb_mp, msk_shl (by omega), bx_or]
      unfold m_X7_asked_J29
      rw [nI_1]
  · show m_X7_asked_B4 0 k (nI (msk (aq hs) hs.1.length)) (nI hs.1.length) (I, z) = _
    unfold m_X7_asked_B4
    rw [mb_gR o f1, mb_gI hho.1]
    simp only [hR.1]
    rw [if_pos (nI_le (Nat.le_refl _) (by omega))]
    rfl
theorem callHits_ok {I : Nat → Nat → Int32} {z : Zd} {W : List (List Nat)} {hs : HS} (h : CK I z W hs) :
    m_X7_allHits 0 (I, z) = some (nI (sumH hs.2 W W.length), (I, z)) := by
  obtain ⟨hz, hB, hR, hW, h16, hL, hJ, hall⟩ := id h
  obtain ⟨o, ⟨-, f1, -, -, f4, f5, f6⟩, hho, ⟨w1, -⟩, -, s32⟩ := id hz
  have h40 := hB.2.1
  have hL1 := hL.1
  rw [List.length_map] at hL1
  unfold m_X7_allHits
  refine lp_FU (F := fun k (s : Int32 × Int32) => m_X7_allHits_B4 0 k s.1 s.2) (fun i => (nI (sumH hs.2 W i), nI i)) (fun _ => (I, z)) W.length (by omega) (fun i hi k => ?_) (fun k => ?_)
  · show m_X7_allHits_B4 0 k (nI (sumH hs.2 W i)) (nI i) (I, z) = _
    have hu := List.getElem?_eq_getElem hi
    generalize W[i] = u at hu
    have hlt : hb hs.2 u hs.2.length < 2 ^ 40 := Nat.lt_of_lt_of_le (hb_lt _ _ _) (Nat.pow_le_pow_right (by omega) h40)
    have hJn : z.1 32 i = lN (hb hs.2 u hs.2.length) := by
      have := hJ i u hu
      rw [if_neg (by omega)] at this
      exact this
    unfold m_X7_allHits_B4
    rw [mb_gR o f4, mb_gI w1]
    simp only [hL1]
    rw [if_neg (nI_ge hi (by omega)), mb_gR o f6, mb_aJ s32 (show i < 16 by omega) (by omega)]
    simp only [hJn]
    rw [mb_call (bitCount_ok (by omega) _), mb_mp, nI_add, nI_1]
    rw [show pcn (hb hs.2 u hs.2.length) 64 = hct hs.2 u hs.2.length by
        have := pcn_hb hs.2 u hs.2.length (64 - hs.2.length)
        rwa [show hs.2.length + (64 - hs.2.length) = 64 by omega] at this]
    show _ = k (nI (sumH hs.2 W i + (match W[i]? with
      | none => 0
      | some u => hct hs.2 u hs.2.length)), nI (i + 1)) (I, z)
    rw [hu]
  · show m_X7_allHits_B4 0 k (nI (sumH hs.2 W W.length)) (nI W.length) (I, z) = _
    unfold m_X7_allHits_B4
    rw [mb_gR o f4, mb_gI w1]
    simp only [hL1]
    rw [if_pos (nI_le (Nat.le_refl _) (by omega))]
    rfl
theorem allHits_ok {z : Zd} {m : Nat} {I : Nat → Nat → Int32} {W ns : List (List Nat)} {hs : HS} (hM : MO z m) (hB : HB hs) (hR : RR (I (m + 2)) hs) (hX : RX I m W ns) (hE : RE I m W hs.2 hs.2.length) :
    m_X8_allHits m (I, z) = some (nI (sumH hs.2 W W.length), (I, z)) := by
  have h40 := hB.2.1
  have h16 := hX.2.2.1
  have hRW := hX.2.2.2.2.1.1
  unfold m_X8_allHits
  refine lp_FU (F := fun k (s : Int32 × Int32) => m_X8_allHits_B4 m k s.1 s.2) (fun i => (nI (sumH hs.2 W i), nI i)) (fun _ => (I, z)) W.length (by omega) (fun i hi k => ?_) (fun k => ?_)
  · show m_X8_allHits_B4 m k (nI (sumH hs.2 W i)) (nI i) (I, z) = _
    have hu := List.getElem?_eq_getElem hi
    generalize W[i] = u at hu
    unfold m_X8_allHits_B4
    rw [mb_gI hM.o]
    simp only [hRW]
    rw [if_neg (nI_ge hi (by omega)), mb_gR hM.o hM.rNow, show mb (aI (m + 2) 1) = mb (aI (m + 2) (nI 1)) from rfl, mb_aI hM.sNow (show 1 < 178 by omega) (by omega)]
    simp only [hR.2.1]
    rw [mb_vc hM.o, mb_call (hits_ok hM h16 hE h40 hu (Nat.le_refl _)), mb_mp, nI_add, nI_1]
    show _ = k (nI (sumH hs.2 W i + (match W[i]? with
      | none => 0
      | some u => hct hs.2 u hs.2.length)), nI (i + 1)) (I, z)
    rw [hu]
  · show m_X8_allHits_B4 m k (nI (sumH hs.2 W W.length)) (nI W.length) (I, z) = _
    unfold m_X8_allHits_B4
    rw [mb_gI hM.o]
    simp only [hRW]
    rw [if_pos (nI_le (Nat.le_refl _) (by omega))]
    rfl
theorem mb_aI1 {β : Type} {p n : Nat} {w : Wd} {f : Int32 → Mo β} (h : (wS w)[p]? = some (100, n)) (hn : 1 < n) (h2 : n < 2 ^ 31) : mb (aI p 1) f w = f (w.1 p 1) w := mb_aI (i := 1) h hn h2
theorem mb_aI0 {β : Type} {p n : Nat} {w : Wd} {f : Int32 → Mo β} (h : (wS w)[p]? = some (100, n)) (hn : 0 < n) (h2 : n < 2 ^ 31) : mb (aI p 0) f w = f (w.1 p 0) w := mb_aI (i := 0) h hn h2
def nowF (hs : HS) (t q : Nat) : Bool := if t = 1 then mq hs hs.2.length q else if t = 2 then (mq hs hs.2.length q && !mq hs (hs.2.length - 1) q) else if t = 3 then (mq hs (hs.2.length - 1) q && !mq hs hs.2.length q) else aq hs q
theorem nowL_ok {z : Zd} {m : Nat} {I : Nat → Nat → Int32} {W ns : List (List Nat)} {hs : HS} (hM : MO z m) (hB : HB hs) (hR : RR (I (m + 2)) hs) (hX : RX I m W ns) (hE : RE I m W hs.2 hs.2.length) (hall : ∀ u ∈ aws hs.1, u ∈ W) {t : Nat} (ht : t < 10) :
    lp (fun k (s : Int32 × Int32) => m_X8_now_B58 m (nI t) k s.1 s.2) FU (0, 0) (I, z) = some (nI (msk (nowF hs t) hs.1.length), (I, z)) := by
  have h40 := hB.2.1
  have h8 := hB.1
  refine lp_FU (F := fun k (s : Int32 × Int32) => m_X8_now_B58 m (nI t) k s.1 s.2) (fun i => (nI (msk (nowF hs t) i), nI i)) (fun _ => (I, z)) hs.1.length (by omega) (fun i hi k => ?_) (fun k => ?_)
  · show m_X8_now_B58 m (nI t) k (nI (msk (nowF hs t) i)) (nI i) (I, z) = k (nI (msk (nowF hs t) i ||| (if nowF hs t i then 2 ^ i else 0)), nI (i + 1)) (I, z)
    have hQ := List.getElem?_eq_getElem hi
    generalize hs.1[i] = Q at hQ
    generalize msk (nowF hs t) i = a
    have e0 : mq hs hs.2.length i = mtch hs.2 Q hs.2.length := by unfold mq; rw [hQ]
    have e1 : mq hs (hs.2.length - 1) i = mtch hs.2 Q (hs.2.length - 1) := by unfold mq; rw [hQ]
    have ea : aq hs i = isAsk hs.2 Q := by unfold aq; rw [hQ]
    have h171 : ∀ b : Bool, m_X8_now_J171 m (nI t) (nI a) (nI i) (bI b) k (I, z) = k (nI (a ||| (if b then 2 ^ i else 0)), nI (i + 1)) (I, z) := by
      intro b
      unfold m_X8_now_J171 m_X8_now_J186
      cases b
      · rw [if_pos (show bI false = 0 from rfl), if_neg (by decide), mb_mp, nI_1, show (0 : Int32) = nI 0 from rfl, bx_or]
      · rw [if_neg (show ¬ bI true = 0 by decide), if_pos rfl, mb_mp, nI_1, msk_shl (by omega), bx_or]
    have h108 : ∀ b c : Bool, b = mq hs hs.2.length i → c = mq hs (hs.2.length - 1) i → m_X8_now_J108 m (nI t) (nI a) (nI i) (bI b) (bI c) k (I, z) = k (nI (a ||| (if nowF hs t i then 2 ^ i else 0)), nI (i + 1)) (I, z) := by
      intro b c hb hc
      unfold m_X8_now_J108 nowF
      rw [← hb, ← hc]
      have hd : ∀ j, j < 10 → (nI t = nI j ↔ t = j) := fun j hj => nI_eq (by omega) (by omega)
      by_cases t1 : t = 1
      · rw [if_pos (show nI t = 1 from (hd 1 (by omega)).mpr t1), if_pos t1, h171]
      rw [if_neg (show ¬ nI t = 1 from fun e => t1 ((hd 1 (by omega)).mp e)), if_neg t1]
      by_cases t2 : t = 2
      · rw [if_pos (show nI t = 2 from (hd 2 (by omega)).mpr t2), if_pos t2]
        cases b
        · rw [if_pos (show bI false = 0 from rfl)]
          unfold m_X8_now_J139
          exact h171 false
        · rw [if_neg (show ¬ bI true = 0 by decide)]
          cases c
          · rw [if_pos (show bI false = 0 from rfl)]
            exact h171 true
          · rw [if_neg (show ¬ bI true = 0 by decide)]
            unfold m_X8_now_J139
            exact h171 false
      rw [if_neg (show ¬ nI t = 2 from fun e => t2 ((hd 2 (by omega)).mp e)), if_neg t2]
      by_cases t3 : t = 3
      · rw [if_pos (show nI t = 3 from (hd 3 (by omega)).mpr t3), if_pos t3]
        cases c
        · rw [if_pos (show bI false = 0 from rfl)]
          unfold m_X8_now_J162
          exact h171 false
        · rw [if_neg (show ¬ bI true = 0 by decide)]
          cases b
          · rw [if_pos (show bI false = 0 from rfl)]
            exact h171 true
          · rw [if_neg (show ¬ bI true = 0 by decide)]
            unfold m_X8_now_J162
            exact h171 false
      rw [if_neg (show ¬ nI t = 3 from fun e => t3 ((hd 3 (by omega)).mp e)), if_neg t3, mb_vc hM.o, mb_call (isAsked_ok hM hB hR hX hE hall hQ), h171, ea]
    unfold m_X8_now_B58
    rw [mb_gR hM.o hM.rNow, mb_aI0 hM.sNow (by omega) (by omega)]
    simp only [hR.1]
    rw [if_neg (nI_ge hi (by omega)), mb_gR hM.o hM.rNow, mb_aI1 hM.sNow (by omega) (by omega)]
    simp only [hR.2.1]
    rw [mb_vc hM.o, mb_call (matches_ok hM hB hR hX hE hall hQ (Nat.le_refl _)), mb_gR hM.o hM.rNow, mb_aI1 hM.sNow (by omega) (by omega)]
    simp only [hR.2.1]
    by_cases h0 : hs.2.length = 0
    · rw [if_pos (show nI hs.2.length = 0 by rw [h0]; rfl)]
      exact h108 _ _ e0.symm (by rw [e1, show hs.2.length - 1 = hs.2.length by omega])
    · rw [if_neg (nI_ne0 (by omega) (by omega)), mb_gR hM.o hM.rNow, mb_aI1 hM.sNow (by omega) (by omega)]
      simp only [hR.2.1]
      rw [show nI hs.2.length - 1 = nI (hs.2.length - 1) from nI_sub (b := 1) (by omega), mb_vc hM.o, mb_call (matches_ok hM hB hR hX hE hall hQ (by omega))]
      exact h108 _ _ e0.symm e1.symm
  · show m_X8_now_B58 m (nI t) k (nI (msk (nowF hs t) hs.1.length)) (nI hs.1.length) (I, z) = _
    unfold m_X8_now_B58
    rw [mb_gR hM.o hM.rNow, mb_aI0 hM.sNow (by omega) (by omega)]
    simp only [hR.1]
    rw [if_pos (nI_le (Nat.le_refl _) (by omega))]
    rfl
theorem withoutLast_ok {I : Nat → Nat → Int32} {z : Zd} {W : List (List Nat)} {hs : HS} (h : CK I z W hs) : m_X7_withoutLast 0 (I, z) = some (nI (hs.2.length - 1), (I, z)) := by
  obtain ⟨hz, hB, hR, hW, h16, hL, hJ, hall⟩ := id h
  obtain ⟨o, ⟨-, f1, -, -, f4, f5, f6⟩, hho, -, -, s32⟩ := id hz
  have h40 := hB.2.1
  unfold m_X7_withoutLast
  rw [mb_gR o f1, mb_gI hho.1]
  simp only [hR.2.1]
  by_cases h0 : hs.2.length = 0
  · rw [h0]; rfl
  · rw [show nI hs.2.length - 1 = nI (hs.2.length - 1) from nI_sub (b := 1) (by omega)]
    by_cases h1 : hs.2.length - 1 = 0
    · rw [h1]; rfl
    · rw [if_pos (show (0 : Int32) < nI (hs.2.length - 1) from nI_lt (a := 0) (by omega) (by omega))]
      rfl
theorem now_same {I I' : Nat → Nat → Int32} {z z' : Zd} {m : Nat} {W ns : List (List Nat)} {hs : HS} (h : CK I z W hs) (hM : MO z' m) (hR : RR (I' (m + 2)) hs) (hX : RX I' m W ns) {kk : Nat} (hk : ns[kk]? = some (lsuf ns hs.2)) (h07 : I 0 7 = nI kk) (y : Int32) :
    ∃ r I2, m_X7_now 0 y (I, z) = some (r, (I, z)) ∧ m_X8_now m y (I', z') = some (r, (I2, z')) ∧ (∀ k, k ≠ 0 → I2 m k = I' m k) ∧ ∀ p, p ≠ m → p ≠ m + 12 → I2 p = I' p := by
  obtain ⟨hz, hB, hRc, hW, h16, hL, hJ, hall⟩ := id h
  obtain ⟨o, ⟨-, f1, -, -, f4, f5, f6⟩, hho, -, -, s32⟩ := id hz
  have h40 := hB.2.1
  have hR0 : RR (u2 I' m 0 0 (m + 2)) hs := by rw [u2_row (by omega)]; exact hR
  have hX0 : RX (u2 I' m 0 0) m W ns := hX.kept (u2_ne (Or.inr (by omega))) (u2_ne (Or.inr (by omega))) (fun j a b => u2_row (by omega))
  unfold m_X7_now m_X8_now
  rw [mb_sI hM.o]
  dsimp only
  rw [mb_call (in_ok _ _ _ _), Int32.toInt_toInt64, show (0 : Int64).toInt = 0 by decide, show (5 : Int64).toInt = 5 by decide]
  have hcase : (0 ≤ y.toInt ∧ y.toInt ≤ 5) ∨ ¬ (0 ≤ y.toInt ∧ y.toInt ≤ 5) := Decidable.em _
  rcases hcase with hy | hy
  · obtain ⟨t, ht, rfl⟩ : ∃ t, t ≤ 5 ∧ y = nI t := by
      refine ⟨y.toInt.toNat, by omega, ?_⟩
      apply Int32.toInt_inj.mp
      rw [nI_toInt (by omega)]
      omega
    rw [show decide (0 ≤ (nI t).toInt ∧ (nI t).toInt ≤ 5) = true by rw [decide_eq_true_iff]; exact hy, if_neg (show ¬ bI true = 0 by decide)]
    obtain ⟨I1, e1, hE, F⟩ := layEnds_ok hM hB hR0 hX0
    have hR1 : RR (I1 (m + 2)) hs := by rw [F (m + 2) (by omega)]; exact hR0
    have hX1 : RX I1 m W ns := hX0.kept (by rw [F m (by omega)]) (by rw [F m (by omega)]) (fun j a b => F (m + j) (by omega))
    have hfr : (∀ k, k ≠ 0 → I1 m k = I' m k) ∧ ∀ p, p ≠ m → p ≠ m + 12 → I1 p = I' p := ⟨fun k hk => by rw [F m (by omega), u2_ne (Or.inr hk)], fun p hp hp2 => by rw [F p hp2, u2_row hp]⟩
    rw [mb_vc hM.o, mb_call e1]
    have hd : ∀ j, j < 10 → (nI t = nI j ↔ t = j) := fun j hj => nI_eq (by omega) (by omega)
    have hme : hs.2.length - 1 ≤ hs.2.length := by omega
    by_cases t0 : t = 0
    · subst t0
      rw [if_pos (show nI 0 = 0 from rfl), if_pos (show nI 0 = 0 from rfl), mb_gI o]
      unfold m_X8_now_J32
      rw [if_pos (show nI 0 = 0 from rfl), mb_gR hM.o hM.rNow, show (1 : Int32) = nI 1 from rfl, mb_aI hM.sNow (show 1 < 178 by omega) (by omega)]
      simp only [hR1.2.1, h07]
      obtain ⟨k', e2, e3⟩ := nodeAt_ok hM hB hR1 hX1 (Nat.le_refl hs.2.length)
      rw [List.take_length] at e2
      rw [mb_vc hM.o, mb_call e3]
      have : k' = kk := nodup_idx hX.1.nodup e2 hk
      subst this
      exact ⟨nI k', I1, rfl, rfl, hfr.1, hfr.2⟩
    rw [if_neg (show ¬ nI t = 0 from fun e => t0 ((hd 0 (by omega)).mp e)), if_neg (show ¬ nI t = 0 from fun e => t0 ((hd 0 (by omega)).mp e))]
    by_cases t5 : t = 5
    · subst t5
      rw [if_neg (show ¬ nI 5 = 1 by decide), if_neg (show ¬ nI 5 = 2 by decide), if_neg (show ¬ nI 5 = 3 by decide), if_neg (show ¬ nI 5 = 4 by decide), if_pos (show nI 5 = 5 from rfl), if_pos (show nI 5 = 5 from rfl), mb_vc o, mb_call (callHits_ok h)]
      unfold m_X8_now_J32
      rw [if_neg (show ¬ nI 5 = 0 by decide), mb_vc hM.o, mb_call (allHits_ok hM hB hR1 hX1 hE)]
      exact ⟨_, I1, rfl, rfl, hfr.1, hfr.2⟩
    rw [if_neg (show ¬ nI t = 5 from fun e => t5 ((hd 5 (by omega)).mp e)), if_neg (show ¬ nI t = 5 from fun e => t5 ((hd 5 (by omega)).mp e)), nowL_ok hM hB hR1 hX1 hE hall (show t < 10 by omega)]
    by_cases t1 : t = 1
    · subst t1
      rw [if_pos (show nI 1 = 1 from rfl), mb_gR o f1, mb_gI hho.1]
      simp only [hRc.2.1]
      rw [mb_vc o, mb_call (matching_ok h (Nat.le_refl _))]
      exact ⟨_, I1, rfl, rfl, hfr.1, hfr.2⟩
    rw [if_neg (show ¬ nI t = 1 from fun e => t1 ((hd 1 (by omega)).mp e))]
    by_cases t2 : t = 2
    · subst t2
      rw [if_pos (show nI 2 = 2 from rfl), mb_gR o f1, mb_gI hho.1]
      simp only [hRc.2.1]
      rw [mb_vc o, mb_call (matching_ok h (Nat.le_refl _)), mb_vc o, mb_call (withoutLast_ok h), mb_vc o, mb_call (matching_ok h hme), msk_andn]
      exact ⟨_, I1, rfl, rfl, hfr.1, hfr.2⟩
    rw [if_neg (show ¬ nI t = 2 from fun e => t2 ((hd 2 (by omega)).mp e))]
    by_cases t3 : t = 3
    · subst t3
      rw [if_pos (show nI 3 = 3 from rfl), mb_vc o, mb_call (withoutLast_ok h), mb_vc o, mb_call (matching_ok h hme), mb_gR o f1, mb_gI hho.1]
      simp only [hRc.2.1]
      rw [mb_vc o, mb_call (matching_ok h (Nat.le_refl _)), msk_andn]
      exact ⟨_, I1, rfl, rfl, hfr.1, hfr.2⟩
    rw [if_neg (show ¬ nI t = 3 from fun e => t3 ((hd 3 (by omega)).mp e))]
    have t4 : t = 4 := by omega
    subst t4
    rw [if_pos (show nI 4 = 4 from rfl), mb_vc o, mb_call (asked_ok h)]
    exact ⟨_, I1, rfl, rfl, hfr.1, hfr.2⟩
  · have hne : ∀ j : Nat, j ≤ 5 → ¬ y = nI j := fun j hj e => by
      rw [e, nI_toInt (by omega)] at hy
      omega
    rw [if_neg (show ¬ y = 0 from hne 0 (by omega)), if_neg (show ¬ y = 1 from hne 1 (by omega)), if_neg (show ¬ y = 2 from hne 2 (by omega)), if_neg (show ¬ y = 3 from hne 3 (by omega)), if_neg (show ¬ y = 4 from hne 4 (by omega)), if_neg (show ¬ y = 5 from hne 5 (by omega)), show decide (0 ≤ y.toInt ∧ y.toInt ≤ 5) = false by rw [decide_eq_false_iff_not]; exact hy, if_pos (show bI false = 0 from rfl)]
    exact ⟨-1, u2 I' m 0 0, rfl, rfl, fun k hk => u2_ne (Or.inr hk), fun p hp _ => u2_row hp⟩
