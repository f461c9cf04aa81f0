/-! ===== the reference's behind(), isDone() ===== -/
def agoV (Q : List Pt) (t : List Nat) : Nat := if nrV Q t = 0 ∨ nrV Q t = 10 then 9 else nrV Q t - 1
def hadV (Q : List Pt) (t : List Nat) : Nat := msk (hdF (fun u => hadW u t) (decide (nrV Q t = 10)) Q) Q.length
def sgR (Q : List Pt) (ns : List (List Nat)) (t : List Nat) : Option Nat := if alv Q t then some ((kIx ns t * 16 + hadV Q t) * 10 + agoV Q t) else none
def dnR (Q : List Pt) (s : Nat) : Bool := decide (s / 10 % 16 = msk (duF Q) Q.length)
def encR : Option Nat → Int32
  | none => -9
  | some s => nI s
theorem nI_nm9 {n : Nat} (h : n < 2 ^ 31) : ¬ nI n = -9 := by
  intro e
  have := congrArg Int32.toInt e
  rw [nI_toInt h, show (-9 : Int32).toInt = -9 by decide] at this
  omega
theorem hadV_lt {Q : List Pt} (h : Q.length ≤ 4) (t : List Nat) : hadV Q t < 16 := by
  have h1 := msk_lt (hdF (fun u => hadW u t) (decide (nrV Q t = 10)) Q) Q.length
  have h2 : 2 ^ Q.length ≤ 2 ^ 4 := Nat.pow_le_pow_right (by omega) h
  unfold hadV
  omega
theorem agoV_le {Q : List Pt} (hQ : okQ Q) (t : List Nat) : agoV Q t ≤ 9 := by
  have := (nrV_lt hQ t).2
  unfold agoV
  split <;> omega
theorem hdF_or (D E : List Nat → Bool) (b : Bool) (Q : List Pt) (i : Nat) : (hdF D b Q i || hdF E false Q i) = hdF (fun u => D u || E u) b Q i := by
  unfold hdF
  cases Q[i]? with
  | none => rfl
  | some P =>
    dsimp only
    cases decide (P.1 = 0) <;> cases decide (P.1 = 2) <;> cases D P.2.1 <;> cases E P.2.1 <;> cases b <;> rfl
section RS
variable {z : Zd} {m : Nat} {I I0 : Nat → Nat → Int32} {W ns : List (List Nat)} {hs : HS} {q : Nat} {Q : List Pt}
theorem behind_ok (hM : MO z m) (hB : HB hs) (hR : RR (I (m + 2)) hs) (hX : RX I m W ns) (hall : ∀ u ∈ aws hs.1, u ∈ W) (hq : hs.1[q]? = some Q) (hQ : okQ Q) (hP : PRER m I W Q Q.length) {t : List Nat} {s c : Nat} (hsg : sgR Q ns t = some s) (hc8 : c < 8) :
    m_X8_behind m (nI q) (nI s) (nI c) (I, z) = some (encR (sgR Q ns (c :: t)), (I, z)) := by
  have hq8 : q < 8 := Nat.lt_of_lt_of_le (List.getElem?_eq_some_iff.mp hq).1 hB.1
  obtain ⟨hQ4, hQP⟩ := hB.2.2.1 Q (List.mem_of_getElem? hq)
  obtain ⟨hrl, hrp⟩ := hR.2.2.2 q Q hq
  obtain ⟨hN, hW, h16, h97, hRW, -, -⟩ := id hX
  obtain ⟨p22, p23, p24⟩ := hP
  have hal : alv Q t = true := by
    unfold sgR at hsg
    cases h : alv Q t
    · rw [h, if_neg (by decide)] at hsg; cases hsg
    · rfl
  have hsv : (kIx ns t * 16 + hadV Q t) * 10 + agoV Q t = s := by
    unfold sgR at hsg
    rw [hal, if_pos rfl] at hsg
    exact Option.some.inj hsg
  have hh := hadV_lt hQ.1 t
  have ha := agoV_le hQ t
  have hkt := kIx_get hN t
  have hkl := (List.getElem?_eq_some_iff.mp hkt).1
  obtain ⟨k', hk', hnx⟩ := hX.next hkt hc8
  have hend := hX.ends hk'
  rw [show t.reverse ++ [c] = (c :: t).reverse by simp] at hk' hend
  have hk'e := kIx_eq hN hk'
  subst hk'e
  have hk'l := (List.getElem?_eq_some_iff.mp hk').1
  have hs31 : s < 15520 := by omega
  have d1 : s / 160 = kIx ns t := by omega
  have d2 : s / 10 % 16 = hadV Q t := by omega
  have d3 : s % 10 = agoV Q t := by omega
  have hlt := eb_lt h16 (c :: t).reverse
  have hin : ∀ P ∈ Q, P.2.1 ∈ W := fun P hP => by
    obtain ⟨i, hi⟩ := List.getElem?_of_mem hP
    exact hall _ (aws_mem hq hi (by unfold pws; split <;> simp))
  have hlk := lkT_lt (Q := Q) hin h16 Q.length
  have hland := lkT_and hin (c :: t).reverse Q.length (Nat.le_refl _)
  rw [List.take_length] at hland
  have hmod : nI s - nI s / 10 * 10 = nI (agoV Q t) := by
    show nI s - nI s / nI 10 * nI 10 = _
    rw [pk_rem (by omega) (by omega) (by omega), d3]
  unfold m_X8_behind
  rw [mb_gR hM.o hM.rNexts, show nI s / 160 = nI (kIx ns t) by show nI s / nI 160 = _; rw [pk_div (by omega) (by omega) (by omega), d1], show (8 : Int32) * nI (kIx ns t) + nI c = nI (8 * kIx ns t + c) by rw [show (8 : Int32) = nI 8 from rfl, pk_mul, nI_add], mb_aI hM.sNexts (show 8 * kIx ns t + c < 800 by omega) (by omega)]
  simp only [hnx]
  rw [mb_mp, show nI s / 10 &&& 15 = nI (hadV Q t) by show nI s / nI 10 &&& nI (2 ^ 4 - 1) = _; rw [pk_div (by omega) (by omega) (by omega), bx_mask]; exact congrArg nI d2, mb_mp, hmod, mb_gR hM.o hM.rEnds, mb_aI hM.sEnds (show kIx ns (c :: t) < 100 by omega) (by omega)]
  simp only [hend]
  rw [mb_gI hM.o]
  simp only [p22]
  rw [bx_and]
  have hle : eb W (c :: t).reverse &&& lkT W Q Q.length ≤ eb W (c :: t).reverse := Nat.and_le_left
  have hand : (nI (eb W (c :: t).reverse &&& lkT W Q Q.length) = 0) ↔ Q.any (fun P => decide (P.1 = 1) && Eu P.2.1 (c :: t)) = false := by
    refine Iff.trans (nI_eq (b := 0) (by omega) (by omega)) ?_
    exact hland
  by_cases hany : Q.any (fun P => decide (P.1 = 1) && Eu P.2.1 (c :: t)) = true
  · rw [if_neg (fun h => by rw [hand.mp h] at hany; cases hany)]
    have hal2 : alv Q (c :: t) = false := by
      show (alv Q t && !(Q.any (fun P => decide (P.1 = 1) && Eu P.2.1 (c :: t)))) = false
      rw [hany]; simp
    unfold sgR
    rw [hal2, if_neg (show ¬ false = true by decide)]
    rfl
  have hany : Q.any (fun P => decide (P.1 = 1) && Eu P.2.1 (c :: t)) = false := by simpa using hany
  rw [if_pos (hand.mpr hany)]
  have hal2 : alv Q (c :: t) = true := by
    show (alv Q t && !(Q.any (fun P => decide (P.1 = 1) && Eu P.2.1 (c :: t)))) = true
    rw [hal, hany]; rfl
  -- the parts
  have hhad : ∀ b : Bool, b = decide (nrV Q t = 10) → msk (hdF (fun u => hadW u t) b Q) Q.length ||| msk (hdF (fun u => Eu u (c :: t)) false Q) Q.length = msk (hdF (fun u => hadW u (c :: t)) b Q) Q.length := by
    intro b _
    rw [msk_or]
    exact msk_cong (fun i _ => hdF_or _ _ b Q i)
  have key : ∀ X, (∀ k : Int32 × Int32 → Mo Int32, m_X8_behind_B53 m (nI q) (nI s) (nI (kIx ns (c :: t))) (nI (agoV Q t)) k (nI (hadV Q t ||| msk (hdF (fun u => Eu u (c :: t)) false Q) Q.length)) (nI Q.length) (I, z) = X) → lp (fun k (s1 : Int32 × Int32) => m_X8_behind_B53 m (nI q) (nI s) (nI (kIx ns (c :: t))) (nI (agoV Q t)) k s1.1 s1.2) FU (nI (hadV Q t), 0) (I, z) = X := by
    intro X hX'
    have kk := lp_FU (F := fun k (s1 : Int32 × Int32) => m_X8_behind_B53 m (nI q) (nI s) (nI (kIx ns (c :: t))) (nI (agoV Q t)) k s1.1 s1.2) (fun i => (nI (hadV Q t ||| msk (hdF (fun u => Eu u (c :: t)) false Q) i), nI i)) (fun _ => (I, z)) (X := X) Q.length (by omega) (fun i hi k => ?_) hX'
    · have e0 : hadV Q t ||| msk (hdF (fun u => Eu u (c :: t)) false Q) 0 = hadV Q t := Nat.or_zero _
      rw [e0] at kk
      exact kk
    · show m_X8_behind_B53 m (nI q) (nI s) (nI (kIx ns (c :: t))) (nI (agoV Q t)) k (nI (hadV Q t ||| msk (hdF (fun u => Eu u (c :: t)) false Q) i)) (nI i) (I, z) = k (nI (hadV Q t ||| (msk (hdF (fun u => Eu u (c :: t)) false Q) i ||| (if hdF (fun u => Eu u (c :: t)) false Q i then 2 ^ i else 0))), nI (i + 1)) (I, z)
      have hPi := List.getElem?_eq_getElem hi
      generalize Q[i] = P at hPi
      have hPm := List.mem_of_getElem? hPi
      obtain ⟨o1, o2, o3, o4⟩ := hQP P hPm
      obtain ⟨b0, b1, b2, b3⟩ := hrp i P hPi
      have hi4 : i < 4 := by omega
      have hu := idx_get (hin P hPm)
      have hul := (List.getElem?_eq_some_iff.mp hu).1
      generalize hA : hadV Q t ||| msk (hdF (fun u => Eu u (c :: t)) false Q) i = A
      rw [← Nat.or_assoc, hA, hdF_some hPi]
      unfold m_X8_behind_B53
      rw [mb_gR hM.o hM.rNow, mb_call (parts_ok (w := (I, z)) hM.sNow hq8)]
      simp only [hrl]
      rw [if_neg (nI_ge hi (by omega)), mb_gR hM.o hM.rNow, mb_call (of0 (w := (I, z)) hM.sNow hq8 hi4)]
      simp only [b0]
      have h117 : m_X8_behind_J117 m (nI q) (nI s) (nI (kIx ns (c :: t))) (nI (agoV Q t)) (nI i) (nI A) k (I, z) = k (nI (A ||| 0), nI (i + 1)) (I, z) := by
        unfold m_X8_behind_J117 m_X8_behind_J118
        rw [mb_mp, nI_1, show (0 : Int32) = nI 0 from rfl, bx_or]
      by_cases h0 : P.1 = 0
      · rw [if_pos (show nI P.1 = 0 by rw [h0]; rfl), mb_gR hM.o hM.rEnds, mb_aI hM.sEnds (show kIx ns (c :: t) < 100 by omega) (by omega)]
        simp only [hend]
        rw [mb_gR hM.o hM.rNow, mb_call (of1 (w := (I, z)) hM.sNow hq8 hi4)]
        simp only [b1]
        rw [mb_vc hM.o, mb_call (numberOf_ok hM hW h16 hRW hu), mb_call (has_ok (by omega) (by omega) _), eb_bit hu]
        show _ = k (nI (A ||| (if ((decide (P.1 = 0) && P.2.1.isSuffixOf (c :: t).reverse) || (decide (P.1 = 2) && false)) = true then 2 ^ i else 0)), nI (i + 1)) (I, z)
        cases hE : P.2.1.isSuffixOf (c :: t).reverse
        · rw [if_neg (show ¬ false = true by decide), if_pos rfl, h117]
          simp
        · rw [if_pos (show true = true from rfl), if_neg (show ¬ (1 : Int32) = 0 by decide)]
          unfold m_X8_behind_J118
          rw [mb_mp, nI_1, msk_shl (by omega), bx_or]
          simp [h0]
      · rw [if_neg (nI_ne0 (by omega) (by omega)), h117]
        simp [h0]
  have hst : ∀ h a : Nat, m_X8_stateOf (nI (kIx ns (c :: t))) (nI h) (nI a) (I, z) = some (nI ((kIx ns (c :: t) * 16 + h) * 10 + a), (I, z)) := by
    intro h a
    show some ((nI (kIx ns (c :: t)) * nI 16 + nI h) * nI 10 + nI a, (I, z)) = _
    rw [pk_mul, nI_add, pk_mul, nI_add]
  have hfin : ∀ a : Nat, a = agoV Q (c :: t) → some (nI ((kIx ns (c :: t) * 16 + hadV Q (c :: t)) * 10 + a), (I, z)) = some (encR (sgR Q ns (c :: t)), (I, z)) := by
    intro a ha'
    unfold sgR
    rw [hal2, if_pos rfl, ha']
    rfl
  refine key _ (fun k => ?_)
  generalize hA : hadV Q t ||| msk (hdF (fun u => Eu u (c :: t)) false Q) Q.length = A
  have hA2 : A = msk (hdF (fun u => hadW u (c :: t)) (decide (nrV Q t = 10)) Q) Q.length := by rw [← hA]; exact hhad _ rfl
  have hA16 : A < 16 := by
    rw [hA2]
    have h1 := msk_lt (hdF (fun u => hadW u (c :: t)) (decide (nrV Q t = 10)) Q) Q.length
    have h2 : 2 ^ Q.length ≤ 2 ^ 4 := Nat.pow_le_pow_right (by omega) hQ.1
    omega
  unfold m_X8_behind_B53
  rw [mb_gR hM.o hM.rNow, mb_call (parts_ok (w := (I, z)) hM.sNow hq8)]
  simp only [hrl]
  rw [if_pos (nI_le (Nat.le_refl _) (by omega)), mb_gI hM.o]
  rcases p24 with ⟨hno, i24⟩ | ⟨j, P, hjl, hj, hP2, i24, i25, i26, i27⟩
  · simp only [i24]
    rw [if_pos trivial]
    have hnp : nPt Q = none := by
      cases e : nPt Q with
      | none => rfl
      | some P =>
        obtain ⟨a, b⟩ := nPt_some e
        obtain ⟨i, hi⟩ := List.getElem?_of_mem a
        exact absurd b (hno i P (List.getElem?_eq_some_iff.mp hi).1 hi)
    have e0 : nrV Q t = 0 := by unfold nrV; rw [hnp]
    have e1 : nrV Q (c :: t) = 0 := by unfold nrV; rw [hnp]
    have eA : A = hadV Q (c :: t) := by rw [hA2]; unfold hadV; rw [e0, e1]
    show mb (m_X8_stateOf (nI (kIx ns (c :: t))) (nI A) (nI 9)) _ (I, z) = _
    rw [mb_call (hst A 9), eA]
    exact hfin 9 (by unfold agoV; rw [e1]; rfl)
  · simp only [i24]
    rw [if_neg (nI_nm9 (by omega))]
    have hPm := List.mem_of_getElem? hj
    have hnp : nPt Q = some P := by
      cases e : nPt Q with
      | none => exact absurd hP2 (nPt_none e P hPm)
      | some P' =>
        obtain ⟨a, b⟩ := nPt_some e
        rw [hQ.2.2.eq a hPm b hP2]
    obtain ⟨-, o2, o3, -⟩ := hQ.2.1 P hPm
    obtain ⟨p1, pr1, pr9⟩ := o3 hP2
    have hvin : P.2.2.1 ∈ W := hall _ (aws_mem hq hj (by unfold pws; rw [if_pos hP2]; simp))
    have hu := idx_get (hin P hPm)
    have hv := idx_get hvin
    have hul := (List.getElem?_eq_some_iff.mp hu).1
    have hvl := (List.getElem?_eq_some_iff.mp hv).1
    have hn1 : nrV Q (c :: t) = stN (nrV Q t) (Eu P.2.1 (c :: t)) (Eu P.2.2.1 (c :: t)) P.2.2.2 := by unfold nrV; rw [hnp]; rfl
    have hn0 : nrV Q t = 10 ∨ nrV Q t ≤ P.2.2.2 := by
      unfold nrV; rw [hnp]
      exact nrS_le pr1 pr9 t
    have hbit : ∀ b : Bool, (msk (hdF (fun u => hadW u (c :: t)) b Q) Q.length).testBit j = b := by
      intro b
      rw [msk_bit, hdF_some hj]
      simp [hjl, hP2]
    have hone : msk (hdF (fun u => hadW u (c :: t)) false Q) Q.length ||| 2 ^ j = msk (hdF (fun u => hadW u (c :: t)) true Q) Q.length := by
      apply Nat.eq_of_testBit_eq
      intro i
      rw [Nat.testBit_or, msk_bit, msk_bit, Nat.testBit_two_pow]
      by_cases hij : j = i
      · subst hij
        rw [hdF_some hj, hdF_some hj]
        simp [hjl, hP2]
      · by_cases hil : i < Q.length
        · have hPi := List.getElem?_eq_getElem hil
          rw [hdF_some hPi, hdF_some hPi]
          have : ¬ (Q[i]).1 = 2 := fun e => hij (hQ.2.2 j i P _ hj hPi hP2 e)
          simp [hij, this]
        · simp [hij, hil]
    have h217 : ∀ H g : Nat, H < 16 → m_X8_behind_J217 m (nI s) (nI (kIx ns (c :: t))) (nI H) (nI g) (I, z) = some (nI ((kIx ns (c :: t) * 16 + H) * 10 + (if H.testBit j then 9 else if Eu P.2.2.1 (c :: t) then 0 else if nI P.2.2.2 ≤ nI g then 9 else if agoV Q t = 9 then 9 else g)), (I, z)) := by
      intro H g hH
      unfold m_X8_behind_J217
      rw [mb_gI hM.o]
      simp only [i24]
      rw [mb_call (has_ok (by omega) (by omega) _)]
      cases H.testBit j
      · rw [if_neg (show ¬ false = true by decide), if_pos rfl, if_neg (show ¬ false = true by decide), mb_gR hM.o hM.rEnds, mb_aI hM.sEnds (show kIx ns (c :: t) < 100 by omega) (by omega)]
        simp only [hend]
        rw [mb_gI hM.o]
        simp only [i26]
        rw [mb_call (has_ok (by omega) (by omega) _), eb_bit hv]
        show _ = some (nI ((kIx ns (c :: t) * 16 + H) * 10 + (if P.2.2.1.isSuffixOf (c :: t).reverse = true then 0 else _)), (I, z))
        cases P.2.2.1.isSuffixOf (c :: t).reverse
        · rw [if_neg (show ¬ false = true by decide), if_pos rfl, if_neg (show ¬ false = true by decide), mb_gI hM.o]
          simp only [i27]
          by_cases hrg : nI P.2.2.2 ≤ nI g
          · rw [if_pos hrg, if_pos hrg]
            unfold m_X8_behind_J283 m_X8_behind_J285
            show mb (m_X8_stateOf (nI (kIx ns (c :: t))) (nI H) (nI 9)) _ (I, z) = _
            rw [mb_call (hst H 9)]; rfl
          · rw [if_neg hrg, if_neg hrg, hmod]
            by_cases h9 : agoV Q t = 9
            · rw [if_pos (show nI (agoV Q t) = 9 by rw [h9]; rfl), if_pos h9]
              unfold m_X8_behind_J283 m_X8_behind_J285
              show mb (m_X8_stateOf (nI (kIx ns (c :: t))) (nI H) (nI 9)) _ (I, z) = _
              rw [mb_call (hst H 9)]; rfl
            · rw [if_neg (show ¬ nI (agoV Q t) = 9 from fun e => h9 ((nI_eq (b := 9) (by omega) (by omega)).mp e)), if_neg h9]
              unfold m_X8_behind_J285
              rw [mb_call (hst H g)]; rfl
        · rw [if_pos (show true = true from rfl), if_neg (show ¬ (1 : Int32) = 0 by decide), if_pos (show true = true from rfl)]
          unfold m_X8_behind_J285
          show mb (m_X8_stateOf (nI (kIx ns (c :: t))) (nI H) (nI 0)) _ (I, z) = _
          rw [mb_call (hst H 0)]; rfl
      · rw [if_pos (show true = true from rfl), if_neg (show ¬ (1 : Int32) = 0 by decide), if_pos (show true = true from rfl)]
        show mb (m_X8_stateOf (nI (kIx ns (c :: t))) (nI H) (nI 9)) _ (I, z) = _
        rw [mb_call (hst H 9)]; rfl
    by_cases hago : nrV Q t = 0 ∨ nrV Q t = 10
    · have h9 : agoV Q t = 9 := by unfold agoV; rw [if_pos hago]
      have h162 : m_X8_behind_J162 m (nI s) (nI (kIx ns (c :: t))) (nI A) 9 (I, z) = m_X8_behind_J217 m (nI s) (nI (kIx ns (c :: t))) (nI A) (nI 9) (I, z) := by
        unfold m_X8_behind_J162
        rw [mb_gI hM.o]
        simp only [i27]
        by_cases hx : nI P.2.2.2 < 9
        · rw [if_pos hx]; rfl
        · rw [if_neg hx, if_neg (show ¬ (9 : Int32) < 9 by decide), hmod, if_pos (show nI (agoV Q t) = 9 by rw [h9]; rfl)]; rfl
      rw [if_pos (show (9 : Int32) ≤ nI (agoV Q t) by rw [h9]; decide), h162, h217 A 9 hA16]
      rcases hago with h0 | h10
      · have hb : A.testBit j = false := by rw [hA2, hbit, h0]; rfl
        rw [hb, if_neg (show ¬ false = true by decide), if_pos (show nI P.2.2.2 ≤ nI 9 from nI_le pr9 (by omega))]
        have eA : A = hadV Q (c :: t) := by
          rw [hA2]; unfold hadV
          have : decide (nrV Q t = 10) = decide (nrV Q (c :: t) = 10) := by
            rw [hn1, h0]; unfold stN; cases Eu P.2.2.1 (c :: t) <;> simp
          rw [this]
        rw [eA]
        refine hfin _ ?_
        unfold agoV
        rw [hn1, h0]
        unfold stN
        cases Eu P.2.2.1 (c :: t) <;> simp
      · have hb : A.testBit j = true := by rw [hA2, hbit, h10]; rfl
        rw [hb, if_pos (show true = true from rfl)]
        have hn : nrV Q (c :: t) = 10 := by rw [hn1, h10]; unfold stN; rw [if_pos (Or.inl rfl)]
        have eA : A = hadV Q (c :: t) := by rw [hA2]; unfold hadV; rw [hn, h10]
        rw [eA]
        exact hfin _ (by unfold agoV; rw [hn]; rfl)
    · have hne0 : nrV Q t ≠ 0 := fun e => hago (Or.inl e)
      have hne10 : nrV Q t ≠ 10 := fun e => hago (Or.inr e)
      have hler : nrV Q t ≤ P.2.2.2 := by omega
      have h9 : agoV Q t = nrV Q t - 1 := by unfold agoV; rw [if_neg hago]
      rw [if_neg (show ¬ (9 : Int32) ≤ nI (agoV Q t) from nI_ge (b := 9) (by omega) (by omega)), nI_1, show agoV Q t + 1 = nrV Q t by omega]
      unfold m_X8_behind_J162
      rw [mb_gI hM.o]
      simp only [i27]
      rw [if_neg (nI_nlt hler (by omega)), if_neg (show ¬ (9 : Int32) < nI (nrV Q t) from nI_nlt (a := 9) (by omega) (by omega)), hmod, if_neg (show ¬ nI (agoV Q t) = 9 from fun e => by have := (nI_eq (b := 9) (by omega) (by omega)).mp e; omega), mb_gR hM.o hM.rEnds, mb_aI hM.sEnds (show kIx ns (c :: t) < 100 by omega) (by omega)]
      simp only [hend]
      rw [mb_gI hM.o]
      simp only [i25]
      rw [mb_call (has_ok (by omega) (by omega) _), eb_bit hu, show P.2.1.isSuffixOf (c :: t).reverse = Eu P.2.1 (c :: t) from rfl]
      have hAf : A = msk (hdF (fun u => hadW u (c :: t)) false Q) Q.length := by rw [hA2, decide_eq_false hne10]
      cases hE : Eu P.2.1 (c :: t)
      · rw [if_neg (show ¬ false = true by decide), if_pos rfl, h217 A _ hA16]
        have hb : A.testBit j = false := by rw [hAf, hbit]
        rw [hb, if_neg (show ¬ false = true by decide)]
        have hnn : nrV Q (c :: t) = if Eu P.2.2.1 (c :: t) then 1 else if nrV Q t < P.2.2.2 then nrV Q t + 1 else 0 := by
          rw [hn1, hE]; unfold stN
          rw [if_neg (by simp [hne10])]
          have : (0 < nrV Q t ∧ nrV Q t < P.2.2.2) ↔ nrV Q t < P.2.2.2 := ⟨fun h => h.2, fun h => ⟨by omega, h⟩⟩
          simp only [this]
        have hn10 : nrV Q (c :: t) ≠ 10 := by
          rw [hnn]; split
          · omega
          · split <;> omega
        have eA : A = hadV Q (c :: t) := by rw [hAf]; unfold hadV; rw [decide_eq_false hn10]
        rw [eA]
        refine hfin _ ?_
        rw [if_neg (show ¬ agoV Q t = 9 by omega)]
        unfold agoV
        rw [hnn]
        cases Eu P.2.2.1 (c :: t)
        · rw [if_neg (show ¬ false = true by decide), if_neg (show ¬ false = true by decide)]
          by_cases hlt2 : nrV Q t < P.2.2.2
          · rw [if_neg (nI_ge hlt2 (by omega)), if_pos hlt2, if_neg (show ¬ (nrV Q t + 1 = 0 ∨ nrV Q t + 1 = 10) by omega)]; omega
          · rw [if_pos (nI_le (by omega) (by omega)), if_neg hlt2]; rfl
        · rw [if_pos (show true = true from rfl), if_pos (show true = true from rfl)]; rfl
      · rw [if_pos (show true = true from rfl), if_neg (show ¬ (1 : Int32) = 0 by decide), mb_gI hM.o]
        simp only [i24]
        have hn : nrV Q (c :: t) = 10 := by rw [hn1, hE]; unfold stN; rw [if_pos (Or.inr ⟨by omega, rfl⟩)]
        have hH : A ||| 2 ^ j = hadV Q (c :: t) := by rw [hAf, hone]; unfold hadV; rw [decide_eq_true hn]
        rw [mb_mp, msk_shl (by omega), bx_or, hH, h217 _ _ (hadV_lt hQ.1 _)]
        have hb : (hadV Q (c :: t)).testBit j = true := by unfold hadV; rw [hbit, decide_eq_true hn]
        rw [hb, if_pos (show true = true from rfl)]
        exact hfin _ (by unfold agoV; rw [hn]; rfl)
theorem isDone_ok (hM : MO z m) (hQ4 : Q.length ≤ 4) (h23 : I m 23 = nI (msk (duF Q) Q.length)) {s : Nat} (hs : s < 15520) : m_X8_isDone m (nI s) (I, z) = some (bI (dnR Q s), (I, z)) := by
  have hd := msk_lt (duF Q) Q.length
  have h2 : 2 ^ Q.length ≤ 2 ^ 4 := Nat.pow_le_pow_right (by omega) hQ4
  unfold m_X8_isDone dnR
  rw [if_neg (nI_pos (by omega)), mb_gI hM.o]
  simp only [h23]
  rw [show nI s / 10 &&& 15 = nI (s / 10 % 16) by show nI s / nI 10 &&& nI (2 ^ 4 - 1) = _; rw [pk_div (by omega) (by omega) (by omega), bx_mask]]
  by_cases h : s / 10 % 16 = msk (duF Q) Q.length
  · rw [if_pos (by rw [h]), decide_eq_true h]; rfl
  · rw [if_neg (fun e => h ((nI_eq (by omega) (by omega)).mp e)), decide_eq_false h]; rfl
def SameR (m : Nat) (I0 I : Nat → Nat → Int32) : Prop := (∀ k, k ≠ 30 → I m k = I0 m k) ∧ ∀ x, x ≠ m → I x = I0 x
/-- the reference with a query taken: a machine σ of N states, those that are done by dn -/
def RSys (m q : Nat) (I0 : Nat → Nat → Int32) (σ : List Nat → Option Nat) (dn : Nat → Bool) (N : Nat) : Prop :=
  N ≤ 15520 ∧ Sys σ ∧ (∀ t s, ok8 t → σ t = some s → s < N) ∧
  (∀ (z : Zd) (I : Nat → Nat → Int32), MO z m → SameR m I0 I → ∀ t s c, ok8 t → σ t = some s → c < 8 → m_X8_behind m (nI q) (nI s) (nI c) (I, z) = some (encR (σ (c :: t)), (I, z))) ∧
  (∀ (z : Zd) (I : Nat → Nat → Int32), MO z m → SameR m I0 I → ∀ s, s < N → m_X8_isDone m (nI s) (I, z) = some (bI (dn s), (I, z)))
theorem rsys_ok (hM : MO z m) (hB : HB hs) (hR : RR (I0 (m + 2)) hs) (hX : RX I0 m W ns) (hall : ∀ u ∈ aws hs.1, u ∈ W) (hq : hs.1[q]? = some Q) (hQ : okQ Q) (hP : PRER m I0 W Q Q.length) : RSys m q I0 (sgR Q ns) (dnR Q) (160 * ns.length) := by
  have h97 := hX.2.2.2.1
  have hN := hX.1
  have hb : ∀ t s, ok8 t → sgR Q ns t = some s → s < 160 * ns.length := by
    intro t s _ hs
    unfold sgR at hs
    cases h : alv Q t
    · rw [h, if_neg (by decide)] at hs; cases hs
    · rw [h, if_pos rfl] at hs
      have h1 := Option.some.inj hs
      have h2 := hadV_lt hQ.1 t
      have h3 := (List.getElem?_eq_some_iff.mp (kIx_get hN t)).1
      have h4 := agoV_le hQ t
      omega
  have hstep : ∀ (z : Zd) (I : Nat → Nat → Int32), MO z m → SameR m I0 I → ∀ t s c, sgR Q ns t = some s → c < 8 → m_X8_behind m (nI q) (nI s) (nI c) (I, z) = some (encR (sgR Q ns (c :: t)), (I, z)) := by
    intro z' I' hM' hI t s c hs hc
    have e2 : I' (m + 2) = I0 (m + 2) := hI.2 _ (by omega)
    refine behind_ok hM' hB (by rw [e2]; exact hR) (hX.kept (hI.1 15 (by omega)) (hI.1 17 (by omega)) (fun j a b => hI.2 _ (by omega))) hall hq hQ ?_ hs hc
    unfold PRER
    rw [hI.1 22 (by omega), hI.1 23 (by omega), hI.1 24 (by omega), hI.1 25 (by omega), hI.1 26 (by omega), hI.1 27 (by omega)]
    exact hP
  refine ⟨by omega, ⟨?_, ?_⟩, hb, fun z' I' hM' hI t s c _ => hstep z' I' hM' hI t s c, fun z' I' hM' hI s hs => isDone_ok hM' hQ.1 (by rw [hI.1 23 (by omega)]; exact hP.2.1) (by omega)⟩
  · intro t u c ht hu hc e
    cases hs : sgR Q ns t with
    | none =>
      have a : alv Q t = false := by
        cases h : alv Q t
        · rfl
        · unfold sgR at hs; rw [h, if_pos rfl] at hs; cases hs
      have b : alv Q u = false := by
        cases h : alv Q u
        · rfl
        · rw [hs] at e; unfold sgR at e; rw [h, if_pos rfl] at e; cases e
      have a2 : alv Q (c :: t) = false := by show (alv Q t && _) = false; rw [a]; rfl
      have b2 : alv Q (c :: u) = false := by show (alv Q u && _) = false; rw [b]; rfl
      unfold sgR
      rw [a2, b2]
      rfl
    | some s =>
      have h1 := hstep z I0 hM ⟨fun _ _ => rfl, fun _ _ => rfl⟩ t s c hs hc
      have h2 := hstep z I0 hM ⟨fun _ _ => rfl, fun _ _ => rfl⟩ u s c (e.symm.trans hs) hc
      have h3 : encR (sgR Q ns (c :: t)) = encR (sgR Q ns (c :: u)) := by
        have := Option.some.inj (h1.symm.trans h2)
        exact (Prod.mk.inj this).1
      cases ha : sgR Q ns (c :: t) with
      | none =>
        cases hb' : sgR Q ns (c :: u) with
        | none => rfl
        | some y =>
          rw [ha, hb'] at h3
          have := hb _ y (ok8_cons.mpr ⟨hc, hu⟩) hb'
          exact absurd h3.symm (nI_nm9 (by omega))
      | some x =>
        have hx := hb _ x (ok8_cons.mpr ⟨hc, ht⟩) ha
        cases hb' : sgR Q ns (c :: u) with
        | none =>
          rw [ha, hb'] at h3
          exact absurd h3 (nI_nm9 (by omega))
        | some y =>
          rw [ha, hb'] at h3
          have hy := hb _ y (ok8_cons.mpr ⟨hc, hu⟩) hb'
          rw [(nI_eq (by omega) (by omega)).mp h3]
  · intro t c hs
    have a : alv Q t = false := by
      cases h : alv Q t
      · rfl
      · unfold sgR at hs; rw [h, if_pos rfl] at hs; cases hs
    have a2 : alv Q (c :: t) = false := by show (alv Q t && _) = false; rw [a]; rfl
    unfold sgR
    rw [a2]
    rfl
theorem racc_ok (hQ : okQ Q) (t : List Nat) : acc (sgR Q ns) (dnR Q) t = accQ Q t := by
  unfold acc sgR accQ
  cases h : alv Q t
  · rfl
  · rw [if_pos rfl, Bool.true_and]
    dsimp only
    have h2 := hadV_lt hQ.1 t
    have h4 := agoV_le hQ t
    unfold dnR
    rw [show ((kIx ns t * 16 + hadV Q t) * 10 + agoV Q t) / 10 % 16 = hadV Q t by omega]
    rw [Bool.eq_iff_iff, decide_eq_true_iff, Bool.and_eq_true, List.all_eq_true]
    unfold hadV
    rw [msk_eq]
    constructor
    · intro he
      refine ⟨fun P hP => ?_, ?_⟩
      · obtain ⟨i, hi⟩ := List.getElem?_of_mem hP
        have := he i (List.getElem?_eq_some_iff.mp hi).1
        rw [hdF_some hi, duF_some hi] at this
        by_cases h0 : P.1 = 0
        · simpa [h0] using this
        · simp [h0]
      · unfold nrA
        cases e : nPt Q with
        | none => rfl
        | some P =>
          obtain ⟨a, b⟩ := nPt_some e
          obtain ⟨i, hi⟩ := List.getElem?_of_mem a
          have := he i (List.getElem?_eq_some_iff.mp hi).1
          rw [hdF_some hi, duF_some hi] at this
          have hn : nrV Q t = nrS P.2.1 P.2.2.1 P.2.2.2 t := by unfold nrV; rw [e]
          rw [hn] at this
          simpa [b] using this
    · rintro ⟨h5, h6⟩ i hi
      have hPi := List.getElem?_eq_getElem hi
      generalize Q[i] = P at hPi
      have hPm := List.mem_of_getElem? hPi
      rw [hdF_some hPi, duF_some hPi]
      have := hQ.two P hPm
      have h7 := h5 P hPm
      by_cases h0 : P.1 = 0
      · simpa [h0] using h7
      · by_cases h1 : P.1 = 1
        · simp [h1]
        · have hP2 : P.1 = 2 := by omega
          have e : nPt Q = some P := by
            cases e : nPt Q with
            | none => exact absurd hP2 (nPt_none e P hPm)
            | some P' =>
              obtain ⟨a, b⟩ := nPt_some e
              rw [hQ.2.2.eq a hPm b hP2]
          have hn : nrV Q t = nrS P.2.1 P.2.2.1 P.2.2.2 t := by unfold nrV; rw [e]
          unfold nrA at h6
          rw [e] at h6
          rw [hn]
          simpa [hP2] using h6
theorem sgR_nil (hN : NS W ns) : sgR Q ns [] = some 9 := by
  have hk : kIx ns [] = 0 := by
    have := kIx_get hN []
    exact (hN.idx0 this).mpr rfl
  have hn : nrV Q [] = 0 := by unfold nrV; cases nPt Q <;> rfl
  have hh : hadV Q [] = 0 := by
    unfold hadV
    rw [hn]
    have : ∀ n, msk (hdF (fun u => hadW u []) (decide (0 = 10)) Q) n = 0 := by
      intro n
      induction n with
      | zero => rfl
      | succ n ih =>
        show msk (hdF (fun u => hadW u []) (decide (0 = 10)) Q) n ||| (if hdF (fun u => hadW u []) (decide (0 = 10)) Q n then 2 ^ n else 0) = 0
        rw [ih]
        have : hdF (fun u => hadW u []) (decide (0 = 10)) Q n = false := by
          unfold hdF
          cases Q[n]? with
          | none => rfl
          | some P => simp [hadW]
        rw [this]; simp
    exact this _
  unfold sgR agoV
  rw [hk, hn, hh]
  simp [alv]
end RS
