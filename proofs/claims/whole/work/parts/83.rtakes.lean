/-! ===== the reference's takes(), behind(), isDone(): a machine over rows of letters ===== -/
theorem and_pow0 (M k : Nat) : (M &&& 2 ^ k = 0) ↔ M.testBit k = false := by
  constructor
  · intro h
    have := congrArg (fun x => x.testBit k) h
    simpa [Nat.testBit_and, Nat.testBit_two_pow_self] using this
  · intro h
    apply Nat.eq_of_testBit_eq
    intro i
    rw [Nat.testBit_and, Nat.testBit_two_pow]
    by_cases hi : k = i
    · subst hi; simp [h]
    · simp [hi]
def lkT (W : List (List Nat)) (Q : List Pt) : Nat → Nat
  | 0 => 0
  | k + 1 => lkT W Q k ||| (match Q[k]? with
    | none => 0
    | some P => if P.1 = 1 then 2 ^ W.idxOf P.2.1 else 0)
theorem lkT_some {W : List (List Nat)} {Q : List Pt} {k : Nat} {P : Pt} (h : Q[k]? = some P) : lkT W Q (k + 1) = lkT W Q k ||| (if P.1 = 1 then 2 ^ W.idxOf P.2.1 else 0) := by
  show lkT W Q k ||| (match Q[k]? with
    | none => 0
    | some P => if P.1 = 1 then 2 ^ W.idxOf P.2.1 else 0) = _
  rw [h]
theorem idx_get {W : List (List Nat)} {u : List Nat} (h : u ∈ W) : W[W.idxOf u]? = some u := by
  rw [List.getElem?_eq_getElem (List.idxOf_lt_length_of_mem h)]
  congr 1
  exact List.getElem_idxOf _
theorem lkT_and {W : List (List Nat)} {Q : List Pt} (hin : ∀ P ∈ Q, P.2.1 ∈ W) (x : List Nat) : ∀ k, k ≤ Q.length → (eb W x &&& lkT W Q k = 0 ↔ (Q.take k).any (fun P => decide (P.1 = 1) && P.2.1.isSuffixOf x) = false)
  | 0, _ => by simp [lkT]
  | k + 1, hk => by
    have ih := lkT_and hin x k (by omega)
    have hkl : k < Q.length := by omega
    have hP := List.getElem?_eq_getElem hkl
    rw [lkT_some hP, List.take_succ_eq_append_getElem hkl, List.any_append, Nat.and_or_distrib_left, Nat.or_eq_zero_iff, ih]
    have hPm := List.getElem_mem hkl
    generalize Q[k] = P at hP hPm
    have hb := eb_bit (idx_get (hin P hPm)) x
    by_cases h1 : P.1 = 1
    · rw [if_pos h1, and_pow0, hb]
      simp [h1]
    · rw [if_neg h1]
      simp [h1]
theorem lkT_lt {W : List (List Nat)} {Q : List Pt} (hin : ∀ P ∈ Q, P.2.1 ∈ W) (h16 : W.length ≤ 16) : ∀ k, lkT W Q k < 65536
  | 0 => by simp [lkT]
  | k + 1 => by
    have ih := lkT_lt hin h16 k
    show lkT W Q k ||| (match Q[k]? with
      | none => 0
      | some P => if P.1 = 1 then 2 ^ W.idxOf P.2.1 else 0) < 65536
    apply Nat.or_lt_two_pow (n := 16) ih
    cases h : Q[k]? with
    | none => exact (by decide : (0 : Nat) < 2 ^ 16)
    | some P =>
      dsimp only
      have hl := List.idxOf_lt_length_of_mem (hin P (List.mem_of_getElem? h))
      have : 2 ^ W.idxOf P.2.1 < 2 ^ 16 := Nat.pow_lt_pow_right (by omega) (by omega)
      split <;> omega
def duF (Q : List Pt) (i : Nat) : Bool := match Q[i]? with
  | none => false
  | some P => !decide (P.1 = 1)
def hdF (D : List Nat → Bool) (b : Bool) (Q : List Pt) (i : Nat) : Bool := match Q[i]? with
  | none => false
  | some P => (decide (P.1 = 0) && D P.2.1) || (decide (P.1 = 2) && b)
theorem duF_some {Q : List Pt} {i : Nat} {P : Pt} (h : Q[i]? = some P) : duF Q i = !decide (P.1 = 1) := by unfold duF; rw [h]
theorem hdF_some {D : List Nat → Bool} {b : Bool} {Q : List Pt} {i : Nat} {P : Pt} (h : Q[i]? = some P) : hdF D b Q i = ((decide (P.1 = 0) && D P.2.1) || (decide (P.1 = 2) && b)) := by unfold hdF; rw [h]
theorem msk_lt (f : Nat → Bool) : ∀ n, msk f n < 2 ^ n
  | 0 => by simp [msk]
  | n + 1 => by
    have ih := msk_lt f n
    show msk f n ||| (if f n then 2 ^ n else 0) < 2 ^ (n + 1)
    apply Nat.or_lt_two_pow
    · rw [Nat.pow_succ]; omega
    · rw [Nat.pow_succ]
      have : 0 < 2 ^ n := Nat.pos_of_ne_zero (by simp)
      split <;> omega
theorem msk_or (f g : Nat → Bool) (n : Nat) : msk f n ||| msk g n = msk (fun i => f i || g i) n := by
  apply Nat.eq_of_testBit_eq
  intro i
  rw [Nat.testBit_or, msk_bit, msk_bit, msk_bit]
  cases decide (i < n) <;> simp
theorem msk_eq {f g : Nat → Bool} {n : Nat} : msk f n = msk g n ↔ ∀ i, i < n → f i = g i := by
  constructor
  · intro h i hi
    have := congrArg (fun x => x.testBit i) h
    simpa [msk_bit, hi] using this
  · intro h
    exact msk_cong h
def PRER (m : Nat) (I : Nat → Nat → Int32) (W : List (List Nat)) (Q : List Pt) (k : Nat) : Prop := I m 22 = nI (lkT W Q k) ∧ I m 23 = nI (msk (duF Q) k) ∧ (((∀ (j : Nat) (P : Pt), j < k → Q[j]? = some P → P.1 ≠ 2) ∧ I m 24 = -9) ∨ ∃ (j : Nat) (P : Pt), j < k ∧ Q[j]? = some P ∧ P.1 = 2 ∧ I m 24 = nI j ∧ I m 25 = nI (W.idxOf P.2.1) ∧ I m 26 = nI (W.idxOf P.2.2.1) ∧ I m 27 = nI P.2.2.2)
section RT
variable {z : Zd} {m : Nat} {I : Nat → Nat → Int32} {W ns : List (List Nat)} {hs : HS}
theorem takes_ok (hM : MO z m) (hB : HB hs) (hR : RR (I (m + 2)) hs) (hX : RX I m W ns) (hall : ∀ u ∈ aws hs.1, u ∈ W) {q : Nat} {Q : List Pt} (hq : hs.1[q]? = some Q) (h1 : oneN Q) :
    ∃ I', m_X8_takes m (nI q) (I, z) = some ((), (I', z)) ∧ PRER m I' W Q Q.length ∧ (∀ k, (k < 22 ∨ 27 < k) → I' m k = I m k) ∧ ∀ x, x ≠ m → I' x = I x := by
  have hq8 : q < 8 := Nat.lt_of_lt_of_le (List.getElem?_eq_some_iff.mp hq).1 hB.1
  obtain ⟨hQ4, hQP⟩ := hB.2.2.1 Q (List.mem_of_getElem? hq)
  obtain ⟨hrl, hrp⟩ := hR.2.2.2 q Q hq
  obtain ⟨hN, hW, h16, h97, hRW, -, -⟩ := id hX
  obtain ⟨s, x, k, ⟨rfl, J, rfl, hP, hG, hF⟩, e⟩ := lp_FUi (F := fun k s => m_X8_takes_B18 m (nI q) k s) (fun i s x => s = nI i ∧ ∃ J, x = (J, z) ∧ PRER m J W Q i ∧ (∀ k, (k < 22 ∨ 27 < k) → J m k = I m k) ∧ ∀ x, x ≠ m → J x = I x) Q.length (by omega) (by
    intro i hi s x hP
    obtain ⟨rfl, J, rfl, ⟨p1, p2, p3⟩, hG, hF⟩ := hP
    have hPi := List.getElem?_eq_getElem hi
    generalize Q[i] = P at hPi
    have hPm := List.mem_of_getElem? hPi
    obtain ⟨o1, o2, o3, o4⟩ := hQP P hPm
    obtain ⟨b0, b1, b2, b3⟩ := hrp i P hPi
    have hi4 : i < 4 := by omega
    have f2 : J (m + 2) = I (m + 2) := hF _ (by omega)
    have hWJ : RW J m W := by unfold RW; rw [hG 15 (by omega), hF _ (by omega)]; exact hRW
    have hu := idx_get (hall P.2.1 (aws_mem hq hPi (by unfold pws; split <;> simp)))
    have hul := (List.getElem?_eq_some_iff.mp hu).1
    generalize hJ2 : u2 (u2 J m 22 (nI (lkT W Q (i + 1)))) m 23 (nI (msk (duF Q) (i + 1))) = J2
    have hG2 : ∀ k, (k < 22 ∨ 27 < k) → J2 m k = I m k := fun k hk => by rw [← hJ2, u2_ne (Or.inr (by omega)), u2_ne (Or.inr (by omega))]; exact hG k hk
    have hF2 : ∀ x, x ≠ m → J2 x = I x := fun x hx => by rw [← hJ2, u2_row hx, u2_row hx]; exact hF x hx
    have hk2 : ∀ k, 24 ≤ k → J2 m k = J m k := fun k hk => by rw [← hJ2, u2_ne (Or.inr (by omega)), u2_ne (Or.inr (by omega))]
    have hWJ2 : RW J2 m W := by unfold RW; rw [hG2 15 (by omega), hF2 _ (by omega)]; exact hRW
    have start : ∀ k : Int32 → Mo Unit, m_X8_takes_B18 m (nI q) k (nI i) (J, z) = (if nI P.1 = 2 then
        mb (sI 7 24 m (nI i)) fun _ => mb (sI 7 25 m (nI (W.idxOf P.2.1))) fun _ => mb (gR 7 8 m) fun now10 => mb (m_X8_of now10 (nI q) (nI i) 2) fun c11 => mb (vc 7 m (m_X8_numberOf m c11)) fun c12 => mb (sI 7 26 m c12) fun _ => mb (gR 7 8 m) fun now13 => mb (m_X8_of now13 (nI q) (nI i) 3) fun c14 => mb (sI 7 27 m c14) fun _ => m_X8_takes_J149 m (nI q) (nI i) k
        else m_X8_takes_J149 m (nI q) (nI i) k) (J2, z) := by
      intro k
      have h97' : ∀ b : Nat, msk (duF Q) i ||| b = msk (duF Q) (i + 1) → m_X8_takes_J97 m (nI q) (nI i) (nI (W.idxOf P.2.1)) (nI P.1) (nI b) (nI (msk (duF Q) i)) m k (u2 J m 22 (nI (lkT W Q (i + 1))), z) = (if nI P.1 = 2 then
        mb (sI 7 24 m (nI i)) fun _ => mb (sI 7 25 m (nI (W.idxOf P.2.1))) fun _ => mb (gR 7 8 m) fun now10 => mb (m_X8_of now10 (nI q) (nI i) 2) fun c11 => mb (vc 7 m (m_X8_numberOf m c11)) fun c12 => mb (sI 7 26 m c12) fun _ => mb (gR 7 8 m) fun now13 => mb (m_X8_of now13 (nI q) (nI i) 3) fun c14 => mb (sI 7 27 m c14) fun _ => m_X8_takes_J149 m (nI q) (nI i) k
        else m_X8_takes_J149 m (nI q) (nI i) k) (J2, z) := by
        intro b hb
        unfold m_X8_takes_J97
        rw [bx_or, hb, mb_sI hM.o]
        dsimp only
        rw [hJ2]
      have h75 : ∀ b : Nat, lkT W Q i ||| b = lkT W Q (i + 1) → m_X8_takes_J75 m (nI q) (nI i) (nI (W.idxOf P.2.1)) (nI P.1) (nI b) (nI (lkT W Q i)) m k (J, z) = (if nI P.1 = 2 then
        mb (sI 7 24 m (nI i)) fun _ => mb (sI 7 25 m (nI (W.idxOf P.2.1))) fun _ => mb (gR 7 8 m) fun now10 => mb (m_X8_of now10 (nI q) (nI i) 2) fun c11 => mb (vc 7 m (m_X8_numberOf m c11)) fun c12 => mb (sI 7 26 m c12) fun _ => mb (gR 7 8 m) fun now13 => mb (m_X8_of now13 (nI q) (nI i) 3) fun c14 => mb (sI 7 27 m c14) fun _ => m_X8_takes_J149 m (nI q) (nI i) k
        else m_X8_takes_J149 m (nI q) (nI i) k) (J2, z) := by
        intro b hb
        unfold m_X8_takes_J75
        rw [bx_or, hb, mb_sI hM.o, mb_gI hM.o]
        have h23 : u2 J m 22 (nI (lkT W Q (i + 1))) m 23 = nI (msk (duF Q) i) := by rw [u2_ne (Or.inr (by omega))]; exact p2
        simp only [h23]
        by_cases hl : P.1 = 1
        · rw [if_pos (show nI P.1 = 1 by rw [hl]; rfl)]
          refine h97' 0 ?_
          show _ = msk (duF Q) i ||| (if duF Q i then 2 ^ i else 0)
          rw [duF_some hPi, hl]
          rfl
        · rw [if_neg (show ¬ nI P.1 = 1 from fun e => hl ((nI_eq (b := 1) (by omega) (by omega)).mp e)), msk_shl (by omega)]
          refine h97' (2 ^ i) ?_
          show _ = msk (duF Q) i ||| (if duF Q i then 2 ^ i else 0)
          rw [duF_some hPi]
          simp [hl]
      unfold m_X8_takes_B18
      rw [mb_gR hM.o hM.rNow, mb_call (parts_ok (w := (J, z)) hM.sNow hq8)]
      simp only [f2, hrl]
      rw [if_neg (nI_ge hi (by omega)), mb_gR hM.o hM.rNow, mb_call (of1 (w := (J, z)) hM.sNow hq8 hi4)]
      simp only [f2, b1]
      rw [mb_vc hM.o, mb_call (numberOf_ok hM hW h16 hWJ hu), mb_gR hM.o hM.rNow, mb_call (of0 (w := (J, z)) hM.sNow hq8 hi4)]
      simp only [f2, b0]
      rw [mb_gI hM.o]
      simp only [p1]
      by_cases hl : P.1 = 1
      · rw [if_pos (show nI P.1 = 1 by rw [hl]; rfl), msk_shl (by omega)]
        exact h75 _ (by rw [lkT_some hPi, if_pos hl])
      · rw [if_neg (show ¬ nI P.1 = 1 from fun e => hl ((nI_eq (b := 1) (by omega) (by omega)).mp e))]
        exact h75 0 (by rw [lkT_some hPi, if_neg hl])
    by_cases h2 : P.1 = 2
    · have hv := idx_get (hall P.2.2.1 (aws_mem hq hPi (by unfold pws; rw [if_pos h2]; simp)))
      generalize hJ3 : u2 (u2 J2 m 24 (nI i)) m 25 (nI (W.idxOf P.2.1)) = J3
      have e15 : J3 m 15 = J2 m 15 := by rw [← hJ3, u2_ne (Or.inr (by omega)), u2_ne (Or.inr (by omega))]
      have e7 : J3 (m + 7) = J2 (m + 7) := by rw [← hJ3, u2_row (by omega), u2_row (by omega)]
      have hWJ3 : RW J3 m W := by unfold RW; rw [e15, e7]; exact hWJ2
      have g2 : J3 (m + 2) = I (m + 2) := by rw [← hJ3, u2_row (by omega), u2_row (by omega), hF2 _ (by omega)]
      have g3 : (u2 J3 m 26 (nI (W.idxOf P.2.2.1))) (m + 2) = I (m + 2) := by rw [u2_row (by omega), g2]
      refine ⟨nI (i + 1), (u2 (u2 J3 m 26 (nI (W.idxOf P.2.2.1))) m 27 (nI P.2.2.2), z), ⟨rfl, _, rfl, ⟨?_, ?_, Or.inr ⟨i, P, by omega, hPi, h2, ?_, ?_, ?_, ?_⟩⟩, ?_, ?_⟩, fun k => ?_⟩
      · rw [u2_ne (Or.inr (by omega)), u2_ne (Or.inr (by omega)), ← hJ3, u2_ne (Or.inr (by omega)), u2_ne (Or.inr (by omega)), ← hJ2, u2_ne (Or.inr (by omega)), u2_eq]
      · rw [u2_ne (Or.inr (by omega)), u2_ne (Or.inr (by omega)), ← hJ3, u2_ne (Or.inr (by omega)), u2_ne (Or.inr (by omega)), ← hJ2, u2_eq]
      · rw [u2_ne (Or.inr (by omega)), u2_ne (Or.inr (by omega)), ← hJ3, u2_ne (Or.inr (by omega)), u2_eq]
      · rw [u2_ne (Or.inr (by omega)), u2_ne (Or.inr (by omega)), ← hJ3, u2_eq]
      · rw [u2_ne (Or.inr (by omega)), u2_eq]
      · rw [u2_eq]
      · intro k hk
        rw [u2_ne (Or.inr (by omega)), u2_ne (Or.inr (by omega)), ← hJ3, u2_ne (Or.inr (by omega)), u2_ne (Or.inr (by omega))]
        exact hG2 k hk
      · intro x hx
        rw [u2_row hx, u2_row hx, ← hJ3, u2_row hx, u2_row hx]
        exact hF2 x hx
      · rw [start k, if_pos (show nI P.1 = 2 by rw [h2]; rfl), mb_sI hM.o, mb_sI hM.o]
        dsimp only
        rw [hJ3, mb_gR hM.o hM.rNow, mb_call (of2 (w := (J3, z)) hM.sNow hq8 hi4)]
        simp only [g2, b2]
        rw [mb_vc hM.o, mb_call (numberOf_ok hM hW h16 hWJ3 hv), mb_sI hM.o, mb_gR hM.o hM.rNow, mb_call (of3 (w := (u2 J3 m 26 (nI (W.idxOf P.2.2.1)), z)) hM.sNow hq8 hi4)]
        simp only [g3, b3]
        rw [mb_sI hM.o]
        unfold m_X8_takes_J149
        rw [nI_1]
    · refine ⟨nI (i + 1), (J2, z), ⟨rfl, J2, rfl, ⟨?_, ?_, ?_⟩, hG2, hF2⟩, fun k => ?_⟩
      · rw [← hJ2, u2_ne (Or.inr (by omega)), u2_eq]
      · rw [← hJ2, u2_eq]
      · rcases p3 with ⟨a, b⟩ | ⟨j, P', a, b, c, d1, d2, d3, d4⟩
        · refine Or.inl ⟨fun j P' hj hP' => ?_, by rw [hk2 24 (by omega)]; exact b⟩
          by_cases hji : j = i
          · subst hji
            have : P' = P := Option.some.inj (hP'.symm.trans hPi)
            subst this
            exact h2
          · exact a j P' (by omega) hP'
        · exact Or.inr ⟨j, P', by omega, b, c, by rw [hk2 24 (by omega)]; exact d1, by rw [hk2 25 (by omega)]; exact d2, by rw [hk2 26 (by omega)]; exact d3, by rw [hk2 27 (by omega)]; exact d4⟩
      · rw [start k, if_neg (show ¬ nI P.1 = 2 from fun e => h2 ((nI_eq (b := 2) (by omega) (by omega)).mp e))]
        unfold m_X8_takes_J149
        rw [nI_1]) (s := 0) (w := (u2 (u2 (u2 I m 22 0) m 23 0) m 24 (-9), z)) ⟨rfl, _, rfl, ⟨by rw [u2_ne (Or.inr (by omega)), u2_ne (Or.inr (by omega)), u2_eq]; rfl, by rw [u2_ne (Or.inr (by omega)), u2_eq]; rfl, Or.inl ⟨fun j P hj => absurd hj (by omega), u2_eq _ _ _ _⟩⟩, fun k hk => by rw [u2_ne (Or.inr (by omega)), u2_ne (Or.inr (by omega)), u2_ne (Or.inr (by omega))], fun x hx => by rw [u2_row hx, u2_row hx, u2_row hx]⟩
  refine ⟨J, ?_, hP, hG, hF⟩
  unfold m_X8_takes
  rw [mb_sI hM.o, mb_sI hM.o, mb_sI hM.o, e]
  have f2 : J (m + 2) = I (m + 2) := hF _ (by omega)
  unfold m_X8_takes_B18
  rw [mb_gR hM.o hM.rNow, mb_call (parts_ok (w := (J, z)) hM.sNow hq8)]
  simp only [f2, hrl]
  rw [if_pos (nI_le (Nat.le_refl _) (by omega))]
  rfl
end RT
