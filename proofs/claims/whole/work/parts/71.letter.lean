/-! ===== letter(), both sides ===== -/
def lans (hs : HS) (x : Int32) : Int32 := match lAt hs.2 x with
  | none => -1
  | some c => nI (97 + c)
theorem cletter_ok {I : Nat → Nat → Int32} {z : Zd} {W : List (List Nat)} {hs : HS} (h : CK I z W hs) (x : Int32) : m_X7_letter 0 x (I, z) = some (lans hs x, (I, z)) := by
  obtain ⟨hz, hB, hR, hW, h16, hL, hJ, hall⟩ := id h
  obtain ⟨o, ⟨-, f1, -, -, f4, f5, f6⟩, hho, hwo, -, s32⟩ := id hz
  obtain ⟨h0, ⟨hr2, hr3, hr4, hr5, hr6, hr7⟩, hs2, hs3, hs4, hs5, hs6, hs7⟩ := id hho
  have h40 := hB.2.1
  unfold m_X7_letter lans
  rcases lAt_cases hs.2 x with ⟨e, hx⟩ | ⟨n, c, hc, hn, rfl, e⟩
  · rw [e]
    rcases hx with hx | ⟨n, hn, rfl, hl⟩
    · rw [if_pos hx]; rfl
    · rw [if_neg (nI_pos hn), mb_gR o f1, mb_gI h0]
      simp only [hR.2.1]
      rw [if_neg (nI_nlt hl hn)]; rfl
  · have hl := (List.getElem?_eq_some_iff.mp hc).1
    rw [e, if_neg (nI_pos hn), mb_gR o f1, mb_gI h0]
    simp only [hR.2.1]
    rw [if_pos (nI_lt hl (by omega)), mb_gR o f1, mb_gR h0 hr7, mb_aI hs7 (show n < 40 by omega) (by omega)]
    simp only [hR.2.2.2 n c hc]
    show some (nI c + nI 97, (I, z)) = _
    rw [nI_add, Nat.add_comm]
theorem letter_ok {z : Zd} {m : Nat} {I : Nat → Nat → Int32} {hs : HS} (hM : MO z m) (hB : HB hs) (hR : RR (I (m + 2)) hs) (x : Int32) : m_X8_letter m x (I, z) = some (lans hs x, (u2 I m 0 0, z)) := by
  have h40 := hB.2.1
  have hR0 : RR (u2 I m 0 0 (m + 2)) hs := by rw [u2_row (by omega)]; exact hR
  unfold m_X8_letter lans
  rw [mb_sI hM.o]
  dsimp only
  rw [mb_gR hM.o hM.rNow, show aI (m + 2) (1 : Int32) = aI (m + 2) (nI 1) from rfl, mb_aI hM.sNow (show 1 < 178 by omega) (by omega)]
  simp only [hR0.2.1]
  rw [mb_call (in0_ok hs.2 (by omega) x _)]
  rcases lAt_cases hs.2 x with ⟨e, hx⟩ | ⟨n, c, hc, hn, rfl, e⟩
  · rw [e, if_pos (show bI (none : Option Nat).isSome = 0 from rfl)]; rfl
  · have hl := (List.getElem?_eq_some_iff.mp hc).1
    rw [e, if_neg (show ¬ bI (some c).isSome = 0 from (by decide : ¬ bI true = 0)), mb_gR hM.o hM.rNow, show (2 : Int32) + nI n = nI (2 + n) from nI_add 2 n, mb_aI hM.sNow (show 2 + n < 178 by omega) (by omega)]
    simp only [hR0.2.2.1 n c hc]
    show some (nI 97 + nI c, (u2 I m 0 0, z)) = _
    rw [nI_add]
