/-! ===== word(), both sides ===== -/
def wans (W : List (List Nat)) (x y : Int32) : Int32 := match lAt W x with
  | none => -1
  | some u => if -1 ≤ y then (if y = -1 then nI u.length else match lAt u y with
    | none => -9
    | some c => nI (97 + c)) else -1
theorem m1_cases {y : Int32} (h : -1 ≤ y) (h1 : ¬ y = -1) : ¬ y < 0 := by
  intro h0
  apply h1
  apply Int32.toInt_inj.mp
  have a := Int32.le_iff_toInt_le.mp h
  have b := Int32.lt_iff_toInt_lt.mp h0
  rw [show (-1 : Int32).toInt = -1 by decide] at *
  rw [show (0 : Int32).toInt = 0 by decide] at b
  omega
theorem cword_ok {I : Nat → Nat → Int32} {z : Zd} {W : List (List Nat)} {hs : HS} (h : CK I z W hs) (x y : Int32) : m_X7_word 0 x y (I, z) = some (wans W x y, (I, z)) := by
  obtain ⟨hz, hB, hR, hW, h16, hL, hJ, hall⟩ := id h
  obtain ⟨o, ⟨-, f1, -, -, f4, f5, f6⟩, hho, ⟨w1, w2, w3, -⟩, -, s32⟩ := id hz
  have hL1 := hL.1
  rw [List.length_map] at hL1
  have hq : m_X7_isWord 0 x (I, z) = some (bI (lAt W x).isSome, (I, z)) := by
    unfold m_X7_isWord
    rcases lAt_cases W x with ⟨e, hx⟩ | ⟨n, u, hu, hn, rfl, e⟩
    · rw [e]
      rcases hx with hx | ⟨n, hn, rfl, hl⟩
      · rw [if_pos hx]; rfl
      · rw [if_neg (nI_pos hn), mb_gR o f4, mb_gI w1]
        simp only [hL1]
        rw [if_pos (nI_le hl hn)]; rfl
    · have hl := (List.getElem?_eq_some_iff.mp hu).1
      rw [e, if_neg (nI_pos hn), mb_gR o f4, mb_gI w1]
      simp only [hL1]
      rw [if_neg (nI_ge hl (by omega))]; rfl
  unfold m_X7_word wans
  rw [mb_vc o, mb_call hq]
  rcases lAt_cases W x with ⟨e, hx⟩ | ⟨n, u, hu, hn, rfl, e⟩
  · rw [e, if_pos (show bI (none : Option (List Nat)).isSome = 0 from rfl)]; rfl
  have hl := (List.getElem?_eq_some_iff.mp hu).1
  obtain ⟨u1, u6, u8⟩ := hW.1 u (List.mem_of_getElem? hu)
  rw [e, if_neg (show ¬ bI (some u).isSome = 0 from (by decide : ¬ bI true = 0))]
  dsimp only
  by_cases hy : -1 ≤ y
  · rw [if_pos hy, if_pos hy, mb_gR o f4, mb_gR w1 w2, mb_aI w3 (show n < 16 by omega) (by omega)]
    simp only [hL.2 n (pkI u) (by rw [List.getElem?_map, hu]; rfl)]
    rw [mb_call (sizeOf_ok u8 u6 _)]
    by_cases hy1 : y = -1
    · rw [if_pos hy1, if_pos hy1]; rfl
    rw [if_neg hy1, if_neg hy1]
    rcases lAt_cases u y with ⟨e2, hx⟩ | ⟨i, c, hc, hi, rfl, e2⟩
    · rw [e2]
      rcases hx with hx | ⟨i, hi, rfl, hil⟩
      · exact absurd hx (m1_cases hy hy1)
      · rw [if_pos (nI_le hil hi)]; rfl
    · have hil := (List.getElem?_eq_some_iff.mp hc).1
      rw [e2, if_neg (nI_ge hil (by omega)), mb_call (letterAt_ok u8 u6 hc _)]
      show some (nI c + nI 97, (I, z)) = _
      rw [nI_add, Nat.add_comm]
  · rw [if_neg hy, if_neg hy]; rfl
theorem in0_ok {α : Type} (l : List α) (h : l.length ≤ 100) (x : Int32) (w : Wd) : m_X8_in (x.toInt64) 0 ((nI l.length - 1).toInt64) w = some (bI (lAt l x).isSome, w) := by
  rw [in_ok]
  have hx1 : (nI l.length - 1).toInt = (l.length : Int) - 1 := by
    have : ∀ n, n ≤ 100 → (nI n - 1).toInt = (n : Int) - 1 := by decide +kernel
    exact this _ h
  rw [Int32.toInt_toInt64, Int32.toInt_toInt64, hx1, show (0 : Int64).toInt = 0 by decide]
  congr 3
  rw [Bool.eq_iff_iff, decide_eq_true_iff]
  rcases lAt_cases l x with ⟨e, hx⟩ | ⟨n, Q, hQ, hn, rfl, e⟩
  · rw [e]
    constructor
    · rintro ⟨a, b⟩
      rcases hx with hx | ⟨n, hn, rfl, hl⟩
      · have := Int32.lt_iff_toInt_lt.mp hx
        rw [show (0 : Int32).toInt = 0 by decide] at this
        omega
      · rw [nI_toInt hn] at b
        omega
    · intro h; cases h
  · have hl := (List.getElem?_eq_some_iff.mp hQ).1
    rw [e, nI_toInt hn]
    exact ⟨fun _ => rfl, fun _ => by omega⟩
theorem word_ok {z : Zd} {m : Nat} {I : Nat → Nat → Int32} {W ns : List (List Nat)} (hM : MO z m) (hX : RX I m W ns) (x y : Int32) : m_X8_word m x y (I, z) = some (wans W x y, (u2 I m 0 0, z)) := by
  have hX0 : RX (u2 I m 0 0) m W ns := hX.kept (u2_ne (Or.inr (by omega))) (u2_ne (Or.inr (by omega))) (fun j a b => u2_row (by omega))
  obtain ⟨hN, hW, h16, h97, hRW, -, -⟩ := id hX0
  unfold m_X8_word wans
  rw [mb_sI hM.o]
  dsimp only
  rw [mb_gI hM.o]
  simp only [hRW.1]
  rw [mb_call (in0_ok W (by omega) x _)]
  rcases lAt_cases W x with ⟨e, hx⟩ | ⟨n, u, hu, hn, rfl, e⟩
  · rw [e, if_pos (show bI (none : Option (List Nat)).isSome = 0 from rfl)]; rfl
  have hl := (List.getElem?_eq_some_iff.mp hu).1
  obtain ⟨u1, u6, u8⟩ := hW.1 u (List.mem_of_getElem? hu)
  rw [e, if_neg (show ¬ bI (some u).isSome = 0 from (by decide : ¬ bI true = 0))]
  dsimp only
  by_cases hy : -1 ≤ y
  · rw [if_pos hy, if_pos hy, mb_gR hM.o hM.rWords, mb_aI hM.sWords (show n < 64 by omega) (by omega)]
    simp only [hRW.2 n u hu]
    rw [mb_mp, rcI_div u8 u6]
    by_cases hy1 : y = -1
    · rw [if_pos hy1, if_pos hy1]; rfl
    rw [if_neg hy1, if_neg hy1]
    rcases lAt_cases u y with ⟨e2, hx⟩ | ⟨i, c, hc, hi, rfl, e2⟩
    · rw [e2]
      rcases hx with hx | ⟨i, hi, rfl, hil⟩
      · exact absurd hx (m1_cases hy hy1)
      · rw [if_pos (nI_le hil hi)]; rfl
    · have hil := (List.getElem?_eq_some_iff.mp hc).1
      rw [e2, if_neg (nI_ge hil (by omega)), mb_gR hM.o hM.rWords, mb_aI hM.sWords (show n < 64 by omega) (by omega)]
      simp only [hRW.2 n u hu]
      rw [mb_call (letterOf_ok u8 u6 hc _)]
      show some (nI 97 + nI c, (u2 I m 0 0, z)) = _
      rw [nI_add]
  · rw [if_neg hy, if_neg hy]; rfl
