/-! ===== the start: the constructors; the law ===== -/
def w0 : Wd := (fun _ _ => 0, fun _ _ => 0, fun _ _ => none, [])
def gw (o : Option (Unit × Wd)) : Wd := match o with
  | none => w0
  | some (_, w) => w
theorem gw_ok {o : Option (Unit × Wd)} (h : o.isSome = true) : o = some ((), gw o) := by
  cases o with
  | none => cases h
  | some v => rfl
theorem mbA {α β γ : Type} (x : Mo α) (f : α → Mo β) (g : β → Mo γ) : mb (mb x f) g = mb x (fun a => mb (f a) g) := by
  funext w
  unfold mb
  cases x w with
  | none => rfl
  | some v => rfl
theorem mbP {α β : Type} (a : α) (f : α → Mo β) : mb (mp a) f = f a := by
  funext w; rfl
def pre8 (l0 : Nat) : Mo Unit :=
  mb (nA 100 150) fun p1 => mb (sR 7 1 l0 p1) fun _ => mb (nA 100 178) fun p2 => mb (sR 7 8 l0 p2) fun _ => mb (nA 100 178) fun p3 => mb (sR 7 9 l0 p3) fun _ => mb (nA 100 1780) fun p4 => mb (sR 7 10 l0 p4) fun _ => mb (nA 102 2) fun p5 => mb (sR 7 12 l0 p5) fun _ => mb (nA 100 356) fun p6 => mb (sR 7 13 l0 p6) fun _ => mb (nA 100 64) fun p7 => mb (sR 7 14 l0 p7) fun _ => mb (nA 100 100) fun p8 => mb (sR 7 16 l0 p8) fun _ => mb (nA 100 100) fun p9 => mb (sR 7 18 l0 p9) fun _ => mb (nA 100 100) fun p10 => mb (sR 7 19 l0 p10) fun _ => mb (nA 100 800) fun p11 => mb (sR 7 20 l0 p11) fun _ => mb (nA 100 40) fun p12 => mb (sR 7 21 l0 p12) fun _ => mb (nA 101 15520) fun p13 => mb (sR 7 28 l0 p13) fun _ => mb (nA 101 15520) fun p14 => mb (sR 7 29 l0 p14) fun _ => mp ()
theorem init8 (p : Nat) : m_X8_init p = mb (pre8 p) (fun _ => mb (vc 7 p (m_X8_make p)) fun _ => mp ()) := by
  unfold m_X8_init pre8
  simp only [mbA, mbP]
def wa : Wd := wNew w0 (6, nf 6)
def wb : Wd := gw (m_X7_init 0 wa)
def wc : Wd := wNew wb (7, nf 7)
def wd : Wd := gw (pre8 33 wc)
theorem eb1 : m_X7_init 0 wa = some ((), wb) := gw_ok (by decide +kernel)
theorem cb1 : cnt wb = 33 := by decide +kernel
theorem ed1 : pre8 33 wc = some ((), wd) := gw_ok (by decide +kernel)
theorem cd1 : cnt wd = 48 := by decide +kernel
theorem sd1 : slt wd ≤ 50000 := by decide +kernel
theorem hMO : MO wd.2 33 := by unfold MO; and_intros <;> decide +kernel
theorem hSQ0 : SQ wd.2 := by unfold SQ HO WO AO; and_intros <;> decide +kernel
theorem hTX0 : TX wd.2 := by unfold TX HO WO; and_intros <;> decide +kernel
theorem hHY0 : HY wd.2 := by unfold HY; and_intros <;> decide +kernel
theorem Wo0 : Wo ([], []) = [] := rfl
theorem NS0 : NS (Wo ([], [])) [[]] := by
  refine ⟨by simp, fun u => ?_⟩
  rw [Wo0]
  simp
theorem okHS0 : okHS ([], []) := ⟨⟨by simp, by simp, by simp, by simp⟩, by show (gatW [] []).length ≤ 16; decide, by simp⟩
theorem row30 : ∀ c, c < 8 → wd.1 30 c = 0 := by decide +kernel
theorem row20 : ∀ j, j < 10 → wd.2.2.1 20 j = none := by decide +kernel
theorem row21 : ∀ j, j < 2 → wd.2.2.1 21 j = none := by decide +kernel
theorem row38 : ∀ j, j < 2 → wd.1 38 j = 0 := by decide +kernel
theorem cells0 : wd.1 12 0 = 0 ∧ wd.1 12 1 = 0 ∧ wd.1 22 1 = 0 ∧ wd.1 24 0 = 1 ∧ wd.1 25 0 = 0 ∧ wd.1 29 0 = 0 ∧ wd.1 0 7 = 0 ∧ wd.1 1 1 = 0 ∧ wd.1 19 1 = 0 ∧ wd.1 19 2 = 0 ∧ wd.1 35 0 = 0 ∧ wd.1 35 1 = 0 ∧ wd.1 33 2 = 0 ∧ wd.1 33 11 = 0 ∧ wd.2.2.1 0 8 = none := by and_intros <;> decide +kernel
theorem get1 {j : Nat} {u : List Nat} (h : ([[]] : List (List Nat))[j]? = some u) : j = 0 ∧ u = [] := by
  cases j with
  | zero => exact ⟨rfl, (Option.some.inj h).symm⟩
  | succ j => simp at h
theorem lsuf1 (t : List Nat) : lsuf [[]] t = [] := by
  induction t with
  | nil => rfl
  | cons c t ih => unfold lsuf; rw [if_neg (by simp)]; exact ih
theorem pot_le (w : Wd) : potS w ≤ slt w + 17000 ∧ potC w ≤ cnt w + 16 := by
  unfold potS potC
  by_cases h : w.2.2.1 0 8 = none
  · rw [if_pos h, if_pos h]; omega
  · rw [if_neg h, if_neg h]; omega
theorem start_ok : ∃ w', (mb (vc 7 33 (m_X8_make 33)) fun _ => mp ()) wd = some ((), w') ∧ Stt w' ∧ potS w' ≤ 70000 ∧ potC w' ≤ 64 := by
  obtain ⟨q1, q2, q3, q4, q5, q6, q7, q8, q9, q10, q11, q12, q13, q14, q15⟩ := cells0
  have hR35 : RR (wd.1 35) ([], []) := ⟨q11, q12, fun i c h => by simp at h, fun q Q h => by simp at h⟩
  obtain ⟨I, e, rx, fx, fk⟩ := rmake_ok (I := wd.1) (z := wd.2) hMO okHS0 hR35 NS0 (by simp)
  have g : ∀ x, x < 33 → I x = wd.1 x := fun x hx => fx x (by omega) (by omega)
  have hsz : wS ((I, wd.2) : Wd) = wS wd := rfl
  refine ⟨(I, wd.2), ?_, ⟨([], []), [], fun _ => none, [], [[]], ?_, ?_⟩, ?_, ?_⟩
  · rw [mb_vc (w := wd) hMO.o, mb_call (show m_X8_make 33 wd = some ((), (I, wd.2)) from e)]
    rfl
  · refine ⟨Nat.le_of_eq cd1.symm, ⟨okHS0, by simp, by simp, fun i h hh => by simp at hh, by simp, by simp⟩, ⟨hSQ0, okHS0.1, ⟨?_, ?_, fun q Q h => by simp at h, fun i c h => by simp at h⟩, okL_nil, by simp [Wo0], ⟨?_, fun j x h => by simp [Wo0] at h⟩, fun j u h => by simp [Wo0] at h, fun u h => by simp [aws] at h⟩, ⟨NS0, ?_, fun j u h => ?_, fun j u c h => ?_, fun j u h hne => ?_, fun j u h => ?_, fun j u c h hc => ?_⟩, by simp, ⟨0, ?_, ?_⟩, hTX0, hHY0, ⟨fun j p hj hp => ?_, fun i j p hi hj hp => ?_⟩, fun p hp => ?_, ⟨?_, fun i c h => by simp at h⟩, ⟨0, by omega, ?_, ?_, fun j h hj => by simp at hj⟩, fun i hi => Or.inl ⟨rfl, row21 i hi⟩⟩
    · show I 12 0 = _; rw [g 12 (by omega), q1]; rfl
    · show I 12 1 = _; rw [g 12 (by omega), q2]; rfl
    · show I 22 1 = _; rw [g 22 (by omega), q3]; rfl
    · show I 24 0 = _; rw [g 24 (by omega), q4]; rfl
    · obtain ⟨rfl, rfl⟩ := get1 h
      show I 25 0 = _; rw [g 25 (by omega), q5]; rfl
    · have := (get1 h).2; simp at this
    · exact absurd (get1 h).2 hne
    · obtain ⟨rfl, rfl⟩ := get1 h
      show I 29 0 = _; rw [g 29 (by omega), q6]; rfl
    · obtain ⟨rfl, rfl⟩ := get1 h
      refine ⟨0, by rw [lsuf1]; rfl, ?_⟩
      show I 30 (8 * 0 + c) = _
      rw [g 30 (by omega), show 8 * 0 + c = c by omega, row30 c hc]; rfl
    · rw [lsuf1]; rfl
    · show I 0 7 = _; rw [g 0 (by omega), q7]; rfl
    · unfold sl at hp
      by_cases h10 : j < 10
      · rw [if_pos h10] at hp
        rw [show ((I, wd.2) : Wd).2.2.1 20 j = none from row20 j h10] at hp; cases hp
      · rw [if_neg h10] at hp
        rw [show ((I, wd.2) : Wd).2.2.1 21 (j - 10) = none from row21 _ (by omega)] at hp; cases hp
    · unfold sl at hp
      by_cases h10 : i < 10
      · rw [if_pos h10] at hp
        rw [show ((I, wd.2) : Wd).2.2.1 20 i = none from row20 i h10] at hp; cases hp
      · rw [if_neg h10] at hp
        rw [show ((I, wd.2) : Wd).2.2.1 21 (i - 10) = none from row21 _ (by omega)] at hp; cases hp
    · rw [show ((I, wd.2) : Wd).2.2.1 0 8 = none from q15] at hp; cases hp
    · show I 1 1 = _; rw [g 1 (by omega), q8]; rfl
    · show I 19 1 = _; rw [g 19 (by omega), q9]; rfl
    · show I 19 2 = _; rw [g 19 (by omega), q10]; rfl
  · refine ⟨hMO, ?_, rx, ⟨?_, fun i c h => by simp at h⟩, ?_, fun j h hj => by simp at hj, fun i hi => Or.inl ⟨rfl, ?_⟩⟩
    · show RR (I 35) _; rw [fx 35 (by omega) (by omega)]; exact hR35
    · show I 33 2 = _; rw [fk 2 (by omega) (by omega), q13]; rfl
    · show I 33 11 = _; rw [fk 11 (by omega) (by omega), q14]; rfl
    · show I 38 i = 0; rw [fx 38 (by omega) (by omega)]; exact row38 i hi
  · exact Nat.le_trans (pot_le ((I, wd.2) : Wd)).1 (Nat.le_trans (Nat.add_le_add_right (show slt ((I, wd.2) : Wd) ≤ 50000 from sd1) 17000) (by decide))
  · exact Nat.le_trans (pot_le ((I, wd.2) : Wd)).2 (Nat.le_trans (Nat.add_le_add_right (show cnt ((I, wd.2) : Wd) ≤ 48 from Nat.le_of_eq cd1) 16) (by decide))
theorem law_ok (L : Nat) (xs : Nat → Int32) (hL : L ≤ 2048) : ∃ w', m_L_law L xs ((fun _ _ => 0, fun _ _ => 0, fun _ _ => none, []) : Wd) = some (1, w') ∧ cnt w' ≤ 600000 ∧ slt w' ≤ 7302250 := by
  obtain ⟨w1, e1, hS, p1, p2⟩ := start_ok
  obtain ⟨w2, e2, p3, p4⟩ := loop_ok (xs := xs) hL hS
  refine ⟨w2, ?_, ?_, ?_⟩
  · unfold m_L_law
    rw [mb_nO]
    show mb (m_X7_init 0) _ wa = _
    rw [mb_call eb1, mb_nO, cb1]
    show mb (m_X8_init 33) _ wc = _
    rw [init8, mbA, mb_call ed1, mb_call e1]
    exact e2
  · have : cnt w2 ≤ potC w2 := by unfold potC; omega
    omega
  · have : slt w2 ≤ potS w2 := by unfold potS; omega
    omega
