/-! ===== query(): the reference's ===== -/
theorem lg_neg (x y : Int64) : (lg_cmp x y < 0) ↔ x.toInt < y.toInt := by
  unfold lg_cmp
  by_cases h1 : x > y
  · rw [if_pos h1]
    have := Int64.lt_iff_toInt_lt.mp h1
    exact ⟨fun h => absurd h (by decide), fun h => by omega⟩
  · rw [if_neg h1]
    have h1' : ¬ y.toInt < x.toInt := fun h => h1 (Int64.lt_iff_toInt_lt.mpr h)
    by_cases h2 : x = y
    · rw [if_pos h2]
      subst h2
      exact ⟨fun h => absurd h (by decide), fun h => by omega⟩
    · rw [if_neg h2]
      have : x.toInt ≠ y.toInt := fun h => h2 (Int64.toInt_inj.mp h)
      exact ⟨fun _ => by omega, fun _ => by decide⟩
theorem lg_pos (x y : Int64) : (0 < lg_cmp x y) ↔ y.toInt < x.toInt := by
  unfold lg_cmp
  by_cases h1 : x > y
  · rw [if_pos h1]
    exact ⟨fun _ => Int64.lt_iff_toInt_lt.mp h1, fun _ => by decide⟩
  · rw [if_neg h1]
    have h1' : ¬ y.toInt < x.toInt := fun h => h1 (Int64.lt_iff_toInt_lt.mpr h)
    by_cases h2 : x = y
    · rw [if_pos h2]
      exact ⟨fun h => absurd h (by decide), fun h => absurd h h1'⟩
    · rw [if_neg h2]
      exact ⟨fun h => absurd h (by decide), fun h => absurd h h1'⟩
theorem in_ok (a b c : Int64) (w : Wd) : m_X8_in a b c w = some (bI (decide (b.toInt ≤ a.toInt ∧ a.toInt ≤ c.toInt)), w) := by
  unfold m_X8_in
  by_cases h1 : a.toInt < b.toInt
  · rw [if_pos ((lg_neg a b).mpr h1), show decide (b.toInt ≤ a.toInt ∧ a.toInt ≤ c.toInt) = false by rw [decide_eq_false_iff_not]; omega]; rfl
  · rw [if_neg (fun h => h1 ((lg_neg a b).mp h))]
    by_cases h2 : c.toInt < a.toInt
    · rw [if_pos ((lg_pos a c).mpr h2), show decide (b.toInt ≤ a.toInt ∧ a.toInt ≤ c.toInt) = false by rw [decide_eq_false_iff_not]; omega]; rfl
    · rw [if_neg (fun h => h2 ((lg_pos a c).mp h)), show decide (b.toInt ≤ a.toInt ∧ a.toInt ≤ c.toInt) = true by rw [decide_eq_true_iff]; omega]; rfl
section RQ
variable {z : Zd} {m : Nat} {I : Nat → Nat → Int32} {W ns : List (List Nat)} {hs : HS}
theorem isQuery_ok (hM : MO z m) (hB : HB hs) (hR : RR (I (m + 2)) hs) (x : Int32) : m_X8_isQuery m x (I, z) = some (bI (qAt hs x).isSome, (I, z)) := by
  have h8 := hB.1
  unfold m_X8_isQuery
  rw [mb_gR hM.o hM.rNow, show (0 : Int32) = nI 0 from rfl, mb_aI hM.sNow (show 0 < 178 by omega) (by omega)]
  simp only [hR.1]
  rw [mb_call (in_ok _ _ _ _)]
  have hx1 : (nI hs.1.length - 1).toInt = (hs.1.length : Int) - 1 := by
    have : ∀ n, n ≤ 8 → (nI n - 1).toInt = (n : Int) - 1 := by decide +kernel
    exact this _ h8
  have h00 : (0 : Int64).toInt = 0 := by decide
  rw [Int32.toInt_toInt64, Int32.toInt_toInt64, hx1, h00, rZ_b]
  congr 3
  rw [Bool.eq_iff_iff, decide_eq_true_iff]
  rcases qAt_cases hs x with ⟨e, hx⟩ | ⟨n, Q, hQ, hn, rfl, e⟩
  · rw [e]
    constructor
    · rintro ⟨a, b⟩
      rcases hx with hx | ⟨n, hn, rfl, hl⟩
      · have := Int32.lt_iff_toInt_lt.mp hx
        rw [show (0 : Int32).toInt = 0 by decide] at this
        omega
      · rw [nI_toInt hn] at b
        omega
    · intro h; cases h
  · have hl := (List.getElem?_eq_some_iff.mp hQ).1
    rw [e, nI_toInt hn]
    exact ⟨fun _ => rfl, fun _ => by omega⟩
theorem isAsked_ok (hM : MO z m) (hB : HB hs) (hR : RR (I (m + 2)) hs) (hX : RX I m W ns) (hE : RE I m W hs.2 hs.2.length) (hall : ∀ u ∈ aws hs.1, u ∈ W) {q : Nat} {Q : List Pt} (hQ : hs.1[q]? = some Q) :
    m_X8_isAsked m (nI q) (I, z) = some (bI (isAsk hs.2 Q), (I, z)) := by
  have h40 := hB.2.1
  unfold m_X8_isAsked isAsk
  rw [mb_vc hM.o, mb_call (key_ok hM hB hR hX hall hQ)]
  rcases keyW_in hB hQ hall with e | ⟨hok, j, hj⟩
  · rw [e, fnd_nil hX.2.1, if_pos rfl]; rfl
  · have hne : ¬ keyW Q = [] := fun e => by rw [e] at hok; simp [okW] at hok
    have hjl := (List.getElem?_eq_some_iff.mp hj).1
    have h16 := hX.2.2.1
    have hle := hct_le hs.2 (keyW Q) hs.2.length
    rw [fnd_pk hX.2.1 hj, if_neg (show ¬ nI j = -9 by
      intro h9
      have := congrArg Int32.toInt h9
      rw [nI_toInt (by omega)] at this
      have h8 : (-9 : Int32).toInt = -9 := by decide
      omega), mb_gR hM.o hM.rNow, show (1 : Int32) = nI 1 from rfl, mb_aI hM.sNow (show 1 < 178 by omega) (by omega)]
    simp only [hR.2.1]
    rw [mb_vc hM.o, mb_call (hits_ok hM h16 hE h40 hj (Nat.le_refl _)), show decide (keyW Q = []) = false by simp [hne], Bool.false_or]
    by_cases hc : hct hs.2 (keyW Q) hs.2.length = 0
    · rw [hc, if_pos (show nI 0 ≤ 0 by decide)]; rfl
    · rw [if_neg (nI_nle (by omega) (by omega)), show decide (0 < hct hs.2 (keyW Q) hs.2.length) = true by simp; omega]; rfl
theorem RX.kept {I' : Nat → Nat → Int32} (h : RX I m W ns) (e1 : I' m 15 = I m 15) (e2 : I' m 17 = I m 17) (e : ∀ j, 7 ≤ j → j ≤ 11 → I' (m + j) = I (m + j)) : RX I' m W ns := by
  obtain ⟨a, b, c, d, r1, r2, r3⟩ := h
  refine ⟨a, b, c, d, ?_, ?_, ?_⟩
  · unfold RW; rw [e1, e 7 (by omega) (by omega)]; exact r1
  · unfold RN; rw [e2, e 8 (by omega) (by omega)]; exact r2
  · unfold RA; rw [e 9 (by omega) (by omega), e 10 (by omega) (by omega), e 11 (by omega) (by omega)]; exact r3
theorem query_ok (hM : MO z m) (hB : HB hs) (hR : RR (I (m + 2)) hs) (hX : RX I m W ns) (hall : ∀ u ∈ aws hs.1, u ∈ W) (x y : Int32) :
    ∃ I', m_X8_query m x y (I, z) = some (qans hs W x y, (I', z)) ∧ (∀ k, k ≠ 0 → I' m k = I m k) ∧ ∀ p, p ≠ m → p ≠ m + 12 → I' p = I p := by
  have h8 := hB.1
  have hR0 : RR (u2 I m 0 0 (m + 2)) hs := by rw [u2_row (by omega)]; exact hR
  have hX0 : RX (u2 I m 0 0) m W ns := hX.kept (u2_ne (Or.inr (by omega))) (u2_ne (Or.inr (by omega))) (fun j a b => u2_row (by omega))
  unfold m_X8_query qans
  rw [mb_sI hM.o]
  dsimp only
  rw [mb_vc hM.o, mb_call (isQuery_ok hM hB hR0 x)]
  rcases qAt_cases hs x with ⟨e, hx⟩ | ⟨n, Q, hQ, hn, rfl, e⟩
  · rw [e, if_pos (show bI (none : Option (Nat × List Pt)).isSome = 0 from rfl)]
    exact ⟨u2 I m 0 0, rfl, fun k hk => u2_ne (Or.inr hk), fun p hp _ => u2_row hp⟩
  · rw [e, if_neg (show ¬ bI (some (n, Q)).isSome = 0 from (by decide : ¬ bI true = 0))]
    have hl := (List.getElem?_eq_some_iff.mp hQ).1
    obtain ⟨I1, e1, hE, F⟩ := layEnds_ok hM hB hR0 hX0
    have hR1 : RR (I1 (m + 2)) hs := by rw [F (m + 2) (by omega)]; exact hR0
    have hX1 : RX I1 m W ns := hX0.kept (by rw [F m (by omega)]) (by rw [F m (by omega)]) (fun j a b => F (m + j) (by omega))
    refine ⟨I1, ?_, fun k hk => by rw [F m (by omega), u2_ne (Or.inr hk)], fun p hp hp2 => by rw [F p hp2, u2_row hp]⟩
    rw [mb_vc hM.o, mb_call e1]
    dsimp only
    by_cases y0 : y = 0
    · rw [if_pos y0, if_pos y0, mb_gR hM.o hM.rNow, mb_call (parts_ok (w := (I1, z)) hM.sNow (show n < 8 by omega))]
      simp only [(hR1.2.2.2 n Q hQ).1]
      rfl
    rw [if_neg y0, if_neg y0]
    by_cases y1 : y = 1
    · rw [if_pos y1, if_pos y1, mb_gR hM.o hM.rNow, show (1 : Int32) = nI 1 from rfl, mb_aI hM.sNow (show 1 < 178 by omega) (by omega)]
      simp only [hR1.2.1]
      rw [mb_vc hM.o, mb_call (matches_ok hM hB hR1 hX1 hE hall hQ (Nat.le_refl _))]
      cases mtch hs.2 Q hs.2.length <;> rfl
    rw [if_neg y1, if_neg y1]
    by_cases y2 : y = 2
    · rw [if_pos y2, if_pos y2, mb_vc hM.o, mb_call (since_ok hM hB hR1 hX1 hE hall hQ)]
      rfl
    rw [if_neg y2, if_neg y2]
    by_cases y3 : y = 3
    · rw [if_pos y3, if_pos y3, mb_vc hM.o, mb_call (key_ok hM hB hR1 hX1 hall hQ)]
      rfl
    rw [if_neg y3, if_neg y3]
    by_cases y4 : y = 4
    · rw [if_pos y4, if_pos y4, mb_vc hM.o, mb_call (isAsked_ok hM hB hR1 hX1 hE hall hQ)]
      cases isAsk hs.2 Q <;> rfl
    rw [if_neg y4, if_neg y4]
    rfl
end RQ
