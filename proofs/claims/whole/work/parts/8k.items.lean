/-! ===== items: pure; the class's pieces ===== -/
def lastQ (qs : List (List Pt)) : List Pt := match qs[qs.length - 1]? with
  | none => []
  | some Q => Q
def addP (qs : List (List Pt)) (P : Pt) : List (List Pt) := qs.dropLast ++ [lastQ qs ++ [P]]
def mayP (n0 : Nat) (qs : List (List Pt)) : Prop := n0 < qs.length ∧ (lastQ qs).length < 4
theorem lastQ_get {qs : List (List Pt)} (h : 0 < qs.length) : qs[qs.length - 1]? = some (lastQ qs) := by
  unfold lastQ
  rw [List.getElem?_eq_getElem (by omega)]
theorem qs_split {qs : List (List Pt)} (h : 0 < qs.length) : qs = qs.dropLast ++ [lastQ qs] := by
  have hne : qs ≠ [] := fun e => by rw [e] at h; simp at h
  have h1 := (List.dropLast_concat_getLast hne).symm
  have h2 : qs.getLast hne = lastQ qs := by
    have := lastQ_get h
    rw [List.getElem?_eq_getElem (by omega)] at this
    rw [List.getLast_eq_getElem]
    exact Option.some.inj this
  rw [h2] at h1
  exact h1
theorem addP_len {qs : List (List Pt)} (h : 0 < qs.length) (P : Pt) : (addP qs P).length = qs.length := by
  unfold addP
  rw [List.length_append, List.length_dropLast]; simp; omega
theorem addP_get {qs : List (List Pt)} (h : 0 < qs.length) (P : Pt) (j : Nat) : (addP qs P)[j]? = if j = qs.length - 1 then some (lastQ qs ++ [P]) else qs[j]? := by
  unfold addP
  by_cases hj : j = qs.length - 1
  · rw [if_pos hj, List.getElem?_append_right (by rw [List.length_dropLast]; omega), List.length_dropLast, hj, Nat.sub_self]; rfl
  · rw [if_neg hj]
    by_cases hlt : j < qs.length - 1
    · rw [List.getElem?_append_left (by rw [List.length_dropLast]; omega), List.getElem?_dropLast, if_pos hlt]
    · rw [List.getElem?_eq_none (by rw [List.length_append, List.length_dropLast]; simp; omega), List.getElem?_eq_none (by omega)]
theorem aws_addP {qs : List (List Pt)} (h : 0 < qs.length) (P : Pt) : aws (addP qs P) = aws qs ++ pws P := by
  have e := qs_split h
  have e2 : aws qs = aws qs.dropLast ++ qws (lastQ qs) := by
    have : aws qs = aws (qs.dropLast ++ [lastQ qs]) := by rw [← e]
    rw [this]; unfold aws; rw [List.flatMap_append]; simp
  rw [e2]
  unfold addP aws qws
  rw [List.flatMap_append]
  simp
theorem aws_newQ (qs : List (List Pt)) : aws (qs ++ [[]]) = aws qs := by
  unfold aws qws
  rw [List.flatMap_append]
  simp
theorem okL_ext {A B : List (List Nat)} (hA : okL A) (hB : okL B) (h : ∀ x, x ∈ A ↔ x ∈ B) : A = B := by
  have hm : A.map pkI = B.map pkI := by
    refine srt_unique ((okL_srt hA.1).mp hA.2) ((okL_srt hB.1).mp hB.2) (fun x => ?_)
    constructor
    · intro hx
      obtain ⟨v, hv, rfl⟩ := List.mem_map.mp hx
      exact List.mem_map_of_mem ((h v).mp hv)
    · intro hx
      obtain ⟨v, hv, rfl⟩ := List.mem_map.mp hx
      exact List.mem_map_of_mem ((h v).mpr hv)
  apply List.ext_getElem?
  intro i
  have hi : (A.map pkI)[i]? = (B.map pkI)[i]? := by rw [hm]
  rw [List.getElem?_map, List.getElem?_map] at hi
  cases ha : A[i]? with
  | none =>
    cases hb : B[i]? with
    | none => rfl
    | some b => rw [ha, hb] at hi; cases hi
  | some a =>
    cases hb : B[i]? with
    | none => rw [ha, hb] at hi; cases hi
    | some b =>
      rw [ha, hb] at hi
      have oa := hA.1 a (List.mem_of_getElem? ha)
      have ob := hB.1 b (List.mem_of_getElem? hb)
      rw [pkI_inj oa.2.2 ob.2.2 oa.2.1 ob.2.1 (Option.some.inj hi)]
theorem winsW_comm {W : List (List Nat)} (hW : okL W) {u v : List Nat} (hu : okW u) (hv : okW v) : winsW (winsW W u) v = winsW (winsW W v) u := by
  have h1 := hW.wins hu
  have h2 := hW.wins hv
  refine okL_ext (h1.wins hv) (h2.wins hu) (fun x => ?_)
  rw [mem_winsW h1.1 hv, mem_winsW hW.1 hu, mem_winsW h2.1 hu, mem_winsW hW.1 hv]
  constructor
  · rintro (h | h | h)
    · exact Or.inr (Or.inl h)
    · exact Or.inl h
    · exact Or.inr (Or.inr h)
  · rintro (h | h | h)
    · exact Or.inr (Or.inl h)
    · exact Or.inl h
    · exact Or.inr (Or.inr h)
/-- the words of what is told so far -/
def Wq (qs : List (List Pt)) : List (List Nat) := gatW [] (aws qs)
theorem Wq_has {qs : List (List Pt)} (h : 0 < qs.length) {P : Pt} (h2 : P.1 ≠ 2) : Wq (addP qs P) = winsW (Wq qs) P.2.1 := by
  unfold Wq
  rw [aws_addP h, gatW_app]
  unfold pws
  rw [if_neg h2]; rfl
theorem Wq_near {qs : List (List Pt)} (h : 0 < qs.length) (hW : okL (Wq qs)) {P : Pt} (h2 : P.1 = 2) (hu : okW P.2.1) (hv : okW P.2.2.1) : Wq (addP qs P) = winsW (winsW (Wq qs) P.2.2.1) P.2.1 := by
  rw [← winsW_comm hW hu hv]
  unfold Wq
  rw [aws_addP h, gatW_app]
  unfold pws
  rw [if_pos h2]; rfl
theorem okHS_newQ {qs : List (List Pt)} {ls : List Nat} (h : okHS (qs, ls)) (h8 : qs.length < 8) : okHS (qs ++ [[]], ls) := by
  obtain ⟨⟨a, b, c, d⟩, e, f⟩ := h
  refine ⟨⟨by show (qs ++ [[]]).length ≤ 8; simp; omega, b, fun Q hQ => ?_, d⟩, by show (gatW [] (aws (qs ++ [[]]))).length ≤ 16; rw [aws_newQ]; exact e, fun Q hQ => ?_⟩
  · rcases List.mem_append.mp hQ with hQ | hQ
    · exact c Q hQ
    · rw [List.mem_singleton.mp hQ]; exact ⟨by simp, by simp⟩
  · rcases List.mem_append.mp hQ with hQ | hQ
    · exact f Q hQ
    · rw [List.mem_singleton.mp hQ]; intro i j P P' hi; simp at hi
theorem okHS_addP {qs : List (List Pt)} {ls : List Nat} (h : okHS (qs, ls)) (h0 : 0 < qs.length) (h4 : (lastQ qs).length < 4) {P : Pt} (hP : okP P) (h1 : P.1 = 2 → ∀ P' ∈ lastQ qs, P'.1 ≠ 2) (h16 : (Wq (addP qs P)).length ≤ 16) : okHS (addP qs P, ls) := by
  obtain ⟨⟨a, b, c, d⟩, e, f⟩ := h
  have hlm : lastQ qs ∈ qs := List.mem_of_getElem? (lastQ_get h0)
  have hmem : ∀ Q ∈ addP qs P, Q ∈ qs ∨ Q = lastQ qs ++ [P] := fun Q hQ => by
    unfold addP at hQ
    rcases List.mem_append.mp hQ with hQ | hQ
    · exact Or.inl ((List.dropLast_prefix qs).subset hQ)
    · exact Or.inr (List.mem_singleton.mp hQ)
  refine ⟨⟨by show (addP qs P).length ≤ 8; rw [addP_len h0]; exact a, b, fun Q hQ => ?_, d⟩, h16, fun Q hQ => ?_⟩
  · rcases hmem Q hQ with hQ | rfl
    · exact c Q hQ
    · refine ⟨by rw [List.length_append]; simp; omega, fun P' hP' => ?_⟩
      rcases List.mem_append.mp hP' with hP' | hP'
      · exact (c _ hlm).2 P' hP'
      · rw [List.mem_singleton.mp hP']; exact hP
  · rcases hmem Q hQ with hQ | rfl
    · exact f Q hQ
    · intro i j A B hi hj hA hB
      rcases app_get hi with hi' | ⟨hi1, hi2⟩
      · rcases app_get hj with hj' | ⟨hj1, hj2⟩
        · exact f _ hlm i j A B hi' hj' hA hB
        · exact absurd hA (h1 (by rw [← hj2]; exact hB) A (List.mem_of_getElem? hi'))
      · rcases app_get hj with hj' | ⟨hj1, hj2⟩
        · exact absurd hB (h1 (by rw [← hi2]; exact hA) B (List.mem_of_getElem? hj'))
        · rw [hi1, hj1]
section CI3
variable {z : Zd} {I : Nat → Nat → Int32} {qs : List (List Pt)} {ls : List Nat} {n0 : Nat}
theorem partsLast_ok (ho : HO z 3) (hR : HR I 3 (qs, ls)) (h8 : qs.length ≤ 8) : m_X1_partsOfLast 3 (I, z) = some (nI (lastQ qs).length, (I, z)) := by
  unfold m_X1_partsOfLast
  have h0 : I 3 0 = nI qs.length := hR.1
  rw [mb_gI (w := (I, z)) ho.1]
  simp only [h0]
  by_cases hz : qs.length = 0
  · rw [if_pos (show nI qs.length ≤ 0 by rw [hz]; decide)]
    have : lastQ qs = [] := by unfold lastQ; rw [List.getElem?_eq_none (by omega)]
    rw [this]; rfl
  · rw [if_neg (nI_nle (by omega) (by omega)), mb_gR (w := (I, z)) ho.1 ho.2.1.1, mb_gI (w := (I, z)) ho.1]
    simp only [h0]
    rw [show nI qs.length - 1 = nI (qs.length - 1) from nI_sub (b := 1) (by omega), mb_aI (w := (I, z)) ho.2.2.1 (show qs.length - 1 < 8 by omega) (by omega)]
    show some (I (3 + 1) (qs.length - 1), (I, z)) = _
    rw [(hR.2.2.1 _ _ (lastQ_get (qs := qs) (by omega))).1]
theorem hasOpen_ok (o : z.2.2[1]? = some (4, nf 4)) (rd : z.2.1 1 2 = some 3) (ho : HO z 3) (hR : HR I 3 (qs, ls)) (h7 : I 1 7 = nI n0) (h8 : qs.length ≤ 8) (hn : n0 ≤ 8) : m_X5_hasOpenQuery 1 (I, z) = some (bI (decide (n0 < qs.length)), (I, z)) := by
  have h0 : I 3 0 = nI qs.length := hR.1
  unfold m_X5_hasOpenQuery
  rw [mb_gR (w := (I, z)) o rd, mb_gI (w := (I, z)) ho.1, mb_gI (w := (I, z)) o]
  simp only [h0, h7]
  by_cases h : n0 < qs.length
  · rw [if_neg (nI_ge h (by omega)), decide_eq_true h]; rfl
  · rw [if_pos (nI_le (by omega) (by omega)), decide_eq_false h]; rfl
theorem lacksParts_ok (o : z.2.2[1]? = some (4, nf 4)) (rd : z.2.1 1 2 = some 3) (ho : HO z 3) (hR : HR I 3 (qs, ls)) (h7 : I 1 7 = nI n0) (h8 : qs.length ≤ 8) (hn : n0 ≤ 8) (h4 : (lastQ qs).length ≤ 4) : m_X5_lacksParts 1 (I, z) = some (bI (decide (n0 < qs.length ∧ (lastQ qs).length = 0)), (I, z)) := by
  unfold m_X5_lacksParts
  rw [mb_vc (w := (I, z)) o, mb_call (hasOpen_ok o rd ho hR h7 h8 hn)]
  by_cases h : n0 < qs.length
  · rw [decide_eq_true h, if_neg (show ¬ bI true = 0 by decide), mb_gR (w := (I, z)) o rd, mb_vc (w := (I, z)) ho.1, mb_call (partsLast_ok ho hR h8)]
    by_cases hl : (lastQ qs).length = 0
    · rw [if_pos (show nI (lastQ qs).length = 0 by rw [hl]; rfl), decide_eq_true ⟨h, hl⟩]; rfl
    · rw [if_neg (nI_ne0 (by omega) (by omega)), decide_eq_false (fun hh => hl hh.2)]; rfl
  · rw [decide_eq_false h, if_pos (show bI false = 0 from rfl), decide_eq_false (fun hh => h hh.1)]; rfl
theorem mayHave_ok (o : z.2.2[1]? = some (4, nf 4)) (rd : z.2.1 1 2 = some 3) (ho : HO z 3) (hR : HR I 3 (qs, ls)) (h7 : I 1 7 = nI n0) (h8 : qs.length ≤ 8) (hn : n0 ≤ 8) (h4 : (lastQ qs).length ≤ 4) : m_X5_mayHavePart 1 (I, z) = some (bI (decide (n0 < qs.length ∧ (lastQ qs).length < 4)), (I, z)) := by
  unfold m_X5_mayHavePart
  rw [mb_vc (w := (I, z)) o, mb_call (hasOpen_ok o rd ho hR h7 h8 hn)]
  by_cases h : n0 < qs.length
  · rw [decide_eq_true h, if_neg (show ¬ bI true = 0 by decide), mb_gR (w := (I, z)) o rd, mb_vc (w := (I, z)) ho.1, mb_call (partsLast_ok ho hR h8)]
    by_cases hl : (lastQ qs).length < 4
    · rw [if_neg (show ¬ (4 : Int32) ≤ nI (lastQ qs).length from nI_ge (b := 4) hl (by omega)), decide_eq_true ⟨h, hl⟩]; rfl
    · rw [if_pos (show (4 : Int32) ≤ nI (lastQ qs).length from nI_le (a := 4) (by omega) (by omega)), decide_eq_false (fun hh => hl hh.2)]; rfl
  · rw [decide_eq_false h, if_pos (show bI false = 0 from rfl), decide_eq_false (fun hh => h hh.1)]; rfl
def anyN (Q : List Pt) : Bool := Q.any (fun P => decide (P.1 = 2))
theorem lastNear_ok (ho : HO z 3) (hR : HR I 3 (qs, ls)) (hB : HB (qs, ls)) (h0 : 0 < qs.length) : m_X1_lastHasNear 3 (I, z) = some (bI (anyN (lastQ qs)), (I, z)) := by
  have h8 : qs.length ≤ 8 := hB.1
  have hlm := lastQ_get h0
  obtain ⟨h4, hP⟩ := hB.2.2.1 (lastQ qs) (List.mem_of_getElem? hlm)
  obtain ⟨hl, hr⟩ := hR.2.2.1 _ _ hlm
  have hq0 : I 3 0 = nI qs.length := hR.1
  have hgen : ∀ n i, i + n = (lastQ qs).length → ∀ f, n < f → lp (fun k s => m_X1_lastHasNear_B2 3 k s) f (nI i) (I, z) = some (bI (anyN ((lastQ qs).drop i)), (I, z)) := by
    intro n
    induction n with
    | zero =>
      intro i hi f hf
      obtain ⟨g, rfl⟩ : ∃ g, f = g + 1 := ⟨f - 1, by omega⟩
      rw [lp_s]
      unfold m_X1_lastHasNear_B2
      rw [mb_vc (w := (I, z)) ho.1, mb_call (partsLast_ok ho hR h8), if_pos (nI_le (by omega) (by omega)), List.drop_eq_nil_of_le (by omega)]
      rfl
    | succ n ih =>
      intro i hi f hf
      obtain ⟨g, rfl⟩ : ∃ g, f = g + 1 := ⟨f - 1, by omega⟩
      have hil : i < (lastQ qs).length := by omega
      have hPi := List.getElem?_eq_getElem hil
      have hd := List.drop_eq_getElem_cons hil
      have hPm := List.getElem_mem hil
      generalize (lastQ qs)[i] = P at hPi hd hPm
      have ho1 := (hP P hPm).1
      have ih := ih (i + 1) (by omega) g (by omega)
      rw [lp_s]
      generalize lp (fun k s => m_X1_lastHasNear_B2 3 k s) g = kk at ih
      have hs := (hr i P hPi).1
      unfold m_X1_lastHasNear_B2
      rw [mb_vc (w := (I, z)) ho.1, mb_call (partsLast_ok ho hR h8), if_neg (nI_ge hil (by omega)), mb_gR (w := (I, z)) ho.1 ho.2.1.2.1, mb_gI (w := (I, z)) ho.1]
      simp only [hq0]
      rw [show nI qs.length - 1 = nI (qs.length - 1) from nI_sub (b := 1) (by omega), mb_vc (w := (I, z)) ho.1, mb_call (place_ok 3 (qs.length - 1) i _), mb_aI (w := (I, z)) ho.2.2.2.1 (show 4 * (qs.length - 1) + i < 32 by omega) (by omega)]
      simp only [hs]
      rw [hd]
      show _ = some (bI (decide (P.1 = 2) || anyN ((lastQ qs).drop (i + 1))), (I, z))
      by_cases h2 : P.1 = 2
      · rw [if_pos (show nI P.1 = 2 by rw [h2]; rfl), decide_eq_true h2]; rfl
      · rw [if_neg (show ¬ nI P.1 = 2 from fun e => h2 ((nI_eq (b := 2) (by omega) (by omega)).mp e)), decide_eq_false h2, Bool.false_or, nI_1]
        exact ih
  unfold m_X1_lastHasNear
  have := hgen (lastQ qs).length 0 (by omega) FU (by unfold FU; omega)
  rw [List.drop_zero] at this
  exact this
theorem startQ_ok (ho : HO z 3) (hR : HR I 3 (qs, ls)) (h8 : qs.length ≤ 8) : (8 ≤ qs.length ∧ m_X1_startQuery 3 (I, z) = some (0, (I, z))) ∨ (qs.length < 8 ∧ ∃ I', m_X1_startQuery 3 (I, z) = some (1, (I', z)) ∧ HR I' 3 (qs ++ [[]], ls) ∧ ∀ x, (x < 3 ∨ 9 < x) → I' x = I x) := by
  have h0 : I 3 0 = nI qs.length := hR.1
  by_cases h : qs.length < 8
  · refine Or.inr ⟨h, u2 (u2 I 4 qs.length 0) 3 0 (nI (qs.length + 1)), ?_, ?_, fun x hx => by rw [u2_row (by omega), u2_row (by omega)]⟩
    · unfold m_X1_startQuery
      have h0' : u2 I (3 + 1) qs.length 0 3 0 = nI qs.length := by rw [u2_row (by omega)]; exact h0
      rw [mb_gI (w := (I, z)) ho.1]
      simp only [h0]
      rw [if_pos (show nI qs.length < 8 from nI_lt (b := 8) h (by omega)), mb_gR (w := (I, z)) ho.1 ho.2.1.1, mb_gI (w := (I, z)) ho.1]
      simp only [h0]
      rw [mb_tI (w := (I, z)) ho.2.2.1 h (by omega), mb_gI (w := (u2 I (3 + 1) qs.length 0, z)) ho.1]
      simp only [h0']
      rw [nI_1, mb_sI (w := (u2 I (3 + 1) qs.length 0, z)) ho.1]
      rfl
    · obtain ⟨a, b, c, d⟩ := hR
      refine ⟨by rw [u2_eq]; simp, by rw [u2_ne (Or.inr (by omega)), u2_row (by omega)]; exact b, fun q Q hq => ?_, fun i c' hi => by rw [u2_row (by omega), u2_row (by omega)]; exact d i c' hi⟩
      rw [u2_row (show 3 + 1 ≠ 3 by omega), u2_row (show 3 + 2 ≠ 3 by omega), u2_row (show 3 + 2 ≠ 4 by omega), u2_row (show 3 + 3 ≠ 3 by omega), u2_row (show 3 + 3 ≠ 4 by omega), u2_row (show 3 + 4 ≠ 3 by omega), u2_row (show 3 + 4 ≠ 4 by omega), u2_row (show 3 + 5 ≠ 3 by omega), u2_row (show 3 + 5 ≠ 4 by omega)]
      rcases app_get hq with hq | ⟨rfl, rfl⟩
      · have := (List.getElem?_eq_some_iff.mp hq).1
        obtain ⟨p1, p2⟩ := c q Q hq
        exact ⟨by rw [show 3 + 1 = 4 from rfl, u2_ne (Or.inr (by omega))]; exact p1, p2⟩
      · exact ⟨by rw [show 3 + 1 = 4 from rfl, u2_eq]; rfl, fun k P hk => by simp at hk⟩
  · refine Or.inl ⟨by omega, ?_⟩
    unfold m_X1_startQuery
    rw [mb_gI (w := (I, z)) ho.1]
    simp only [h0]
    rw [if_neg (show ¬ nI qs.length < 8 from nI_nlt (b := 8) (by omega) (by omega))]
    rfl
theorem addPart_ok (ho : HO z 3) (hR : HR I 3 (qs, ls)) (hBq : ∀ Q ∈ qs, Q.length ≤ 4) (h8 : qs.length ≤ 8) (h0 : 0 < qs.length) (h4 : (lastQ qs).length < 4) (P : Pt) : ∃ I', m_X1_addPart 3 (nI P.1) (pkI P.2.1) (pkI P.2.2.1) (nI P.2.2.2) (I, z) = some ((), (I', z)) ∧ HR I' 3 (addP qs P, ls) ∧ ∀ x, (x < 3 ∨ 9 < x) → I' x = I x := by
  have hq0 : I 3 0 = nI qs.length := hR.1
  have hlm := lastQ_get h0
  obtain ⟨o, ⟨r2, r3, r4, r5, r6, r7⟩, s2, s3, s4, s5, s6, s7⟩ := id ho
  obtain ⟨hl, hr⟩ := hR.2.2.1 _ _ hlm
  have hpl : 4 * (qs.length - 1) + (lastQ qs).length < 32 := by omega
  generalize hX : 4 * (qs.length - 1) + (lastQ qs).length = X at hpl
  generalize hI1 : u2 (u2 (u2 (u2 I 5 X (nI P.1)) 6 X (pkI P.2.1)) 7 X (pkI P.2.2.1)) 8 X (nI P.2.2.2) = I1
  have f1 : ∀ x, x ≠ 5 → x ≠ 6 → x ≠ 7 → x ≠ 8 → I1 x = I x := fun x a b c d => by rw [← hI1, u2_row d, u2_row c, u2_row b, u2_row a]
  refine ⟨u2 I1 4 (qs.length - 1) (nI ((lastQ qs).length + 1)), ?_, ?_, fun x hx => by rw [u2_row (by omega), f1 x (by omega) (by omega) (by omega) (by omega)]⟩
  · unfold m_X1_addPart
    rw [mb_gI (w := (I, z)) o]
    simp only [hq0]
    rw [if_neg (nI_nle (by omega) (by omega)), mb_vc (w := (I, z)) o, mb_call (partsLast_ok ho hR h8), if_pos (show nI (lastQ qs).length < 4 from nI_lt (b := 4) h4 (by omega)), mb_gI (w := (I, z)) o]
    simp only [hq0]
    rw [mb_vc (w := (I, z)) o, mb_call (partsLast_ok ho hR h8), show nI qs.length - 1 = nI (qs.length - 1) from nI_sub (b := 1) (by omega), mb_vc (w := (I, z)) o, mb_call (place_ok 3 (qs.length - 1) (lastQ qs).length _), hX, mb_gR (w := (I, z)) o r3, mb_tI (w := (I, z)) s3 hpl (by omega)]
    dsimp only
    rw [mb_gR (w := (u2 I (3 + 2) X (nI P.1), z)) o r4, mb_tI (w := (u2 I (3 + 2) X (nI P.1), z)) s4 hpl (by omega)]
    dsimp only
    rw [mb_gR (w := (u2 (u2 I (3 + 2) X (nI P.1)) (3 + 3) X (pkI P.2.1), z)) o r5, mb_tI (w := (u2 (u2 I (3 + 2) X (nI P.1)) (3 + 3) X (pkI P.2.1), z)) s5 hpl (by omega)]
    dsimp only
    rw [mb_gR (w := (u2 (u2 (u2 I (3 + 2) X (nI P.1)) (3 + 3) X (pkI P.2.1)) (3 + 4) X (pkI P.2.2.1), z)) o r6, mb_tI (w := (u2 (u2 (u2 I (3 + 2) X (nI P.1)) (3 + 3) X (pkI P.2.1)) (3 + 4) X (pkI P.2.2.1), z)) s6 hpl (by omega)]
    dsimp only
    rw [show u2 (u2 (u2 (u2 I (3 + 2) X (nI P.1)) (3 + 3) X (pkI P.2.1)) (3 + 4) X (pkI P.2.2.1)) (3 + 5) X (nI P.2.2.2) = I1 from hI1]
    have g0 : I1 3 0 = nI qs.length := by rw [f1 3 (by omega) (by omega) (by omega) (by omega)]; exact hq0
    have g4 : I1 (3 + 1) (qs.length - 1) = nI (lastQ qs).length := by rw [f1 _ (by omega) (by omega) (by omega) (by omega)]; exact hl
    rw [mb_gR (w := (I1, z)) o r2, mb_gI (w := (I1, z)) o]
    simp only [g0]
    rw [show nI qs.length - 1 = nI (qs.length - 1) from nI_sub (b := 1) (by omega), mb_aI (w := (I1, z)) s2 (show qs.length - 1 < 8 by omega) (by omega)]
    simp only [g4]
    rw [nI_1, mb_tI (w := (I1, z)) s2 (show qs.length - 1 < 8 by omega) (by omega)]
    rfl
  · obtain ⟨a, b, c, d⟩ := hR
    refine ⟨?_, ?_, fun q Q hq => ?_, fun i c' hi => ?_⟩
    · rw [u2_row (by omega), f1 3 (by omega) (by omega) (by omega) (by omega), addP_len h0]; exact a
    · rw [u2_row (by omega), f1 3 (by omega) (by omega) (by omega) (by omega)]; exact b
    · have hq' : (addP qs P)[q]? = some Q := hq
      rw [addP_get h0] at hq'
      rw [u2_row (show 3 + 2 ≠ 4 by omega), u2_row (show 3 + 3 ≠ 4 by omega), u2_row (show 3 + 4 ≠ 4 by omega), u2_row (show 3 + 5 ≠ 4 by omega)]
      have rows : ∀ j, j ≠ X → I1 (3 + 2) j = I (3 + 2) j ∧ I1 (3 + 3) j = I (3 + 3) j ∧ I1 (3 + 4) j = I (3 + 4) j ∧ I1 (3 + 5) j = I (3 + 5) j := by
        intro j hj
        rw [← hI1]
        refine ⟨?_, ?_, ?_, ?_⟩
        · rw [u2_row (by omega), u2_row (by omega), u2_row (by omega), u2_ne (Or.inr hj)]
        · rw [u2_row (by omega), u2_row (by omega), u2_ne (Or.inr hj), u2_row (by omega)]
        · rw [u2_row (by omega), u2_ne (Or.inr hj), u2_row (by omega), u2_row (by omega)]
        · rw [u2_ne (Or.inr hj), u2_row (by omega), u2_row (by omega), u2_row (by omega)]
      have rowX : I1 (3 + 2) X = nI P.1 ∧ I1 (3 + 3) X = pkI P.2.1 ∧ I1 (3 + 4) X = pkI P.2.2.1 ∧ I1 (3 + 5) X = nI P.2.2.2 := by
        rw [← hI1]
        refine ⟨?_, ?_, ?_, ?_⟩
        · rw [u2_row (by omega), u2_row (by omega), u2_row (by omega), u2_eq]
        · rw [u2_row (by omega), u2_row (by omega), u2_eq]
        · rw [u2_row (by omega), u2_eq]
        · rw [u2_eq]
      by_cases hql : q = qs.length - 1
      · rw [if_pos hql] at hq'
        have hQ := Option.some.inj hq'
        subst hQ
        subst hql
        refine ⟨by rw [show 3 + 1 = 4 from rfl, u2_eq]; simp, fun k P' hk => ?_⟩
        rcases app_get hk with hk | ⟨rfl, rfl⟩
        · have hkl := (List.getElem?_eq_some_iff.mp hk).1
          obtain ⟨e1, e2, e3, e4⟩ := rows (4 * (qs.length - 1) + k) (by omega)
          rw [e1, e2, e3, e4]
          exact hr k P' hk
        · rw [hX]; exact rowX
      · rw [if_neg hql] at hq'
        obtain ⟨p1, p2⟩ := c q Q hq'
        have hq8 := (List.getElem?_eq_some_iff.mp hq').1
        refine ⟨by rw [show 3 + 1 = 4 from rfl, u2_ne (Or.inr hql), f1 4 (by omega) (by omega) (by omega) (by omega)]; exact p1, fun k P' hk => ?_⟩
        have hkl := (List.getElem?_eq_some_iff.mp hk).1
        have hQ4 := hBq Q (List.mem_of_getElem? hq')
        obtain ⟨e1, e2, e3, e4⟩ := rows (4 * q + k) (by omega)
        rw [e1, e2, e3, e4]
        exact p2 k P' hk
    · rw [u2_row (by omega), f1 _ (by omega) (by omega) (by omega) (by omega)]; exact d i c' hi
end CI3
