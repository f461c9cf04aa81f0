/-! ===== shortest(), more(), many(): the reference's, over the whole state ===== -/
theorem okHS_all {hs : HS} (h : okHS hs) : ∀ u ∈ aws hs.1, u ∈ Wo hs := fun u hu => mem_gatW okL_nil h.1.allw u (Or.inr hu)
theorem okHS_Q {hs : HS} (h : okHS hs) {q : Nat} {Q : List Pt} (hq : hs.1[q]? = some Q) : okQ Q := by
  have hm := List.mem_of_getElem? hq
  exact ⟨(h.1.2.2.1 Q hm).1, (h.1.2.2.1 Q hm).2, h.2.2 Q hm⟩
section RS2
variable {w : Wd} {hs : HS} {hi : List HS} {im : Nat → Option HS} {tx : List Nat} {ns : List (List Nat)}
theorem MI_th (h : MI w hs hi im tx ns) : MI (u2 w.1 33 0 0, w.2) hs hi im tx ns ∧ frM w (u2 w.1 33 0 0, w.2) :=
  ⟨MI_own h rfl (fun k hk => u2_ne (Or.inr (by omega))) (fun x a b c => u2_row (by omega)), rfl, fun x hx => ⟨u2_row (by omega), rfl⟩⟩
theorem takesM_ok (h : MI w hs hi im tx ns) (hok : okHS hs) {q : Nat} {Q : List Pt} (hq : hs.1[q]? = some Q) : ∃ I1, m_X8_takes 33 (nI q) w = some ((), (I1, w.2)) ∧ RSys 33 q I1 (sgR Q ns) (dnR Q) (160 * ns.length) ∧ (∀ k, (k < 22 ∨ 27 < k) → I1 33 k = w.1 33 k) ∧ ∀ x, x ≠ 33 → I1 x = w.1 x := by
  obtain ⟨h1, h2, h3, h4, h5, h6, h7⟩ := h
  have hQ := okHS_Q hok hq
  obtain ⟨I1, e, hP, hG, hF⟩ := takes_ok (I := w.1) h1 hok.1 h2 h3 (okHS_all hok) hq hQ.2.2
  refine ⟨I1, e, ?_, hG, hF⟩
  exact rsys_ok h1 hok.1 (by rw [hF _ (by omega)]; exact h2) (h3.kept (hG 15 (by omega)) (hG 17 (by omega)) (fun j a b => hF _ (by omega))) (okHS_all hok) hq hQ hP
theorem rend_ok (h : MI w hs hi im tx ns) {I1 : Nat → Nat → Int32} {J' : Nat → Nat → Int64} {v : Int32} (hG : ∀ k, (k < 22 ∨ 27 < k) → I1 33 k = w.1 33 k) (hF : ∀ x, x ≠ 33 → I1 x = w.1 x) (hJ : FrJR 33 w.2.1 J') : MI (u2 I1 33 30 v, (J', w.2.2)) hs hi im tx ns ∧ frM w (u2 I1 33 30 v, (J', w.2.2)) := by
  refine ⟨MI_own h rfl (fun k hk => ?_) (fun x a b c => ?_), rfl, fun x hx => ⟨?_, hJ x (by omega) (by omega)⟩⟩
  · show u2 I1 33 30 v 33 k = _
    rw [u2_ne (Or.inr (by omega)), hG k (by omega)]
  · show u2 I1 33 30 v x = _
    rw [u2_row (by omega), hF x (by omega)]
  · show u2 I1 33 30 v x = _
    rw [u2_row (by omega), hF x (by omega)]
theorem frM.trans {w w1 w2 : Wd} (h : frM w w1) (h2 : frM w1 w2) : frM w w2 := ⟨h2.1.trans h.1, fun x hx => ⟨(h2.2 x hx).1.trans (h.2 x hx).1, (h2.2 x hx).2.trans (h.2 x hx).2⟩⟩
theorem rshortest_ok (h : MI w hs hi im tx ns) (hok : okHS hs) (x y : Int32) : ∃ r w', m_X8_shortest 33 x y w = some (r, w') ∧ ShA hs x y r ∧ MI w' hs hi im tx ns ∧ frM w w' := by
  obtain ⟨h0, f0⟩ := MI_th h
  have hM := h.1
  unfold m_X8_shortest ShA
  rw [mb_sI hM.o, mb_vc (w := (u2 w.1 33 0 0, w.2)) hM.o, mb_call (isQuery_ok (I := u2 w.1 33 0 0) hM hok.1 h0.2.1 x)]
  rcases qAt_cases hs x with ⟨e, hx⟩ | ⟨q, Q, hQ, hn, rfl, e⟩
  · rw [e, if_pos (show bI (none : Option (Nat × List Pt)).isSome = 0 from rfl)]
    exact ⟨-1, _, rfl, rfl, h0, f0⟩
  rw [e, if_neg (show ¬ bI (some (q, Q)).isSome = 0 from (by decide : ¬ bI true = 0))]
  dsimp only
  by_cases hy : -1 ≤ y
  · rw [if_pos hy]
    have hQo := okHS_Q hok hQ
    obtain ⟨I1, e1, hS, hG, hF⟩ := takesM_ok h0 hok hQ
    have hN := h.2.2.1.1
    obtain ⟨v, J', o, r, hJ, hO, e2⟩ := nearest_ok hM hS (I := I1) ⟨fun _ _ => rfl, fun _ _ => rfl⟩ (sgR_nil hN)
    obtain ⟨h2, f2⟩ := rend_ok h0 (v := v) hG hF hJ
    have hfr := f0.trans f2
    rw [mb_vc (w := (u2 w.1 33 0 0, w.2)) hM.o, mb_call e1, mb_vc (w := (I1, w.2)) hM.o, mb_call (show m_X8_begins 33 (I1, w.2) = some (nI 9, (I1, w.2)) from rfl), mb_vc (w := (I1, w.2)) hM.o, mb_call e2]
    cases o with
    | none =>
      obtain ⟨hb, rfl⟩ := hO
      rw [if_pos rfl]
      refine ⟨-9, _, rfl, ?_, h2, hfr⟩
      rw [if_pos hy]
      exact ⟨none, BR_cong (fun u _ => racc_ok hQo u) hb, rfl⟩
    | some u =>
      obtain ⟨⟨hb, s, hs', rfl, hch⟩, h30⟩ := hO
      have hBR := BR_cong (fun u _ => racc_ok hQo u) hb
      have hu60 := hBR.2.1
      have hsN := hS.2.2.1 u s hBR.1 hs'
      have h97 := hS.1
      rw [if_neg (nI_nm9 (by omega))]
      by_cases hy1 : y = -1
      · rw [if_pos hy1]
        unfold m_X8_shortest_J57
        rw [if_pos hy1, mb_gI (w := (u2 I1 33 30 v, (J', w.2.2))) hM.o]
        refine ⟨_, _, rfl, ?_, h2, hfr⟩
        rw [if_pos hy]
        refine ⟨some u, hBR, ?_⟩
        show u2 I1 33 30 v 33 30 = (if y = -1 then nI u.length else _)
        rw [if_pos hy1, h30]
      · rw [if_neg hy1, mb_gI (w := (u2 I1 33 30 v, (J', w.2.2))) hM.o]
        simp only [h30]
        obtain ⟨k, hk, rfl⟩ := i32_nn (m1_cases hy hy1)
        have hgoal : ∀ r, r = shAns (some u) (nI k) → (if -1 ≤ nI k then ∃ o, BR (accQ Q) o ∧ r = shAns o (nI k) else r = -1) := fun r hr => by rw [if_pos hy]; exact ⟨some u, hBR, hr⟩
        have hans : shAns (some u) (nI k) = match lAt u.reverse (nI k) with
          | none => -9
          | some c => nI (97 + c) := by
          show (if nI k = -1 then _ else _) = _
          rw [if_neg hy1]
          rfl
        have hlat : lAt u.reverse (nI k) = u.reverse[k]? := by unfold lAt; rw [if_neg (nI_pos hk), nI_clamp hk]
        by_cases hku : u.length ≤ k
        · rw [if_neg (nI_nlt hku hk)]
          unfold m_X8_shortest_J57
          rw [if_neg hy1]
          refine ⟨-9, _, rfl, hgoal _ ?_, h2, hfr⟩
          rw [hans, hlat, List.getElem?_eq_none (by simp; omega)]
        · rw [if_pos (nI_lt (by omega) (by omega)), mb_gI (w := (u2 I1 33 30 v, (J', w.2.2))) hM.o]
          simp only [h30]
          rw [mb_mp, show nI u.length - 1 = nI (u.length - 1) from nI_sub (b := 1) (by omega)]
          rw [rrow_ok (z := (J', w.2.2)) (I := u2 I1 33 30 v) hM hS.2.2.1 hS.1 u s hBR.1 hu60 hs' hch (by omega) FU (by unfold FU; omega)]
          refine ⟨_, _, rfl, hgoal _ ?_, h2, hfr⟩
          rw [hans, hlat, List.getElem?_reverse (by omega), List.getD_eq_getElem?_getD, List.getElem?_eq_getElem (show u.length - 1 - k < u.length by omega)]
          rfl
  · rw [if_neg hy]
    refine ⟨-1, _, rfl, ?_, h0, f0⟩
    rw [if_neg hy]
theorem rmore_ok (h : MI w hs hi im tx ns) (hok : okHS hs) (x : Int32) : ∃ r w', m_X8_more 33 x w = some (r, w') ∧ MoA hs x r ∧ MI w' hs hi im tx ns ∧ frM w w' := by
  obtain ⟨h0, f0⟩ := MI_th h
  have hM := h.1
  have hB := hok.1
  have h40 := hB.2.1
  unfold m_X8_more MoA
  rw [mb_sI hM.o, mb_vc (w := (u2 w.1 33 0 0, w.2)) hM.o, mb_call (isQuery_ok (I := u2 w.1 33 0 0) hM hok.1 h0.2.1 x)]
  rcases qAt_cases hs x with ⟨e, hx⟩ | ⟨q, Q, hQ, hn, rfl, e⟩
  · rw [e, if_pos (show bI (none : Option (Nat × List Pt)).isSome = 0 from rfl)]
    exact ⟨-1, _, rfl, rfl, h0, f0⟩
  rw [e, if_neg (show ¬ bI (some (q, Q)).isSome = 0 from (by decide : ¬ bI true = 0))]
  have hQo := okHS_Q hok hQ
  obtain ⟨I1, e1, hS, hG, hF⟩ := takesM_ok h0 hok hQ
  obtain ⟨hN, hSy, hb, hstep, hdone⟩ := id hS
  have hNS := h.2.2.1.1
  have hR1 : RR (I1 (33 + 2)) hs := by rw [hF _ (by omega)]; exact h0.2.1
  have hfr1 : MI (I1, w.2) hs hi im tx ns ∧ frM w (I1, w.2) := by
    refine ⟨MI_own h0 rfl (fun k hk => hG k (by omega)) (fun x a b c => hF x (by omega)), f0.trans ⟨rfl, fun x hx => ⟨hF x (by omega), rfl⟩⟩⟩
  have hdead : ∀ n i, i + n = hs.2.length → sgR Q ns (hs.2.take i).reverse = none → sgR Q ns hs.2.reverse = none := by
    intro n
    induction n with
    | zero => intro i hi h; rw [List.take_of_length_le (by omega)] at h; exact h
    | succ n ih =>
      intro i hi h
      have hc := List.getElem?_eq_getElem (show i < hs.2.length by omega)
      refine ih (i + 1) (by omega) ?_
      rw [take_rev hc]
      exact hSy.2 _ _ h
  have hgen : ∀ n i, i + n = hs.2.length → ∀ f, n < f → lp (fun k (s1 : Int32 × Int32) => m_X8_more_B27 33 (nI q) k s1.1 s1.2) f (encR (sgR Q ns (hs.2.take i).reverse), nI i) (I1, w.2) = m_X8_more_J64 33 (nI q) (encR (sgR Q ns hs.2.reverse)) (I1, w.2) := by
    intro n
    induction n with
    | zero =>
      intro i hi f hf
      obtain ⟨g, rfl⟩ : ∃ g, f = g + 1 := ⟨f - 1, by omega⟩
      rw [lp_s]
      unfold m_X8_more_B27
      rw [mb_gR (w := (I1, w.2)) hM.o hM.rNow, mb_aI1 (w := (I1, w.2)) hM.sNow (by omega) (by omega)]
      simp only [hR1.2.1]
      rw [if_pos (nI_le (by omega) (by omega)), List.take_of_length_le (by omega)]
    | succ n ih =>
      intro i hi f hf
      obtain ⟨g, rfl⟩ : ∃ g, f = g + 1 := ⟨f - 1, by omega⟩
      have hil : i < hs.2.length := by omega
      have hc := List.getElem?_eq_getElem hil
      have hc8 := hB.2.2.2 _ (List.getElem_mem hil)
      generalize hs.2[i] = c at hc hc8
      rw [lp_s]
      have ih := ih (i + 1) (by omega) g (by omega)
      generalize lp (fun k (s1 : Int32 × Int32) => m_X8_more_B27 33 (nI q) k s1.1 s1.2) g = kk at ih
      show m_X8_more_B27 33 (nI q) kk (encR (sgR Q ns (hs.2.take i).reverse)) (nI i) (I1, w.2) = _
      unfold m_X8_more_B27
      rw [mb_gR (w := (I1, w.2)) hM.o hM.rNow, mb_aI1 (w := (I1, w.2)) hM.sNow (by omega) (by omega)]
      simp only [hR1.2.1]
      rw [if_neg (nI_ge hil (by omega))]
      have h8 : ok8 (hs.2.take i).reverse := ok8_rev (fun c hc => hB.2.2.2 c (List.mem_of_mem_take hc))
      cases hs' : sgR Q ns (hs.2.take i).reverse with
      | none =>
        rw [show encR none = -9 from rfl, if_pos rfl, hdead (n + 1) i hi hs']
        rfl
      | some s =>
        have := hb _ s h8 hs'
        rw [show encR (some s) = nI s from rfl, if_neg (nI_nm9 (by omega)), mb_gR (w := (I1, w.2)) hM.o hM.rNow, show (2 : Int32) + nI i = nI (2 + i) from nI_add 2 i, mb_aI (w := (I1, w.2)) hM.sNow (show 2 + i < 178 by omega) (by omega)]
        simp only [hR1.2.2.1 i c hc]
        rw [mb_vc (w := (I1, w.2)) hM.o, mb_call (hstep w.2 I1 hM ⟨fun _ _ => rfl, fun _ _ => rfl⟩ _ s c h8 hs' hc8), nI_1, ← take_rev hc]
        exact ih
  have hgo := hgen hs.2.length 0 (by omega) FU (by unfold FU; omega)
  rw [show (hs.2.take 0).reverse = [] from rfl, sgR_nil hNS] at hgo
  have hrl : ok8 hs.2.reverse := ok8_rev hB.2.2.2
  rw [mb_vc (w := (u2 w.1 33 0 0, w.2)) hM.o, mb_call e1, mb_vc (w := (I1, w.2)) hM.o, mb_call (show m_X8_begins 33 (I1, w.2) = some (nI 9, (I1, w.2)) from rfl)]
  rw [show lp (fun k (s1 : Int32 × Int32) => m_X8_more_B27 33 (nI q) k s1.1 s1.2) FU (nI 9, 0) (I1, w.2) = m_X8_more_J64 33 (nI q) (encR (sgR Q ns hs.2.reverse)) (I1, w.2) from hgo]
  unfold m_X8_more_J64
  cases hst : sgR Q ns hs.2.reverse with
  | none =>
    rw [show encR none = -9 from rfl, if_pos rfl]
    refine ⟨-9, _, rfl, ⟨none, fun u hu hl => ?_, rfl⟩, hfr1.1, hfr1.2⟩
    have ha : alv Q hs.2.reverse = false := by
      cases hh : alv Q hs.2.reverse
      · rfl
      · unfold sgR at hst; rw [hh, if_pos rfl] at hst; cases hst
    show accQ Q (u ++ hs.2.reverse) = false
    unfold accQ
    rw [alv_app ha u]; rfl
  | some s0 =>
    have hsN := hb _ s0 hrl hst
    rw [show encR (some s0) = nI s0 from rfl, if_neg (nI_nm9 (by omega))]
    obtain ⟨v, J', o, r, hJ, hO, e2⟩ := nearest_ok hM (RSys_shift hS hrl) (I := I1) ⟨fun _ _ => rfl, fun _ _ => rfl⟩ (s0 := s0) hst
    obtain ⟨h2, f2⟩ := rend_ok h0 (v := v) hG hF hJ
    have hac : ∀ u, acc (fun t => sgR Q ns (t ++ hs.2.reverse)) (dnR Q) u = accQ Q (u ++ hs.2.reverse) := fun u => racc_ok (ns := ns) hQo (u ++ hs.2.reverse)
    rw [mb_vc (w := (I1, w.2)) hM.o, mb_call e2]
    cases o with
    | none =>
      obtain ⟨hb', rfl⟩ := hO
      rw [if_pos rfl]
      exact ⟨-9, _, rfl, ⟨none, BR_cong (fun u _ => hac u) hb', rfl⟩, h2, f0.trans f2⟩
    | some u =>
      obtain ⟨⟨hb', s, hs', rfl, hch⟩, h30⟩ := hO
      have hsN' := hb (u ++ hs.2.reverse) s (ok8_app hb'.1 hrl) hs'
      rw [if_neg (nI_nm9 (by omega)), mb_gI (w := (u2 I1 33 30 v, (J', w.2.2))) hM.o]
      refine ⟨_, _, rfl, ⟨some u, BR_cong (fun u _ => hac u) hb', ?_⟩, h2, f0.trans f2⟩
      show u2 I1 33 30 v 33 30 = nI u.length
      exact h30
theorem rmany_ok (h : MI w hs hi im tx ns) (hok : okHS hs) (x y : Int32) : ∃ w', m_X8_many 33 x y w = some (maAns hs x y, w') ∧ MI w' hs hi im tx ns ∧ frM w w' := by
  obtain ⟨h0, f0⟩ := MI_th h
  have hM := h.1
  unfold m_X8_many maAns m_X8_many_J25
  rw [mb_sI hM.o, mb_vc (w := (u2 w.1 33 0 0, w.2)) hM.o, mb_call (isQuery_ok (I := u2 w.1 33 0 0) hM hok.1 h0.2.1 x)]
  rcases qAt_cases hs x with ⟨e, hx⟩ | ⟨q, Q, hQ, hn, rfl, e⟩
  · rw [e, if_pos (show bI (none : Option (Nat × List Pt)).isSome = 0 from rfl)]
    exact ⟨_, rfl, h0, f0⟩
  rw [e, if_neg (show ¬ bI (some (q, Q)).isSome = 0 from (by decide : ¬ bI true = 0))]
  dsimp only
  rw [mb_call (in_ok _ _ _ _), Int32.toInt_toInt64, show (0 : Int64).toInt = 0 by decide, show (12 : Int64).toInt = 12 by decide]
  by_cases hy0 : y < 0
  · have := Int32.lt_iff_toInt_lt.mp hy0
    rw [show (0 : Int32).toInt = 0 by decide] at this
    rw [if_pos hy0, show decide (0 ≤ y.toInt ∧ y.toInt ≤ 12) = false by rw [decide_eq_false_iff_not]; omega, if_pos (show bI false = 0 from rfl)]
    exact ⟨_, rfl, h0, f0⟩
  rw [if_neg hy0]
  obtain ⟨n, hn2, rfl⟩ := i32_nn hy0
  rw [nI_toInt hn2]
  by_cases hy12 : nI n ≤ 12
  · have hn12 : n ≤ 12 := (nI_leI (b := 12) hn2 (by omega)).mp hy12
    rw [if_pos hy12, nI_clamp hn2, show decide (0 ≤ (n : Int) ∧ (n : Int) ≤ 12) = true by rw [decide_eq_true_iff]; omega, if_neg (show ¬ bI true = 0 by decide)]
    have hQo := okHS_Q hok hQ
    obtain ⟨I1, e1, hS, hG, hF⟩ := takesM_ok h0 hok hQ
    have hX := h0.2.2.1
    have h17 : I1 33 17 = nI ns.length := by
      rw [hG 17 (by omega)]
      have := hX.2.2.2.2.2.1.1
      rwa [List.length_map] at this
    obtain ⟨J, hJ, e2⟩ := manyR_ok hM hS (I := I1) ⟨fun _ _ => rfl, fun _ _ => rfl⟩ h17 rfl hX.2.2.2.1 (sgR_nil h.2.2.1.1) hn12
    rw [mb_vc (w := (u2 w.1 33 0 0, w.2)) hM.o, mb_call e1, e2, cS_cong (fun t _ _ => racc_ok (ns := ns) hQo t)]
    refine ⟨_, rfl, MI_own h0 rfl (fun k hk => hG k (by omega)) (fun x a b c => hF x (by omega)), f0.trans ⟨rfl, fun x hx => ⟨hF x (by omega), hJ x (by omega) (by omega)⟩⟩⟩
  · have hn12 : ¬ n ≤ 12 := fun h => hy12 (nI_le (b := 12) h (by omega))
    rw [if_neg hy12, show decide (0 ≤ (n : Int) ∧ (n : Int) ≤ 12) = false by rw [decide_eq_false_iff_not]; omega, if_pos (show bI false = 0 from rfl)]
    exact ⟨_, rfl, h0, f0⟩
end RS2
