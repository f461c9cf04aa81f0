/-! ===== the reference's readItem() ===== -/
section RIT3
variable {z : Zd} {I : Nat → Nat → Int32} {tx : List Nat} {n0 : Nat} {qs : List (List Pt)} {ls : List Nat} {p : Nat}
theorem rJ116_ok (h : SR0 z I tx n0 qs ls (tkE tx p)) (hT : TokR I tx p) (s : Nat) (hs : s < 3) : ResR z I tx n0 ls (if s = 2 then nrt tx n0 qs p else prt tx n0 qs p s) (m_X8_readItem_J116 33 (nI s) (I, z)) := by
  obtain ⟨h1, h2, h3, h4, h5, h6, h7⟩ := id h
  have hM := h1.1
  have h8 : qs.length ≤ 8 := h4.1.1
  have hl4 := okHS_4 h4
  have hq0 : I 36 0 = nI qs.length := h3.1
  have hbd : ResR z I tx n0 ls (bad (tkB tx p)) (rZ 0 (I, z)) := ⟨I, FrR.refl I, Or.inl ⟨_, rfl, rfl, hT.2.1⟩⟩
  have hnm : ¬ mayP n0 qs → (if s = 2 then nrt tx n0 qs p else prt tx n0 qs p s) = bad (tkB tx p) := fun hh => by
    by_cases hs2 : s = 2
    · rw [if_pos hs2]; unfold nrt; rw [iff_f (fun hx => hh hx.1)]
    · rw [if_neg hs2]; unfold prt; rw [iff_f hh]
  have hpass : ∀ r, ResR z I tx n0 ls r (m_X8_readPart 33 (nI s) (I, z)) → ResR z I tx n0 ls r (m_X8_readItem_J174 33 (nI s) (I, z)) := by
    intro r hr
    unfold m_X8_readItem_J174
    rw [mb_vc (w := (I, z)) hM.o]
    obtain ⟨I', f, hc⟩ := hr
    refine ⟨I', f, ?_⟩
    rcases hc with ⟨g, e1, e2, e3⟩ | ⟨qs', p', e1, e2, e3⟩
    · exact Or.inl ⟨g, e1, by rw [mb_call e2, if_pos rfl]; rfl, e3⟩
    · exact Or.inr ⟨qs', p', e1, by rw [mb_call e2, if_neg (show ¬ (1 : Int32) = 0 by decide)]; rfl, e3⟩
  unfold m_X8_readItem_J116
  rw [if_neg (show ¬ nI s = -9 from fun e => by
    have := congrArg Int32.toInt e
    rw [nI_toInt (by omega), show (-9 : Int32).toInt = -9 by decide] at this
    omega), mb_gR (w := (I, z)) hM.o hM.rFresh, show aI (33 + 3) 0 = aI 36 (nI 0) from rfl, mb_aI (w := (I, z)) hM.sFresh (show 0 < 178 by omega) (by omega)]
  simp only [hq0]
  rw [mb_gR (w := (I, z)) hM.o hM.rNow, show aI (33 + 2) 0 = aI 35 (nI 0) from rfl, mb_aI (w := (I, z)) hM.sNow (show 0 < 178 by omega) (by omega)]
  simp only [h6]
  by_cases he : qs.length = n0
  · rw [if_pos (show nI qs.length = nI n0 by rw [he]), hnm (fun hh => by have := hh.1; omega)]
    exact hbd
  rw [if_neg (fun e => he ((nI_eq (by omega) (by omega)).mp e)), mb_gR (w := (I, z)) hM.o hM.rFresh, show aI (33 + 3) 0 = aI 36 (nI 0) from rfl, mb_aI (w := (I, z)) hM.sFresh (show 0 < 178 by omega) (by omega)]
  simp only [hq0]
  rw [mb_mp, show nI qs.length - 1 = nI (qs.length - 1) from nI_sub (b := 1) (by omega), mb_gR (w := (I, z)) hM.o hM.rFresh, mb_call (parts_ok (w := (I, z)) (r := 36) hM.sFresh (show qs.length - 1 < 8 by omega))]
  simp only [rlast h3 (show 0 < qs.length by omega)]
  by_cases h4l : 4 ≤ (lastQ qs).length
  · rw [if_pos (show (4 : Int32) ≤ nI (lastQ qs).length from nI_le (a := 4) h4l (by omega)), hnm (fun hh => by have := hh.2; omega)]
    exact hbd
  rw [if_neg (show ¬ (4 : Int32) ≤ nI (lastQ qs).length from nI_ge (b := 4) (by omega) (by omega))]
  have hm : mayP n0 qs := ⟨by omega, by omega⟩
  by_cases hs2 : s = 2
  · rw [if_pos hs2, if_pos (show nI s = 2 by rw [hs2]; rfl), mb_vc (w := (I, z)) hM.o, mb_call (hasNear_ok h (by omega))]
    unfold nrt
    cases han : anyN (lastQ qs)
    · rw [if_pos (show bI false = 0 from rfl), iff_t ⟨hm, rfl⟩]
      subst hs2
      exact hpass _ (rnear_ok h hm han)
    · rw [if_neg (show ¬ bI true = 0 by decide), iff_f (fun hh => by cases hh.2)]
      exact hbd
  · rw [if_neg hs2, if_neg (show ¬ nI s = 2 from fun e => hs2 ((nI_eq (b := 2) (by omega) (by omega)).mp e))]
    unfold prt
    rw [iff_t hm]
    exact hpass _ (rpartS_ok h hm s (by omega))
theorem rclear_ok (h : SR0 z I tx n0 qs ls p) (hlt : qs.length < 8) : ∃ I', lp (fun k s => m_X8_readItem_B31 33 k s) FU 0 (I, z) = some (1, (I', z)) ∧ SR0 z I' tx n0 (qs ++ [[]]) ls p ∧ FrR I I' := by
  obtain ⟨h1, h2, h3, h4, h5, h6, h7⟩ := id h
  have hM := h1.1
  have hq0 : I 36 0 = nI qs.length := h3.1
  obtain ⟨s, x, k, ⟨rfl, J, rfl, j1, j2, jx⟩, e⟩ := lp_FUi (F := fun k s => m_X8_readItem_B31 33 k s) (fun i s x => s = nI i ∧ ∃ J, x = (J, z) ∧ (∀ k, (k < 42 + 17 * qs.length ∨ 42 + 17 * qs.length + i ≤ k) → J 36 k = I 36 k) ∧ (∀ k, 42 + 17 * qs.length ≤ k → k < 42 + 17 * qs.length + i → J 36 k = 0) ∧ ∀ x, x ≠ 36 → J x = I x) 17 (by omega) (by
    intro i hi s x hP
    obtain ⟨rfl, J, rfl, j1, j2, jx⟩ := hP
    have hJ0 : J 36 0 = nI qs.length := by rw [j1 0 (by omega)]; exact hq0
    refine ⟨nI (i + 1), (u2 J 36 (42 + 17 * qs.length + i) 0, z), ⟨rfl, _, rfl, fun k hk => by rw [u2_ne (Or.inr (by omega)), j1 k (by omega)], fun k a b => ?_, fun x hx => by rw [u2_row hx, jx x hx]⟩, fun k => ?_⟩
    · by_cases hk : k = 42 + 17 * qs.length + i
      · rw [hk, u2_eq]
      · rw [u2_ne (Or.inr hk)]; exact j2 k a (by omega)
    · unfold m_X8_readItem_B31
      rw [if_neg (show ¬ (17 : Int32) ≤ nI i from nI_ge (b := 17) hi (by omega)), mb_gR (w := (J, z)) hM.o hM.rFresh, mb_gR (w := (J, z)) hM.o hM.rFresh, show aI (33 + 3) 0 = aI 36 (nI 0) from rfl, mb_aI (w := (J, z)) hM.sFresh (show 0 < 178 by omega) (by omega)]
      simp only [hJ0]
      rw [show (42 : Int32) + 17 * nI qs.length + nI i = nI (42 + 17 * qs.length + i) by rw [show (17 : Int32) = nI 17 from rfl, show (42 : Int32) = nI 42 from rfl, pk_mul, nI_add, nI_add], mb_tI (w := (J, z)) hM.sFresh (show 42 + 17 * qs.length + i < 178 by omega) (by omega), nI_1]) (s := 0) (w := (I, z)) ⟨rfl, I, rfl, fun _ _ => rfl, fun k a b => by omega, fun _ _ => rfl⟩
  have hJ0 : J 36 0 = nI qs.length := by rw [j1 0 (by omega)]; exact hq0
  refine ⟨u2 J 36 0 (nI (qs.length + 1)), ?_, ⟨h1.kept (by rw [u2_row (by omega), jx 33 (by omega)]) (by rw [u2_row (by omega), jx 34 (by omega)]), ⟨by rw [u2_row (by omega), jx 33 (by omega)]; exact h2.1, h2.2⟩, RR_newQ h4.1 h3 (fun k a b => ?_) (u2_eq _ _ _ _) ?_, okHS_newQ h4 hlt, ?_, by rw [u2_row (by omega), jx 35 (by omega)]; exact h6, by rw [List.length_append]; simp; omega⟩, fun k a b => by rw [u2_row (by omega), jx 33 (by omega)], fun x a b c => by rw [u2_row b, jx x b]⟩
  · rw [e]
    unfold m_X8_readItem_B31
    rw [if_pos (show (17 : Int32) ≤ nI 17 from nI_le (a := 17) (Nat.le_refl _) (by omega)), mb_gR (w := (J, z)) hM.o hM.rFresh, show aI (33 + 3) 0 = aI 36 (nI 0) from rfl, mb_aI (w := (J, z)) hM.sFresh (show 0 < 178 by omega) (by omega)]
    simp only [hJ0]
    rw [nI_1, show tI (33 + 3) 0 = tI 36 (nI 0) from rfl, mb_tI (w := (J, z)) hM.sFresh (show 0 < 178 by omega) (by omega)]
    rfl
  · rw [u2_ne (Or.inr a), j1 k (by omega)]
  · rw [u2_ne (Or.inr (by omega)), j2 _ (by omega) (by omega)]
  · unfold RW Wq
    rw [aws_newQ, u2_row (by omega), u2_row (by omega), jx 33 (by omega), jx (33 + 7) (by omega)]
    exact h5
theorem ritem_ok (h : SR0 z I tx n0 qs ls (tkE tx p)) (hT : TokR I tx p) : ResR z I tx n0 ls (itm tx n0 qs p) (m_X8_readItem 33 (I, z)) := by
  obtain ⟨h1, h2, h3, h4, h5, h6, h7⟩ := id h
  have hM := h1.1
  have h8 : qs.length ≤ 8 := h4.1.1
  have hq0 : I 36 0 = nI qs.length := h3.1
  have hbd : ResR z I tx n0 ls (bad (tkB tx p)) (rZ 0 (I, z)) := ⟨I, FrR.refl I, Or.inl ⟨_, rfl, rfl, hT.2.1⟩⟩
  unfold m_X8_readItem itm
  rw [mb_vc (w := (I, z)) hM.o, mb_call (show m_X8_isName 33 113 (I, z) = _ from isName_ok h1 hT 113 (by omega))]
  by_cases hn : tkK tx p = 1 ∧ tkE tx p = tkB tx p + 1
  · rw [iff_t hn]
    by_cases c113 : tx[tkB tx p]? = some 113
    · rw [if_pos c113, decide_eq_true ⟨hn, c113⟩, if_neg (show ¬ bI true = 0 by decide), mb_vc (w := (I, z)) hM.o, mb_call (isWhole_ok h)]
      by_cases hl : n0 < qs.length ∧ (lastQ qs).length = 0
      · rw [decide_eq_false (fun hh => hh hl), if_pos (show bI false = 0 from rfl), iff_t (Or.inl hl)]
        exact hbd
      · rw [decide_eq_true hl, if_neg (show ¬ bI true = 0 by decide), mb_gR (w := (I, z)) hM.o hM.rFresh, show aI (33 + 3) 0 = aI 36 (nI 0) from rfl, mb_aI (w := (I, z)) hM.sFresh (show 0 < 178 by omega) (by omega)]
        simp only [hq0]
        by_cases h8e : qs.length = 8
        · rw [if_pos (show nI qs.length = 8 by rw [h8e]; rfl), iff_t (Or.inr (by omega))]
          exact hbd
        · rw [if_neg (show ¬ nI qs.length = 8 from fun e => h8e ((nI_eq (b := 8) (by omega) (by omega)).mp e)), iff_f (fun hh => hh.elim hl (by omega))]
          obtain ⟨I', e, hS, f⟩ := rclear_ok h (by omega)
          exact ⟨I', f, Or.inr ⟨_, _, rfl, e, hS⟩⟩
    · rw [if_neg c113, decide_eq_false (fun hh => c113 hh.2), if_pos (show bI false = 0 from rfl), mb_vc (w := (I, z)) hM.o, mb_call (show m_X8_isName 33 104 (I, z) = _ from isName_ok h1 hT 104 (by omega))]
      by_cases c104 : tx[tkB tx p]? = some 104
      · rw [if_pos c104, decide_eq_true ⟨hn, c104⟩, if_neg (show ¬ bI true = 0 by decide)]
        exact rJ116_ok h hT 0 (by omega)
      · rw [if_neg c104, decide_eq_false (fun hh => c104 hh.2), if_pos (show bI false = 0 from rfl), mb_vc (w := (I, z)) hM.o, mb_call (show m_X8_isName 33 110 (I, z) = _ from isName_ok h1 hT 110 (by omega))]
        by_cases c110 : tx[tkB tx p]? = some 110
        · rw [if_pos c110, decide_eq_true ⟨hn, c110⟩, if_neg (show ¬ bI true = 0 by decide)]
          exact rJ116_ok h hT 1 (by omega)
        · rw [if_neg c110, decide_eq_false (fun hh => c110 hh.2), if_pos (show bI false = 0 from rfl), mb_vc (w := (I, z)) hM.o, mb_call (show m_X8_isName 33 112 (I, z) = _ from isName_ok h1 hT 112 (by omega))]
          by_cases c112 : tx[tkB tx p]? = some 112
          · rw [if_pos c112, decide_eq_true ⟨hn, c112⟩, if_neg (show ¬ bI true = 0 by decide)]
            exact rJ116_ok h hT 2 (by omega)
          · rw [if_neg c112, decide_eq_false (fun hh => c112 hh.2), if_pos (show bI false = 0 from rfl)]
            exact hbd
  · rw [iff_f hn, decide_eq_false (fun hh => hn hh.1), if_pos (show bI false = 0 from rfl), mb_vc (w := (I, z)) hM.o, mb_call (show m_X8_isName 33 104 (I, z) = _ from isName_ok h1 hT 104 (by omega)), decide_eq_false (fun hh => hn hh.1), if_pos (show bI false = 0 from rfl), mb_vc (w := (I, z)) hM.o, mb_call (show m_X8_isName 33 110 (I, z) = _ from isName_ok h1 hT 110 (by omega)), decide_eq_false (fun hh => hn hh.1), if_pos (show bI false = 0 from rfl), mb_vc (w := (I, z)) hM.o, mb_call (show m_X8_isName 33 112 (I, z) = _ from isName_ok h1 hT 112 (by omega)), decide_eq_false (fun hh => hn hh.1), if_pos (show bI false = 0 from rfl)]
    exact hbd
end RIT3
