/-! ===== the reference's readItem() ===== -/
def SR0 (z : Zd) (I : Nat → Nat → Int32) (tx : List Nat) (n0 : Nat) (qs : List (List Pt)) (ls : List Nat) (p : Nat) : Prop := RT z I tx ∧ (I 33 3 = nI p ∧ p ≤ tx.length) ∧ RR (I 36) (qs, ls) ∧ okHS (qs, ls) ∧ RW I 33 (Wq qs) ∧ I 35 0 = nI n0 ∧ n0 ≤ qs.length
def FrR (I I' : Nat → Nat → Int32) : Prop := (∀ k, (k < 3 ∨ 7 < k) → k ≠ 15 → I' 33 k = I 33 k) ∧ ∀ x, x ≠ 33 → x ≠ 36 → x ≠ 40 → I' x = I x
theorem FrR.refl (I : Nat → Nat → Int32) : FrR I I := ⟨fun _ _ _ => rfl, fun _ _ _ _ => rfl⟩
theorem FrR.trans {I I1 I2 : Nat → Nat → Int32} (h : FrR I I1) (h2 : FrR I1 I2) : FrR I I2 := ⟨fun k a b => (h2.1 k a b).trans (h.1 k a b), fun x a b c => (h2.2 x a b c).trans (h.2 x a b c)⟩
def ResR (z : Zd) (I : Nat → Nat → Int32) (tx : List Nat) (n0 : Nat) (ls : List Nat) (r : Rs) (o : Option (Int32 × Wd)) : Prop := ∃ I', FrR I I' ∧ ((∃ f, r = bad f ∧ o = some (0, (I', z)) ∧ I' 33 4 = nI f) ∨ ∃ qs' p', r = stp tx qs' p' ∧ o = some (1, (I', z)) ∧ SR0 z I' tx n0 qs' ls p')
theorem rc_ne0 {u : List Nat} (h : okW u) : ¬ rcI u = 0 := by
  intro h0
  have := rcI_inj (v := []) h.2.2 (by simp) h.2.1 (by simp) (h0.trans (show (0 : Int32) = rcI [] by decide))
  rw [this] at h
  have := h.1
  simp at this
theorem RR_addP {f f' : Nat → Int32} {qs : List (List Pt)} {ls : List Nat} (hB : HB (qs, ls)) (h : RR f (qs, ls)) (h0 : 0 < qs.length) (h4 : (lastQ qs).length < 4) (P : Pt)
    (e : ∀ k, k ≠ 42 + 17 * (qs.length - 1) → (k < 43 + 17 * (qs.length - 1) + 4 * (lastQ qs).length ∨ 46 + 17 * (qs.length - 1) + 4 * (lastQ qs).length < k) → f' k = f k)
    (en : f' (42 + 17 * (qs.length - 1)) = nI ((lastQ qs).length + 1)) (e0 : f' (43 + 17 * (qs.length - 1) + 4 * (lastQ qs).length) = nI P.1) (e1 : f' (44 + 17 * (qs.length - 1) + 4 * (lastQ qs).length) = rcI P.2.1) (e2 : f' (45 + 17 * (qs.length - 1) + 4 * (lastQ qs).length) = rcI P.2.2.1) (e3 : f' (46 + 17 * (qs.length - 1) + 4 * (lastQ qs).length) = nI P.2.2.2) : RR f' (addP qs P, ls) := by
  obtain ⟨h1, h2, h3, h5⟩ := h
  have hl : ls.length ≤ 40 := hB.2.1
  have hlast := lastQ_get h0
  refine ⟨by show f' 0 = nI (addP qs P).length; rw [addP_len h0, e 0 (by omega) (by omega)]; exact h1, by rw [e 1 (by omega) (by omega)]; exact h2, fun i c hi => ?_, fun q Q hq => ?_⟩
  · have := (List.getElem?_eq_some_iff.mp hi).1
    have : i < ls.length := this
    rw [e _ (by omega) (by omega)]; exact h3 i c hi
  · have hq' : (addP qs P)[q]? = some Q := hq
    rw [addP_get h0] at hq'
    by_cases hqe : q = qs.length - 1
    · rw [if_pos hqe] at hq'
      have hQ := Option.some.inj hq'
      subst hqe
      rw [← hQ]
      refine ⟨by rw [en, List.length_append]; rfl, fun k P' hk => ?_⟩
      rcases app_get hk with hk' | ⟨hk1, hk2⟩
      · have hkl := (List.getElem?_eq_some_iff.mp hk').1
        rw [e _ (by omega) (by omega), e _ (by omega) (by omega), e _ (by omega) (by omega), e _ (by omega) (by omega)]
        exact (h5 _ _ hlast).2 k P' hk'
      · rw [hk1, hk2]; exact ⟨e0, e1, e2, e3⟩
    · rw [if_neg hqe] at hq'
      have hql := (List.getElem?_eq_some_iff.mp hq').1
      have hQ4 := (hB.2.2.1 Q (List.mem_of_getElem? hq')).1
      obtain ⟨a, b⟩ := h5 q Q hq'
      refine ⟨by rw [e _ (by omega) (by omega)]; exact a, fun k P' hk => ?_⟩
      have hk4 := (List.getElem?_eq_some_iff.mp hk).1
      rw [e _ (by omega) (by omega), e _ (by omega) (by omega), e _ (by omega) (by omega), e _ (by omega) (by omega)]
      exact b k P' hk
theorem RR_newQ {f f' : Nat → Int32} {qs : List (List Pt)} {ls : List Nat} (hB : HB (qs, ls)) (h : RR f (qs, ls)) (e : ∀ k, k ≠ 0 → (k < 42 + 17 * qs.length ∨ 59 + 17 * qs.length ≤ k) → f' k = f k) (e0 : f' 0 = nI (qs.length + 1)) (e1 : f' (42 + 17 * qs.length) = 0) : RR f' (qs ++ [[]], ls) := by
  obtain ⟨h1, h2, h3, h5⟩ := h
  have hl : ls.length ≤ 40 := hB.2.1
  refine ⟨by show f' 0 = nI (qs ++ [[]]).length; rw [List.length_append]; exact e0, by rw [e 1 (by omega) (by omega)]; exact h2, fun i c hi => ?_, fun q Q hq => ?_⟩
  · have : i < ls.length := (List.getElem?_eq_some_iff.mp hi).1
    rw [e _ (by omega) (by omega)]; exact h3 i c hi
  · rcases app_get hq with hq' | ⟨hq1, hq2⟩
    · have hql := (List.getElem?_eq_some_iff.mp hq').1
      have hQ4 := (hB.2.2.1 Q (List.mem_of_getElem? hq')).1
      obtain ⟨a, b⟩ := h5 q Q hq'
      refine ⟨by rw [e _ (by omega) (by omega)]; exact a, fun k P' hk => ?_⟩
      have hk4 := (List.getElem?_eq_some_iff.mp hk).1
      rw [e _ (by omega) (by omega), e _ (by omega) (by omega), e _ (by omega) (by omega), e _ (by omega) (by omega)]
      exact b k P' hk
    · rw [hq1, hq2]
      exact ⟨e1, fun k P' hk => by simp at hk⟩
section RIT
variable {z : Zd} {I : Nat → Nat → Int32} {tx : List Nat} {n0 : Nat} {qs : List (List Pt)} {ls : List Nat} {p : Nat}
theorem isName_ok (h : RT z I tx) (hT : TokR I tx p) (c : Nat) (hc : c < 256) : m_X8_isName 33 (nI c) (I, z) = some (bI (decide ((tkK tx p = 1 ∧ tkE tx p = tkB tx p + 1) ∧ tx[tkB tx p]? = some c)), (I, z)) := by
  obtain ⟨hM, t1, t2, t3, t4⟩ := h
  obtain ⟨b3, b4, b7, ⟨tok, v, s1, s2, s3, s4, s5⟩, hp⟩ := hT
  obtain ⟨l1, l2, l3, l4, l5⟩ := tkE_le tx hp
  unfold m_X8_isName
  rw [mb_gI (w := (I, z)) hM.o]
  simp only [s1]
  by_cases hk : tkK tx p = 1
  · have htok1 : tok = 1 := by rw [s3 (by omega)]; exact hk
    rw [if_pos (show nI tok = 1 by rw [htok1]; rfl), mb_gI (w := (I, z)) hM.o]
    simp only [b7]
    by_cases h1 : tkE tx p = tkB tx p + 1
    · rw [if_pos (show nI (tkE tx p - tkB tx p) = 1 by rw [h1, show tkB tx p + 1 - tkB tx p = 1 by omega]; rfl), mb_gI (w := (I, z)) hM.o]
      simp only [s4 hk]
      have hcc := List.getElem?_eq_getElem (show tkB tx p < tx.length by omega)
      have h256 := t4 _ (List.getElem_mem (show tkB tx p < tx.length by omega))
      generalize tx[tkB tx p]'(by omega) = d at hcc h256
      unfold btI
      rw [hcc]
      dsimp only
      by_cases hd : d = c
      · rw [if_pos (by rw [hd]), decide_eq_true ⟨⟨hk, h1⟩, by rw [hd]⟩]; rfl
      · rw [if_neg (fun e => hd ((nI_eq (by omega) (by omega)).mp e)), decide_eq_false (fun hh => hd (Option.some.inj hh.2))]; rfl
    · rw [if_neg (show ¬ nI (tkE tx p - tkB tx p) = 1 from fun e => h1 (by have := (nI_eq (b := 1) (by omega) (by omega)).mp e; omega)), decide_eq_false (fun hh => h1 hh.1.2)]; rfl
  · have htok1 : ¬ nI tok = 1 := by
      intro e
      have ht1 := (nI_eq (b := 1) (by omega) (by omega)).mp e
      by_cases hk2 : tkK tx p = 2
      · have := (s5 hk2).1; omega
      · have := s3 hk2; omega
    rw [if_neg htok1, decide_eq_false (fun hh => hk hh.1.1)]; rfl
theorem rlast (hR : RR (I 36) (qs, ls)) (h0 : 0 < qs.length) : I 36 (42 + 17 * (qs.length - 1)) = nI (lastQ qs).length := (hR.2.2.2 _ _ (lastQ_get h0)).1
theorem okHS_4 (h : okHS (qs, ls)) : (lastQ qs).length ≤ 4 := by
  by_cases h0 : 0 < qs.length
  · exact (h.1.2.2.1 _ (List.mem_of_getElem? (lastQ_get h0))).1
  · unfold lastQ; rw [List.getElem?_eq_none (by omega)]; simp
theorem isWhole_ok (h : SR0 z I tx n0 qs ls p) : m_X8_isWhole 33 (I, z) = some (bI (decide (¬ (n0 < qs.length ∧ (lastQ qs).length = 0))), (I, z)) := by
  obtain ⟨⟨hM, -⟩, -, hR, hO, -, h35, hn⟩ := h
  have h8 : qs.length ≤ 8 := hO.1.1
  have h0 : I 36 0 = nI qs.length := hR.1
  have hl4 := okHS_4 hO
  unfold m_X8_isWhole
  rw [mb_gR (w := (I, z)) hM.o hM.rFresh, show (0 : Int32) = nI 0 from rfl, mb_aI (w := (I, z)) hM.sFresh (show 0 < 178 by omega) (by omega)]
  simp only [show (33 + 3) = 36 from rfl, h0]
  rw [mb_gR (w := (I, z)) hM.o hM.rNow, mb_aI (w := (I, z)) hM.sNow (show 0 < 178 by omega) (by omega)]
  simp only [show (33 + 2) = 35 from rfl, h35]
  by_cases he : qs.length = n0
  · rw [if_pos (by rw [he]), decide_eq_true (show ¬ (n0 < qs.length ∧ (lastQ qs).length = 0) from fun hh => by omega)]; rfl
  · rw [if_neg (fun e => he ((nI_eq (by omega) (by omega)).mp e)), mb_gR (w := (I, z)) hM.o hM.rFresh, mb_gR (w := (I, z)) hM.o hM.rFresh, mb_aI (w := (I, z)) hM.sFresh (show 0 < 178 by omega) (by omega)]
    simp only [show (33 + 3) = 36 from rfl, h0]
    rw [show nI qs.length - 1 = nI (qs.length - 1) from nI_sub (b := 1) (by omega), mb_call (parts_ok (w := (I, z)) (r := 36) hM.sFresh (show qs.length - 1 < 8 by omega))]
    simp only [rlast hR (by omega)]
    by_cases hz : (lastQ qs).length = 0
    · rw [if_pos (nI_le (by omega) (by omega)), decide_eq_false (fun hh => hh ⟨by omega, hz⟩)]; rfl
    · rw [if_neg (nI_ge (by omega) (by omega)), decide_eq_true (show ¬ (n0 < qs.length ∧ (lastQ qs).length = 0) from fun hh => hz hh.2)]; rfl
theorem hasNear_ok (h : SR0 z I tx n0 qs ls p) (h0 : 0 < qs.length) : m_X8_hasNear 33 (nI (qs.length - 1)) (I, z) = some (bI (anyN (lastQ qs)), (I, z)) := by
  obtain ⟨⟨hM, -⟩, -, hR, hO, -, h35, hn⟩ := h
  have h8 : qs.length ≤ 8 := hO.1.1
  have hl4 := okHS_4 hO
  have hlm := lastQ_get h0
  obtain ⟨-, hP⟩ := hO.1.2.2.1 (lastQ qs) (List.mem_of_getElem? hlm)
  have hr := (hR.2.2.2 _ _ hlm).2
  obtain ⟨s, x, k, ⟨rfl, rfl⟩, e⟩ := lp_FUi (F := fun k (s : Int32 × Int32) => m_X8_hasNear_B4 33 (nI (qs.length - 1)) k s.1 s.2) (fun i s x => s = (bI (anyN ((lastQ qs).take i)), nI i) ∧ x = (I, z)) (lastQ qs).length (by omega) (by
    intro i hi s x hh
    obtain ⟨rfl, rfl⟩ := hh
    have hPi := List.getElem?_eq_getElem hi
    have hPm := List.getElem_mem hi
    generalize (lastQ qs)[i] = P at hPi hPm
    have ho1 := (hP P hPm).1
    have hs := (hr i P hPi).1
    have ht : anyN ((lastQ qs).take (i + 1)) = (anyN ((lastQ qs).take i) || decide (P.1 = 2)) := by
      rw [List.take_add_one, hPi]
      unfold anyN
      rw [List.any_append]
      simp
    refine ⟨(bI (anyN ((lastQ qs).take (i + 1))), nI (i + 1)), (I, z), ⟨rfl, rfl⟩, fun k => ?_⟩
    unfold m_X8_hasNear_B4
    dsimp only
    rw [mb_gR (w := (I, z)) hM.o hM.rFresh, mb_call (parts_ok (w := (I, z)) (r := 36) hM.sFresh (show qs.length - 1 < 8 by omega))]
    simp only [rlast hR (by omega)]
    rw [if_neg (nI_ge hi (by omega)), ht]
    cases ha : anyN ((lastQ qs).take i)
    · rw [if_pos (show bI false = 0 from rfl), mb_gR (w := (I, z)) hM.o hM.rFresh, mb_call (of0 (w := (I, z)) (r := 36) hM.sFresh (show qs.length - 1 < 8 by omega) (show i < 4 by omega))]
      simp only [hs]
      unfold m_X8_hasNear_J34 m_X8_hasNear_J39
      rw [nI_1]
      by_cases h2 : P.1 = 2
      · rw [if_pos (show nI P.1 = 2 by rw [h2]; rfl), decide_eq_true h2]; rfl
      · rw [if_neg (show ¬ nI P.1 = 2 from fun e => h2 ((nI_eq (b := 2) (by omega) (by omega)).mp e)), decide_eq_false h2]; rfl
    · rw [if_neg (show ¬ bI true = 0 by decide)]
      unfold m_X8_hasNear_J34 m_X8_hasNear_J39
      rw [nI_1, Bool.true_or]; rfl) (s := (0, 0)) (w := (I, z)) ⟨rfl, rfl⟩
  unfold m_X8_hasNear
  rw [e]
  unfold m_X8_hasNear_B4
  dsimp only
  rw [mb_gR (w := (I, z)) hM.o hM.rFresh, mb_call (parts_ok (w := (I, z)) (r := 36) hM.sFresh (show qs.length - 1 < 8 by omega))]
  simp only [rlast hR (by omega)]
  rw [if_pos (nI_le (by omega) (by omega)), List.take_length]
  exact rZ_b _ _
end RIT
