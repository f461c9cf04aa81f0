/-! ===== History.push(), keep(): the class's ===== -/
def hpush (hi : List HS) (hs : HS) : List HS := (if hi.length = 10 then hi.tail else hi) ++ [hs]
theorem hpush_len {hi : List HS} (h : hi.length ≤ 10) (hs : HS) : (hpush hi hs).length = min (hi.length + 1) 10 := by
  unfold hpush
  by_cases h10 : hi.length = 10
  · rw [if_pos h10, List.length_append, List.length_tail]; simp; omega
  · rw [if_neg h10, List.length_append]; simp; omega
theorem hpush_get {hi : List HS} (h : hi.length ≤ 10) (hs : HS) {j : Nat} {x : HS} (hx : (hpush hi hs)[j]? = some x) : (j + 1 = (hpush hi hs).length ∧ x = hs) ∨ (j + 1 < (hpush hi hs).length ∧ hi[j + (hi.length + 1 - (hpush hi hs).length)]? = some x) := by
  have hl := hpush_len h hs
  unfold hpush at hx
  by_cases h10 : hi.length = 10
  · rw [if_pos h10] at hx
    rcases app_get hx with hx | ⟨rfl, rfl⟩
    · have := (List.getElem?_eq_some_iff.mp hx).1
      rw [List.length_tail] at this
      refine Or.inr ⟨by omega, ?_⟩
      rw [List.getElem?_tail] at hx
      rw [show j + (hi.length + 1 - (hpush hi hs).length) = j + 1 by omega]
      exact hx
    · rw [List.length_tail]; exact Or.inl ⟨by omega, rfl⟩
  · rw [if_neg h10] at hx
    rcases app_get hx with hx | ⟨rfl, rfl⟩
    · have := (List.getElem?_eq_some_iff.mp hx).1
      refine Or.inr ⟨by omega, ?_⟩
      rw [show j + (hi.length + 1 - (hpush hi hs).length) = j by omega]
      exact hx
    · exact Or.inl ⟨by omega, rfl⟩
theorem OKS_push {hs : HS} {hi : List HS} {im : Nat → Option HS} {tx : List Nat} (h : OKS hs hi im tx) : OKS hs (hpush hi hs) im tx := by
  obtain ⟨a, b, c, d, e, f⟩ := h
  refine ⟨a, fun x hx => ?_, by rw [hpush_len c]; omega, d, e, f⟩
  unfold hpush at hx
  rcases List.mem_append.mp hx with hx | hx
  · split at hx
    · exact b x (List.mem_of_mem_tail hx)
    · exact b x hx
  · rw [List.mem_singleton.mp hx]; exact a
section PU
variable {w : Wd} {hs : HS} {hi : List HS} {im : Nat → Option HS} {tx : List Nat} {ns : List (List Nat)}
theorem pushEnd_ok (h : CB w hs tx ns) (hl : hi.length ≤ 10) {lt lt' p : Nat} (hlt : lt < 10) (hlt' : lt' = (lt + 1) % 10) (g2 : w.1 19 1 = nI lt') (g3 : w.1 19 2 = nI hi.length) (hp : sl w.2 lt' = some p) (g4 : ∀ (j : Nat) (h : HS), hi[j]? = some h → (lt + 11 + j - hi.length) % 10 ≠ lt' → ∃ p, w.2.2.1 20 ((lt + 11 + j - hi.length) % 10) = some p ∧ HR w.1 p h) (hI : IMG w im) :
    ∃ I', m_X2_push_J45 19 12 p w = some ((), (I', w.2)) ∧ CB (I', w.2) hs tx ns ∧ frC w (I', w.2) ∧ HIS (I', w.2) (hpush hi hs) ∧ IMG (I', w.2) im := by
  have hlt10 : lt' < 10 := by omega
  obtain ⟨I1, e1, hR, hF, hCB, hfr⟩ := slotTake_ok h (show lt' < 12 by omega) hp
  have h9 := h.2.2.2.2.2.2.2.2.1
  obtain ⟨p48, hHO⟩ := h9.1 lt' p (by omega) hp
  have hHY := h.2.2.2.2.2.2.2.1
  have hl' := hpush_len hl hs
  generalize hI' : u2 I1 19 2 (nI (min (hi.length + 1) 10)) = I'
  have f' : ∀ x, x ≠ 19 → I' x = I1 x := fun x hx => by rw [← hI', u2_row hx]
  obtain ⟨hCB', hfr'⟩ := CB_fr hCB (w' := (I', w.2)) (l := []) (fun x hx h19 => f' x h19) (fun _ _ => rfl) (fun _ _ _ _ _ => rfl) (by show w.2.2.2 = w.2.2.2 ++ []; rw [List.append_nil]) (fun s hs' x a b => ⟨f' x (by have := (hCB.2.2.2.2.2.2.2.2.2.1 s hs').1; omega), rfl⟩) hCB.2.2.2.2.2.2.2.2.1
  have hoth : ∀ j q x, j < 12 → j ≠ lt' → sl w.2 j = some q → HR w.1 q x → HR I' q x := by
    intro j q x hj hne hq hr
    obtain ⟨q48, hq2⟩ := h9.1 j q hj hq
    have hqp : q ≠ p := fun e => hne (h9.2 j lt' p hj (by omega) (by rw [hq, e]) hp)
    have := HO_HO hq2 hHO hqp
    exact hr.kept (fun i hi => by rw [f' _ (by omega), hF _ (by omega)])
  refine ⟨I', ?_, hCB', hfr.trans hfr', ⟨lt', hlt10, ?_, ?_, ?_⟩, ?_⟩
  · unfold m_X2_push_J45
    have hk : I1 19 2 = nI hi.length := by rw [hF 19 (by omega)]; exact g3
    rw [mb_vc hHO.1, mb_call e1, mb_gI (w := (I1, w.2)) hHY.1]
    simp only [hk]
    rw [nI_1, mb_sI (w := (I1, w.2)) hHY.1]
    rw [show (if (10 : Int32) < nI (hi.length + 1) then 10 else nI (hi.length + 1)) = nI (min (hi.length + 1) 10) by
      by_cases h10 : 10 < hi.length + 1
      · rw [if_pos (show (10 : Int32) < nI (hi.length + 1) from nI_lt (a := 10) h10 (by omega)), Nat.min_eq_right (by omega)]; rfl
      · rw [if_neg (show ¬ (10 : Int32) < nI (hi.length + 1) from nI_nlt (a := 10) (by omega) (by omega)), Nat.min_eq_left (by omega)]]
    rw [hI']
    rfl
  · show I' 19 1 = _
    rw [← hI', u2_ne (Or.inr (by omega)), hF 19 (by omega)]; exact g2
  · show I' 19 2 = _
    rw [← hI', u2_eq, hl']
  · intro j x hx
    rcases hpush_get hl hs hx with ⟨a, rfl⟩ | ⟨a, b⟩
    · refine ⟨p, ?_, ?_⟩
      · rw [show (lt' + 11 + j - (hpush hi x).length) % 10 = lt' by omega]
        unfold sl at hp
        rw [if_pos hlt10] at hp
        exact hp
      · exact hR.kept (fun i hi => f' _ (by omega))
    · have hbl := (List.getElem?_eq_some_iff.mp b).1
      have hidx : (lt + 11 + (j + (hi.length + 1 - (hpush hi hs).length)) - hi.length) % 10 = (lt' + 11 + j - (hpush hi hs).length) % 10 := by omega
      have hne : (lt + 11 + (j + (hi.length + 1 - (hpush hi hs).length)) - hi.length) % 10 ≠ lt' := by omega
      obtain ⟨q, q1, q2⟩ := g4 _ x b hne
      rw [hidx] at q1 hne
      have hm : (lt' + 11 + j - (hpush hi hs).length) % 10 < 10 := Nat.mod_lt _ (by omega)
      exact ⟨q, q1, hoth _ q x (by omega) hne (by unfold sl; rw [if_pos hm]; exact q1) q2⟩
  · intro i hi2
    rcases hI i hi2 with ⟨q1, q2⟩ | ⟨x, q, q1, q2, q3⟩
    · exact Or.inl ⟨q1, q2⟩
    · exact Or.inr ⟨x, q, q1, q2, hoth (10 + i) q x (by omega) (by omega) (by unfold sl; rw [if_neg (by omega), show 10 + i - 10 = i by omega]; exact q2) q3⟩
theorem push_ok (h : CI w hs hi im tx ns) : ∃ w', m_X2_push 19 12 w = some ((), w') ∧ CI w' hs (hpush hi hs) im tx ns ∧ frC w w' ∧ Rm w w' := by
  obtain ⟨hCB, hO, ⟨lt, g1, g2, g3, g4⟩, hI⟩ := CI_CB h
  have hHY := hCB.2.2.2.2.2.2.2.1
  have h9 := hCB.2.2.2.2.2.2.2.2.1
  have hl := hO.2.2.1
  have hlt10 : (lt + 1) % 10 < 10 := Nat.mod_lt _ (by omega)
  generalize hlt' : (lt + 1) % 10 = lt' at hlt10
  have hmod : nI lt + 1 - (nI lt + 1) / 10 * 10 = nI lt' := by
    rw [nI_1]
    show nI (lt + 1) - nI (lt + 1) / nI 10 * nI 10 = nI lt'
    rw [pk_rem (by omega) (by omega) (by omega), hlt']
  generalize hI1 : u2 w.1 19 1 (nI lt') = I1
  have f1 : ∀ x, x ≠ 19 → I1 x = w.1 x := fun x hx => by rw [← hI1, u2_row hx]
  obtain ⟨hCB1, hfr1⟩ := CB_fr hCB (w' := (I1, w.2)) (l := []) (fun x hx h19 => f1 x h19) (fun _ _ => rfl) (fun _ _ _ _ _ => rfl) (by show w.2.2.2 = w.2.2.2 ++ []; rw [List.append_nil]) (fun s hs' x a b => ⟨f1 x (by have := (hCB.2.2.2.2.2.2.2.2.2.1 s hs').1; omega), rfl⟩) h9
  have hrow1 : ∀ j q x, j < 12 → sl w.2 j = some q → HR w.1 q x → HR I1 q x := fun j q x hj hq hr => hr.kept (fun i hi => f1 _ (by have := (h9.1 j q hj hq).1; omega))
  have g41 : ∀ (j : Nat) (h : HS), hi[j]? = some h → ∃ p, w.2.2.1 20 ((lt + 11 + j - hi.length) % 10) = some p ∧ HR I1 p h := fun j x hx => by
    obtain ⟨q, q1, q2⟩ := g4 j x hx
    have hm : (lt + 11 + j - hi.length) % 10 < 10 := Nat.mod_lt _ (by omega)
    exact ⟨q, q1, hrow1 ((lt + 11 + j - hi.length) % 10) q x (by omega) (by unfold sl; rw [if_pos hm]; exact q1) q2⟩
  have hI1g : IMG (I1, w.2) im := by
    intro i hi2
    rcases hI i hi2 with ⟨q1, q2⟩ | ⟨x, q, q1, q2, q3⟩
    · exact Or.inl ⟨q1, q2⟩
    · exact Or.inr ⟨x, q, q1, q2, hrow1 (10 + i) q x (by omega) (by unfold sl; rw [if_neg (by omega), show 10 + i - 10 = i by omega]; exact q2) q3⟩
  have e2 : I1 19 1 = nI lt' := by rw [← hI1, u2_eq]
  have e3 : I1 19 2 = nI hi.length := by rw [← hI1, u2_ne (Or.inr (by omega))]; exact g3
  have hstart : m_X2_push 19 12 w = (match w.2.2.1 20 lt' with
    | none => mb (nO 1) fun p6 => mb (m_X1_init p6) fun _ => mb (gR 2 0 19) fun ring7 => mb (gI 2 1 19) fun latest8 => mb (tQ ring7 latest8 p6) fun _ => m_X2_push_J45 19 12 p6
    | some r4 => m_X2_push_J45 19 12 r4) (I1, w.2) := by
    unfold m_X2_push
    rw [mb_gI hHY.1]
    simp only [g2]
    rw [hmod, mb_sI hHY.1, hI1, mb_gR (w := (I1, w.2)) hHY.1 hHY.2.1, mb_gI (w := (I1, w.2)) hHY.1]
    simp only [e2]
    rw [mb_aQ (w := (I1, w.2)) hHY.2.2.1 hlt10 (by omega)]
    rfl
  have hsl : sl w.2 lt' = w.2.2.1 20 lt' := by unfold sl; rw [if_pos hlt10]
  cases hr : w.2.2.1 20 lt' with
  | some p =>
    obtain ⟨I', e, c1, c2, c3, c4⟩ := pushEnd_ok hCB1 hl g1 hlt'.symm e2 e3 (by show sl w.2 lt' = _; rw [hsl]; exact hr) (fun j x hx _ => g41 j x hx) hI1g
    refine ⟨(I', w.2), ?_, CB_CI c1 (OKS_push hO) c3 c4, hfr1.trans c2, Rm.same rfl rfl⟩
    rw [hstart, hr]
    exact e
  | none =>
    obtain ⟨w1, a1, a3, a4, a5⟩ := heldNew_ok (I1, w.2)
    have hc : cnt ((I1, w.2) : Wd) = cnt w := rfl
    have h48 := hCB.1
    obtain ⟨d1, d2, d3, d4⟩ := slotNew_ok hCB1 (jn := lt') (row := 20) (idx := lt') (by omega) (by show sl w.2 lt' = none; rw [hsl]; exact hr) (Or.inl ⟨rfl, rfl, hlt10⟩) a1 a3 a4
    generalize hw2 : ((w1.1, w1.2.1, u2 w1.2.2.1 20 lt' (some (cnt ((I1, w.2) : Wd))), w1.2.2.2) : Wd) = w2 at d1 d2
    have d3' : sl w2.2 lt' = some (cnt w) := by rw [← hw2]; exact d3
    have d4' : ∀ j, j < 12 → j ≠ lt' → sl w2.2 j = sl w.2 j := fun j hj hne => by rw [← hw2]; exact d4 j hj hne
    have i2 : ∀ x, x < cnt w → w2.1 x = I1 x := fun x hx => by rw [← hw2]; exact (a4 x hx).1
    have hlt2 : ∀ j q, j < 12 → sl w.2 j = some q → q + 6 < cnt w := fun j q hj12 hq => by
      obtain ⟨v, e1, -⟩ := HO_sh (h9.1 j q hj12 hq).2 (i := 6) (by omega)
      exact (List.getElem?_eq_some_iff.mp e1).1
    have hrow2 : ∀ j q x, j < 12 → sl w.2 j = some q → HR I1 q x → HR w2.1 q x := fun j q x hj hq hr => hr.kept (fun i hi => i2 _ (by have := hlt2 j q hj hq; omega))
    obtain ⟨I', e, c1, c2, c3, c4⟩ := pushEnd_ok (w := w2) (im := im) d1 hl g1 hlt'.symm (by rw [i2 19 (by omega)]; exact e2) (by rw [i2 19 (by omega)]; exact e3) d3' (fun j x hx hne => by
      obtain ⟨q, q1, q2⟩ := g41 j x hx
      have hm : (lt + 11 + j - hi.length) % 10 < 10 := Nat.mod_lt _ (by omega)
      have hq : sl w.2 ((lt + 11 + j - hi.length) % 10) = some q := by unfold sl; rw [if_pos hm]; exact q1
      have := d4' _ (by omega) hne
      rw [hq] at this
      unfold sl at this
      rw [if_pos hm] at this
      exact ⟨q, this, hrow2 _ q x (by omega) hq q2⟩) (fun i hi2 => by
      have h4 := d4' (10 + i) (by omega) (by omega)
      unfold sl at h4
      rw [if_neg (by omega), if_neg (by omega), show 10 + i - 10 = i by omega] at h4
      rcases hI1g i hi2 with ⟨q1, q2⟩ | ⟨x, q, q1, q2, q3⟩
      · exact Or.inl ⟨q1, h4.trans q2⟩
      · exact Or.inr ⟨x, q, q1, h4.trans q2, hrow2 (10 + i) q x (by omega) (by unfold sl; rw [if_neg (by omega), show 10 + i - 10 = i by omega]; exact q2) q3⟩)
    have hsz : wS w2 = wS w ++ shH := by rw [← hw2]; exact a3
    have h08 : w2.2.2.1 0 8 = w.2.2.1 0 8 := by rw [← hw2]; show u2 w1.2.2.1 20 lt' (some (cnt ((I1, w.2) : Wd))) 0 8 = _; rw [u2_ne (by omega), (a4 0 (by rw [hc]; omega)).2.2]
    refine ⟨(I', w2.2), ?_, CB_CI c1 (OKS_push hO) c3 c4, (hfr1.trans d2).trans c2, Rm.held hsz h08⟩
    rw [hstart, hr]
    dsimp only
    rw [a5, mb_gR (w := w1) (by rw [a3]; exact pre_get hHY.1) (by rw [(a4 19 (by rw [hc]; omega)).2.2]; exact hHY.2.1), mb_gI (w := w1) (by rw [a3]; exact pre_get hHY.1)]
    rw [show w1.1 19 1 = nI lt' by rw [(a4 19 (by rw [hc]; omega)).1]; exact e2, mb_tQ (w := w1) (by rw [a3]; exact pre_get hHY.2.2.1) hlt10 (by omega) a1.1, hw2]
    exact e
theorem keepTake_ok (h : CB w hs tx ns) {i p : Nat} (hi2 : i < 2) (hp : w.2.2.1 21 i = some p) (hH : HIS w hi) (hI : ∀ j, j < 2 → j ≠ i → (im j = none ∧ w.2.2.1 21 j = none) ∨ ∃ h p, im j = some h ∧ w.2.2.1 21 j = some p ∧ HR w.1 p h) :
    ∃ I', m_X7_keep_J37 0 p w = some (nI hs.1.length, (I', w.2)) ∧ CB (I', w.2) hs tx ns ∧ frC w (I', w.2) ∧ HIS (I', w.2) hi ∧ IMG (I', w.2) (fun j => if j = i then some hs else im j) := by
  have hsl : sl w.2 (10 + i) = some p := by unfold sl; rw [if_neg (by omega), show 10 + i - 10 = i by omega]; exact hp
  obtain ⟨I1, e1, hR, hF, hCB, hfr⟩ := slotTake_ok h (show 10 + i < 12 by omega) hsl
  have h9 := h.2.2.2.2.2.2.2.2.1
  obtain ⟨p48, hHO⟩ := h9.1 (10 + i) p (by omega) hsl
  obtain ⟨k1, k2, k3, -⟩ := hCB.2.2.1
  have hoth : ∀ j q x, j < 12 → j ≠ 10 + i → sl w.2 j = some q → HR w.1 q x → HR I1 q x := by
    intro j q x hj hne hq hr
    obtain ⟨q48, hq2⟩ := h9.1 j q hj hq
    have hqp : q ≠ p := fun e => hne (h9.2 j (10 + i) p hj (by omega) (by rw [hq, e]) hsl)
    have := HO_HO hq2 hHO hqp
    exact hr.kept (fun i hi => by rw [hF _ (by omega)])
  obtain ⟨lt, g1, g2, g3, g4⟩ := hH
  refine ⟨I1, ?_, hCB, hfr, ⟨lt, g1, ?_, ?_, fun j x hx => ?_⟩, fun j hj => ?_⟩
  · unfold m_X7_keep_J37
    have h0 : I1 12 0 = nI hs.1.length := k3.1
    rw [mb_gR (w := w) h.2.2.1.1.1 h.2.2.1.1.2.1.2.1, mb_vc hHO.1, mb_call e1, mb_gR (w := (I1, w.2)) k1.1 k1.2.1.2.1, mb_gI (w := (I1, w.2)) k1.2.2.1.1]
    show some (I1 12 0, (I1, w.2)) = _
    rw [h0]
  · show I1 19 1 = _; rw [hF 19 (by omega)]; exact g2
  · show I1 19 2 = _; rw [hF 19 (by omega)]; exact g3
  · obtain ⟨q, q1, q2⟩ := g4 j x hx
    have hm : (lt + 11 + j - hi.length) % 10 < 10 := Nat.mod_lt _ (by omega)
    exact ⟨q, q1, hoth ((lt + 11 + j - hi.length) % 10) q x (by omega) (by omega) (by unfold sl; rw [if_pos hm]; exact q1) q2⟩
  · by_cases hji : j = i
    · subst hji
      exact Or.inr ⟨hs, p, if_pos rfl, hp, hR⟩
    · dsimp only
      rw [if_neg hji]
      rcases hI j hj hji with ⟨q1, q2⟩ | ⟨x, q, q1, q2, q3⟩
      · exact Or.inl ⟨q1, q2⟩
      · exact Or.inr ⟨x, q, q1, q2, hoth (10 + j) q x (by omega) (by omega) (by unfold sl; rw [if_neg (by omega), show 10 + j - 10 = j by omega]; exact q2) q3⟩
/-- which image a number names -/
def imAt (x : Int32) : Option Nat := if x = 0 then some 0 else if x = 1 then some 1 else none
theorem imAt_cases (x : Int32) : (imAt x = none ∧ (x < 0 ∨ (¬ x < 0 ∧ ¬ x < 2)) ∧ ¬ (0 ≤ x.toInt ∧ x.toInt ≤ 1)) ∨ ∃ i, i < 2 ∧ x = nI i ∧ imAt x = some i := by
  unfold imAt
  by_cases h0 : x = 0
  · exact Or.inr ⟨0, by omega, h0, by rw [if_pos h0]⟩
  · by_cases h1 : x = 1
    · exact Or.inr ⟨1, by omega, h1, by rw [if_neg h0, if_pos h1]⟩
    · refine Or.inl ⟨by rw [if_neg h0, if_neg h1], ?_, ?_⟩
      · by_cases hx : x < 0
        · exact Or.inl hx
        · obtain ⟨n, hn, rfl⟩ := i32_nn hx
          refine Or.inr ⟨hx, fun h => ?_⟩
          have := (nI_ltI (b := 2) hn (by omega)).mp h
          have h2 : n = 0 ∨ n = 1 := by omega
          rcases h2 with rfl | rfl
          · exact h0 rfl
          · exact h1 rfl
      · rintro ⟨a, b⟩
        have h2 : x.toInt = 0 ∨ x.toInt = 1 := by omega
        rcases h2 with e | e
        · exact h0 (Int32.toInt_inj.mp (e.trans (by decide)))
        · exact h1 (Int32.toInt_inj.mp (e.trans (by decide)))
def kpAns (hs : HS) (x : Int32) : Int32 := match imAt x with
  | none => -1
  | some _ => nI hs.1.length
def kpIm (hs : HS) (im : Nat → Option HS) (x : Int32) : Nat → Option HS := match imAt x with
  | none => im
  | some i => fun j => if j = i then some hs else im j
theorem OKS_kp {hs : HS} {hi : List HS} {im : Nat → Option HS} {tx : List Nat} (h : OKS hs hi im tx) (x : Int32) : OKS hs hi (kpIm hs im x) tx := by
  obtain ⟨a, b, c, d, e, f⟩ := h
  refine ⟨a, b, c, fun i x' hx => ?_, e, f⟩
  unfold kpIm at hx
  cases hx2 : imAt x with
  | none => rw [hx2] at hx; exact d i x' hx
  | some j =>
    rw [hx2] at hx
    dsimp only at hx
    by_cases hij : i = j
    · rw [if_pos hij] at hx; rw [← Option.some.inj hx]; exact a
    · rw [if_neg hij] at hx; exact d i x' hx
theorem ckeep_ok (h : CI w hs hi im tx ns) (x : Int32) : ∃ w', m_X7_keep 0 x w = some (kpAns hs x, w') ∧ CI w' hs hi (kpIm hs im x) tx ns ∧ frC w w' ∧ Rm w w' := by
  obtain ⟨hCB, hO, hH, hI⟩ := CI_CB h
  have hHY := hCB.2.2.2.2.2.2.2.1
  have h9 := hCB.2.2.2.2.2.2.2.2.1
  have hSQ := hCB.2.2.1.1
  have hO' := OKS_kp hO x
  unfold m_X7_keep kpAns
  rcases imAt_cases x with ⟨e, hx, -⟩ | ⟨i, hi2, rfl, e⟩
  · have hk : kpIm hs im x = im := by unfold kpIm; rw [e]
    rw [hk, e]
    rcases hx with hx | ⟨hx, hx2⟩
    · rw [if_pos hx]; exact ⟨w, rfl, h, frC.refl w, Rm.same rfl rfl⟩
    · rw [if_neg hx, if_neg hx2]; exact ⟨w, rfl, h, frC.refl w, Rm.same rfl rfl⟩
  · have hk : kpIm hs im (nI i) = fun j => if j = i then some hs else im j := by unfold kpIm; rw [e]
    rw [hk] at hO'
    rw [hk, e, if_neg (nI_pos (by omega)), if_pos (show nI i < 2 from nI_lt (b := 2) hi2 (by omega)), mb_gR hSQ.1 hSQ.2.1.2.2.2.1, mb_aQ hHY.2.2.2 hi2 (by omega)]
    cases hr : w.2.2.1 21 i with
    | some p =>
      obtain ⟨I', e2, c1, c2, c3, c4⟩ := keepTake_ok (im := im) hCB hi2 hr hH (fun j hj _ => hI j hj)
      exact ⟨(I', w.2), e2, CB_CI c1 hO' c3 c4, c2, Rm.same rfl rfl⟩
    | none =>
      obtain ⟨w1, a1, a3, a4, a5⟩ := heldNew_ok w
      have h48 := hCB.1
      obtain ⟨d1, d2, d3, d4⟩ := slotNew_ok hCB (jn := 10 + i) (row := 21) (idx := i) (by omega) (by unfold sl; rw [if_neg (by omega), show 10 + i - 10 = i by omega]; exact hr) (Or.inr ⟨rfl, by omega⟩) a1 a3 a4
      generalize hw2 : ((w1.1, w1.2.1, u2 w1.2.2.1 21 i (some (cnt w)), w1.2.2.2) : Wd) = w2 at d1 d2
      have d4' : ∀ j, j < 12 → j ≠ 10 + i → sl w2.2 j = sl w.2 j := fun j hj hne => by rw [← hw2]; exact d4 j hj hne
      have d3' : w2.2.2.1 21 i = some (cnt w) := by rw [← hw2]; exact u2_eq w1.2.2.1 21 i (some (cnt w))
      have i2 : ∀ x, x < cnt w → w2.1 x = w.1 x := fun x hx => by rw [← hw2]; exact (a4 x hx).1
      have hlt2 : ∀ j q, j < 12 → sl w.2 j = some q → q + 6 < cnt w := fun j q hj12 hq => by
        obtain ⟨v, e1, -⟩ := HO_sh (h9.1 j q hj12 hq).2 (i := 6) (by omega)
        exact (List.getElem?_eq_some_iff.mp e1).1
      have hrow2 : ∀ j q x, j < 12 → sl w.2 j = some q → HR w.1 q x → HR w2.1 q x := fun j q x hj hq hr => hr.kept (fun i hi => i2 _ (by have := hlt2 j q hj hq; omega))
      obtain ⟨lt, g1, g2, g3, g4⟩ := hH
      obtain ⟨I', e2, c1, c2, c3, c4⟩ := keepTake_ok (w := w2) (hi := hi) (im := im) d1 hi2 d3' ⟨lt, g1, by rw [i2 19 (by omega)]; exact g2, by rw [i2 19 (by omega)]; exact g3, fun j x hx => by
        obtain ⟨q, q1, q2⟩ := g4 j x hx
        have hm : (lt + 11 + j - hi.length) % 10 < 10 := Nat.mod_lt _ (by omega)
        have hq : sl w.2 ((lt + 11 + j - hi.length) % 10) = some q := by unfold sl; rw [if_pos hm]; exact q1
        have := d4' ((lt + 11 + j - hi.length) % 10) (by omega) (by omega)
        rw [hq] at this
        unfold sl at this
        rw [if_pos hm] at this
        exact ⟨q, this, hrow2 _ q x (by omega) hq q2⟩⟩ (fun j hj hne => by
        have h4 := d4' (10 + j) (by omega) (by omega)
        unfold sl at h4
        rw [if_neg (by omega), if_neg (by omega), show 10 + j - 10 = j by omega] at h4
        rcases hI j hj with ⟨q1, q2⟩ | ⟨x, q, q1, q2, q3⟩
        · exact Or.inl ⟨q1, h4.trans q2⟩
        · exact Or.inr ⟨x, q, q1, h4.trans q2, hrow2 (10 + j) q x (by omega) (by unfold sl; rw [if_neg (by omega), show 10 + j - 10 = j by omega]; exact q2) q3⟩)
      have hsz : wS w2 = wS w ++ shH := by rw [← hw2]; exact a3
      have h08 : w2.2.2.1 0 8 = w.2.2.1 0 8 := by rw [← hw2]; show u2 w1.2.2.1 21 i (some (cnt w)) 0 8 = _; rw [u2_ne (by omega), (a4 0 (by omega)).2.2]
      refine ⟨(I', w2.2), ?_, CB_CI c1 hO' c3 c4, d2.trans c2, Rm.held hsz h08⟩
      try dsimp only
      rw [a5, mb_gR (w := w1) (by rw [a3]; exact pre_get hSQ.1) (by rw [(a4 0 (by omega)).2.2]; exact hSQ.2.1.2.2.2.1), mb_tQ (w := w1) (by rw [a3]; exact pre_get hHY.2.2.2) hi2 (by omega) a1.1, hw2]
      exact e2
end PU
