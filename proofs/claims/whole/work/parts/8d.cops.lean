/-! ===== undo(), back(), feeds(), cuts(), type(), clear(), count(): the class's ===== -/
/-- all but the words, the nodes, what is held aside -/
def C0 (w : Wd) (tx : List Nat) : Prop := 48 ≤ cnt w ∧ SQ w.2 ∧ w.1 25 0 = 0 ∧ TX w.2 ∧ HY w.2 ∧ SLT w.2 ∧ SRC w ∧ TXT w tx
section CO
variable {w w' : Wd} {hs : HS} {hi : List HS} {im : Nat → Option HS} {tx : List Nat} {ns : List (List Nat)}
theorem CB_C0 (h : CB w hs tx ns) : C0 w tx := by
  obtain ⟨h1, h2, h3, h4, h5, h6, h7, h8, h9, h10, h11⟩ := h
  exact ⟨h1, h3.1, h4.2.2.1 0 [] h4.1.zero, h7, h8, h9, h10, h11⟩
/-- a change of 12 .. 18 and 19 alone -/
theorem C0_fr (h : C0 w tx) {I' : Nat → Nat → Int32} (gi : ∀ x, (x < 12 ∨ 19 < x) → I' x = w.1 x) : C0 (I', w.2) tx := by
  obtain ⟨h1, h3, h4, h7, h8, h9, h10, h11⟩ := h
  refine ⟨h1, h3, by show I' 25 0 = 0; rw [gi 25 (by omega)]; exact h4, h7, h8, h9, fun p hp => ?_, ?_⟩
  · obtain ⟨a, b, c⟩ := h10 p hp
    exact ⟨a, b, by show I' (p + 4) 0 = 0; rw [gi _ (by omega)]; exact c⟩
  · show I' 1 1 = _ ∧ ∀ (i c : Nat), tx[i]? = some c → I' 2 i = nI c
    rw [gi 1 (by omega), gi 2 (by omega)]; exact h11
theorem HIS_fr (h : HIS w hi) (hs' : SLT w.2) (hR : w'.2.2 = w.2.2) (h19 : w'.1 19 = w.1 19) (hx : ∀ x, 48 ≤ x → w'.1 x = w.1 x) : HIS w' hi := by
  obtain ⟨lt, g1, g2, g3, g4⟩ := h
  refine ⟨lt, g1, by rw [h19]; exact g2, by rw [h19]; exact g3, fun j x hx' => ?_⟩
  obtain ⟨q, q1, q2⟩ := g4 j x hx'
  have hm : (lt + 11 + j - hi.length) % 10 < 10 := Nat.mod_lt _ (by omega)
  have := (hs'.1 ((lt + 11 + j - hi.length) % 10) q (by omega) (by unfold sl; rw [if_pos hm]; exact q1)).1
  exact ⟨q, by rw [hR]; exact q1, q2.kept (fun i hi => hx _ (by omega))⟩
theorem IMG_fr (h : IMG w im) (hs' : SLT w.2) (hR : w'.2.2 = w.2.2) (hx : ∀ x, 48 ≤ x → w'.1 x = w.1 x) : IMG w' im := by
  intro i hi2
  rcases h i hi2 with ⟨q1, q2⟩ | ⟨x, q, q1, q2, q3⟩
  · exact Or.inl ⟨q1, by rw [hR]; exact q2⟩
  · have := (hs'.1 (10 + i) q (by omega) (by unfold sl; rw [if_neg (by omega), show 10 + i - 10 = i by omega]; exact q2)).1
    exact Or.inr ⟨x, q, q1, by rw [hR]; exact q2, q3.kept (fun i hi => hx _ (by omega))⟩
theorem rebuildCB_ok (h : C0 w tx) (hR : HR w.1 12 hs) (hok : okHS hs) : ∃ w' ns', m_X7_rebuild 0 w = some ((), w') ∧ CB w' hs tx ns' ∧ frC w w' ∧ w'.2.2 = w.2.2 ∧ w'.1 19 = w.1 19 ∧ ∀ x, 33 ≤ x → w'.1 x = w.1 x := by
  obtain ⟨h1, h3, h4, h7, h8, h9, h10, h11⟩ := h
  obtain ⟨I', J, ns', k, e, c1, c2, c3, c4, c5, c6, c7, c8⟩ := rebuild_ok h3 hok.1 hR hok.2.1 h4
  have g : ∀ x, x ≠ 0 → x ≠ 22 → x ≠ 23 → (x < 24 ∨ 31 < x) → I' x = w.1 x := c7
  refine ⟨(I', (J, w.2.2)), ns', e, ⟨h1, hok, c1, c2, c3, ⟨k, c4, c5⟩, h7, h8, h9, fun p hp => ?_, ?_⟩, ⟨fun x a b => ⟨g x (by omega) (by omega) (by omega) (by omega), rfl⟩, [], by show w.2.2.2 = w.2.2.2 ++ []; rw [List.append_nil]⟩, rfl, g 19 (by omega) (by omega) (by omega) (by omega), fun x hx => g x (by omega) (by omega) (by omega) (by omega)⟩
  · obtain ⟨a, b, c⟩ := h10 p hp
    exact ⟨a, b, by show I' (p + 4) 0 = 0; rw [g _ (by omega) (by omega) (by omega) (by omega)]; exact c⟩
  · show I' 1 1 = _ ∧ ∀ (i c : Nat), tx[i]? = some c → I' 2 i = nI c
    rw [g 1 (by omega) (by omega) (by omega) (by omega), g 2 (by omega) (by omega) (by omega) (by omega)]; exact h11
def unAns (hi : List HS) : Int32 := if hi.length = 0 then -2 else nI (hi.length - 1)
def unHs (hs : HS) (hi : List HS) : HS := match hi.getLast? with
  | none => hs
  | some h => h
theorem OKS_un (h : OKS hs hi im tx) : OKS (unHs hs hi) hi.dropLast im tx := by
  obtain ⟨a, b, c, d, e, f⟩ := h
  refine ⟨?_, fun x hx => b x ((List.dropLast_prefix hi).subset hx), by rw [List.length_dropLast]; omega, d, e, f⟩
  unfold unHs
  cases hl : hi.getLast? with
  | none => exact a
  | some x => exact b x (List.mem_of_getLast? hl)
theorem cundo_ok (h : CI w hs hi im tx ns) : ∃ w' ns', m_X7_undo 0 w = some (unAns hi, w') ∧ CI w' (unHs hs hi) hi.dropLast im tx ns' ∧ frC w w' ∧ Rm w w' := by
  obtain ⟨hCB, hO, hH, hI⟩ := CI_CB h
  obtain ⟨lt, g1, g2, g3, g4⟩ := id hH
  have hHY := hCB.2.2.2.2.2.2.2.1
  have h9 := hCB.2.2.2.2.2.2.2.2.1
  have hSQ := hCB.2.2.1.1
  have hl := hO.2.2.1
  unfold m_X7_undo unAns
  rw [mb_gR hSQ.1 hSQ.2.1.2.2.1, mb_gR hSQ.1 hSQ.2.1.2.1, mb_vc hHY.1]
  by_cases h0 : hi.length = 0
  · have hnil : hi = [] := List.eq_nil_of_length_eq_zero h0
    have hp : m_X2_popInto 19 12 w = some (0, w) := by
      unfold m_X2_popInto
      rw [mb_gR hHY.1 hHY.2.1, mb_gI hHY.1]
      simp only [g2]
      rw [mb_aQ hHY.2.2.1 g1 (by omega)]
      cases w.2.2.1 20 lt with
      | none =>
        dsimp only
        rw [mb_gI hHY.1]
        simp only [g3, h0]
        rw [if_pos (show nI 0 ≤ 0 by decide)]
        rfl
      | some r =>
        dsimp only
        rw [mb_gI hHY.1]
        simp only [g3, h0]
        rw [if_pos (show nI 0 ≤ 0 by decide)]
        rfl
    rw [mb_call hp, if_pos rfl, if_pos h0]
    refine ⟨w, ns, rfl, ?_, frC.refl w, Rm.same rfl rfl⟩
    subst hnil
    exact h
  · obtain ⟨x, hx⟩ : ∃ x, hi[hi.length - 1]? = some x := ⟨_, List.getElem?_eq_getElem (by omega)⟩
    have hlast : hi.getLast? = some x := by rw [List.getLast?_eq_getElem?]; exact hx
    obtain ⟨p, q1, q2⟩ := g4 _ x hx
    rw [show (lt + 11 + (hi.length - 1) - hi.length) % 10 = lt by omega] at q1
    have hsl : sl w.2 lt = some p := by unfold sl; rw [if_pos g1]; exact q1
    obtain ⟨p48, hHO⟩ := h9.1 lt p (by omega) hsl
    have hox : okHS x := hO.2.1 x (List.mem_of_getElem? hx)
    obtain ⟨I1, e1, hR, hF⟩ := take_ok (I := w.1) hSQ.2.2.1 hHO (by omega) hox.1 q2
    have hmod : nI lt + 10 - 1 - (nI lt + 10 - 1) / 10 * 10 = nI ((lt + 9) % 10) := by
      rw [show nI lt + 10 - 1 = nI (lt + 9) by
        rw [show (10 : Int32) = nI 10 from rfl, nI_add, show (1 : Int32) = nI 1 from rfl, nI_sub (by omega)]; congr 1]
      show nI (lt + 9) - nI (lt + 9) / nI 10 * nI 10 = _
      rw [pk_rem (by omega) (by omega) (by omega)]
    generalize hI2 : u2 (u2 I1 19 1 (nI ((lt + 9) % 10))) 19 2 (nI (hi.length - 1)) = I2
    have f2 : ∀ y, y ≠ 19 → I2 y = I1 y := fun y hy => by rw [← hI2, u2_row hy, u2_row hy]
    have hp : m_X2_popInto 19 12 w = some (1, (I2, w.2)) := by
      unfold m_X2_popInto
      rw [mb_gR hHY.1 hHY.2.1, mb_gI hHY.1]
      simp only [g2]
      rw [mb_aQ hHY.2.2.1 g1 (by omega), q1]
      dsimp only
      rw [mb_gI hHY.1]
      simp only [g3]
      have k1 : I1 19 1 = nI lt := by rw [hF 19 (by omega)]; exact g2
      have k2 : u2 I1 19 1 (nI ((lt + 9) % 10)) 19 2 = nI hi.length := by rw [u2_ne (Or.inr (by omega)), hF 19 (by omega)]; exact g3
      rw [if_neg (nI_nle (by omega) (by omega)), mb_vc hSQ.2.2.1.1, mb_call e1, mb_gI (w := (I1, w.2)) hHY.1]
      simp only [k1]
      rw [hmod, mb_sI (w := (I1, w.2)) hHY.1, mb_gI (w := (u2 I1 19 1 (nI ((lt + 9) % 10)), w.2)) hHY.1]
      simp only [k2]
      rw [show nI hi.length - 1 = nI (hi.length - 1) from nI_sub (b := 1) (by omega), mb_sI (w := (u2 I1 19 1 (nI ((lt + 9) % 10)), w.2)) hHY.1]
      dsimp only
      rw [hI2]
      rfl
    have hC0 := C0_fr (CB_C0 hCB) (I' := I2) (fun y hy => by rw [f2 y (by omega), hF y (by omega)])
    obtain ⟨w', ns', e2, c1, c2, c3, c4, c5⟩ := rebuildCB_ok (w := (I2, w.2)) (hs := x) hC0 (hR.kept (fun i hi => f2 _ (by omega))) hox
    have hfr1 : frC w (I2, w.2) := ⟨fun y a b => ⟨by show I2 y = _; rw [f2 y (by omega), hF y (by omega)], rfl⟩, [], by show w.2.2.2 = w.2.2.2 ++ []; rw [List.append_nil]⟩
    have hH2 : HIS (I2, w.2) hi.dropLast := by
      refine ⟨(lt + 9) % 10, Nat.mod_lt _ (by omega), ?_, ?_, fun j y hy => ?_⟩
      · show I2 19 1 = _; rw [← hI2, u2_ne (Or.inr (by omega)), u2_eq]
      · show I2 19 2 = _; rw [← hI2, u2_eq, List.length_dropLast]
      · have hjl := (List.getElem?_eq_some_iff.mp hy).1
        rw [List.length_dropLast] at hjl ⊢
        rw [List.getElem?_dropLast, if_pos hjl] at hy
        obtain ⟨q, t1, t2⟩ := g4 j y hy
        have hm : (lt + 11 + j - hi.length) % 10 < 10 := Nat.mod_lt _ (by omega)
        have := (h9.1 ((lt + 11 + j - hi.length) % 10) q (by omega) (by unfold sl; rw [if_pos hm]; exact t1)).1
        refine ⟨q, ?_, t2.kept (fun i hi => by show I2 _ = _; rw [f2 _ (by omega), hF _ (by omega)])⟩
        rw [show ((lt + 9) % 10 + 11 + j - (hi.length - 1)) % 10 = (lt + 11 + j - hi.length) % 10 by omega]
        exact t1
    have hI2g : IMG (I2, w.2) im := IMG_fr hI h9 rfl (fun y hy => by show I2 y = _; rw [f2 y (by omega), hF y (by omega)])
    have hun : unHs hs hi = x := by unfold unHs; rw [hlast]
    have hO' := OKS_un hO
    rw [hun] at hO' ⊢
    rw [mb_call hp, if_neg (show ¬ (1 : Int32) = 0 by decide), mb_vc (w := (I2, w.2)) hSQ.1, mb_call e2, if_neg h0]
    have c1q := c1.2.2.1.1
    have hk : w'.1 19 2 = nI (hi.length - 1) := by rw [c4]; show I2 19 2 = _; rw [← hI2, u2_eq]
    rw [mb_gR (w := w') c1q.1 c1q.2.1.2.2.1, mb_gI (w := w') c1.2.2.2.2.2.2.2.1.1]
    refine ⟨w', ns', ?_, CB_CI c1 hO' (HIS_fr hH2 h9 c3 c4 (fun y hy => c5 y (by omega))) (IMG_fr hI2g h9 c3 (fun y hy => c5 y (by omega))), hfr1.trans c2, Rm.same (by show w'.2.2.2 = w.2.2.2; rw [c3]) (by rw [c3])⟩
    show some (w'.1 19 2, w') = _
    rw [hk]
def bkAns (im : Nat → Option HS) (x : Int32) : Int32 := match imAt x with
  | none => -1
  | some i => match im i with
    | none => -2
    | some h => nI h.1.length
def bkHs (hs : HS) (im : Nat → Option HS) (x : Int32) : HS := match imAt x with
  | none => hs
  | some i => match im i with
    | none => hs
    | some h => h
def bkHi (hi : List HS) (im : Nat → Option HS) (x : Int32) : List HS := match imAt x with
  | none => hi
  | some i => match im i with
    | none => hi
    | some _ => []
theorem cback_ok (h : CI w hs hi im tx ns) (x : Int32) : ∃ w' ns', m_X7_back 0 x w = some (bkAns im x, w') ∧ CI w' (bkHs hs im x) (bkHi hi im x) im tx ns' ∧ frC w w' ∧ Rm w w' := by
  obtain ⟨hCB, hO, hH, hI⟩ := CI_CB h
  obtain ⟨lt, g1, g2, g3, g4⟩ := id hH
  have hHY := hCB.2.2.2.2.2.2.2.1
  have h9 := hCB.2.2.2.2.2.2.2.2.1
  have hSQ := hCB.2.2.1.1
  unfold m_X7_back bkAns bkHs bkHi
  rcases imAt_cases x with ⟨e, hx, -⟩ | ⟨i, hi2, rfl, e⟩
  · rw [e]
    rcases hx with hx | ⟨hx, hx2⟩
    · rw [if_pos hx]; exact ⟨w, ns, rfl, h, frC.refl w, Rm.same rfl rfl⟩
    · rw [if_neg hx, if_neg hx2]; exact ⟨w, ns, rfl, h, frC.refl w, Rm.same rfl rfl⟩
  · rw [e, if_neg (nI_pos (by omega)), if_pos (show nI i < 2 from nI_lt (b := 2) hi2 (by omega)), mb_gR hSQ.1 hSQ.2.1.2.2.2.1, mb_aQ hHY.2.2.2 hi2 (by omega)]
    dsimp only
    rcases hI i hi2 with ⟨q1, q2⟩ | ⟨y, p, q1, q2, q3⟩
    · rw [q1, q2]
      exact ⟨w, ns, rfl, h, frC.refl w, Rm.same rfl rfl⟩
    · rw [q1, q2]
      dsimp only
      have hsl : sl w.2 (10 + i) = some p := by unfold sl; rw [if_neg (by omega), show 10 + i - 10 = i by omega]; exact q2
      obtain ⟨p48, hHO⟩ := h9.1 (10 + i) p (by omega) hsl
      have hox : okHS y := hO.2.2.2.1 i y q1
      obtain ⟨I1, e1, hR, hF⟩ := take_ok (I := w.1) hSQ.2.2.1 hHO (by omega) hox.1 q3
      generalize hI2 : u2 I1 19 2 0 = I2
      have f2 : ∀ y, y ≠ 19 → I2 y = I1 y := fun y hy => by rw [← hI2, u2_row hy]
      have hC0 := C0_fr (CB_C0 hCB) (I' := I2) (fun y hy => by rw [f2 y (by omega), hF y (by omega)])
      obtain ⟨w', ns', e2, c1, c2, c3, c4, c5⟩ := rebuildCB_ok (w := (I2, w.2)) (hs := y) hC0 (hR.kept (fun i hi => f2 _ (by omega))) hox
      have hfr1 : frC w (I2, w.2) := ⟨fun y a b => ⟨by show I2 y = _; rw [f2 y (by omega), hF y (by omega)], rfl⟩, [], by show w.2.2.2 = w.2.2.2 ++ []; rw [List.append_nil]⟩
      have hH2 : HIS (I2, w.2) [] := ⟨lt, g1, by show I2 19 1 = _; rw [← hI2, u2_ne (Or.inr (by omega)), hF 19 (by omega)]; exact g2, by show I2 19 2 = _; rw [← hI2, u2_eq]; rfl, fun j y hy => by simp at hy⟩
      have hI2g : IMG (I2, w.2) im := IMG_fr hI h9 rfl (fun y hy => by
        show I2 y = _
        rw [f2 y (by omega), hF y (by omega)])
      have hO' : OKS y [] im tx := ⟨hox, by simp, by simp, hO.2.2.2.1, hO.2.2.2.2⟩
      have c1q := c1.2.2.1.1
      have hk : w'.1 12 0 = nI y.1.length := c1.2.2.1.2.2.1.1
      rw [mb_gR hSQ.1 hSQ.2.1.2.1, mb_vc hSQ.2.2.1.1, mb_call e1, mb_gR (w := (I1, w.2)) hSQ.1 hSQ.2.1.2.2.1, mb_vc (w := (I1, w.2)) hHY.1, mb_call (show m_X2_forget 19 (I1, w.2) = some ((), (I2, w.2)) by unfold m_X2_forget; rw [mb_sI (w := (I1, w.2)) hHY.1, hI2]; rfl), mb_vc (w := (I2, w.2)) hSQ.1, mb_call e2, mb_gR (w := w') c1q.1 c1q.2.1.2.1, mb_gI (w := w') c1q.2.2.1.1]
      refine ⟨w', ns', ?_, CB_CI c1 hO' (HIS_fr hH2 h9 c3 c4 (fun y hy => c5 y (by omega))) (IMG_fr hI2g h9 c3 (fun y hy => c5 y (by omega))), hfr1.trans c2, Rm.same (by show w'.2.2.2 = w.2.2.2; rw [c3]) (by rw [c3])⟩
      show some (w'.1 12 0, w') = _
      rw [hk]
theorem walkCB_ok {hs0 : HS} (h : C0 w tx) (hR : HR w.1 12 hs) (hok : okHS hs) (hq : hs.1 = hs0.1) (hL : WL (w.1 22) (w.1 23) ((Wo hs0).map pkI)) (hA : AR w.1 24 (Wo hs0) ns) (h97 : ns.length ≤ 97) : ∃ w' k, m_X7_walk 0 w = some ((), w') ∧ CB w' hs tx ns ∧ frC w w' ∧ w'.2.2 = w.2.2 ∧ (∀ x, x ≠ 0 → w'.1 x = w.1 x) ∧ w'.1 0 7 = nI k ∧ ns[k]? = some (lsuf ns hs.2) := by
  obtain ⟨h1, h3, h4, h7, h8, h9, h10, h11⟩ := h
  have hWe : Wo hs = Wo hs0 := by unfold Wo; rw [hq]
  rw [← hWe] at hL hA
  have h22 : w.1 22 1 = nI (Wo hs).length := by have := hL.1; rwa [List.length_map] at this
  obtain ⟨k, J, e, c1, c2, c3⟩ := walk_ok (I := w.1) (z := w.2) h3 hok.1 hR hok.2.1 h22 hA h97
  have g : ∀ x, x ≠ 0 → u2 w.1 0 7 (nI k) x = w.1 x := fun x hx => u2_row hx
  refine ⟨(u2 w.1 0 7 (nI k), (J, w.2.2)), k, e, ⟨h1, hok, ⟨h3.to J, hok.1, hR.kept (fun j hj => g _ (by omega)), okL.gat okL_nil hok.1.allw, hok.2.1, ?_, c2, okHS_all hok⟩, hA.kept (fun j hj => g _ (by omega)), h97, ⟨k, c1, u2_eq w.1 0 7 (nI k)⟩, h7, h8, h9, fun p hp => ?_, ?_⟩, ⟨fun x a b => ⟨g x (by omega), rfl⟩, [], by show w.2.2.2 = w.2.2.2 ++ []; rw [List.append_nil]⟩, rfl, g, u2_eq w.1 0 7 (nI k), c1⟩
  · show WL (u2 w.1 0 7 (nI k) 22) (u2 w.1 0 7 (nI k) 23) _
    rw [g 22 (by omega), g 23 (by omega)]; exact hL
  · obtain ⟨a, b, c⟩ := h10 p hp
    exact ⟨a, b, by show u2 w.1 0 7 (nI k) (p + 4) 0 = 0; rw [g _ (by omega)]; exact c⟩
  · show u2 w.1 0 7 (nI k) 1 1 = _ ∧ ∀ (i c : Nat), tx[i]? = some c → u2 w.1 0 7 (nI k) 2 i = nI c
    rw [g 1 (by omega), g 2 (by omega)]; exact h11
end CO
