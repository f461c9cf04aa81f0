/-! ===== adds(): the class's ===== -/
noncomputable def adR (hs : HS) (tx : List Nat) : Nat × Option (List (List Pt)) := psr tx hs.1.length (tx.length + 1) hs.1 0
def adAns (hs : HS) (r : Nat × Option (List (List Pt))) : Int32 := match r with
  | (F, none) => -10 - nI F
  | (_, some qs) => nI qs.length - nI hs.1.length
def adHs (hs : HS) (r : Nat × Option (List (List Pt))) : HS := match r with
  | (_, none) => hs
  | (_, some qs) => (qs, hs.2)
def adHi (hs : HS) (hi : List HS) (r : Nat × Option (List (List Pt))) : List HS := match r with
  | (_, none) => hi
  | (_, some _) => hpush hi hs
def adTx (tx : List Nat) (r : Nat × Option (List (List Pt))) : List Nat := match r with
  | (_, none) => tx
  | (_, some _) => []
section CAD
variable {w : Wd} {hs : HS} {hi : List HS} {im : Nat → Option HS} {tx : List Nat} {ns : List (List Nat)}
theorem J45_rows {p : Nat} (hp : 48 ≤ p) (hO : HO w.2 p) (hO12 : HO w.2 12) (hB : HB hs) (hR : HR w.1 12 hs) (hY : w.2.2.2[19]? = some (2, nf 2)) : ∃ w', m_X2_push_J45 19 12 p w = some ((), w') ∧ ∀ x, x < 19 → w'.1 x = w.1 x := by
  obtain ⟨I', e, -, hF⟩ := take_ok (z := w.2) (I := w.1) hO hO12 (by omega) hB hR
  unfold m_X2_push_J45
  rw [mb_vc hO.1, mb_call (show m_X1_take p 12 w = some ((), (I', w.2)) from e), mb_gI (w := (I', w.2)) hY, mb_sI (w := (I', w.2)) hY]
  exact ⟨_, rfl, fun x hx => by dsimp only; rw [u2_row (by omega), hF x (by omega)]⟩
theorem push_rows (h : CI w hs hi im tx ns) : ∃ w', m_X2_push 19 12 w = some ((), w') ∧ ∀ x, x < 19 → w'.1 x = w.1 x := by
  obtain ⟨hCB, hO, ⟨lt, g1, g2, g3, g4⟩, hI⟩ := CI_CB h
  have hHY := hCB.2.2.2.2.2.2.2.1
  have h9 := hCB.2.2.2.2.2.2.2.2.1
  have hlt10 : (lt + 1) % 10 < 10 := Nat.mod_lt _ (by omega)
  generalize hlt' : (lt + 1) % 10 = lt' at hlt10
  have hmod : nI lt + 1 - (nI lt + 1) / 10 * 10 = nI lt' := by
    rw [nI_1]
    show nI (lt + 1) - nI (lt + 1) / nI 10 * nI 10 = nI lt'
    rw [pk_rem (by omega) (by omega) (by omega), hlt']
  generalize hI1 : u2 w.1 19 1 (nI lt') = I1
  have f1 : ∀ x, x ≠ 19 → I1 x = w.1 x := fun x hx => by rw [← hI1, u2_row hx]
  have e2 : I1 19 1 = nI lt' := by rw [← hI1, u2_eq]
  obtain ⟨k1, k2, k3, -⟩ := hCB.2.2.1
  have hR1 : HR I1 12 hs := k3.kept (fun j hj => f1 _ (by omega))
  unfold m_X2_push
  rw [mb_gI hHY.1]
  simp only [g2]
  rw [hmod, mb_sI hHY.1, hI1, mb_gR (w := (I1, w.2)) hHY.1 hHY.2.1, mb_gI (w := (I1, w.2)) hHY.1]
  simp only [e2]
  rw [mb_aQ (w := (I1, w.2)) hHY.2.2.1 hlt10 (by omega)]
  have hsl : sl w.2 lt' = w.2.2.1 20 lt' := by unfold sl; rw [if_pos hlt10]
  have h48 := hCB.1
  show ∃ w', (match w.2.2.1 20 lt' with
    | none => mb (nO 1) fun p6 => mb (m_X1_init p6) fun _ => mb (gR 2 0 19) fun ring7 => mb (gI 2 1 19) fun latest8 => mb (tQ ring7 latest8 p6) fun _ => m_X2_push_J45 19 12 p6
    | some r4 => m_X2_push_J45 19 12 r4) (I1, w.2) = some ((), w') ∧ ∀ x, x < 19 → w'.1 x = w.1 x
  cases hr : w.2.2.1 20 lt' with
  | some p =>
    dsimp only
    obtain ⟨q1, q2⟩ := h9.1 lt' p (by omega) (by rw [hsl]; exact hr)
    obtain ⟨w', e, f⟩ := J45_rows (w := (I1, w.2)) q1 q2 k1.2.2.1 k2 hR1 hHY.1
    exact ⟨w', e, fun x hx => (f x hx).trans (f1 x (by omega))⟩
  | none =>
    dsimp only
    obtain ⟨w1, a1, a3, a4, a5⟩ := heldNew_ok (I1, w.2)
    have hc : cnt ((I1, w.2) : Wd) = cnt w := rfl
    rw [hc] at a1 a4
    have b4 : ∀ x, x < cnt w → w1.1 x = I1 x := fun x hx => (a4 x hx).1
    rw [a5, hc, mb_gR (w := w1) (by rw [a3]; exact pre_get hHY.1) (by rw [(a4 19 (by omega)).2.2]; exact hHY.2.1), mb_gI (w := w1) (by rw [a3]; exact pre_get hHY.1)]
    rw [show w1.1 19 1 = nI lt' by rw [b4 19 (by omega)]; exact e2, mb_tQ (w := w1) (by rw [a3]; exact pre_get hHY.2.2.1) hlt10 (by omega) a1.1]
    have hzr : ∀ q, q ≠ 20 → u2 w1.2.2.1 20 lt' (some (cnt w)) q = w1.2.2.1 q := fun q hq => u2_row hq
    have hO12 : HO w1.2 12 := HO_pre (z' := w1.2) k1.2.2.1 (by rw [(a4 12 (by omega)).2.2]) (l := shH) a3
    obtain ⟨w', e, f⟩ := J45_rows (w := ((w1.1, w1.2.1, u2 w1.2.2.1 20 lt' (some (cnt w)), w1.2.2.2) : Wd)) (p := cnt w) (hs := hs) h48 (HO_pre (z := w1.2) a1 (hzr (cnt w) (fun e => by rw [e] at h48; omega)) (l := []) (by simp)) (HO_pre (z := w1.2) hO12 (hzr 12 (by omega)) (l := []) (by simp)) k2 (hR1.kept (fun j hj => b4 _ (by omega))) (by
      show w1.2.2.2[19]? = _
      rw [show w1.2.2.2 = w.2.2.2 ++ shH from a3]; exact pre_get hHY.1)
    exact ⟨w', e, fun x hx => (f x hx).trans ((b4 x (by omega)).trans (f1 x (by omega)))⟩
theorem CB_frT (h : CB w hs tx ns) {I' : Nat → Nat → Int32} (g1 : I' 1 1 = w.1 1 1) (gi : ∀ x, (x = 0 ∨ x = 2 ∨ 11 < x) → I' x = w.1 x) : CB (I', w.2) hs tx ns ∧ frC w (I', w.2) := by
  obtain ⟨h1, h2, ⟨k1, k2, k3, k4, k5, k6, k7, k8⟩, h4, h5, ⟨k, h6, h6'⟩, h7, h8, h9, h10, h11⟩ := h
  refine ⟨⟨h1, h2, ⟨k1, k2, k3.kept (fun j hj => gi _ (by omega)), k4, k5, ?_, k7, k8⟩, h4.kept (fun j hj => gi _ (by omega)), h5, ⟨k, h6, by show I' 0 7 = _; rw [gi 0 (by omega)]; exact h6'⟩, h7, h8, h9, ?_, ?_⟩, ⟨fun x p q => ⟨gi x (by omega), rfl⟩, [], by show w.2.2.2 = w.2.2.2 ++ []; rw [List.append_nil]⟩⟩
  · show WL (I' 22) (I' 23) _; rw [gi 22 (by omega), gi 23 (by omega)]; exact k6
  · intro p hp
    obtain ⟨q1, q2, q3⟩ := h10 p hp
    exact ⟨q1, q2, by show I' (p + 4) 0 = 0; rw [gi _ (by omega)]; exact q3⟩
  · show I' 1 1 = _ ∧ ∀ (i c : Nat), tx[i]? = some c → I' 2 i = nI c
    rw [g1, gi 2 (by omega)]; exact h11
theorem C0_tx0 (h : C0 w tx) : C0 (u2 w.1 1 1 0, w.2) [] := by
  obtain ⟨h1, h3, h4, h7, h8, h9, h10, h11⟩ := h
  refine ⟨h1, h3, by show u2 w.1 1 1 0 25 0 = 0; rw [u2_row (by omega)]; exact h4, h7, h8, h9, fun p hp => ?_, ?_⟩
  · obtain ⟨a, b, c⟩ := h10 p hp
    exact ⟨a, b, by show u2 w.1 1 1 0 (p + 4) 0 = 0; rw [u2_row (by omega)]; exact c⟩
  · exact ⟨show u2 w.1 1 1 0 1 1 = 0 from u2_eq _ _ _ _, fun i c hc => by simp at hc⟩
theorem readBehind_ok (h : CI w hs hi im tx ns) : ∃ I', I' 1 1 = w.1 1 1 ∧ (∀ x, (x = 0 ∨ x = 2 ∨ 11 < x) → I' x = w.1 x) ∧ ((∃ F, adR hs tx = (F, none) ∧ F ≤ tx.length ∧ m_X5_readBehind 1 12 w = some (nI F, (I', w.2))) ∨ ∃ g qs', adR hs tx = (g, some qs') ∧ m_X5_readBehind 1 12 w = some (-9, (I', w.2)) ∧ HR I' 3 (qs', hs.2) ∧ okHS (qs', hs.2)) := by
  obtain ⟨hCB, hO, hH, hIm⟩ := CI_CB h
  obtain ⟨k1, k2, k3, -⟩ := hCB.2.2.1
  obtain ⟨o1, ⟨r0, r2, r3⟩, s2, hO3, hW10⟩ := hCB.2.2.2.2.2.2.1
  obtain ⟨x1, x2⟩ := hCB.2.2.2.2.2.2.2.2.2.2
  obtain ⟨I, z⟩ := w
  have n8 : hs.1.length ≤ 8 := k2.1
  obtain ⟨I1, e1, hR1, f1⟩ := take_ok (z := z) (I := I) hO3 k1.2.2.1 (by omega) k2 k3
  have h120 : I1 12 0 = nI hs.1.length := by rw [f1 12 (by omega)]; exact k3.1
  generalize hI2 : u2 I1 1 7 (nI hs.1.length) = I2
  have f2 : ∀ x, x ≠ 1 → I2 x = I1 x := fun x hx => by rw [← hI2, u2_row hx]
  have hroom : (gat [] (aws hs.1)).length ≤ 16 := by
    have := hO.1.2.1
    have e := gatW_map [] (aws hs.1)
    rw [List.map_nil] at e
    rw [← e, List.length_map]; exact this
  obtain ⟨I3, e3, hL3, f3⟩ := gatherAll_ok (I := I2) hW10 k1.2.2.1 (k3.kept (fun j hj => by rw [f2 _ (by omega), f1 _ (by omega)])) k2 (fun j hj => ⟨by omega, by omega⟩) hroom
  generalize hI4 : u2 I3 1 5 0 = I4
  have f4 : ∀ x, x ≠ 1 → I4 x = I3 x := fun x hx => by rw [← hI4, u2_row hx]
  have a4 : ∀ k, k ≠ 5 → k ≠ 7 → I4 1 k = I 1 k := fun k a b => by rw [← hI4, u2_ne (Or.inr a), f3 1 (by omega) (by omega), ← hI2, u2_ne (Or.inr b), f1 1 (by omega)]
  have hCT4 : CT z I4 tx := ⟨o1, r0, s2, by rw [a4 1 (by omega) (by omega)]; exact x1, by rw [f4 2 (by omega), f3 2 (by omega) (by omega), f2 2 (by omega), f1 2 (by omega)]; exact x2, hO.2.2.2.2.1, hO.2.2.2.2.2⟩
  obtain ⟨I5, e5, b4, b5, b6, bk, bx⟩ := advance_ok hCT4 (p := 0) (by rw [← hI4, u2_eq]; rfl) (Nat.zero_le _)
  have f5 : FrT I4 I5 := ⟨bk, fun x hx => bx x (by omega)⟩
  have hSC : SC z I5 tx hs.1.length hs.1 hs.2 0 := by
    refine ⟨hCT4.fr f5, ⟨r2, r3, hO3, hW10⟩, ⟨b4, b5, b6, Nat.zero_le _⟩, hR1.kept (fun j hj => by rw [bx _ (by omega), f4 _ (by omega), f3 _ (by omega) (by omega), f2 _ (by omega)]), hO.1, ?_, ?_, n8⟩
    · rw [bx 10 (by omega), bx 11 (by omega), f4 10 (by omega), f4 11 (by omega)]
      have e := gatW_map [] (aws hs.1)
      rw [List.map_nil] at e
      unfold Wq
      rw [e]; exact hL3
    · rw [bk 7 (by omega) (by omega) (by omega), ← hI4, u2_ne (Or.inr (by omega)), f3 1 (by omega) (by omega), ← hI2, u2_eq]
  obtain ⟨I6, f6, hc⟩ := cloop_ok (tx.length + 1) hs.1 0 0 I5 hSC (by omega) (by omega) FU (by have := hO.2.2.2.2.1; unfold FU; omega)
  have hrun : m_X5_readBehind 1 12 (I, z) = lp (fun k s => m_X5_readBehind_B35 1 k s) FU (nI 0) (I5, z) := by
    unfold m_X5_readBehind
    rw [mb_gR (w := (I, z)) o1 r2, mb_vc (w := (I, z)) hO3.1, mb_call e1, mb_gI (w := (I1, z)) k1.2.2.1.1]
    simp only [h120]
    rw [mb_sI (w := (I1, z)) o1, hI2, mb_gR (w := (I2, z)) o1 r3, mb_vc (w := (I2, z)) hW10.1, mb_call e3, mb_sI (w := (I3, z)) o1, hI4, mb_vc (w := (I4, z)) o1, mb_call e5]
    rfl
  refine ⟨I6, ?_, fun x hx => ?_, ?_⟩
  · show I6 1 1 = I 1 1
    rw [f6.1 1 (by omega) (by omega) (by omega), f5.1 1 (by omega) (by omega) (by omega), a4 1 (by omega) (by omega)]
  · show I6 x = I x
    rw [f6.2 x (by omega), f5.2 x (by omega), f4 x (by omega), f3 x (by omega) (by omega), f2 x (by omega), f1 x (by omega)]
  · rw [hrun]
    exact hc
theorem cadds_ok (h : CI w hs hi im tx ns) : ∃ w' ns', m_X7_adds 0 w = some (adAns hs (adR hs tx), w') ∧ CI w' (adHs hs (adR hs tx)) (adHi hs hi (adR hs tx)) im (adTx tx (adR hs tx)) ns' ∧ frC w w' ∧ Rm w w' := by
  obtain ⟨I1, g1, gx, hc⟩ := readBehind_ok h
  obtain ⟨hCB, hO, hH, hIm⟩ := CI_CB h
  obtain ⟨k1, k2, k3, -⟩ := hCB.2.2.1
  have hSQ := k1
  obtain ⟨o1, ⟨r0, r2, r3⟩, s2, hO3, hW10⟩ := hCB.2.2.2.2.2.2.1
  have h9 := hCB.2.2.2.2.2.2.2.2.1
  have hHY := hCB.2.2.2.2.2.2.2.1
  have h150 := hO.2.2.2.2.1
  obtain ⟨hCB1, hf1⟩ := CB_frT hCB g1 gx
  have hCI1 : CI (I1, w.2) hs hi im tx ns := CB_CI hCB1 hO (HIS_fr hH h9 rfl (gx 19 (by omega)) (fun x hx => gx x (by omega))) (IMG_fr hIm h9 rfl (fun x hx => gx x (by omega)))
  unfold m_X7_adds
  rw [mb_gR (w := w) hSQ.1 hSQ.2.1.1, mb_gR (w := w) hSQ.1 hSQ.2.1.2.1, mb_vc (w := w) o1]
  rcases hc with ⟨F, e1, e2, e3⟩ | ⟨g, qs', e1, e3, hR3, hok⟩
  · rw [mb_call e3, if_neg (nI_pos (by omega)), e1]
    exact ⟨(I1, w.2), ns, rfl, hCI1, hf1, Rm.same rfl rfl⟩
  · obtain ⟨w2, p1, p2, p3, p4⟩ := push_ok hCI1
    obtain ⟨w2', q1, q2⟩ := push_rows hCI1
    have hw : w2' = w2 := by rw [p1] at q1; exact (congrArg Prod.snd (Option.some.inj q1)).symm
    subst hw
    obtain ⟨hCB2, hO2, hH2, hI2⟩ := CI_CB p2
    obtain ⟨j1, j2, j3, -⟩ := hCB2.2.2.1
    obtain ⟨o1', ⟨r0', r2', r3'⟩, s2', hO3', hW10'⟩ := hCB2.2.2.2.2.2.2.1
    have h9' := hCB2.2.2.2.2.2.2.2.2.1
    obtain ⟨I4, e4, hR4, f4⟩ := take_ok (z := w2'.2) (I := w2'.1) j1.2.2.1 hO3' (by omega) hok.1 (hR3.kept (fun j hj => q2 _ (by omega)))
    have hC4 : C0 (u2 I4 1 1 0, w2'.2) [] := C0_tx0 (w := (I4, w2'.2)) (C0_fr (CB_C0 hCB2) (fun y hy => f4 y (by omega)))
    obtain ⟨w5, ns', e5, c1, c2, c3, c4, c5⟩ := rebuildCB_ok (w := (u2 I4 1 1 0, w2'.2)) (hs := (qs', hs.2)) hC4 (hR4.kept (fun j hj => u2_row (by omega))) hok
    have hfr4 : frC w2' (u2 I4 1 1 0, w2'.2) := ⟨fun y a b => ⟨by show u2 I4 1 1 0 y = _; rw [u2_row (by omega), f4 y (by omega)], rfl⟩, [], by show w2'.2.2.2 = w2'.2.2.2 ++ []; rw [List.append_nil]⟩
    have hOn : OKS (qs', hs.2) (hpush hi hs) im [] := ⟨hok, hO2.2.1, hO2.2.2.1, hO2.2.2.2.1, by simp, by simp⟩
    have hd0 : I1 3 0 = nI qs'.length := hR3.1
    have h12 : I1 12 0 = nI hs.1.length := by rw [gx 12 (by omega)]; exact k3.1
    refine ⟨w5, ns', ?_, ?_, ((hf1.trans p3).trans hfr4).trans c2, ?_⟩
    · rw [mb_call e3, if_pos (show (-9 : Int32) < 0 by decide), mb_gR (w := (I1, w.2)) hSQ.1 hSQ.2.1.1, mb_gR (w := (I1, w.2)) o1 r2, mb_gI (w := (I1, w.2)) hO3.1]
      simp only [hd0]
      rw [mb_gR (w := (I1, w.2)) hSQ.1 hSQ.2.1.2.1, mb_gI (w := (I1, w.2)) hSQ.2.2.1.1]
      simp only [h12]
      rw [mb_mp, mb_gR (w := (I1, w.2)) hSQ.1 hSQ.2.1.2.2.1, mb_gR (w := (I1, w.2)) hSQ.1 hSQ.2.1.2.1, mb_vc (w := (I1, w.2)) hHY.1, mb_call p1, mb_gR (w := w2') j1.1 j1.2.1.2.1, mb_gR (w := w2') j1.1 j1.2.1.1, mb_gR (w := w2') o1' r2', mb_vc (w := w2') j1.2.2.1.1, mb_call (show m_X1_take 12 3 w2' = some ((), (I4, w2'.2)) from e4), mb_gR (w := (I4, w2'.2)) j1.1 j1.2.1.1, mb_sI (w := (I4, w2'.2)) o1', mb_vc (w := (u2 I4 1 1 0, w2'.2)) j1.1, mb_call e5, e1]
      rfl
    · rw [e1]
      exact CB_CI c1 hOn (HIS_fr hH2 h9' c3 (by rw [c4]; show u2 I4 1 1 0 19 = _; rw [u2_row (by omega)]; exact f4 19 (by omega)) (fun y hy => by rw [c5 y (by omega)]; show u2 I4 1 1 0 y = _; rw [u2_row (by omega)]; exact f4 y (by omega))) (IMG_fr hI2 h9' c3 (fun y hy => by rw [c5 y (by omega)]; show u2 I4 1 1 0 y = _; rw [u2_row (by omega)]; exact f4 y (by omega)))
    · have hr : Rm w w2' := by
        have hs0 : Rm (I1, w.2) w2' := p4
        exact hs0
      exact hr.two c3
end CAD
