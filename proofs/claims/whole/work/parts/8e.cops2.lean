/-! ===== feeds(), cuts(), drops(), type(), clear(), count(): the class's ===== -/
theorem okHS_let {hs : HS} (h : okHS hs) {ls : List Nat} (hl : ls.length ≤ 40) (h8 : ∀ c ∈ ls, c < 8) : okHS (hs.1, ls) := ⟨⟨h.1.1, hl, h.1.2.2.1, h8⟩, h.2.1, h.2.2⟩
theorem HR_let {I I' : Nat → Nat → Int32} {hs : HS} {ls : List Nat} (h : HR I 12 hs) (e0 : I' 12 0 = I 12 0) (e1 : I' 12 1 = nI ls.length) (hx : ∀ x, 13 ≤ x → x ≤ 17 → I' x = I x) (hr : ∀ (i c : Nat), ls[i]? = some c → I' 18 i = nI c) : HR I' 12 (hs.1, ls) := by
  obtain ⟨h1, h2, h3, h4⟩ := h
  refine ⟨e0.trans h1, e1, fun q Q hq => ?_, hr⟩
  rw [hx 13 (by omega) (by omega), hx (12 + 2) (by omega) (by omega), hx (12 + 3) (by omega) (by omega), hx (12 + 4) (by omega) (by omega), hx (12 + 5) (by omega) (by omega)]
  exact h3 q Q hq
theorem Rm.two {w w1 w2 : Wd} (h : Rm w w1) (h2 : w2.2.2 = w1.2.2) : Rm w w2 := h.then (by show w2.2.2.2 = w1.2.2.2; rw [h2]) (by rw [h2])
theorem mem_gatW_inv {us : List (List Nat)} : ∀ {W : List (List Nat)}, okL W → (∀ u ∈ us, okW u) → ∀ v, v ∈ gatW W us → v ∈ W ∨ v ∈ us := by
  induction us with
  | nil => intro W _ _ v h; exact Or.inl h
  | cons u us ih =>
    intro W hW hu v h
    have h' : v ∈ gatW (winsW W u) us := h
    rcases ih (hW.wins (hu u List.mem_cons_self)) (fun x hx => hu x (List.mem_cons_of_mem _ hx)) v h' with h1 | h1
    · rcases (mem_winsW hW.1 (hu u List.mem_cons_self)).mp h1 with rfl | h2
      · exact Or.inr List.mem_cons_self
      · exact Or.inl h2
    · exact Or.inr (List.mem_cons_of_mem _ h1)
theorem okL_nodup {W : List (List Nat)} (h : okL W) : W.Nodup := h.2.imp (fun hlt e => by rw [e] at hlt; omega)
theorem gatW_sub {us vs : List (List Nat)} (hu : ∀ u ∈ us, okW u) (hv : ∀ u ∈ vs, okW u) (h : ∀ u ∈ us, u ∈ vs) : (gatW [] us).length ≤ (gatW [] vs).length := by
  refine (okL_nodup (okL.gat okL_nil hu)).length_le_of_subset ?_
  intro v hm
  rcases mem_gatW_inv okL_nil hu v hm with h1 | h1
  · simp at h1
  · exact mem_gatW okL_nil hv v (Or.inr (h v h1))
theorem mem_erase' {α : Type} {l : List α} {q : Nat} {x : α} (h : x ∈ l.eraseIdx q) : x ∈ l := (List.eraseIdx_sublist l q).subset h
theorem okHS_drop {hs : HS} (h : okHS hs) (q : Nat) : okHS (hs.1.eraseIdx q, hs.2) := by
  obtain ⟨⟨a, b, c, d⟩, e, f⟩ := h
  have hB' : HB (hs.1.eraseIdx q, hs.2) := ⟨Nat.le_trans (List.length_eraseIdx_le hs.1 q) a, b, fun Q hQ => c Q (mem_erase' hQ), d⟩
  refine ⟨hB', Nat.le_trans (gatW_sub hB'.allw (show HB hs from ⟨a, b, c, d⟩).allw ?_) e, fun Q hQ => f Q (mem_erase' hQ)⟩
  intro u hu
  obtain ⟨Q, hQ, hu⟩ := List.mem_flatMap.mp hu
  exact List.mem_flatMap.mpr ⟨Q, mem_erase' hQ, hu⟩
section CF
variable {w : Wd} {hs : HS} {hi : List HS} {im : Nat → Option HS} {tx : List Nat} {ns : List (List Nat)}
theorem cfeed_ok (h : CI w hs hi im tx ns) {c : Nat} (hc : c < 8) (hl : hs.2.length < 40) : ∃ w' k, m_X7_feeds 0 (nI (97 + c)) w = some (nI k, w') ∧ CI w' (hs.1, hs.2 ++ [c]) (hpush hi hs) im tx ns ∧ ns[k]? = some (lsuf ns (hs.2 ++ [c])) ∧ frC w w' ∧ Rm w w' := by
  have hSQ0 := h.2.2.1.1
  have hR0 := h.2.2.1.2.2.1
  have hHY0 := h.2.2.2.2.2.2.2.1
  obtain ⟨w1, e1, hC1, hf1, hr1⟩ := push_ok h
  obtain ⟨hCB, hO, hH, hI⟩ := CI_CB hC1
  obtain ⟨k1, k2, k3, k4, k5, k6, k7, k8⟩ := hCB.2.2.1
  obtain ⟨o, ⟨-, f1, -⟩, ⟨h0, ⟨-, -, -, -, -, hr7⟩, -, -, -, -, -, hs7⟩, -⟩ := id k1
  have hok' : okHS (hs.1, hs.2 ++ [c]) := okHS_let hCB.2.1 (by simp; omega) (fun d hd => by
    rcases List.mem_append.mp hd with hd | hd
    · exact k2.2.2.2 d hd
    · rw [List.mem_singleton.mp hd]; exact hc)
  generalize hI2 : u2 (u2 w1.1 18 hs.2.length (nI c)) 12 1 (nI (hs.2.length + 1)) = I2
  have f2 : ∀ x, x ≠ 12 → x ≠ 18 → I2 x = w1.1 x := fun x a b => by rw [← hI2, u2_row a, u2_row b]
  have hC0 := C0_fr (CB_C0 hCB) (I' := I2) (fun y hy => f2 y (by omega) (by omega))
  have hR2 : HR I2 12 (hs.1, hs.2 ++ [c]) := by
    refine HR_let k3 ?_ ?_ (fun x a b => f2 x (by omega) (by omega)) (fun i d hd => ?_)
    · rw [← hI2, u2_ne (Or.inr (by omega)), u2_row (by omega)]
    · rw [← hI2, u2_eq]; simp
    · rw [← hI2, u2_row (by omega)]
      rcases app_get hd with hd | ⟨rfl, rfl⟩
      · have := (List.getElem?_eq_some_iff.mp hd).1
        rw [u2_ne (Or.inr (by omega))]; exact k3.2.2.2 i d hd
      · rw [u2_eq]
  obtain ⟨w', k, e2, c1, c2, c3, c4, c5, c6⟩ := walkCB_ok (w := (I2, w1.2)) (hs0 := hs) hC0 hR2 hok' rfl (by show WL (I2 22) (I2 23) _; rw [f2 22 (by omega) (by omega), f2 23 (by omega) (by omega)]; exact k6) (hCB.2.2.2.1.kept (fun j hj => f2 _ (by omega) (by omega))) hCB.2.2.2.2.1
  have h9 := hCB.2.2.2.2.2.2.2.2.1
  have hfr1 : frC w1 (I2, w1.2) := ⟨fun y a b => ⟨f2 y (by omega) (by omega), rfl⟩, [], by show w1.2.2.2 = w1.2.2.2 ++ []; rw [List.append_nil]⟩
  have hO' : OKS (hs.1, hs.2 ++ [c]) (hpush hi hs) im tx := ⟨hok', hO.2⟩
  refine ⟨w', k, ?_, CB_CI c1 hO' (HIS_fr hH h9 c3 (by rw [c4 19 (by omega)]; exact f2 19 (by omega) (by omega)) (fun y hy => by rw [c4 y (by omega)]; exact f2 y (by omega) (by omega))) (IMG_fr hI h9 c3 (fun y hy => by rw [c4 y (by omega)]; exact f2 y (by omega) (by omega))), c6, (hf1.trans hfr1).trans c2, hr1.two c3⟩
  have hlw : (wS w)[12]? = some (1, nf 1) := hSQ0.2.2.1.1
  unfold m_X7_feeds
  rcases isLetter_ok (nI (97 + c)) w with ⟨-, hx⟩ | ⟨c', hc', hcc, e⟩
  · rw [nI_toInt (by omega)] at hx; omega
  rw [mb_call e, if_neg (show ¬ (1 : Int32) = 0 by decide), mb_gR hSQ0.1 hSQ0.2.1.2.1, mb_gI hSQ0.2.2.1.1]
  simp only [hR0.2.1]
  have hlen1 : w1.1 12 1 = nI hs.2.length := k3.2.1
  have hlen2 : u2 w1.1 18 hs.2.length (nI c) 12 1 = nI hs.2.length := by rw [u2_row (by omega)]; exact hlen1
  rw [if_pos (show nI hs.2.length < 40 from nI_lt (b := 40) hl (by omega)), mb_gR hSQ0.1 hSQ0.2.1.2.2.1, mb_gR hSQ0.1 hSQ0.2.1.2.1, mb_vc hHY0.1, mb_call e1, mb_gR (w := w1) o f1, mb_gR (w := w1) h0 hr7, mb_gR (w := w1) o f1, mb_gI (w := w1) h0]
  simp only [hlen1]
  rw [show nI (97 + c) - 97 = nI c by rw [show (97 : Int32) = nI 97 from rfl, nI_sub (by omega)]; congr 1; omega, mb_tI (w := w1) hs7 (show hs.2.length < 40 by omega) (by omega), mb_gR (w := (u2 w1.1 (12 + 6) hs.2.length (nI c), w1.2)) o f1, mb_gI (w := (u2 w1.1 (12 + 6) hs.2.length (nI c), w1.2)) h0]
  simp only [hlen2]
  rw [nI_1, mb_sI (w := (u2 w1.1 (12 + 6) hs.2.length (nI c), w1.2)) h0]
  dsimp only
  rw [hI2, mb_vc (w := (I2, w1.2)) o, mb_call e2, mb_gI (w := w') c1.2.2.1.1.1]
  show some (w'.1 0 7, w') = _
  rw [c5]
theorem ccut_ok (h : CI w hs hi im tx ns) {ls : List Nat} {c : Nat} (hls : hs.2 = ls ++ [c]) : ∃ w', m_X7_cuts 0 w = some (nI (97 + c), w') ∧ CI w' (hs.1, ls) (hpush hi hs) im tx ns ∧ frC w w' ∧ Rm w w' := by
  have hSQ0 := h.2.2.1.1
  have hR0 := h.2.2.1.2.2.1
  have hB0 := h.2.2.1.2.1
  have hHY0 := h.2.2.2.2.2.2.2.1
  have hlen : hs.2.length = ls.length + 1 := by rw [hls]; simp
  have h40 := hB0.2.1
  obtain ⟨w1, e1, hC1, hf1, hr1⟩ := push_ok h
  obtain ⟨hCB, hO, hH, hI⟩ := CI_CB hC1
  obtain ⟨k1, k2, k3, k4, k5, k6, k7, k8⟩ := hCB.2.2.1
  obtain ⟨o, ⟨-, f1, -⟩, ⟨h0, ⟨-, -, -, -, -, hr7⟩, -, -, -, -, -, hs7⟩, -⟩ := id k1
  have hok' : okHS (hs.1, ls) := okHS_let hCB.2.1 (by omega) (fun d hd => k2.2.2.2 d (by rw [hls]; exact List.mem_append_left _ hd))
  generalize hI2 : u2 w1.1 12 1 (nI ls.length) = I2
  have f2 : ∀ x, x ≠ 12 → I2 x = w1.1 x := fun x a => by rw [← hI2, u2_row a]
  have hC0 := C0_fr (CB_C0 hCB) (I' := I2) (fun y hy => f2 y (by omega))
  have hget : ∀ (i d : Nat), ls[i]? = some d → hs.2[i]? = some d := fun i d hd => by rw [hls]; exact get_app hd
  have hR2 : HR I2 12 (hs.1, ls) := by
    refine HR_let k3 ?_ ?_ (fun x a b => f2 x (by omega)) (fun i d hd => ?_)
    · rw [← hI2, u2_ne (Or.inr (by omega))]
    · rw [← hI2, u2_eq]
    · rw [f2 18 (by omega)]; exact k3.2.2.2 i d (hget i d hd)
  obtain ⟨w', k, e2, c1, c2, c3, c4, c5, c6⟩ := walkCB_ok (w := (I2, w1.2)) (hs0 := hs) hC0 hR2 hok' rfl (by show WL (I2 22) (I2 23) _; rw [f2 22 (by omega), f2 23 (by omega)]; exact k6) (hCB.2.2.2.1.kept (fun j hj => f2 _ (by omega))) hCB.2.2.2.2.1
  have h9 := hCB.2.2.2.2.2.2.2.2.1
  have hfr1 : frC w1 (I2, w1.2) := ⟨fun y a b => ⟨f2 y (by omega), rfl⟩, [], by show w1.2.2.2 = w1.2.2.2 ++ []; rw [List.append_nil]⟩
  have hO' : OKS (hs.1, ls) (hpush hi hs) im tx := ⟨hok', hO.2⟩
  refine ⟨w', ?_, CB_CI c1 hO' (HIS_fr hH h9 c3 (by rw [c4 19 (by omega)]; exact f2 19 (by omega)) (fun y hy => by rw [c4 y (by omega)]; exact f2 y (by omega))) (IMG_fr hI h9 c3 (fun y hy => by rw [c4 y (by omega)]; exact f2 y (by omega))), (hf1.trans hfr1).trans c2, hr1.two c3⟩
  unfold m_X7_cuts
  rw [mb_gR hSQ0.1 hSQ0.2.1.2.1, mb_gI hSQ0.2.2.1.1]
  simp only [hR0.2.1, hlen]
  have hlen1 : w1.1 12 1 = nI (ls.length + 1) := by rw [← hlen]; exact k3.2.1
  have hlen2 : I2 12 1 = nI ls.length := by rw [← hI2, u2_eq]
  have hrow : I2 (12 + 6) ls.length = nI c := by rw [f2 _ (by omega)]; exact k3.2.2.2 _ c (by rw [hls]; simp)
  rw [if_pos (show (0 : Int32) < nI (ls.length + 1) from nI_lt (a := 0) (by omega) (by omega)), mb_gR hSQ0.1 hSQ0.2.1.2.2.1, mb_gR hSQ0.1 hSQ0.2.1.2.1, mb_vc hHY0.1, mb_call e1, mb_gR (w := w1) o f1, mb_gI (w := w1) h0]
  simp only [hlen1]
  rw [nI_pred, mb_sI (w := w1) h0, hI2, mb_gR (w := (I2, w1.2)) o f1, mb_gR (w := (I2, w1.2)) h0 hr7, mb_gR (w := (I2, w1.2)) o f1, mb_gI (w := (I2, w1.2)) h0]
  simp only [hlen2]
  rw [mb_aI (w := (I2, w1.2)) hs7 (show ls.length < 40 by omega) (by omega)]
  simp only [hrow]
  rw [mb_mp, show nI c + 97 = nI (97 + c) by rw [show (97 : Int32) = nI 97 from rfl, nI_add, Nat.add_comm], mb_vc (w := (I2, w1.2)) o, mb_call e2]
  rfl
/-- rows moved up by one query: parts by one, the others by four, up to a bound -/
def Dr (q n b : Nat) (I I' : Nat → Nat → Int32) : Prop := (∀ x, x ≠ 13 → x ≠ 14 → x ≠ 15 → x ≠ 16 → x ≠ 17 → I' x = I x) ∧ (∀ j, I' 13 j = if q ≤ j ∧ j < n then I 13 (j + 1) else I 13 j) ∧ ∀ r, 14 ≤ r → r ≤ 17 → ∀ j, I' r j = if 4 * q ≤ j ∧ j < b then I r (j + 4) else I r j
theorem movePart_ok {z : Zd} (ho : HO z 12) {q n b : Nat} {I J : Nat → Nat → Int32} (hD : Dr q n b I J) (hb : 4 * q ≤ b) (h28 : b + 4 < 32) : ∃ J', m_X1_movePart 12 (nI (b + 4)) (nI b) (J, z) = some ((), (J', z)) ∧ Dr q n (b + 1) I J' := by
  obtain ⟨h0, ⟨-, r3, r4, r5, r6, -⟩, -, s3, s4, s5, s6, -⟩ := ho
  obtain ⟨d1, d2, d3⟩ := hD
  have hv : ∀ r, 14 ≤ r → r ≤ 17 → J r (b + 4) = I r (b + 4) := fun r a b' => by rw [d3 r a b', if_neg (by omega)]
  refine ⟨u2 (u2 (u2 (u2 J 14 b (I 14 (b + 4))) 15 b (I 15 (b + 4))) 16 b (I 16 (b + 4))) 17 b (I 17 (b + 4)), ?_, ?_, ?_, ?_⟩
  · unfold m_X1_movePart
    rw [mb_gR (w := (J, z)) h0 r3, mb_gR (w := (J, z)) h0 r3, mb_aI (w := (J, z)) s3 h28 (by omega)]
    dsimp only
    rw [hv (12 + 2) (by omega) (by omega), mb_tI (w := (J, z)) s3 (show b < 32 by omega) (by omega)]
    dsimp only
    generalize hJ1 : u2 J (12 + 2) b (I (12 + 2) (b + 4)) = J1
    rw [mb_gR (w := (J1, z)) h0 r4, mb_gR (w := (J1, z)) h0 r4, mb_aI (w := (J1, z)) s4 h28 (by omega)]
    dsimp only
    rw [show J1 (12 + 3) (b + 4) = I 15 (b + 4) by rw [← hJ1, u2_row (by omega)]; exact hv 15 (by omega) (by omega), mb_tI (w := (J1, z)) s4 (show b < 32 by omega) (by omega)]
    dsimp only
    generalize hJ2 : u2 J1 (12 + 3) b (I 15 (b + 4)) = J2
    rw [mb_gR (w := (J2, z)) h0 r5, mb_gR (w := (J2, z)) h0 r5, mb_aI (w := (J2, z)) s5 h28 (by omega)]
    dsimp only
    rw [show J2 (12 + 4) (b + 4) = I 16 (b + 4) by rw [← hJ2, u2_row (by omega), ← hJ1, u2_row (by omega)]; exact hv 16 (by omega) (by omega), mb_tI (w := (J2, z)) s5 (show b < 32 by omega) (by omega)]
    dsimp only
    generalize hJ3 : u2 J2 (12 + 4) b (I 16 (b + 4)) = J3
    rw [mb_gR (w := (J3, z)) h0 r6, mb_gR (w := (J3, z)) h0 r6, mb_aI (w := (J3, z)) s6 h28 (by omega)]
    dsimp only
    rw [show J3 (12 + 5) (b + 4) = I 17 (b + 4) by rw [← hJ3, u2_row (by omega), ← hJ2, u2_row (by omega), ← hJ1, u2_row (by omega)]; exact hv 17 (by omega) (by omega), mb_tI (w := (J3, z)) s6 (show b < 32 by omega) (by omega)]
    rw [← hJ3, ← hJ2, ← hJ1]
    rfl
  · intro x a1 a2 a3 a4 a5
    rw [u2_row a5, u2_row a4, u2_row a3, u2_row a2, d1 x a1 a2 a3 a4 a5]
  · intro j
    rw [u2_row (by omega), u2_row (by omega), u2_row (by omega), u2_row (by omega)]; exact d2 j
  · intro r h14 h17 j
    have key : ∀ K : Nat → Nat → Int32, (K r = J r) → u2 K r b (I r (b + 4)) r j = if 4 * q ≤ j ∧ j < b + 1 then I r (j + 4) else I r j := by
      intro K hK
      by_cases hj : j = b
      · subst hj; rw [u2_eq, if_pos ⟨hb, by omega⟩]
      · rw [u2_ne (Or.inr hj), hK, d3 r h14 h17]
        by_cases h2 : 4 * q ≤ j ∧ j < b
        · rw [if_pos h2, if_pos (by omega)]
        · rw [if_neg h2, if_neg (by omega)]
    have : r = 14 ∨ r = 15 ∨ r = 16 ∨ r = 17 := by omega
    rcases this with rfl | rfl | rfl | rfl
    · rw [u2_row (by omega), u2_row (by omega), u2_row (by omega)]; exact key J rfl
    · rw [u2_row (by omega), u2_row (by omega)]; exact key _ (u2_row (by omega))
    · rw [u2_row (by omega)]; exact key _ (by rw [u2_row (by omega), u2_row (by omega)])
    · exact key _ (by rw [u2_row (by omega), u2_row (by omega), u2_row (by omega)])
theorem dropQuery_ok {z : Zd} (ho : HO z 12) {I : Nat → Nat → Int32} {hs : HS} (hR : HR I 12 hs) (hB : HB hs) {q : Nat} (hq : q < hs.1.length) : ∃ I', m_X1_dropQuery 12 (nI q) (I, z) = some ((), (I', z)) ∧ HR I' 12 (hs.1.eraseIdx q, hs.2) ∧ ∀ x, (x < 12 ∨ 18 < x) → I' x = I x := by
  obtain ⟨h0, ⟨r2, -⟩, s2, -⟩ := id ho
  have h8 := hB.1
  obtain ⟨s, x, k, ⟨rfl, J, rfl, hD⟩, e⟩ := lp_FUi (F := fun k s => m_X1_dropQuery_B2 12 k s) (fun i s x => s = nI (q + i) ∧ ∃ J, x = (J, z) ∧ Dr q (q + i) (4 * (q + i)) I J) (hs.1.length - 1 - q) (by omega) (by
    intro i hi s x hP
    obtain ⟨rfl, J, rfl, hD⟩ := hP
    obtain ⟨d1, d2, d3⟩ := id hD
    have hJ0 : J 12 0 = nI hs.1.length := by rw [d1 12 (by omega) (by omega) (by omega) (by omega) (by omega)]; exact hR.1
    have hJp : J 13 (q + i + 1) = I 13 (q + i + 1) := by rw [d2, if_neg (by omega)]
    generalize hJ1 : u2 J 13 (q + i) (I 13 (q + i + 1)) = J1
    have hD1 : Dr q (q + i + 1) (4 * (q + i)) I J1 := by
      refine ⟨fun x a1 a2 a3 a4 a5 => by rw [← hJ1, u2_row a1, d1 x a1 a2 a3 a4 a5], fun j => ?_, fun r a b j => by rw [← hJ1, u2_row (by omega), d3 r a b]⟩
      rw [← hJ1]
      by_cases hj : j = q + i
      · subst hj; rw [u2_eq, if_pos (by omega)]
      · rw [u2_ne (Or.inr hj), d2]
        by_cases h2 : q ≤ j ∧ j < q + i
        · rw [if_pos h2, if_pos (by omega)]
        · rw [if_neg h2, if_neg (by omega)]
    obtain ⟨w', ⟨J2, rfl, hD2⟩, e2⟩ := lp_famU (F := fun (k2 : Int32 → Mo Unit) k s => m_X1_dropQuery_B28 12 (nI (q + i)) k2 k s) (fun c => nI c) (fun c x => ∃ J, x = (J, z) ∧ Dr q (q + i + 1) (4 * (q + i) + c) I J) 4 (by omega) (by
      intro c hc x hP
      obtain ⟨J, rfl, hD⟩ := hP
      obtain ⟨J', g1, g2⟩ := movePart_ok ho hD (by omega) (by omega)
      refine ⟨(J', z), ⟨J', rfl, g2⟩, fun k2 k => ?_⟩
      unfold m_X1_dropQuery_B28
      rw [if_neg (show ¬ (4 : Int32) ≤ nI c from nI_ge (b := 4) hc (by omega)), mb_vc (w := (J, z)) h0, nI_1, mb_call (place_ok 12 (q + i + 1) c _), mb_vc (w := (J, z)) h0, mb_call (place_ok 12 (q + i) c _), mb_vc (w := (J, z)) h0, show 4 * (q + i + 1) + c = 4 * (q + i) + c + 4 by omega, mb_call g1, nI_1]) (w0 := (J1, z)) ⟨J1, rfl, hD1⟩
    refine ⟨nI (q + (i + 1)), (J2, z), ⟨rfl, J2, rfl, by rw [show q + (i + 1) = q + i + 1 by omega, show 4 * (q + i + 1) = 4 * (q + i) + 4 by omega]; exact hD2⟩, fun k => ?_⟩
    show m_X1_dropQuery_B2 12 k (nI (q + i)) (J, z) = _
    unfold m_X1_dropQuery_B2
    rw [mb_gI (w := (J, z)) h0]
    simp only [hJ0]
    rw [nI_1, if_neg (nI_ge (by omega) (by omega)), mb_gR (w := (J, z)) h0 r2, mb_gR (w := (J, z)) h0 r2, mb_aI (w := (J, z)) s2 (show q + i + 1 < 8 by omega) (by omega)]
    dsimp only
    rw [show J (12 + 1) (q + i + 1) = I 13 (q + i + 1) from hJp, mb_tI (w := (J, z)) s2 (show q + i < 8 by omega) (by omega)]
    dsimp only
    rw [show u2 J (12 + 1) (q + i) (I 13 (q + i + 1)) = J1 from hJ1]
    obtain ⟨k3, e3⟩ := e2 k
    show lp _ FU (nI 0) (J1, z) = _
    refine e3.trans ?_
    unfold m_X1_dropQuery_B28
    rw [if_pos (show (4 : Int32) ≤ nI 4 from nI_le (a := 4) (Nat.le_refl 4) (by omega)), nI_1]
    rfl) (s := nI q) (w := (I, z)) ⟨rfl, I, rfl, ⟨fun _ _ _ _ _ _ => rfl, fun j => by rw [if_neg (by omega)], fun r _ _ j => by rw [if_neg (by omega)]⟩⟩
  obtain ⟨d1, d2, d3⟩ := hD
  have hJ0 : J 12 0 = nI hs.1.length := by rw [d1 12 (by omega) (by omega) (by omega) (by omega) (by omega)]; exact hR.1
  refine ⟨u2 J 12 0 (nI (hs.1.length - 1)), ?_, ?_, ?_⟩
  · unfold m_X1_dropQuery
    rw [e]
    unfold m_X1_dropQuery_B2
    rw [mb_gI (w := (J, z)) h0]
    simp only [hJ0]
    rw [nI_1, if_pos (nI_le (by omega) (by omega)), mb_gI (w := (J, z)) h0]
    simp only [hJ0]
    rw [show nI hs.1.length - 1 = nI (hs.1.length - 1) from nI_sub (b := 1) (by omega), mb_sI (w := (J, z)) h0]
    rfl
  · have hlen : (hs.1.eraseIdx q).length = hs.1.length - 1 := by rw [List.length_eraseIdx, if_pos hq]
    refine ⟨by rw [u2_eq, hlen], ?_, ?_, ?_⟩
    · rw [u2_ne (Or.inr (by omega)), d1 12 (by omega) (by omega) (by omega) (by omega) (by omega)]; exact hR.2.1
    · intro j Q hQ
      have hjl := (List.getElem?_eq_some_iff.mp hQ).1
      rw [hlen] at hjl
      rw [List.getElem?_eraseIdx] at hQ
      rw [u2_row (by omega), u2_row (by omega), u2_row (by omega), u2_row (by omega), u2_row (by omega)]
      by_cases hjq : j < q
      · rw [if_pos hjq] at hQ
        obtain ⟨a, b⟩ := hR.2.2.1 j Q hQ
        have hQ4 := (hB.2.2.1 Q (List.mem_of_getElem? hQ)).1
        refine ⟨by rw [show (12 + 1) = 13 from rfl, d2, if_neg (by omega)]; exact a, fun k P hP => ?_⟩
        have hk4 := (List.getElem?_eq_some_iff.mp hP).1
        rw [d3 (12 + 2) (by omega) (by omega), d3 (12 + 3) (by omega) (by omega), d3 (12 + 4) (by omega) (by omega), d3 (12 + 5) (by omega) (by omega), if_neg (by omega), if_neg (by omega), if_neg (by omega), if_neg (by omega)]
        exact b k P hP
      · rw [if_neg hjq] at hQ
        obtain ⟨a, b⟩ := hR.2.2.1 (j + 1) Q hQ
        have hQ4 := (hB.2.2.1 Q (List.mem_of_getElem? hQ)).1
        refine ⟨by rw [show (12 + 1) = 13 from rfl, d2, if_pos (by omega)]; exact a, fun k P hP => ?_⟩
        have hk4 := (List.getElem?_eq_some_iff.mp hP).1
        rw [d3 (12 + 2) (by omega) (by omega), d3 (12 + 3) (by omega) (by omega), d3 (12 + 4) (by omega) (by omega), d3 (12 + 5) (by omega) (by omega), if_pos (by omega), if_pos (by omega), if_pos (by omega), if_pos (by omega), show 4 * j + k + 4 = 4 * (j + 1) + k by omega]
        exact b k P hP
    · intro i c hc
      rw [u2_row (by omega), d1 _ (by omega) (by omega) (by omega) (by omega) (by omega)]; exact hR.2.2.2 i c hc
  · intro x hx
    rw [u2_row (by omega), d1 x (by omega) (by omega) (by omega) (by omega) (by omega)]
theorem cdrop_ok (h : CI w hs hi im tx ns) {q : Nat} {Q : List Pt} (hq : hs.1[q]? = some Q) : ∃ w' ns', m_X7_drops 0 (nI q) w = some (nI (hs.1.length - 1), w') ∧ CI w' (hs.1.eraseIdx q, hs.2) (hpush hi hs) im tx ns' ∧ frC w w' ∧ Rm w w' := by
  have hSQ0 := h.2.2.1.1
  have hHY0 := h.2.2.2.2.2.2.2.1
  have hql := (List.getElem?_eq_some_iff.mp hq).1
  obtain ⟨w1, e1, hC1, hf1, hr1⟩ := push_ok h
  obtain ⟨hCB, hO, hH, hI⟩ := CI_CB hC1
  obtain ⟨k1, k2, k3, -⟩ := hCB.2.2.1
  obtain ⟨I2, e2, hR2, f2⟩ := dropQuery_ok k1.2.2.1 k3 k2 hql
  have hok' := okHS_drop hCB.2.1 q
  obtain ⟨w', ns', e3, c1, c2, c3, c4, c5⟩ := rebuildCB_ok (w := (I2, w1.2)) (hs := (hs.1.eraseIdx q, hs.2)) (C0_fr (CB_C0 hCB) (fun y hy => f2 y (by omega))) hR2 hok'
  have h9 := hCB.2.2.2.2.2.2.2.2.1
  have hfr1 : frC w1 (I2, w1.2) := ⟨fun y a b => ⟨f2 y (by omega), rfl⟩, [], by show w1.2.2.2 = w1.2.2.2 ++ []; rw [List.append_nil]⟩
  have c1q := c1.2.2.1.1
  have hk : w'.1 12 0 = nI (hs.1.length - 1) := by
    have := c1.2.2.1.2.2.1.1
    rw [this]
    show nI (hs.1.eraseIdx q).length = _
    rw [List.length_eraseIdx, if_pos hql]
  refine ⟨w', ns', ?_, CB_CI c1 ⟨hok', hO.2⟩ (HIS_fr hH h9 c3 (by rw [c4]; exact f2 19 (by omega)) (fun y hy => by rw [c5 y (by omega)]; exact f2 y (by omega))) (IMG_fr hI h9 c3 (fun y hy => by rw [c5 y (by omega)]; exact f2 y (by omega))), (hf1.trans hfr1).trans c2, hr1.two c3⟩
  unfold m_X7_drops
  have hqa : qAt hs (nI q) = some (q, Q) := by
    have h8 := h.2.2.1.2.1.1
    unfold qAt; rw [if_neg (nI_pos (by omega)), nI_clamp (by omega), hq]; rfl
  rw [mb_vc hSQ0.1, mb_call (cisQuery_ok (I := w.1) (z := w.2) h.2.2.1 (nI q)), hqa, if_neg (show ¬ bI (some (q, Q)).isSome = 0 from (by decide : ¬ bI true = 0)), mb_gR (w := (w.1, w.2)) hSQ0.1 hSQ0.2.1.2.2.1, mb_gR (w := (w.1, w.2)) hSQ0.1 hSQ0.2.1.2.1, mb_vc (w := (w.1, w.2)) hHY0.1, mb_call (show m_X2_push 19 12 (w.1, w.2) = some ((), w1) from e1), mb_gR (w := w1) k1.1 k1.2.1.2.1, mb_vc (w := w1) k1.2.2.1.1, mb_call e2, mb_vc (w := (I2, w1.2)) k1.1, mb_call e3, mb_gR (w := w') c1q.1 c1q.2.1.2.1, mb_gI (w := w') c1q.2.2.1.1]
  show some (w'.1 12 0, w') = _
  rw [hk]
end CF
