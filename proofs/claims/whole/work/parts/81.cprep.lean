/-! ===== the class's prepare() ===== -/
theorem qws_len {Q : List Pt} (h1 : oneN Q) : ∀ k, k ≤ Q.length → (qws (Q.take k)).length ≤ k + 1 ∧ ((∀ (j : Nat) (P : Pt), j < k → Q[j]? = some P → P.1 ≠ 2) → (qws (Q.take k)).length ≤ k)
  | 0, _ => by simp [qws]
  | k + 1, hk => by
    obtain ⟨a, b⟩ := qws_len h1 k (by omega)
    have hP := List.getElem?_eq_getElem (show k < Q.length by omega)
    generalize Q[k] = P at hP
    have e : qws (Q.take (k + 1)) = qws (Q.take k) ++ pws P := flat_take pws Q hP
    rw [e, List.length_append]
    by_cases h2 : P.1 = 2
    · have hl : (pws P).length = 2 := by unfold pws; rw [if_pos h2]; rfl
      have := b (fun j P' hj hP' e' => by have := h1 j k P' P hP' hP e' h2; omega)
      refine ⟨by omega, fun h => absurd h2 (h k P (by omega) hP)⟩
    · have hl : (pws P).length = 1 := by unfold pws; rw [if_neg h2]; rfl
      refine ⟨by omega, fun h => ?_⟩
      have := b (fun j P' hj => h j P' (by omega))
      omega
theorem gatW_le : ∀ (us W : List (List Nat)), (gatW W us).length ≤ W.length + us.length
  | [], W => Nat.le_refl _
  | u :: us, W => by
    have h1 := gatW_le us (winsW W u)
    have h2 := winsW_le W u
    show (gatW (winsW W u) us).length ≤ W.length + (us.length + 1)
    omega
theorem hc_nb {Q : List Pt} : ∀ k, k ≤ Q.length → (nbT Q k = 0 ∧ hc Q k ≤ k) ∨ (nbT Q k = 4 ∧ hc Q k + 1 ≤ k)
  | 0, _ => Or.inl ⟨rfl, Nat.le_refl _⟩
  | k + 1, hk => by
    have ih := hc_nb (Q := Q) k (by omega)
    have hP := List.getElem?_eq_getElem (show k < Q.length by omega)
    generalize Q[k] = P at hP
    have e1 := (nbT_some hP).1
    have e2 := hc_some hP
    by_cases h0 : P.1 = 0
    · rw [if_pos h0] at e1 e2
      omega
    · rw [if_neg h0] at e1 e2
      by_cases h1 : P.1 = 1
      · rw [if_pos h1] at e1; omega
      · rw [if_neg h1] at e1; omega
def PRE (p : Nat) (I : Nat → Nat → Int32) (Q : List Pt) (ns : List (List Nat)) : Prop := AR I (p + 3) (gatW [] (qws Q)) ns ∧ ns.length ≤ 31 ∧ (∀ (n : Nat) (v : List Nat), ns[n]? = some v → I (p + 11) n = nI (mkT (fun u => u.isSuffixOf v) Q Q.length)) ∧ I p 7 = nI (nbT Q Q.length) ∧ I p 8 = nI (rchT Q Q.length) ∧ I p 9 = nI (nbT Q Q.length + hc Q Q.length) ∧ I p 10 = nI (((2 ^ hc Q Q.length - 1) * 2 ^ nbT Q Q.length) ||| (if nbT Q Q.length = 0 then 0 else 10)) ∧ I p 11 = nI (ns.length * 2 ^ (nbT Q Q.length + hc Q Q.length))
section CP
variable {z : Zd} {p : Nat}
theorem markNodes_ok (hz : SO z p) {I : Nat → Nat → Int32} {W ns : List (List Nat)} (hA : AR I (p + 3) W ns) (h31 : ns.length ≤ 31) (hW : okL W) (h5 : W.length ≤ 5) (hL : WL (I (p + 1)) (I (p + 2)) (W.map pkI)) {w : Nat} {u : List Nat} (hu : W[w]? = some u) (g : List Nat → Nat) (hg : ∀ (n : Nat) (v : List Nat), ns[n]? = some v → I (p + 11) n = nI (g v)) (μ : Nat) :
    ∃ I', m_X4_markNodes p (pkI u) (nI μ) (I, z) = some ((), (I', z)) ∧ (∀ (n : Nat) (v : List Nat), ns[n]? = some v → I' (p + 11) n = nI (g v ||| if u.isSuffixOf v then μ else 0)) ∧ ∀ x, x ≠ p + 11 → I' x = I x := by
  obtain ⟨z0, ⟨r0, r1, r2, r3, r4⟩, hwo, hao, ⟨s11, s12, s13, -, -⟩, -⟩ := id hz
  obtain ⟨a0, ⟨-, -, -, -, ar5, ar6, -⟩, ⟨-, -, -, -, as5, as6, -⟩, -⟩ := id hao
  obtain ⟨hN, q0, -, -, -, q4, -⟩ := id hA
  have hw := (List.getElem?_eq_some_iff.mp hu).1
  obtain ⟨s, x, k, ⟨rfl, J, rfl, hm, hF⟩, e⟩ := lp_FUi (F := fun k s => m_X4_markNodes_B12 p (nI μ) (nI w) k s) (fun i s x => s = nI i ∧ ∃ J, x = (J, z) ∧ (∀ (n : Nat) (v : List Nat), ns[n]? = some v → J (p + 11) n = nI (if n < i then (g v ||| if u.isSuffixOf v then μ else 0) else g v)) ∧ ∀ x, x ≠ p + 11 → J x = I x) ns.length (by omega) (by
    intro i hi s x hP
    obtain ⟨rfl, J, rfl, hm, hF⟩ := hP
    have hv := List.getElem?_eq_getElem hi
    generalize ns[i] = v at hv
    have hlt := eb_lt (show W.length ≤ 16 by omega) v
    have hbit : nI (eb W v) >>> (nI w &&& 31) &&& 1 = nI (eb W v / 2 ^ w % 2) := by
      rw [bx_shr (by omega) (by omega), show (1 : Int32) = nI (2 ^ 1 - 1) from rfl, bx_mask]
    have hb2 : u.isSuffixOf v = decide (eb W v / 2 ^ w % 2 = 1) := by
      rw [← Nat.testBit_eq_decide_div_mod_eq, eb_bit hu]
    have hJ5 : J (p + 3 + 5) i = nI (eb W v) := by rw [hF _ (by omega)]; exact q4 i v hv
    have hJ0 : J (p + 3) 0 = nI ns.length := by rw [hF _ (by omega)]; exact q0
    have hJi : J (p + 11) i = nI (g v) := by rw [hm i v hv, if_neg (by omega)]
    have nxt : ∀ J' : Nat → Nat → Int32, J' (p + 11) i = nI (g v ||| if u.isSuffixOf v then μ else 0) → (∀ l, l ≠ i → J' (p + 11) l = J (p + 11) l) → ∀ (n : Nat) (v : List Nat), ns[n]? = some v → J' (p + 11) n = nI (if n < i + 1 then (g v ||| if u.isSuffixOf v then μ else 0) else g v) := by
      intro J' h1 h2 n v' hv'
      by_cases hn : n = i
      · subst hn
        have : v' = v := Option.some.inj (hv'.symm.trans hv)
        subst this
        rw [if_pos (by omega), h1]
      · rw [h2 n hn, hm n v' hv']
        by_cases h3 : n < i
        · rw [if_pos h3, if_pos (show n < i + 1 by omega)]
        · rw [if_neg h3, if_neg (show ¬ n < i + 1 by omega)]
    rcases Nat.mod_two_eq_zero_or_one (eb W v / 2 ^ w) with h | h
    · refine ⟨nI (i + 1), (J, z), ⟨rfl, J, rfl, nxt J ?_ (fun _ _ => rfl), hF⟩, fun k => ?_⟩
      · rw [hJi, hb2, h]; simp
      · unfold m_X4_markNodes_B12
        rw [if_neg (nI_pos (by omega)), mb_gR z0 r1, mb_gI a0]
        simp only [hJ0]
        rw [if_neg (nI_ge hi (by omega)), mb_gR z0 r1, mb_gR a0 ar5, mb_aI as5 (show i < 1 + 5 * 6 by omega) (by omega)]
        simp only [hJ5]
        rw [hbit, h, if_pos (show nI 0 = 0 from rfl)]
        unfold m_X4_markNodes_J56
        rw [nI_1]
    · refine ⟨nI (i + 1), (u2 J (p + 11) i (nI (g v ||| μ)), z), ⟨rfl, _, rfl, nxt _ ?_ (fun l hl => u2_ne (Or.inr hl)), fun x hx => by rw [u2_row hx]; exact hF x hx⟩, fun k => ?_⟩
      · rw [u2_eq, hb2, h]; rfl
      · unfold m_X4_markNodes_B12
        rw [if_neg (nI_pos (by omega)), mb_gR z0 r1, mb_gI a0]
        simp only [hJ0]
        rw [if_neg (nI_ge hi (by omega)), mb_gR z0 r1, mb_gR a0 ar5, mb_aI as5 (show i < 1 + 5 * 6 by omega) (by omega)]
        simp only [hJ5]
        rw [hbit, h, if_neg (show ¬ nI 1 = 0 by decide), mb_gR z0 r2, mb_aI s11 (show i < 31 by omega) (by omega)]
        simp only [hJi]
        rw [bx_or, mb_tI s11 (show i < 31 by omega) (by omega)]
        unfold m_X4_markNodes_J56
        rw [nI_1]) (s := 0) (w := (I, z)) ⟨rfl, I, rfl, fun n v hv => by rw [if_neg (by omega)]; exact hg n v hv, fun _ _ => rfl⟩
  refine ⟨J, ?_, fun n v hv => by rw [hm n v hv, if_pos (List.getElem?_eq_some_iff.mp hv).1], hF⟩
  unfold m_X4_markNodes
  rw [mb_gR z0 r0, mb_vc hwo.1, mb_call (find_ok hwo hL (by rw [List.length_map]; exact h5) (pkI u)), fnd_pk hW hu, e]
  unfold m_X4_markNodes_B12
  have hJ0 : J (p + 3) 0 = nI ns.length := by rw [hF _ (by omega)]; exact q0
  rw [if_neg (nI_pos (by omega)), mb_gR z0 r1, mb_gI a0]
  simp only [hJ0]
  rw [if_pos (nI_le (Nat.le_refl _) (by omega))]
  rfl
theorem AR.kept {I I' : Nat → Nat → Int32} {q : Nat} {W ns : List (List Nat)} (h : AR I q W ns) (e : ∀ j, j ≤ 6 → I' (q + j) = I (q + j)) : AR I' q W ns := by
  have e0 : I' q = I q := e 0 (by omega)
  unfold AR at *
  rw [e0, e 1 (by omega), e 2 (by omega), e 3 (by omega), e 4 (by omega), e 5 (by omega), e 6 (by omega)]
  exact h
theorem prepare_ok (hz : SO z p) (hp : 48 ≤ p) (ho : HO z 12) {I : Nat → Nat → Int32} {hs : HS} (hR : HR I 12 hs) (hB : HB hs) {q : Nat} {Q : List Pt} (hq : hs.1[q]? = some Q) (h1 : oneN Q) (h4 : I (p + 4) 0 = 0) :
    ∃ I' ns, m_X4_prepare p 12 (nI q) (I, z) = some ((), (I', z)) ∧ PRE p I' Q ns ∧ (∀ x, (x < p ∨ p + 11 < x) → I' x = I x) := by
  obtain ⟨z0, ⟨r0, r1, r2, r3, r4⟩, hwo, hao, ⟨s11, s12, s13, -, -⟩, -⟩ := id hz
  obtain ⟨o1, ⟨t2, t3, t4, t5, t6, t7⟩, u1, u2', u3, u4, u5, u6⟩ := id ho
  have hq8 : q < 8 := by have := (List.getElem?_eq_some_iff.mp hq).1; have := hB.1; omega
  obtain ⟨hQ4, hQP⟩ := hB.2.2.1 Q (List.mem_of_getElem? hq)
  have hqw : ∀ u ∈ qws Q, okW u := fun u hu => by
    obtain ⟨P, hP, hu⟩ := List.mem_flatMap.mp hu
    exact hB.words hq P hP u hu
  have hl5 : (gatW [] (qws Q)).length ≤ 5 := by
    have a := gatW_le (qws Q) []
    have b := (qws_len h1 Q.length (Nat.le_refl _)).1
    rw [List.take_length] at b
    simp at a
    omega
  have hW : okL (gatW [] (qws Q)) := okL.gat okL_nil hqw
  have hin : ∀ u ∈ qws Q, u ∈ gatW [] (qws Q) := fun u hu => mem_gatW okL_nil hqw u (Or.inr hu)
  have hgm : (gatW [] (qws Q)).map pkI = gat [] (qws Q) := gatW_map [] _
  obtain ⟨I1, e1, L1, F1⟩ := gatherOne_ok hwo ho hR hB hq (by intro j hj; omega) (by rw [← hgm, List.length_map]; exact hl5)
  rw [← hgm] at L1
  obtain ⟨I2, ns, e2, A2, l2, F2⟩ := build_ok hao hwo L1 hl5 hW hl5 ⟨by unfold apart7; omega, by unfold apart3; omega⟩ ⟨by unfold apart7; omega, by unfold apart3; omega⟩ (by rw [F1 (p + 3 + 1) (by omega) (by omega)]; exact h4)
  have F2' : ∀ x, (x < p + 3 ∨ p + 10 < x) → I2 x = I1 x := fun x hx => F2 x (by unfold apart7; omega) (by unfold apart3; omega)
  have hR1 : HR I1 12 hs := hR.kept (fun j hj => F1 _ (by omega) (by omega))
  have hR2 : HR I2 12 hs := hR1.kept (fun j hj => F2' _ (by omega))
  have L2 : WL (I2 (p + 1)) (I2 (p + 2)) ((gatW [] (qws Q)).map pkI) := by rw [F2' _ (by omega), F2' _ (by omega)]; exact L1
  generalize hI3 : u2 (u2 (uA I2 (p + 11) (fun j => if j < 31 then 0 else I2 (p + 11) j)) p 7 0) p 8 0 = I3
  have F3 : ∀ x, x ≠ p → x ≠ p + 11 → I3 x = I2 x := fun x a b => by rw [← hI3, u2_row a, u2_row a, uA_ne b]
  obtain ⟨hrl, hrp⟩ := hR2.2.2.1 q Q hq
  obtain ⟨s, x, k, ⟨rfl, J, rfl, m1, m2, m3, mF, mG⟩, e⟩ := lp_FUi (F := fun k (s : Int32 × Int32) => m_X4_prepare_B43 p 12 (nI q) k s.1 s.2) (fun i s x => s = (nI (hc Q i), nI i) ∧ ∃ J, x = (J, z) ∧ (∀ (n : Nat) (v : List Nat), ns[n]? = some v → J (p + 11) n = nI (mkT (fun u => u.isSuffixOf v) Q i)) ∧ J p 7 = nI (nbT Q i) ∧ J p 8 = nI (rchT Q i) ∧ (∀ x, x ≠ p → x ≠ p + 11 → J x = I2 x) ∧ ∀ j, j ≠ 7 → j ≠ 8 → J p j = I3 p j) Q.length (by omega) (by
    intro i hi s x hP
    obtain ⟨rfl, J, rfl, m1, m2, m3, mF, mG⟩ := hP
    have hPi := List.getElem?_eq_getElem hi
    generalize Q[i] = P at hPi
    have hAJ : AR J (p + 3) (gatW [] (qws Q)) ns := A2.kept (fun j hj => mF _ (by omega) (by omega))
    have hLJ : WL (J (p + 1)) (J (p + 2)) ((gatW [] (qws Q)).map pkI) := by rw [mF _ (by omega) (by omega), mF _ (by omega) (by omega)]; exact L2
    obtain ⟨b0, b1, b2, b3⟩ := hrp i P hPi
    have hqk : 4 * q + i < 32 := by omega
    have hPm := List.mem_of_getElem? hPi
    obtain ⟨o1', o2', o3', o4'⟩ := hQP P hPm
    have hw1 : P.2.1 ∈ gatW [] (qws Q) := hin _ (List.mem_flatMap.mpr ⟨P, hPm, by unfold pws; split <;> simp⟩)
    obtain ⟨w, hw⟩ := List.getElem?_of_mem hw1
    have hci := hc_le Q i
    have c0 : J (12 + 2) (4 * q + i) = nI P.1 := by rw [mF _ (by omega) (by omega)]; exact b0
    have c1 : J (12 + 3) (4 * q + i) = pkI P.2.1 := by rw [mF _ (by omega) (by omega)]; exact b1
    have cl : J (12 + 1) q = nI Q.length := by rw [mF _ (by omega) (by omega)]; exact hrl
    have hmk : ∀ v, mkT (fun u => u.isSuffixOf v) Q (i + 1) = mkT (fun u => u.isSuffixOf v) Q i ||| mkP (fun u => u.isSuffixOf v) (hc Q i) P := fun v => mkT_some hPi
    obtain ⟨en, er⟩ := nbT_some hPi
    have eh := hc_some hPi
    have start : ∀ k : Int32 × Int32 → Mo Unit, m_X4_prepare_B43 p 12 (nI q) k (nI (hc Q i)) (nI i) (J, z) = (if nI P.1 = 0 then
        mb (vc 3 p (m_X4_markNodes p (pkI P.2.1) (nI (2 ^ hc Q i)))) fun _ => m_X4_prepare_J162 p 12 (nI q) (nI (hc Q i) + 1) (nI i) k
        else if nI P.1 = 1 then mb (vc 3 p (m_X4_markNodes p (pkI P.2.1) 16)) fun _ => m_X4_prepare_J162 p 12 (nI q) (nI (hc Q i)) (nI i) k
        else mb (vc 3 p (m_X4_markNodes p (pkI P.2.1) 64)) fun _ =>
          mb (gR 1 5 12) fun earlier20 => mb (aI earlier20 (nI (4 * q + i))) fun x21 => mb (vc 3 p (m_X4_markNodes p x21 32)) fun _ =>
          mb (sI 3 7 p 4) fun _ => mb (gR 1 6 12) fun reach22 => mb (aI reach22 (nI (4 * q + i))) fun x23 => mb (sI 3 8 p x23) fun _ => m_X4_prepare_J162 p 12 (nI q) (nI (hc Q i)) (nI i) k) (J, z) := by
      intro k
      unfold m_X4_prepare_B43
      rw [mb_gR o1 t2, mb_aI u1 hq8 (by omega)]
      simp only [cl]
      rw [if_neg (nI_ge hi (by omega)), mb_vc o1, mb_call (place_ok 12 q i _), mb_gR o1 t3, mb_aI u2' hqk (by omega)]
      simp only [c0]
      by_cases h0 : nI P.1 = 0
      · rw [if_pos h0, if_pos h0, mb_gR o1 t4, mb_aI u3 hqk (by omega)]
        simp only [c1]
        rw [msk_shl (by omega)]
      · rw [if_neg h0, if_neg h0, mb_gR o1 t3, mb_aI u2' hqk (by omega)]
        simp only [c0]
        by_cases hh1 : nI P.1 = 1
        · rw [if_pos hh1, if_pos hh1, mb_gR o1 t4, mb_aI u3 hqk (by omega)]
          simp only [c1]
        · rw [if_neg hh1, if_neg hh1, mb_gR o1 t4, mb_aI u3 hqk (by omega)]
          simp only [c1]
    by_cases h0 : P.1 = 0
    · rw [if_pos h0] at en er eh
      obtain ⟨J', f1, f2, f3⟩ := markNodes_ok hz hAJ (by omega) hW hl5 hLJ hw _ m1 (2 ^ hc Q i)
      refine ⟨(nI (hc Q (i + 1)), nI (i + 1)), (J', z), ⟨rfl, J', rfl, fun n v hv => ?_, ?_, ?_, ?_, ?_⟩, fun k => ?_⟩
      · rw [f2 n v hv, hmk v]; unfold mkP; rw [if_pos h0]
      · rw [f3 p (by omega), m2, en]
      · rw [f3 p (by omega), m3, er]
      · intro x a b; rw [f3 x b, mF x a b]
      · intro j a b; rw [f3 p (by omega), mG j a b]
      · show m_X4_prepare_B43 p 12 (nI q) k (nI (hc Q i)) (nI i) (J, z) = _
        rw [start k, if_pos (show nI P.1 = 0 by rw [h0]; rfl), mb_vc z0, mb_call f1]
        unfold m_X4_prepare_J162
        rw [nI_1, nI_1, eh]
    · rw [if_neg h0] at en er eh
      by_cases hh1 : P.1 = 1
      · rw [if_pos hh1] at en er
        obtain ⟨J', f1, f2, f3⟩ := markNodes_ok hz hAJ (by omega) hW hl5 hLJ hw _ m1 16
        refine ⟨(nI (hc Q (i + 1)), nI (i + 1)), (J', z), ⟨rfl, J', rfl, fun n v hv => ?_, ?_, ?_, ?_, ?_⟩, fun k => ?_⟩
        · rw [f2 n v hv, hmk v]; unfold mkP; rw [if_neg h0, if_pos hh1]
        · rw [f3 p (by omega), m2, en]
        · rw [f3 p (by omega), m3, er]
        · intro x a b; rw [f3 x b, mF x a b]
        · intro j a b; rw [f3 p (by omega), mG j a b]
        · show m_X4_prepare_B43 p 12 (nI q) k (nI (hc Q i)) (nI i) (J, z) = _
          rw [start k, if_neg (nI_ne0 (by omega) (by omega)), if_pos (show nI P.1 = 1 by rw [hh1]; rfl), mb_vc z0, show (16 : Int32) = nI 16 from rfl, mb_call f1]
          unfold m_X4_prepare_J162
          rw [nI_1, eh]
          rfl
      · rw [if_neg hh1] at en er
        have h2 : P.1 = 2 := by omega
        have hw2 : P.2.2.1 ∈ gatW [] (qws Q) := hin _ (List.mem_flatMap.mpr ⟨P, hPm, by unfold pws; rw [if_pos h2]; simp⟩)
        obtain ⟨w', hw'⟩ := List.getElem?_of_mem hw2
        obtain ⟨J', f1, f2, f3⟩ := markNodes_ok hz hAJ (by omega) hW hl5 hLJ hw _ m1 64
        obtain ⟨J2, g1, g2, g3⟩ := markNodes_ok hz (I := J') (hAJ.kept (fun j hj => f3 _ (by omega))) (by omega) hW hl5 (by rw [f3 _ (by omega), f3 _ (by omega)]; exact hLJ) hw' (fun v => mkT (fun u => u.isSuffixOf v) Q i ||| if P.2.1.isSuffixOf v then 64 else 0) f2 32
        have c2 : J' (12 + 4) (4 * q + i) = pkI P.2.2.1 := by rw [f3 _ (by omega), mF _ (by omega) (by omega)]; exact b2
        have c3 : (u2 J2 p 7 4) (12 + 5) (4 * q + i) = nI P.2.2.2 := by rw [u2_row (by omega), g3 _ (by omega), f3 _ (by omega), mF _ (by omega) (by omega)]; exact b3
        refine ⟨(nI (hc Q (i + 1)), nI (i + 1)), (u2 (u2 J2 p 7 4) p 8 (nI P.2.2.2), z), ⟨rfl, _, rfl, fun n v hv => ?_, ?_, ?_, ?_, ?_⟩, fun k => ?_⟩
        · rw [u2_row (by omega), u2_row (by omega), g2 n v hv, hmk v]; unfold mkP; rw [if_neg h0, if_neg hh1, Nat.or_assoc]
        · rw [u2_ne (Or.inr (by omega)), u2_eq, en]; rfl
        · rw [u2_eq, er]
        · intro x a b; rw [u2_row a, u2_row a, g3 x b, f3 x b, mF x a b]
        · intro j a b; rw [u2_ne (Or.inr b), u2_ne (Or.inr a), g3 p (by omega), f3 p (by omega), mG j a b]
        · show m_X4_prepare_B43 p 12 (nI q) k (nI (hc Q i)) (nI i) (J, z) = _
          rw [start k, if_neg (nI_ne0 (by omega) (by omega)), if_neg (show ¬ nI P.1 = 1 by rw [h2]; decide), mb_vc z0, show (64 : Int32) = nI 64 from rfl, mb_call f1, mb_gR o1 t5, mb_aI u4 hqk (by omega)]
          simp only [c2]
          rw [mb_vc z0, show (32 : Int32) = nI 32 from rfl, mb_call g1, mb_sI z0, mb_gR o1 t6, mb_aI u5 hqk (by omega)]
          simp only [c3]
          rw [mb_sI z0]
          unfold m_X4_prepare_J162
          rw [nI_1, eh]
          rfl) (s := (0, 0)) (w := (I3, z)) ⟨rfl, I3, rfl, fun n v hv => by
            have hn := (List.getElem?_eq_some_iff.mp hv).1
            rw [← hI3, u2_row (by omega), u2_row (by omega), uA_eq, if_pos (by omega)]; rfl, by rw [← hI3, u2_ne (Or.inr (by omega)), u2_eq]; rfl, by rw [← hI3, u2_eq]; rfl, F3, fun _ _ _ => rfl⟩
  have hnb := hc_nb (Q := Q) Q.length (Nat.le_refl _)
  have hnbl : nbT Q Q.length ≤ 4 := by omega
  have hw7 : nbT Q Q.length + hc Q Q.length ≤ 7 := by omega
  have hst : ns.length * 2 ^ (nbT Q Q.length + hc Q Q.length) ≤ 3968 := by
    have : 2 ^ (nbT Q Q.length + hc Q Q.length) ≤ 2 ^ 7 := Nat.pow_le_pow_right (by omega) hw7
    have := Nat.mul_le_mul (show ns.length ≤ 31 by omega) this
    omega
  have hpos : 1 ≤ 2 ^ hc Q Q.length := Nat.pos_of_ne_zero (by simp)
  generalize hmt : ((2 ^ hc Q Q.length - 1) * 2 ^ nbT Q Q.length) ||| (if nbT Q Q.length = 0 then 0 else 10) = mt
  refine ⟨u2 (u2 (u2 J p 9 (nI (nbT Q Q.length + hc Q Q.length))) p 10 (nI mt)) p 11 (nI (ns.length * 2 ^ (nbT Q Q.length + hc Q Q.length))), ns, ?_, ?_, ?_⟩
  · have hJ0 : J (p + 3) 0 = nI ns.length := by rw [mF _ (by omega) (by omega)]; exact A2.2.1
    have hJl : J (12 + 1) q = nI Q.length := by rw [mF _ (by omega) (by omega)]; exact hrl
    unfold m_X4_prepare
    rw [mb_gR z0 r0, mb_vc hwo.1, mb_call e1, mb_gR (w := (I1, z)) z0 r1, mb_gR (w := (I1, z)) z0 r0, mb_vc (w := (I1, z)) hao.1, mb_call e2, mb_gR (w := (I2, z)) z0 r2, mb_call (fill_ok s11 (by omega) 0), mb_sI z0, mb_sI z0]
    dsimp only
    rw [hI3, e]
    unfold m_X4_prepare_B43
    rw [mb_gR o1 t2, mb_aI u1 hq8 (by omega)]
    simp only [hJl]
    rw [if_pos (nI_le (Nat.le_refl _) (by omega)), mb_gI z0]
    simp only [m2]
    rw [nI_add, mb_sI z0, mb_gI z0]
    have h7 : u2 J p 9 (nI (nbT Q Q.length + hc Q Q.length)) p 7 = nI (nbT Q Q.length) := by rw [u2_ne (Or.inr (by omega))]; exact m2
    simp only [h7]
    rw [mb_gI z0]
    simp only [h7]
    rw [msk_shl (by omega), show nI (2 ^ hc Q Q.length) - 1 = nI (2 ^ hc Q Q.length - 1) from nI_sub (b := 1) hpos, bx_shl (by omega)]
    have h202 : ∀ b : Nat, ((2 ^ hc Q Q.length - 1) * 2 ^ nbT Q Q.length) ||| b = mt → m_X4_prepare_J202 p (nI b) (nI ((2 ^ hc Q Q.length - 1) * 2 ^ nbT Q Q.length)) p (u2 J p 9 (nI (nbT Q Q.length + hc Q Q.length)), z) = some ((), (u2 (u2 (u2 J p 9 (nI (nbT Q Q.length + hc Q Q.length))) p 10 (nI mt)) p 11 (nI (ns.length * 2 ^ (nbT Q Q.length + hc Q Q.length))), z)) := by
      intro b hb
      unfold m_X4_prepare_J202
      rw [bx_or, hb, mb_sI z0, mb_gR z0 r1, mb_gI hao.1]
      have k0 : u2 (u2 J p 9 (nI (nbT Q Q.length + hc Q Q.length))) p 10 (nI mt) (p + 3) 0 = nI ns.length := by rw [u2_row (by omega), u2_row (by omega)]; exact hJ0
      have k9 : u2 (u2 J p 9 (nI (nbT Q Q.length + hc Q Q.length))) p 10 (nI mt) p 9 = nI (nbT Q Q.length + hc Q Q.length) := by rw [u2_ne (Or.inr (by omega)), u2_eq]
      simp only [k0]
      rw [mb_gI z0]
      simp only [k9]
      rw [bx_shl (by omega), if_neg (show ¬ (3968 : Int32) < nI (ns.length * 2 ^ (nbT Q Q.length + hc Q Q.length)) from nI_nlt (a := 3968) hst (by omega)), mb_sI z0]
      rfl
    by_cases hn0 : nbT Q Q.length = 0
    · rw [if_pos (show nI (nbT Q Q.length) ≤ 0 by rw [hn0]; decide)]
      exact h202 0 (by rw [← hmt, if_pos hn0])
    · rw [if_neg (nI_nle (by omega) (by omega))]
      exact h202 10 (by rw [← hmt, if_neg hn0])
  · generalize hI9 : u2 (u2 (u2 J p 9 (nI (nbT Q Q.length + hc Q Q.length))) p 10 (nI mt)) p 11 (nI (ns.length * 2 ^ (nbT Q Q.length + hc Q Q.length))) = I9
    have g : ∀ x, x ≠ p → I9 x = J x := fun x hx => by rw [← hI9, u2_row hx, u2_row hx, u2_row hx]
    refine ⟨A2.kept (fun j hj => by rw [g _ (by omega), mF _ (by omega) (by omega)]), by omega, ?_, ?_, ?_, ?_, ?_, ?_⟩
    · intro n v hv
      rw [g _ (by omega)]
      exact m1 n v hv
    · rw [← hI9, u2_ne (Or.inr (by omega)), u2_ne (Or.inr (by omega)), u2_ne (Or.inr (by omega))]; exact m2
    · rw [← hI9, u2_ne (Or.inr (by omega)), u2_ne (Or.inr (by omega)), u2_ne (Or.inr (by omega))]; exact m3
    · rw [← hI9, u2_ne (Or.inr (by omega)), u2_ne (Or.inr (by omega)), u2_eq]
    · rw [← hI9, u2_ne (Or.inr (by omega)), u2_eq, hmt]
    · rw [← hI9, u2_eq]
  · intro x hx
    rw [u2_row (by omega), u2_row (by omega), u2_row (by omega), mF x (by omega) (by omega), F2' x (by omega), F1 x (by omega) (by omega)]
end CP
