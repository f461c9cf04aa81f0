/-! ===== hit(), node(): both sides ===== -/
/-- the place of the k-th that holds, from i on, n places -/
def kth (f : Nat → Bool) : Nat → Nat → Nat → Int32
  | 0, _, _ => -9
  | n + 1, i, k => if f i then (if k = 0 then nI i else kth f n (i + 1) (k - 1)) else kth f n (i + 1) k
theorem kth_none (f : Nat → Bool) : ∀ (n i k : Nat), (∀ j, i ≤ j → j < i + n → f j = false) → kth f n i k = -9
  | 0, _, _, _ => rfl
  | n + 1, i, k, h => by
    unfold kth
    rw [if_neg (by rw [h i (Nat.le_refl i) (by omega)]; decide)]
    exact kth_none f n (i + 1) k (fun j a b => h j (by omega) (by omega))
theorem kth_cut (f : Nat → Bool) (m : Nat) : ∀ (n i k : Nat), (∀ j, i + n ≤ j → j < i + n + m → f j = false) → kth f (n + m) i k = kth f n i k
  | 0, i, k, h => by
    rw [Nat.zero_add, kth_none f m i k (fun j a b => h j (by omega) (by omega))]
    rfl
  | n + 1, i, k, h => by
    rw [show n + 1 + m = (n + m) + 1 by omega]
    unfold kth
    rw [kth_cut f m n (i + 1) (k - 1) (fun j a b => h j (by omega) (by omega)), kth_cut f m n (i + 1) k (fun j a b => h j (by omega) (by omega))]
theorem kth_cong {f g : Nat → Bool} : ∀ (n i k : Nat), (∀ j, i ≤ j → j < i + n → f j = g j) → kth f n i k = kth g n i k
  | 0, _, _, _ => rfl
  | n + 1, i, k, h => by
    unfold kth
    rw [h i (Nat.le_refl i) (by omega), kth_cong n (i + 1) (k - 1) (fun j a b => h j (by omega) (by omega)), kth_cong n (i + 1) k (fun j a b => h j (by omega) (by omega))]
theorem placeOfBit_ok {a : Nat} (ha : a < 2 ^ 62) {k : Nat} (hk : k < 2 ^ 31) (w : Wd) : m_X7_placeOfBit (lN a) (nI k) w = some (kth (fun i => a.testBit i) 40 0 k, w) := by
  have hgen : ∀ n i, i + n = 40 → ∀ s, s ≤ k → s ≤ i → ∀ f, n < f → lp (fun kk (s : Int32 × Int32) => m_X7_placeOfBit_B5 (lN a) (nI k) kk s.1 s.2) f (nI s, nI i) w = some (kth (fun i => a.testBit i) n i (k - s), w) := by
    intro n
    induction n with
    | zero =>
      intro i hi s hs _ f hf
      obtain ⟨g, rfl⟩ : ∃ g, f = g + 1 := ⟨f - 1, by omega⟩
      rw [lp_s]
      unfold m_X7_placeOfBit_B5
      rw [if_pos (show (40 : Int32) ≤ nI i from nI_le (a := 40) (by omega) (by omega))]
      rfl
    | succ n ih =>
      intro i hi s hs hsi f hf
      obtain ⟨g, rfl⟩ : ∃ g, f = g + 1 := ⟨f - 1, by omega⟩
      rw [lp_s]
      have ih0 := ih (i + 1) (by omega) s hs (by omega) g (by omega)
      have ih1 := fun hlt : s + 1 ≤ k => ih (i + 1) (by omega) (s + 1) hlt (by omega) g (by omega)
      generalize lp (fun kk (s : Int32 × Int32) => m_X7_placeOfBit_B5 (lN a) (nI k) kk s.1 s.2) g = kk at ih0 ih1
      show m_X7_placeOfBit_B5 (lN a) (nI k) kk (nI s) (nI i) w = _
      unfold m_X7_placeOfBit_B5
      rw [if_neg (show ¬ (40 : Int32) ≤ nI i from nI_ge (b := 40) (by omega) (by omega)), lx_shr (by omega) ha]
      have hbit : (lg_cmp (lN (a / 2 ^ i) &&& 1) 0 = 0) ↔ a.testBit i = false := by
        rw [lg0, show (1 : Int64) = lN (2 ^ 1 - 1) from rfl, lx_and, Nat.and_two_pow_sub_one_eq_mod, show (0 : Int64) = lN 0 from rfl, lx_eq (by omega) (by omega), Nat.testBit_eq_decide_div_mod_eq, decide_eq_false_iff_not]
        omega
      unfold kth
      cases hb : a.testBit i
      · rw [if_pos (hbit.mpr hb), if_neg (by decide)]
        unfold m_X7_placeOfBit_J34
        rw [nI_1]
        exact ih0
      · rw [if_neg (fun h => by rw [hbit.mp h] at hb; cases hb), if_pos rfl]
        by_cases he : s = k
        · rw [if_pos (by rw [he]), if_pos (by omega)]
          rfl
        · rw [if_neg (fun h => he ((nI_eq (by omega) (by omega)).mp h)), if_neg (by omega)]
          unfold m_X7_placeOfBit_J34
          rw [nI_1, nI_1, ih1 (by omega), show k - (s + 1) = k - s - 1 by omega]
  unfold m_X7_placeOfBit
  exact hgen 40 0 (by omega) 0 (by omega) (by omega) FU (by unfold FU; omega)
theorem hit_same {I I' : Nat → Nat → Int32} {z z' : Zd} {m : Nat} {W ns : List (List Nat)} {hs : HS} (h : CK I z W hs) (hM : MO z' m) (hR : RR (I' (m + 2)) hs) (hX : RX I' m W ns) (x y : Int32) :
    ∃ r I2, m_X7_hit 0 x y (I, z) = some (r, (I, z)) ∧ m_X8_hit m x y (I', z') = some (r, (I2, z')) ∧ (∀ k, k ≠ 0 → I2 m k = I' m k) ∧ ∀ p, p ≠ m → p ≠ m + 12 → I2 p = I' p := by
  obtain ⟨hz, hB, hRc, hW, h16, hL, hJ, hall⟩ := id h
  obtain ⟨o, ⟨-, f1, -, -, f4, f5, f6⟩, hho, ⟨w1, w2, w3, -⟩, -, s32⟩ := id hz
  have h40 := hB.2.1
  have hL1 := hL.1
  rw [List.length_map] at hL1
  have hq : m_X7_isWord 0 x (I, z) = some (bI (lAt W x).isSome, (I, z)) := by
    unfold m_X7_isWord
    rcases lAt_cases W x with ⟨e, hx⟩ | ⟨n, u, hu, hn, rfl, e⟩
    · rw [e]
      rcases hx with hx | ⟨n, hn, rfl, hl⟩
      · rw [if_pos hx]; rfl
      · rw [if_neg (nI_pos hn), mb_gR o f4, mb_gI w1]
        simp only [hL1]
        rw [if_pos (nI_le hl hn)]; rfl
    · have hl := (List.getElem?_eq_some_iff.mp hu).1
      rw [e, if_neg (nI_pos hn), mb_gR o f4, mb_gI w1]
      simp only [hL1]
      rw [if_neg (nI_ge hl (by omega))]; rfl
  have hR0 : RR (u2 I' m 0 0 (m + 2)) hs := by rw [u2_row (by omega)]; exact hR
  have hX0 : RX (u2 I' m 0 0) m W ns := hX.kept (u2_ne (Or.inr (by omega))) (u2_ne (Or.inr (by omega))) (fun j a b => u2_row (by omega))
  have hRW0 : u2 I' m 0 0 m 15 = nI W.length := hX0.2.2.2.2.1.1
  unfold m_X7_hit m_X8_hit
  rw [mb_vc o, mb_call hq, mb_sI hM.o]
  dsimp only
  rw [mb_gI hM.o]
  simp only [hRW0]
  rw [mb_call (in0_ok W (by omega) x _)]
  rcases lAt_cases W x with ⟨e, hx⟩ | ⟨n, u, hu, hn, rfl, e⟩
  · rw [e, if_pos (show bI (none : Option (List Nat)).isSome = 0 from rfl), if_pos (show bI (none : Option (List Nat)).isSome = 0 from rfl)]
    exact ⟨-1, u2 I' m 0 0, rfl, rfl, fun k hk => u2_ne (Or.inr hk), fun p hp _ => u2_row hp⟩
  rw [e, if_neg (show ¬ bI (some u).isSome = 0 from (by decide : ¬ bI true = 0)), if_neg (show ¬ bI (some u).isSome = 0 from (by decide : ¬ bI true = 0))]
  have hl := (List.getElem?_eq_some_iff.mp hu).1
  by_cases hy : -1 ≤ y
  · rw [if_pos hy, if_pos hy]
    obtain ⟨I1, e1, hE, F⟩ := layEnds_ok hM hB hR0 hX0
    have hR1 : RR (I1 (m + 2)) hs := by rw [F (m + 2) (by omega)]; exact hR0
    have hfr : (∀ k, k ≠ 0 → I1 m k = I' m k) ∧ ∀ p, p ≠ m → p ≠ m + 12 → I1 p = I' p := ⟨fun k hk => by rw [F m (by omega), u2_ne (Or.inr hk)], fun p hp hp2 => by rw [F p hp2, u2_row hp]⟩
    rw [mb_vc hM.o, mb_call e1]
    have hJn : z.1 32 n = lN (hb hs.2 u hs.2.length) := by
      have := hJ n u hu
      rw [if_neg (by omega)] at this
      exact this
    have hlt : hb hs.2 u hs.2.length < 2 ^ 40 := Nat.lt_of_lt_of_le (hb_lt _ _ _) (Nat.pow_le_pow_right (by omega) h40)
    by_cases hy1 : y = -1
    · rw [if_pos hy1, if_pos hy1, mb_gR o f6, mb_aJ s32 (show n < 16 by omega) (by omega)]
      simp only [hJn]
      rw [mb_call (bitCount_ok (by omega) _), mb_gR hM.o hM.rNow, show (1 : Int32) = nI 1 from rfl, mb_aI hM.sNow (show 1 < 178 by omega) (by omega)]
      simp only [hR1.2.1]
      rw [mb_vc hM.o, mb_call (hits_ok hM h16 hE h40 hu (Nat.le_refl _))]
      refine ⟨nI (hct hs.2 u hs.2.length), I1, ?_, rfl, hfr.1, hfr.2⟩
      rw [show pcn (hb hs.2 u hs.2.length) 64 = hct hs.2 u hs.2.length by
        have := pcn_hb hs.2 u hs.2.length (64 - hs.2.length)
        rwa [show hs.2.length + (64 - hs.2.length) = 64 by omega] at this]
      rfl
    rw [if_neg hy1, if_neg hy1]
    obtain ⟨k, hk, rfl⟩ := i32_nn (m1_cases hy hy1)
    rw [mb_gR o f6, mb_aJ s32 (show n < 16 by omega) (by omega)]
    simp only [hJn]
    rw [mb_call (placeOfBit_ok (by omega) hk _)]
    refine ⟨kth (En hs.2 u) hs.2.length 0 k, I1, ?_, ?_, hfr.1, hfr.2⟩
    · have e3 := kth_cut (fun i => (hb hs.2 u hs.2.length).testBit i) (40 - hs.2.length) hs.2.length 0 k (fun j a b => by
        show (hb hs.2 u hs.2.length).testBit j = false
        rw [hb_bit, show decide (j < hs.2.length) = false by simp; omega]; rfl)
      rw [show hs.2.length + (40 - hs.2.length) = 40 by omega] at e3
      rw [e3, kth_cong (g := En hs.2 u) hs.2.length 0 k (fun j a b => by
        show (hb hs.2 u hs.2.length).testBit j = _
        rw [hb_bit, show decide (j < hs.2.length) = true by simp; omega, Bool.true_and])]
      rfl
    · have hgen : ∀ n' i, i + n' = hs.2.length → ∀ k, k < 2 ^ 31 → ∀ f, n' < f → lp (fun kk (s : Int32 × Int32) => m_X8_hit_B54 m (nI n) kk s.1 s.2) f (nI k, nI i) (I1, z') = some (kth (En hs.2 u) n' i k, (I1, z')) := by
        intro n'
        induction n' with
        | zero =>
          intro i hi k hk f hf
          obtain ⟨g, rfl⟩ : ∃ g, f = g + 1 := ⟨f - 1, by omega⟩
          rw [lp_s]
          unfold m_X8_hit_B54
          rw [mb_gR hM.o hM.rNow, show (1 : Int32) = nI 1 from rfl, mb_aI hM.sNow (show 1 < 178 by omega) (by omega)]
          simp only [hR1.2.1]
          rw [if_pos (nI_le (by omega) (by omega))]
          rfl
        | succ n' ih =>
          intro i hi k hk f hf
          obtain ⟨g, rfl⟩ : ∃ g, f = g + 1 := ⟨f - 1, by omega⟩
          rw [lp_s]
          have ih0 := ih (i + 1) (by omega) k hk g (by omega)
          have ih1 := ih (i + 1) (by omega) (k - 1) (by omega) g (by omega)
          generalize lp (fun kk (s : Int32 × Int32) => m_X8_hit_B54 m (nI n) kk s.1 s.2) g = kk at ih0 ih1
          have hlt2 := eb_lt h16 (hs.2.take (i + 1))
          show m_X8_hit_B54 m (nI n) kk (nI k) (nI i) (I1, z') = _
          unfold m_X8_hit_B54
          rw [mb_gR hM.o hM.rNow, show mb (aI (m + 2) 1) = mb (aI (m + 2) (nI 1)) from rfl, mb_aI hM.sNow (show 1 < 178 by omega) (by omega)]
          simp only [hR1.2.1]
          rw [if_neg (nI_ge (by omega) (by omega)), mb_gR hM.o hM.rEnded, mb_aI hM.sEnded (show i < 40 by omega) (by omega)]
          simp only [hE i (by omega)]
          rw [mb_call (has_ok (by omega) (by omega) _), eb_bit hu]
          unfold kth
          rw [show u.isSuffixOf (hs.2.take (i + 1)) = En hs.2 u i from rfl]
          cases En hs.2 u i
          · rw [if_neg (show ¬ false = true by decide), if_pos rfl, if_neg (show ¬ false = true by decide)]
            unfold m_X8_hit_J89
            rw [nI_1]
            exact ih0
          · rw [if_pos (show true = true from rfl), if_neg (show ¬ (1 : Int32) = 0 by decide), if_pos (show true = true from rfl)]
            by_cases hk0 : k = 0
            · rw [if_pos (show nI k = 0 by rw [hk0]; rfl), if_pos hk0]; rfl
            · rw [if_neg (nI_ne0 (by omega) hk), if_neg hk0]
              unfold m_X8_hit_J89
              rw [nI_1, show nI k + -1 = nI (k - 1) by
                rw [show nI k = nI ((k - 1) + 1) by congr 1; omega]; exact nI_m1 _]
              exact ih1
      exact hgen hs.2.length 0 (by omega) k hk FU (by unfold FU; omega)
  · rw [if_neg hy, if_neg hy]
    exact ⟨-1, u2 I' m 0 0, rfl, rfl, fun k hk => u2_ne (Or.inr hk), fun p hp _ => u2_row hp⟩
theorem NS.idx0 {W ns : List (List Nat)} (h : NS W ns) {n : Nat} {u : List Nat} (hu : ns[n]? = some u) : n = 0 ↔ u = [] := by
  constructor
  · rintro rfl
    exact (Option.some.inj (hu.symm.trans h.zero))
  · rintro rfl
    exact nodup_idx h.nodup hu h.zero
theorem rc_last {u : List Nat} (h : ∀ c ∈ u, c < 8) {c : Nat} (hc : c < 8) : rcI (u ++ [c]) &&& 7 = nI c := by
  unfold rcI
  rw [show (7 : Int32) = nI (2 ^ 3 - 1) from rfl, bx_mask]
  congr 1
  unfold rc
  rw [b8_snoc]
  omega
theorem node_same {I I' : Nat → Nat → Int32} {z z' : Zd} {m : Nat} {W ns : List (List Nat)} (hz : SQ z) (hA : AR I 24 W ns) (h97 : ns.length ≤ 97) (hM : MO z' m) (hX : RX I' m W ns) (x y : Int32) :
    ∃ r, m_X7_node 0 x y (I, z) = some (r, (I, z)) ∧ m_X8_node m x y (I', z') = some (r, (u2 I' m 0 0, z')) := by
  obtain ⟨o, ⟨-, f1, -, -, f4, f5, f6⟩, hho, hwo, ⟨a0, ⟨ar1, ar2, ar3, ar4, ar5, ar6, -⟩, ⟨as1, as2, as3, as4, as5, as6, -⟩, -⟩, s32⟩ := id hz
  have hX0 : RX (u2 I' m 0 0) m W ns := hX.kept (u2_ne (Or.inr (by omega))) (u2_ne (Or.inr (by omega))) (fun j a b => u2_row (by omega))
  obtain ⟨hN, hW, h16, -, hRW, hRN, hRA⟩ := id hX0
  have hmn : u2 I' m 0 0 m 17 = nI ns.length := by have := hRN.1; rwa [List.length_map] at this
  obtain ⟨-, q0, q1, q2, q3, q4, q5⟩ := id hA
  have h8 : ∀ v ∈ ns, (∀ d ∈ v, d < 8) ∧ v.length ≤ 6 := by
    intro v hv
    rcases (hN.2 v).mp hv with rfl | ⟨u, hu, hp⟩
    · exact ⟨by simp, by simp⟩
    · have := hW.1 u hu
      exact ⟨fun d hd => this.2.2 d (hp.subset hd), Nat.le_trans hp.length_le this.2.1⟩
  unfold m_X7_node m_X8_node
  rw [mb_vc o, mb_call (cisNode_ok hz hA h97 x), mb_sI hM.o]
  dsimp only
  rw [mb_gI hM.o]
  simp only [hmn]
  rw [mb_call (in0_ok ns (by omega) x _)]
  rcases lAt_cases ns x with ⟨e, -⟩ | ⟨n, u, hu, hn, rfl, e⟩
  · rw [e, if_pos (show bI (none : Option (List Nat)).isSome = 0 from rfl), if_pos (show bI (none : Option (List Nat)).isSome = 0 from rfl)]
    exact ⟨-1, rfl, rfl⟩
  rw [e, if_neg (show ¬ bI (some u).isSome = 0 from (by decide : ¬ bI true = 0)), if_neg (show ¬ bI (some u).isSome = 0 from (by decide : ¬ bI true = 0))]
  have hl := (List.getElem?_eq_some_iff.mp hu).1
  obtain ⟨u8, u6⟩ := h8 u (List.mem_of_getElem? hu)
  have hnode : u2 I' m 0 0 (m + 8) n = rcI u := hRN.2 n (rcI u) (by rw [List.getElem?_map, hu]; rfl)
  rw [mb_gR hM.o hM.rNodes, mb_aI hM.sNodes (show n < 100 by omega) (by omega)]
  simp only [hnode]
  rw [mb_mp, rcI_div u8 u6]
  have hidx := hN.idx0 hu
  obtain ⟨g1, g2, -⟩ := hRA n u hu hl
  by_cases y0 : y = 0
  · rw [if_pos y0, if_pos y0, mb_gR o f5, mb_gR a0 ar1, mb_aI as1 (show n < 1 + 16 * 6 by omega) (by omega)]
    simp only [q1 n u hu]
    exact ⟨nI u.length, rfl, rfl⟩
  rw [if_neg y0, if_neg y0]
  by_cases y1 : y = 1
  · rw [if_pos y1, if_pos y1]
    by_cases hn0 : n = 0
    · rw [if_pos (show nI n = 0 by rw [hn0]; rfl), if_pos (show nI u.length = 0 by rw [hidx.mp hn0]; rfl)]
      exact ⟨-9, rfl, rfl⟩
    · have hne : u ≠ [] := fun e => hn0 (hidx.mpr e)
      obtain ⟨v, c, rfl⟩ : ∃ v c, u = v ++ [c] := ⟨u.dropLast, u.getLast hne, (List.dropLast_concat_getLast hne).symm⟩
      obtain ⟨t1, k, t2, t3⟩ := q2 n v c hu
      rw [if_neg (nI_ne0 (by omega) hn), if_neg (nI_ne0 (by simp) (by omega)), mb_gR o f5, mb_gR a0 ar2, mb_aI as2 (show n < 1 + 16 * 6 by omega) (by omega), mb_gR hM.o hM.rNodes, mb_aI hM.sNodes (show n < 100 by omega) (by omega)]
      simp only [t1, hnode]
      rw [rc_last (fun d hd => u8 d (by simp [hd])) (u8 c (by simp))]
      refine ⟨nI (97 + c), ?_, ?_⟩
      · show some (nI c + nI 97, (I, z)) = _
        rw [nI_add, Nat.add_comm]
      · show some (nI 97 + nI c, _) = _
        rw [nI_add]
  rw [if_neg y1, if_neg y1]
  by_cases y2 : y = 2
  · rw [if_pos y2, if_pos y2]
    by_cases hn0 : n = 0
    · rw [if_pos (show nI n = 0 by rw [hn0]; rfl), if_pos (show nI u.length = 0 by rw [hidx.mp hn0]; rfl)]
      exact ⟨-9, rfl, rfl⟩
    · have hne : u ≠ [] := fun e => hn0 (hidx.mpr e)
      obtain ⟨v, c, rfl⟩ : ∃ v c, u = v ++ [c] := ⟨u.dropLast, u.getLast hne, (List.dropLast_concat_getLast hne).symm⟩
      obtain ⟨t1, k, t2, t3⟩ := q2 n v c hu
      rw [if_neg (nI_ne0 (by omega) hn), if_neg (nI_ne0 (by simp) (by omega)), mb_gR o f5, mb_gR a0 ar3, mb_aI as3 (show n < 1 + 16 * 6 by omega) (by omega), mb_gR hM.o hM.rNodes, mb_aI hM.sNodes (show n < 100 by omega) (by omega)]
      simp only [t3, hnode]
      rw [show nI (v ++ [c]).length - 1 = nI v.length by rw [List.length_append]; exact nI_pred _, mb_call (firsts_ok u8 u6 (by simp) _), show (v ++ [c]).take v.length = v by simp, mb_vc hM.o, mb_call (nodeOf_ok hM hRN (by rw [List.length_map]; omega) _)]
      refine ⟨nI k, rfl, ?_⟩
      rcases fnd_map h8 hN.nodup (u := v) (h8 v (List.mem_of_getElem? t2)) with ⟨k', k1, k2⟩ | ⟨k1, -⟩
      · rw [k2, nodup_idx hN.nodup k1 t2]; rfl
      · exact absurd (List.mem_of_getElem? t2) k1
  rw [if_neg y2, if_neg y2]
  by_cases y3 : y = 3
  · rw [if_pos y3, if_pos y3, mb_gR hM.o hM.rFails, mb_aI hM.sFails (show n < 100 by omega) (by omega)]
    by_cases hn0 : n = 0
    · rw [if_pos hn0] at g1
      rw [if_pos (show nI n = 0 by rw [hn0]; rfl)]
      simp only [hn0, g1]
      exact ⟨-9, rfl, rfl⟩
    · have hne : u ≠ [] := fun e => hn0 (hidx.mpr e)
      rw [if_neg hn0] at g1
      obtain ⟨k, k1, k2⟩ := g1
      obtain ⟨k', k1', k2'⟩ := q3 n u hu hne
      have : k' = k := nodup_idx hN.nodup k1' k1
      subst this
      rw [if_neg (nI_ne0 (by omega) hn), mb_gR o f5, mb_gR a0 ar4, mb_aI as4 (show n < 1 + 16 * 6 by omega) (by omega)]
      simp only [k2, k2']
      exact ⟨nI k', rfl, rfl⟩
  rw [if_neg y3, if_neg y3]
  by_cases y4 : y = 4
  · rw [if_pos y4, if_pos y4, mb_gR o f5, mb_gR a0 ar5, mb_aI as5 (show n < 1 + 16 * 6 by omega) (by omega), mb_gR hM.o hM.rEnds, mb_aI hM.sEnds (show n < 100 by omega) (by omega)]
    simp only [q4 n u hu, g2]
    exact ⟨nI (eb W u), rfl, rfl⟩
  rw [if_neg y4, if_neg y4]
  exact ⟨-1, rfl, rfl⟩
