/-! ===== one level of nodes ===== -/
def nlt (u v : List Nat) : Prop := u.length < v.length ∨ (u.length = v.length ∧ pk u < pk v)
/-- words of letters a .. h, one to six of them, in their order -/
def okL (W : List (List Nat)) : Prop := (∀ u ∈ W, okW u) ∧ W.Pairwise (fun u v => pk u < pk v)
theorem pk_take {u : List Nat} (h : ∀ c ∈ u, c < 8) (hl : u.length ≤ 6) {l : Nat} (h6 : l ≤ 6) : pk (u.take l) = pk u / 16 ^ (6 - l) * 16 ^ (6 - l) := pkA_take 6 u l h hl h6
theorem pk_take_le {u v : List Nat} (hu : okW u) (hv : okW v) {l : Nat} (h6 : l ≤ 6) (h : pk u ≤ pk v) : pk (u.take l) ≤ pk (v.take l) := by
  rw [pk_take hu.2.2 hu.2.1 h6, pk_take hv.2.2 hv.2.1 h6]
  exact Nat.mul_le_mul_right _ (Nat.div_le_div_right h)
theorem okL.idx {W : List (List Nat)} (h : okL W) {i j : Nat} {u : List Nat} (hi : W[i]? = some u) (hj : W[j]? = some u) : i = j := by
  obtain ⟨h1, h2⟩ := List.getElem?_eq_some_iff.mp hi
  obtain ⟨h3, h4⟩ := List.getElem?_eq_some_iff.mp hj
  rcases Nat.lt_trichotomy i j with hlt | heq | hgt
  · have := List.pairwise_iff_getElem.mp h.2 i j h1 h3 hlt; rw [h2, h4] at this; omega
  · exact heq
  · have := List.pairwise_iff_getElem.mp h.2 j i h3 h1 hgt; rw [h2, h4] at this; omega
theorem okL.le {W : List (List Nat)} (h : okL W) {i j : Nat} {u v : List Nat} (hi : W[i]? = some u) (hj : W[j]? = some v) (hij : i ≤ j) : pk u ≤ pk v := by
  obtain ⟨h1, h2⟩ := List.getElem?_eq_some_iff.mp hi
  obtain ⟨h3, h4⟩ := List.getElem?_eq_some_iff.mp hj
  rcases Nat.eq_or_lt_of_le hij with rfl | hlt
  · rw [← h2, ← h4]; exact Nat.le_refl _
  · have := List.pairwise_iff_getElem.mp h.2 i j h1 h3 hlt; rw [h2, h4] at this; omega
theorem pk_pos {u : List Nat} (h : u ≠ []) : 0 < pk u := by
  cases u with
  | nil => exact absurd rfl h
  | cons c u =>
    show 0 < (c + 1) * 16 ^ 5 + pkA 5 u
    exact Nat.lt_of_lt_of_le (Nat.mul_pos (Nat.succ_pos c) (by decide)) (Nat.le_add_right _ _)
/-- level l of the nodes stands up to word w; b: the node that came last on this level, none: [] -/
def GR (I : Nat → Nat → Int32) (p nw : Nat) (W : List (List Nat)) (l w : Nat) (ns : List (List Nat)) (b : List Nat) : Prop :=
  TR I p (1 + nw * 6) ns ∧ ns.Pairwise nlt ∧ [] ∈ ns ∧ (∀ u ∈ ns, u.length ≤ l ∧ ∃ v ∈ W ++ [[]], u <+: v) ∧ (∀ u c, u ++ [c] ∈ ns → u ∈ ns) ∧ ns.length ≤ 1 + (l - 1) * W.length + w ∧
  (∀ (j : Nat) (u : List Nat), ns[j]? = some u → (∃ i, W[i]? = some u ∧ (u.length < l ∨ (u.length = l ∧ i < w)) ∧ I (p + 5) j = nI (2 ^ i)) ∨ ((∀ i, W[i]? = some u → ¬ (u.length < l ∨ (u.length = l ∧ i < w))) ∧ I (p + 5) j = 0)) ∧ (∀ k, ns.length ≤ k → k < 1 + nw * 6 → I (p + 5) k = 0) ∧
  (∀ (i : Nat) (u : List Nat), W[i]? = some u → ∃ j, ns[j]? = some (u.take (if i < w then l else l - 1)) ∧ I (p + 7) i = nI j) ∧
  ((b = [] ∧ ∀ u ∈ ns, u.length < l) ∨ (b.length = l ∧ ns[ns.length - 1]? = some b ∧ ∃ i v, i < w ∧ W[i]? = some v ∧ v.take l = b ∧ l ≤ v.length))
theorem okW.take {u : List Nat} (h : okW u) {l : Nat} (hl : 1 ≤ l) : okW (u.take l) := by
  obtain ⟨h1, h2, h3⟩ := h
  refine ⟨by simp; omega, by simp; omega, fun c hc => h3 c (List.mem_of_mem_take hc)⟩
theorem take_snoc {u : List Nat} {l c : Nat} (h : u[l]? = some c) : u.take (l + 1) = u.take l ++ [c] := by
  rw [List.take_add_one, h]; rfl
theorem srt_last {ns : List (List Nat)} (hs : ns.Pairwise nlt) {b u : List Nat} (hb : ns[ns.length - 1]? = some b) (hu : u ∈ ns) : u = b ∨ nlt u b := by
  obtain ⟨i, hi⟩ := List.getElem?_of_mem hu
  obtain ⟨h1, h2⟩ := List.getElem?_eq_some_iff.mp hi
  obtain ⟨h3, h4⟩ := List.getElem?_eq_some_iff.mp hb
  by_cases h : i = ns.length - 1
  · left; rw [← h2, ← h4]; congr 1
  · right
    have := List.pairwise_iff_getElem.mp hs i (ns.length - 1) h1 h3 (by omega)
    rw [h2, h4] at this
    exact this
/-- behind a word whose beginning is the last node now -/
theorem grow_mark {z : Zd} {I : Nat → Nat → Int32} {p nw : Nat} {W : List (List Nat)} {l w : Nat} {ns : List (List Nat)} {u : List Nat} (hz : AO z p nw) (hW : okL W) (hlen : W.length ≤ nw) (hl1 : 1 ≤ l) (hu : W[w]? = some u) (hul : l ≤ u.length)
    (h1 : TR I p (1 + nw * 6) ns) (h2 : ns.Pairwise nlt) (h3 : [] ∈ ns) (h4 : ∀ u ∈ ns, u.length ≤ l ∧ ∃ v ∈ W ++ [[]], u <+: v) (h5 : ∀ u c, u ++ [c] ∈ ns → u ∈ ns) (h6 : ns.length ≤ 1 + (l - 1) * W.length + (w + 1))
    (h7 : ∀ (j : Nat) (v : List Nat), ns[j]? = some v → (∃ i, W[i]? = some v ∧ (v.length < l ∨ (v.length = l ∧ i < w)) ∧ I (p + 5) j = nI (2 ^ i)) ∨ ((∀ i, W[i]? = some v → ¬ (v.length < l ∨ (v.length = l ∧ i < w))) ∧ I (p + 5) j = 0)) (h8 : ∀ k, ns.length ≤ k → k < 1 + nw * 6 → I (p + 5) k = 0)
    (h9 : ∀ (i : Nat) (v : List Nat), W[i]? = some v → ∃ j, ns[j]? = some (v.take (if i < w then l else l - 1)) ∧ I (p + 7) i = nI j) (h10 : ns[ns.length - 1]? = some (u.take l)) (l1 : Int32) (l2 : Nat) :
    ∃ I', (∀ k : Int32 × Int32 → Mo Unit, m_X0_growTo_J76 p l1 l2 (nI w) (pkI u) (pkI (u.take l)) k (I, z) = k (pkI (u.take l), nI (w + 1)) (I', z)) ∧ GR I' p nw W l (w + 1) ns (u.take l) ∧ ∀ x, x ≠ p + 5 → x ≠ p + 7 → I' x = I x := by
  obtain ⟨z0, ⟨r1, r2, r3, r4, r5, r6, r7⟩, ⟨s1, s2, s3, s4, s5, s6, s7⟩, hw⟩ := hz
  have hok := hW.1 u (List.mem_of_getElem? hu)
  have hwl := (List.getElem?_eq_some_iff.mp hu).1
  have hpos : 0 < ns.length := List.length_pos_of_mem h3
  obtain ⟨n, hn⟩ : ∃ n, ns.length = n + 1 := ⟨ns.length - 1, by omega⟩
  have hm := h1.2.1
  have hbl : (u.take l).length = l := by simp; omega
  rw [hn, Nat.add_sub_cancel] at h10
  have base : ∀ k : Int32 × Int32 → Mo Unit, m_X0_growTo_J76 p l1 l2 (nI w) (pkI u) (pkI (u.take l)) k (I, z) = (if pkI (u.take l) = pkI u then mb (gR 0 5 p) (fun ends10 => mb (gI 0 0 p) fun nodes11 => mb (aI ends10 ((nodes11 - 1))) fun x12 => mb (tI ends10 ((nodes11 - 1)) ((x12 ||| (((1 : Int32) <<< (nI w &&& 31)))))) fun _ => m_X0_growTo_J117 p l1 l2 (pkI (u.take l)) (nI w) k) else m_X0_growTo_J117 p l1 l2 (pkI (u.take l)) (nI w) k) (u2 I (p + 7) w (nI n), z) := by
    intro k
    unfold m_X0_growTo_J76
    rw [mb_gR z0 r7, mb_gI z0]
    simp only [h1.1, hn]
    rw [nI_pred, mb_tI s7 (show w < nw by omega) (by omega)]
  have trK : ∀ I' : Nat → Nat → Int32, (∀ x, x ≠ p + 5 → x ≠ p + 7 → I' x = I x) → TR I' p (1 + nw * 6) ns := by
    intro I' hI
    unfold TR
    rw [hI p (by omega) (by omega), hI (p + 1) (by omega) (by omega), hI (p + 2) (by omega) (by omega), hI (p + 3) (by omega) (by omega), hI (p + 6) (by omega) (by omega)]
    exact h1
  have reach : ∀ I' : Nat → Nat → Int32, I' (p + 7) = va_up (I (p + 7)) w (nI n) → ∀ (i : Nat) (v : List Nat), W[i]? = some v → ∃ j, ns[j]? = some (v.take (if i < w + 1 then l else l - 1)) ∧ I' (p + 7) i = nI j := by
    intro I' hI i v hi
    rw [hI]
    unfold va_up
    by_cases hiw : i = w
    · subst hiw
      rw [hu] at hi
      cases hi
      rw [if_pos rfl, if_pos (by omega)]
      exact ⟨n, h10, rfl⟩
    · obtain ⟨j, g1, g2⟩ := h9 i v hi
      rw [if_neg hiw]
      refine ⟨j, ?_, g2⟩
      rw [g1]
      by_cases hlt : i < w
      · rw [if_pos hlt, if_pos (by omega)]
      · rw [if_neg hlt, if_neg (by omega)]
  have hlast : (u.take l = [] ∧ ∀ v ∈ ns, v.length < l) ∨ ((u.take l).length = l ∧ ns[ns.length - 1]? = some (u.take l) ∧ ∃ i v, i < w + 1 ∧ W[i]? = some v ∧ v.take l = u.take l ∧ l ≤ v.length) := Or.inr ⟨hbl, by rw [hn, Nat.add_sub_cancel]; exact h10, w, u, by omega, hu, rfl, hul⟩
  by_cases heq : u.length = l
  · have htk : u.take l = u := List.take_of_length_le (by omega)
    have hz0 : I (p + 5) n = 0 := by
      rw [htk] at h10
      rcases h7 n u h10 with ⟨i, g1, g2, -⟩ | ⟨-, g⟩
      · have := hW.idx g1 hu
        omega
      · exact g
    have hval : (0 : Int32) ||| ((1 : Int32) <<< (nI w &&& 31)) = nI (2 ^ w) := by
      rw [show (1 : Int32) = nI 1 from rfl, bx_shl (by omega), show (0 : Int32) = nI 0 from rfl, bx_or]
      simp
    rw [htk] at h10 hlast hbl base ⊢
    refine ⟨u2 (u2 I (p + 7) w (nI n)) (p + 5) n (nI (2 ^ w)), fun k => ?_, ?_, fun x g1 g2 => by rw [u2_row g1, u2_row g2]⟩
    · rw [base, if_pos rfl, mb_gR z0 r5, mb_gI z0]
      simp only [u2_row (show p ≠ p + 7 by omega), h1.1, hn]
      rw [nI_pred, mb_aI s5 (show n < 1 + nw * 6 by omega) (by omega)]
      simp only [u2_row (show p + 5 ≠ p + 7 by omega), hz0]
      rw [hval, mb_tI s5 (show n < 1 + nw * 6 by omega) (by omega)]
      unfold m_X0_growTo_J117
      rw [nI_1]
    · have hI : ∀ x, x ≠ p + 5 → x ≠ p + 7 → u2 (u2 I (p + 7) w (nI n)) (p + 5) n (nI (2 ^ w)) x = I x := fun x g1 g2 => by rw [u2_row g1, u2_row g2]
      have row7 : u2 (u2 I (p + 7) w (nI n)) (p + 5) n (nI (2 ^ w)) (p + 7) = va_up (I (p + 7)) w (nI n) := by rw [u2_row (by omega), u2_uA, uA_eq]
      have row5 : u2 (u2 I (p + 7) w (nI n)) (p + 5) n (nI (2 ^ w)) (p + 5) = va_up (I (p + 5)) n (nI (2 ^ w)) := by rw [u2_uA, uA_eq, u2_row (by omega)]
      refine ⟨trK _ hI, h2, h3, h4, h5, h6, ?_, ?_, ?_, ?_⟩
      · intro j v hj
        rw [row5]
        unfold va_up
        by_cases hjn : j = n
        · subst hjn
          rw [h10] at hj
          cases hj
          rw [if_pos rfl]
          exact Or.inl ⟨w, hu, Or.inr ⟨heq, by omega⟩, rfl⟩
        · rw [if_neg hjn]
          have hvu : v ≠ u := by rintro rfl; exact hjn (nodup_idx h1.2.2.1 hj h10)
          rcases h7 j v hj with ⟨i, g1, g2, g3⟩ | ⟨g1, g2⟩
          · exact Or.inl ⟨i, g1, by omega, g3⟩
          · refine Or.inr ⟨fun i hi hc => ?_, g2⟩
            have hiw : i ≠ w := by rintro rfl; exact hvu (Option.some.inj (hi.symm.trans hu))
            exact g1 i hi (by omega)
      · intro q g1 g2
        rw [row5]
        unfold va_up
        rw [if_neg (by omega)]
        exact h8 q g1 g2
      · exact reach _ row7
      · exact hlast
  · have hne : ¬ pkI (u.take l) = pkI u := by
      intro h
      have := pkI_inj (hok.take hl1).2.2 hok.2.2 (hok.take hl1).2.1 hok.2.1 h
      have := congrArg List.length this
      simp at this
      omega
    refine ⟨u2 I (p + 7) w (nI n), fun k => ?_, ?_, fun x g1 g2 => by rw [u2_row g2]⟩
    · rw [base, if_neg hne]
      unfold m_X0_growTo_J117
      rw [nI_1]
    · have hI : ∀ x, x ≠ p + 5 → x ≠ p + 7 → u2 I (p + 7) w (nI n) x = I x := fun x g1 g2 => by rw [u2_row g2]
      have row7 : u2 I (p + 7) w (nI n) (p + 7) = va_up (I (p + 7)) w (nI n) := by rw [u2_uA, uA_eq]
      refine ⟨trK _ hI, h2, h3, h4, h5, h6, ?_, ?_, reach _ row7, hlast⟩
      · intro j v hj
        rw [u2_row (show p + 5 ≠ p + 7 by omega)]
        rcases h7 j v hj with ⟨i, g1, g2, g3⟩ | ⟨g1, g2⟩
        · exact Or.inl ⟨i, g1, by omega, g3⟩
        · refine Or.inr ⟨fun i hi hc => ?_, g2⟩
          have hiw : i = w → v = u := by rintro rfl; exact Option.some.inj (hi.symm.trans hu)
          apply g1 i hi
          rcases hc with hc | ⟨hc, hc2⟩
          · exact Or.inl hc
          · by_cases hiw2 : i = w
            · rw [hiw hiw2] at hc; omega
            · exact Or.inr ⟨hc, by omega⟩
      · intro q g1 g2
        rw [u2_row (show p + 5 ≠ p + 7 by omega)]
        exact h8 q g1 g2
theorem prefix_take_snoc {u v : List Nat} {c : Nat} (h : u ++ [c] <+: v) : u <+: v := List.IsPrefix.trans (List.prefix_append u [c]) h
theorem growStep {z : Zd} {I : Nat → Nat → Int32} {p nw pw aw cw : Nat} {W : List (List Nat)} {l w : Nat} {ns : List (List Nat)} {b : List Nat} (hz : AO z p nw) (hzw : WO z pw aw cw) (hWL : WL (I pw) (I aw) (W.map pkI)) (hcw : W.length ≤ cw) (hW : okL W) (hlen : W.length ≤ nw) (hl1 : 1 ≤ l) (hl6 : l ≤ 6) (hww : w < W.length) (hG : GR I p nw W l w ns b) :
    ∃ I' ns' b', (∀ k : Int32 × Int32 → Mo Unit, m_X0_growTo_B5 p (nI l) pw k (pkI b) (nI w) (I, z) = k (pkI b', nI (w + 1)) (I', z)) ∧ GR I' p nw W l (w + 1) ns' b' ∧ ∀ x, x ≠ p → x ≠ p + 1 → x ≠ p + 2 → x ≠ p + 3 → x ≠ p + 5 → x ≠ p + 6 → x ≠ p + 7 → I' x = I x := by
  obtain ⟨z0, ⟨r1, r2, r3, r4, r5, r6, r7⟩, ⟨s1, s2, s3, s4, s5, s6, s7⟩, hw16⟩ := id hz
  obtain ⟨y1, y2, y3, y4, y5⟩ := hzw
  obtain ⟨g1, g2, g3, g4, g5, g6, g7, g8, g9, g10⟩ := id hG
  have hu := List.getElem?_eq_getElem hww
  generalize W[w] = u at hu
  have hok := hW.1 u (List.mem_of_getElem? hu)
  have hcode : I aw w = pkI u := hWL.2 w _ (by rw [List.getElem?_map, hu]; rfl)
  have hcnt : I pw 1 = nI W.length := by rw [hWL.1, List.length_map]
  have head : ∀ k : Int32 × Int32 → Mo Unit, m_X0_growTo_B5 p (nI l) pw k (pkI b) (nI w) (I, z) = (if nI u.length < nI l then m_X0_growTo_J117 p (nI l) pw (pkI b) (nI w) k else mb (m_X3_headOf (pkI u) (nI l)) fun c7 => if c7 = pkI b then m_X0_growTo_J76 p (nI l) pw (nI w) (pkI u) c7 k else mb (gR 0 7 p) fun reached13 => mb (aI reached13 (nI w)) fun x14 => mb (m_X3_letterAt (pkI u) ((nI l - 1))) fun c15 => mb (vc 0 p (m_X0_addNode p x14 c15 (nI l))) fun _ => m_X0_growTo_J76 p (nI l) pw (nI w) (pkI u) c7 k) (I, z) := by
    intro k
    unfold m_X0_growTo_B5
    rw [mb_gI y1]
    simp only [hcnt]
    rw [if_neg (nI_ge hww (by omega)), mb_gR z0 r7, mb_aL s7, if_neg (nI_ge (show w < nw by omega) (by omega)), mb_gR y1 y2, mb_aI y3 (show w < cw by omega) (by omega)]
    simp only [hcode]
    rw [mb_call (sizeOf_ok hok.2.2 hok.2.1 _)]
  by_cases hul : u.length < l
  · refine ⟨I, ns, b, fun k => ?_, ?_, fun _ _ _ _ _ _ _ _ => rfl⟩
    · rw [head, if_pos (nI_lt hul (by omega))]
      unfold m_X0_growTo_J117
      rw [nI_1]
    · refine ⟨g1, g2, g3, g4, g5, by omega, ?_, g8, ?_, ?_⟩
      · intro j v hj
        rcases g7 j v hj with ⟨i, a1, a2, a3⟩ | ⟨a1, a2⟩
        · exact Or.inl ⟨i, a1, by omega, a3⟩
        · refine Or.inr ⟨fun i hi hc => a1 i hi ?_, a2⟩
          rcases hc with hc | ⟨hc, hc2⟩
          · exact Or.inl hc
          · by_cases hiw : i = w
            · subst hiw; cases hu.symm.trans hi; omega
            · exact Or.inr ⟨hc, by omega⟩
      · intro i v hi
        obtain ⟨j, a1, a2⟩ := g9 i v hi
        refine ⟨j, ?_, a2⟩
        rw [a1]
        by_cases hiw : i = w
        · subst hiw
          cases hu.symm.trans hi
          rw [if_neg (by omega), if_pos (by omega), List.take_of_length_le (by omega), List.take_of_length_le (by omega)]
        · by_cases hlt : i < w
          · rw [if_pos hlt, if_pos (by omega)]
          · rw [if_neg hlt, if_neg (by omega)]
      · rcases g10 with h | ⟨a1, a2, i, v, a3, a4⟩
        · exact Or.inl h
        · exact Or.inr ⟨a1, a2, i, v, by omega, a4⟩
  · have hul : l ≤ u.length := by omega
    have hhead : ∀ k, m_X0_growTo_B5 p (nI l) pw k (pkI b) (nI w) (I, z) = (if pkI (u.take l) = pkI b then m_X0_growTo_J76 p (nI l) pw (nI w) (pkI u) (pkI (u.take l)) k else mb (gR 0 7 p) fun reached13 => mb (aI reached13 (nI w)) fun x14 => mb (m_X3_letterAt (pkI u) ((nI l - 1))) fun c15 => mb (vc 0 p (m_X0_addNode p x14 c15 (nI l))) fun _ => m_X0_growTo_J76 p (nI l) pw (nI w) (pkI u) (pkI (u.take l)) k) (I, z) := by
      intro k
      rw [head, if_neg (nI_nlt hul (by have := hok.2.1; omega)), mb_call (headOf_ok hok.2.2 hok.2.1 hl1 hl6 _)]
    have htl : (u.take l).length = l := by simp; omega
    have htne : u.take l ≠ [] := fun h => by rw [h] at htl; simp at htl; omega
    have hokt := hok.take hl1
    by_cases hb : u.take l = b
    · have hlast : ns[ns.length - 1]? = some (u.take l) := by
        rcases g10 with ⟨h, -⟩ | ⟨-, h, -⟩
        · exact absurd (hb.trans h) htne
        · rw [hb]; exact h
      obtain ⟨I', e', G', F'⟩ := grow_mark hz hW hlen hl1 hu hul g1 g2 g3 g4 g5 (by omega) g7 g8 g9 hlast (nI l) pw
      refine ⟨I', ns, u.take l, fun k => ?_, G', fun x a0 a1 a2 a3 a5 a6 a7 => F' x a5 a7⟩
      rw [hhead, if_pos (by rw [hb]), e']
    · have hbW : b = [] ∨ okW b := by
        rcases g10 with ⟨h, -⟩ | ⟨-, -, i, v, -, a2, a3, -⟩
        · exact Or.inl h
        · rw [← a3]; exact Or.inr ((hW.1 v (List.mem_of_getElem? a2)).take hl1)
      have hbne : ¬ pkI (u.take l) = pkI b := by
        intro h
        rcases hbW with h2 | h2
        · exact htne (pkI_inj hokt.2.2 (by rw [h2]; simp) hokt.2.1 (by rw [h2]; simp) h |>.trans h2)
        · exact hb (pkI_inj hokt.2.2 h2.2.2 hokt.2.1 h2.2.1 h)
      obtain ⟨m, rfl⟩ : ∃ m, l = m + 1 := ⟨l - 1, by omega⟩
      have hcl : m < u.length := by omega
      have hc := List.getElem?_eq_getElem hcl
      generalize u[m] = c at hc
      have hc8 : c < 8 := hok.2.2 c (List.mem_of_getElem? hc)
      have hsn := take_snoc hc
      obtain ⟨j, a1, a2⟩ := g9 w u hu
      rw [if_neg (by omega), Nat.add_sub_cancel] at a1
      have hbig : ∀ v ∈ ns, v.length = m + 1 → pk v < pk (u.take (m + 1)) := by
        intro v hv hvl
        rcases g10 with ⟨-, h⟩ | ⟨b1, b2, i, x, b3, b4, b5, b6⟩
        · have := h v hv; omega
        · have hle : pk b ≤ pk (u.take (m + 1)) := by
            rw [← b5]
            exact pk_take_le (hW.1 x (List.mem_of_getElem? b4)) hok hl6 (hW.le b4 hu (by omega))
          have hlt : pk b ≠ pk (u.take (m + 1)) := fun h => hbne (by unfold pkI; rw [h])
          rcases srt_last g2 b2 hv with h | h
          · rw [h]; omega
          · rcases h with h | ⟨-, h⟩
            · omega
            · omega
      have hnew : (u.take m ++ [c]) ∉ ns := by
        intro hm
        rw [← hsn] at hm
        have := hbig _ hm htl
        omega
      have hno : ∀ d, (u.take m ++ [c] ++ [d]) ∉ ns := by
        intro d hm
        have := (g4 _ hm).1
        rw [← hsn] at this
        simp at this
        omega
      have hroom : ns.length < 1 + nw * 6 := by
        have h1 : (m + 1 - 1) * W.length ≤ 5 * W.length := Nat.mul_le_mul_right _ (by omega)
        omega
      obtain ⟨I1, e1, T1, F1⟩ := addNode_ok hz g1 a1 hc8 hnew hno hroom
      have hml : (u.take m).length + 1 = m + 1 := by simp; omega
      rw [hml] at e1
      rw [← hsn] at T1 hnew
      have hends : I1 (p + 5) = I (p + 5) := F1 _ (by omega) (by omega) (by omega) (by omega) (by omega)
      have hreach : I1 (p + 7) = I (p + 7) := F1 _ (by omega) (by omega) (by omega) (by omega) (by omega)
      have hlast : (ns ++ [u.take (m + 1)])[(ns ++ [u.take (m + 1)]).length - 1]? = some (u.take (m + 1)) := by simp
      refine Exists.elim (grow_mark (I := I1) (ns := ns ++ [u.take (m + 1)]) hz hW hlen hl1 hu hul T1 ?q1 ?q2 ?q3 ?q4 ?q5 ?q6 ?q7 ?q8 hlast (nI (m + 1)) pw) (fun I2 h2 => ?main)
      case q1 =>
        refine List.pairwise_append.mpr ⟨g2, by simp, fun v hv x hx => ?_⟩
        rw [List.mem_singleton.mp hx]
        have hvl := (g4 v hv).1
        by_cases h : v.length = m + 1
        · exact Or.inr ⟨by rw [h, htl], hbig v hv h⟩
        · exact Or.inl (by rw [htl]; omega)
      case q2 => exact List.mem_append_left _ g3
      case q3 =>
        intro v hv
        rcases List.mem_append.mp hv with hv | hv
        · exact g4 v hv
        · rw [List.mem_singleton.mp hv]
          exact ⟨by omega, u, List.mem_append_left _ (List.mem_of_getElem? hu), List.take_prefix _ _⟩
      case q4 =>
        intro v d hv
        rcases List.mem_append.mp hv with hv | hv
        · exact List.mem_append_left _ (g5 v d hv)
        · have h := List.mem_singleton.mp hv
          rw [hsn] at h
          obtain ⟨h1, -⟩ := snoc_inj h
          rw [h1]
          exact List.mem_append_left _ (List.mem_of_getElem? a1)
      case q5 => rw [List.length_append, List.length_singleton]; omega
      case q6 =>
        intro i v hi
        rw [hends]
        rcases app_get hi with hi | ⟨rfl, rfl⟩
        · exact g7 i v hi
        · refine Or.inr ⟨fun q hq hc => ?_, g8 _ (Nat.le_refl _) hroom⟩
          rcases hc with hc | ⟨hc, hc2⟩
          · omega
          · obtain ⟨j2, b1, -⟩ := g9 q _ hq
            rw [if_pos hc2, List.take_of_length_le (by omega)] at b1
            exact hnew (List.mem_of_getElem? b1)
      case q7 =>
        intro q b1 b2
        rw [hends]
        simp at b1
        exact g8 q (by omega) b2
      case q8 =>
        intro i v hi
        obtain ⟨j2, b1, b2⟩ := g9 i v hi
        exact ⟨j2, get_app b1, by rw [hreach]; exact b2⟩
      case main =>
        obtain ⟨e2, G2, F2⟩ := h2
        refine ⟨I2, ns ++ [u.take (m + 1)], u.take (m + 1), fun k => ?_, G2, fun x b0 b1 b2 b3 b5 b6 b7 => (F2 x b5 b7).trans (F1 x b0 b1 b2 b3 b6)⟩
        rw [hhead, if_neg hbne, mb_gR z0 r7, mb_aI s7 (show w < nw by omega) (by omega)]
        simp only [a2]
        rw [nI_pred, mb_call (letterAt_ok hok.2.2 hok.2.1 hc _), mb_vc z0, mb_call e1, e2]
def apart7 (p x : Nat) : Prop := x ≠ p ∧ x ≠ p + 1 ∧ x ≠ p + 2 ∧ x ≠ p + 3 ∧ x ≠ p + 5 ∧ x ≠ p + 6 ∧ x ≠ p + 7
theorem growTo_ok {z : Zd} {I : Nat → Nat → Int32} {p nw pw aw cw : Nat} {W : List (List Nat)} {l : Nat} {ns : List (List Nat)} (hz : AO z p nw) (hzw : WO z pw aw cw) (hWL : WL (I pw) (I aw) (W.map pkI)) (hcw : W.length ≤ cw) (hW : okL W) (hlen : W.length ≤ nw) (hl1 : 1 ≤ l) (hl6 : l ≤ 6) (hpw : apart7 p pw) (haw : apart7 p aw) (hG : GR I p nw W l 0 ns []) :
    ∃ I' ns' b', m_X0_growTo p (nI l) pw (I, z) = some ((), (I', z)) ∧ GR I' p nw W l W.length ns' b' ∧ ∀ x, apart7 p x → I' x = I x := by
  have hstep : ∀ i, i < W.length → ∀ (s : Int32 × Int32) w, (∃ I' ns' b', s = (pkI b', nI i) ∧ w = (I', z) ∧ GR I' p nw W l i ns' b' ∧ ∀ x, apart7 p x → I' x = I x) → ∃ s' w', (∃ I' ns' b', s' = (pkI b', nI (i + 1)) ∧ w' = (I', z) ∧ GR I' p nw W l (i + 1) ns' b' ∧ ∀ x, apart7 p x → I' x = I x) ∧ ∀ k : Int32 × Int32 → Mo Unit, m_X0_growTo_B5 p (nI l) pw k s.1 s.2 w = k s' w' := by
    intro i hi s w hP
    obtain ⟨I1, ns1, b1, rfl, rfl, G1, F1⟩ := hP
    obtain ⟨I2, ns2, b2, e2, G2, F2⟩ := growStep (I := I1) hz hzw (by rw [F1 pw hpw, F1 aw haw]; exact hWL) hcw hW hlen hl1 hl6 hi G1
    exact ⟨(pkI b2, nI (i + 1)), (I2, z), ⟨I2, ns2, b2, rfl, rfl, G2, fun x hx => (F2 x hx.1 hx.2.1 hx.2.2.1 hx.2.2.2.1 hx.2.2.2.2.1 hx.2.2.2.2.2.1 hx.2.2.2.2.2.2).trans (F1 x hx)⟩, e2⟩
  unfold m_X0_growTo
  obtain ⟨s', w', k, ⟨I', ns', b', hs', hw', G', F'⟩, e⟩ := lp_FUi (F := fun k s => m_X0_growTo_B5 p (nI l) pw k s.1 s.2) (fun i s w => ∃ I' ns' b', s = (pkI b', nI i) ∧ w = (I', z) ∧ GR I' p nw W l i ns' b' ∧ ∀ x, apart7 p x → I' x = I x) W.length (by have := hz.2.2.2; omega) hstep (s := (0, 0)) (w := (I, z)) ⟨I, ns, [], rfl, rfl, hG, fun _ _ => rfl⟩
  rw [e]
  subst hs'; subst hw'
  refine ⟨I', ns', b', ?_, G', F'⟩
  show m_X0_growTo_B5 p (nI l) pw k (pkI b') (nI W.length) (I', z) = _
  unfold m_X0_growTo_B5
  rw [mb_gI hzw.1]
  simp only [F' pw hpw, hWL.1, List.length_map]
  rw [if_pos (nI_le (Nat.le_refl _) (by have := hz.2.2.2; omega))]
  rfl
/-- the next level begins -/
theorem GR.next {I : Nat → Nat → Int32} {p nw : Nat} {W : List (List Nat)} {l : Nat} {ns : List (List Nat)} {b : List Nat} (hl : 1 ≤ l) (h : GR I p nw W l W.length ns b) : GR I p nw W (l + 1) 0 ns [] := by
  obtain ⟨g1, g2, g3, g4, g5, g6, g7, g8, g9, g10⟩ := h
  refine ⟨g1, g2, g3, fun u hu => ⟨by have := (g4 u hu).1; omega, (g4 u hu).2⟩, g5, ?_, ?_, g8, ?_, Or.inl ⟨rfl, fun u hu => by have := (g4 u hu).1; omega⟩⟩
  · have : (l + 1 - 1) * W.length = (l - 1) * W.length + W.length := by
      obtain ⟨m, rfl⟩ : ∃ m, l = m + 1 := ⟨l - 1, by omega⟩
      simp [Nat.add_mul]
    omega
  · intro j u hj
    rcases g7 j u hj with ⟨i, a1, a2, a3⟩ | ⟨a1, a2⟩
    · exact Or.inl ⟨i, a1, Or.inl (by omega), a3⟩
    · refine Or.inr ⟨fun i hi hc => a1 i hi ?_, a2⟩
      have := (List.getElem?_eq_some_iff.mp hi).1
      omega
  · intro i u hi
    obtain ⟨j, a1, a2⟩ := g9 i u hi
    refine ⟨j, ?_, a2⟩
    rw [a1, if_pos (List.getElem?_eq_some_iff.mp hi).1, if_neg (by omega)]
    rfl
