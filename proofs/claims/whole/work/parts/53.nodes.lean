/-! ===== the reference's nodes: codes in their order ===== -/
theorem srt_unique : ∀ {L M : List Int32}, Srt L → Srt M → (∀ x, x ∈ L ↔ x ∈ M) → L = M
  | [], [], _, _, _ => rfl
  | [], y :: M, _, _, h => absurd ((h y).mpr List.mem_cons_self) (by simp)
  | x :: L, [], _, _, h => absurd ((h x).mp List.mem_cons_self) (by simp)
  | x :: L, y :: M, hL, hM, h => by
    obtain ⟨l1, l2⟩ := List.pairwise_cons.mp hL
    obtain ⟨m1, m2⟩ := List.pairwise_cons.mp hM
    have hxy : x = y := by
      rcases List.mem_cons.mp ((h x).mp List.mem_cons_self) with e | hx
      · exact e
      · rcases List.mem_cons.mp ((h y).mpr List.mem_cons_self) with e | hy
        · exact e.symm
        · have a1 := m1 x hx
          have a2 := l1 y hy
          rw [Int32.lt_iff_toInt_lt] at a1 a2
          omega
    subst hxy
    have : L = M := srt_unique l2 m2 (fun z => by
      constructor
      · intro hz
        rcases List.mem_cons.mp ((h z).mp (List.mem_cons_of_mem _ hz)) with e | hz2
        · subst e; exact absurd rfl (i32_lt_ne (l1 z hz))
        · exact hz2
      · intro hz
        rcases List.mem_cons.mp ((h z).mpr (List.mem_cons_of_mem _ hz)) with e | hz2
        · subst e; exact absurd rfl (i32_lt_ne (m1 z hz))
        · exact hz2)
    rw [this]
theorem b8_cmp : ∀ (u v : List Nat), (∀ c ∈ u, c < 8) → (∀ c ∈ v, c < 8) → u.length = v.length → (b8 u < b8 v ↔ ltl u v)
  | [], [], _, _, _ => by simp [ltl, lcp, b8]
  | [], _ :: _, _, _, h => by simp at h
  | _ :: _, [], _, _, h => by simp at h
  | a :: u, b :: v, hu, hv, hl => by
    have hl' : u.length = v.length := by simpa using hl
    have h1 := b8_lt (u := u) (fun x hx => hu x (List.mem_cons_of_mem _ hx))
    have h2 := b8_lt (u := v) (fun x hx => hv x (List.mem_cons_of_mem _ hx))
    have ih := b8_cmp u v (fun x hx => hu x (List.mem_cons_of_mem _ hx)) (fun x hx => hv x (List.mem_cons_of_mem _ hx)) hl'
    show a * 8 ^ u.length + b8 u < b * 8 ^ v.length + b8 v ↔ _
    rw [← hl'] at h2 ⊢
    by_cases hab : a = b
    · subst hab
      rw [show ltl (a :: u) (a :: v) ↔ ltl u v by unfold ltl; rw [show lcp (a :: u) (a :: v) = lcp u v + 1 by simp [lcp]]; rfl, ← ih]
      omega
    · have hlc : lcp (a :: u) (b :: v) = 0 := by simp [lcp, hab]
      have e : ltl (a :: u) (b :: v) ↔ a < b := by unfold ltl; rw [hlc]; rfl
      rw [e]
      rcases Nat.lt_or_gt_of_ne hab with h | h
      · have : (a + 1) * 8 ^ u.length ≤ b * 8 ^ u.length := Nat.mul_le_mul_right _ (by omega)
        rw [Nat.add_mul] at this
        constructor <;> intro _ <;> omega
      · have : (b + 1) * 8 ^ u.length ≤ a * 8 ^ u.length := Nat.mul_le_mul_right _ (by omega)
        rw [Nat.add_mul] at this
        constructor <;> intro _ <;> omega
theorem nlt_rc {u v : List Nat} (hu : ∀ c ∈ u, c < 8) (hv : ∀ c ∈ v, c < 8) (lu : u.length ≤ 6) (lv : v.length ≤ 6) (h : nlt u v) : rcI u < rcI v := by
  have a1 := b8_small hu lu
  have a2 := b8_small hv lv
  have b1 := rc_lt hu lu
  have b2 := rc_lt hv lv
  refine nI_lt ?_ (by omega)
  unfold rc
  rcases h with h | ⟨h1, h2⟩
  · omega
  · have h3 := (pkA_cmp 6 u v hu hv lu lv).mp h2
    have h4 := (b8_cmp u v hu hv h1).mpr h3
    omega
def RN (I : Nat → Nat → Int32) (m : Nat) (L : List Int32) : Prop := I m 17 = nI L.length ∧ ∀ (j : Nat) (x : Int32), L[j]? = some x → I (m + 8) j = x
theorem shift_n {z : Zd} {m : Nat} (hM : MO z m) {I : Nat → Nat → Int32} {n i : Nat} (x : Int32) (hn : I m 17 = nI n) (hi : i ≤ n) (h64 : n < 100) : m_X8_addNode_J45 m x (nI i) (I, z) = some ((), (u2 (uA I (m + 8) (insR (I (m + 8)) n i x)) m 17 (nI (n + 1)), z)) := by
  unfold m_X8_addNode_J45
  rw [mb_gI hM.o]
  simp only [hn]
  have key := lp_FU (F := fun k s => m_X8_addNode_B50 m x (nI i) k s) (fun j => nI (n - j)) (fun j => (uA I (m + 8) (fun q => if n - j < q ∧ q ≤ n then I (m + 8) (q - 1) else I (m + 8) q), z)) (X := some ((), (u2 (uA I (m + 8) (insR (I (m + 8)) n i x)) m 17 (nI (n + 1)), z))) (n - i) (by omega) (fun j hj k => ?_) (fun k => ?_)
  · have e0 : (uA I (m + 8) (fun q => if n - 0 < q ∧ q ≤ n then I (m + 8) (q - 1) else I (m + 8) q)) = I := by
      rw [show (fun q => if n - 0 < q ∧ q ≤ n then I (m + 8) (q - 1) else I (m + 8) q) = I (m + 8) from funext fun q => if_neg (by omega)]
      exact uA_self I (m + 8)
    rw [e0] at key
    exact key
  · show m_X8_addNode_B50 m x (nI i) k (nI (n - j)) _ = _
    unfold m_X8_addNode_B50
    obtain ⟨v, hv⟩ : ∃ v, n - j = v + 1 := ⟨n - j - 1, by omega⟩
    rw [hv, if_neg (nI_ge (by omega) (by omega)), mb_gR hM.o hM.rNodes, mb_gR hM.o hM.rNodes, nI_pred, mb_aI hM.sNodes (show v < 100 by omega) (by omega), mb_tI hM.sNodes (show v + 1 < 100 by omega) (by omega)]
    simp only [uA_eq, u2_uA2]
    rw [if_neg (show ¬ (v + 1 < v ∧ v ≤ n) by omega), nI_m1, show n - (j + 1) = v by omega]
    congr 2
    congr 1
    funext q
    unfold va_up
    dsimp only
    by_cases hq : q = v + 1
    · rw [if_pos hq, if_pos (by omega), hq]; rfl
    · rw [if_neg hq]
      by_cases h2 : v + 1 < q ∧ q ≤ n
      · rw [if_pos h2, if_pos (by omega)]
      · rw [if_neg h2, if_neg (by omega)]
  · show m_X8_addNode_B50 m x (nI i) k (nI (n - (n - i))) _ = _
    unfold m_X8_addNode_B50
    rw [show n - (n - i) = i by omega, if_pos (nI_le (Nat.le_refl i) (by omega)), mb_gR hM.o hM.rNodes, mb_tI hM.sNodes (show i < 100 by omega) (by omega), mb_gI hM.o, mb_sI hM.o]
    simp only [u2_uA2]
    rw [uA_ne (show m ≠ m + 8 by omega), hn, nI_1]
    show some ((), (u2 (uA I (m + 8) _) m 17 (nI (n + 1)), z)) = _
    congr 5
    funext q
    unfold va_up insR
    dsimp only
    by_cases h1 : q < i
    · rw [if_neg (by omega), if_neg (by omega), if_pos h1]
    · rw [if_neg h1]
      by_cases h2 : q = i
      · rw [if_pos h2, if_pos h2]
      · rw [if_neg h2, if_neg h2]
        by_cases h3 : q ≤ n
        · rw [if_pos (by omega), if_pos h3]
        · rw [if_neg (by omega), if_neg h3]
theorem addNodeR_ok {z : Zd} {m : Nat} (hM : MO z m) {I : Nat → Nat → Int32} {L : List Int32} (hR : RN I m L) (hs : Srt L) (h100 : L.length < 100) (x : Int32) :
    ∃ I', m_X8_addNode m x (I, z) = some ((), (I', z)) ∧ RN I' m (wins L x) ∧ (∀ y, y ≠ m → y ≠ m + 8 → I' y = I y) ∧ ∀ k, k ≠ 17 → I' m k = I m k := by
  obtain ⟨r1, r2⟩ := hR
  obtain ⟨a, hal, hbef, hat⟩ : ∃ a, a ≤ L.length ∧ (∀ i v, i < a → L[i]? = some v → v < x) ∧ (∀ v, L[a]? = some v → x ≤ v) := by
    cases hf : L.findIdx? (fun v => decide (x ≤ v)) with
    | none =>
      refine ⟨L.length, Nat.le_refl _, fun i v _ hv => ?_, fun v hv => by simp at hv⟩
      have := List.findIdx?_eq_none_iff.mp hf v (List.mem_of_getElem? hv)
      exact i32_nle (by simpa using this)
    | some j =>
      obtain ⟨h1, h2, h3⟩ := List.findIdx?_eq_some_iff_getElem.mp hf
      refine ⟨j, by omega, fun i v hi hv => ?_, fun v hv => ?_⟩
      · have := h3 i hi
        obtain ⟨h4, h5⟩ := List.getElem?_eq_some_iff.mp hv
        rw [h5] at this
        exact i32_nle (by simpa using this)
      · obtain ⟨h4, h5⟩ := List.getElem?_eq_some_iff.mp hv
        rw [h5] at h2
        simpa using h2
  have toJ : ∀ X, m_X8_addNode_J26 m x (nI a) (I, z) = X → m_X8_addNode m x (I, z) = X := by
    intro X hX
    unfold m_X8_addNode
    refine lp_FU (fun i => nI i) (fun _ => (I, z)) a (by omega) (fun i hi k => ?_) (fun k => ?_)
    · show m_X8_addNode_B2 m x k (nI i) (I, z) = _
      have hv := List.getElem?_eq_getElem (show i < L.length by omega)
      generalize L[i]'(by omega) = v at hv
      unfold m_X8_addNode_B2
      rw [mb_gI hM.o]
      simp only [r1]
      rw [if_neg (nI_ge (by omega) (by omega)), mb_gR hM.o hM.rNodes, mb_aI hM.sNodes (show i < 100 by omega) (by omega)]
      simp only [r2 i v hv]
      rw [if_neg (i32_lt_nle (hbef i v hi hv)), nI_1]
    · show m_X8_addNode_B2 m x k (nI a) (I, z) = _
      unfold m_X8_addNode_B2
      rw [mb_gI hM.o]
      simp only [r1]
      by_cases hal2 : a = L.length
      · rw [if_pos (nI_le (by omega) (by omega))]; exact hX
      · have hv := List.getElem?_eq_getElem (show a < L.length by omega)
        generalize L[a]'(by omega) = v at hv
        rw [if_neg (nI_ge (by omega) (by omega)), mb_gR hM.o hM.rNodes, mb_aI hM.sNodes (show a < 100 by omega) (by omega)]
        simp only [r2 a v hv]
        rw [if_pos (hat v hv)]
        exact hX
  by_cases hmem : x ∈ L
  · obtain ⟨i, hi⟩ := List.getElem?_of_mem hmem
    have hil := (List.getElem?_eq_some_iff.mp hi).1
    have hia : i = a := by
      rcases Nat.lt_trichotomy i a with h | h | h
      · exact absurd rfl (i32_lt_ne (hbef i x h hi))
      · exact h
      · have hv := List.getElem?_eq_getElem (show a < L.length by omega)
        have h1 := hat _ hv
        have h2 := List.pairwise_iff_getElem.mp hs a i (by omega) hil h
        rw [(List.getElem?_eq_some_iff.mp hi).2] at h2
        exact absurd h1 (i32_lt_nle h2)
    subst hia
    refine ⟨I, toJ _ ?_, ?_, fun _ _ _ => rfl, fun _ _ => rfl⟩
    · unfold m_X8_addNode_J26
      rw [mb_gI hM.o]
      simp only [r1]
      rw [if_neg (nI_ge hil (by omega)), mb_gR hM.o hM.rNodes, mb_aI hM.sNodes (show i < 100 by omega) (by omega)]
      simp only [r2 i x hi]
      rw [if_pos trivial]
      rfl
    · unfold wins; rw [if_pos hmem]; exact ⟨r1, r2⟩
  · have hip : ipos L x = a := by
      have hl := ipos_le L x
      rcases Nat.lt_trichotomy (ipos L x) a with h | h | h
      · have hv := List.getElem?_eq_getElem (show ipos L x < L.length by omega)
        have h1 := ipos_behind hs (x := x) (Nat.le_refl _) hv
        have h2 := hbef _ _ h hv
        exact absurd rfl (i32_lt_ne (i32_lt_trans h1 h2))
      · exact h
      · have hv := List.getElem?_eq_getElem (show a < L.length by omega)
        have h1 := ipos_before (x := x) h hv
        have h2 := hat _ hv
        have h3 : x = L[a] := by
          have h4 := i32_nlt h1
          rw [Int32.le_iff_toInt_le] at h2 h4
          exact Int32.toInt_inj.mp (by omega)
        exact absurd (h3 ▸ List.getElem_mem _) hmem
    refine ⟨u2 (uA I (m + 8) (insR (I (m + 8)) L.length a x)) m 17 (nI (L.length + 1)), toJ _ ?_, ⟨?_, ?_⟩, fun y h1 h2 => by rw [u2_row h1, uA_ne h2], fun k hk => by rw [u2_ne (Or.inr hk), uA_ne (by omega)]⟩
    · unfold m_X8_addNode_J26
      rw [mb_gI hM.o]
      simp only [r1]
      by_cases hal2 : a = L.length
      · rw [if_pos (nI_le (by omega) (by omega))]
        exact shift_n hM x r1 hal h100
      · have hv := List.getElem?_eq_getElem (show a < L.length by omega)
        generalize L[a]'(by omega) = v at hv
        rw [if_neg (nI_ge (by omega) (by omega)), mb_gR hM.o hM.rNodes, mb_aI hM.sNodes (show a < 100 by omega) (by omega)]
        simp only [r2 a v hv]
        rw [if_neg (fun h : v = x => hmem (by rw [← h]; exact List.mem_of_getElem? hv))]
        exact shift_n hM x r1 hal h100
    · rw [u2_eq, wins_len hmem]
    · intro j v hj
      rw [u2_row (by omega), uA_eq]
      rw [wins_get hmem, hip] at hj
      unfold insR
      by_cases h1 : j < a
      · rw [if_pos h1] at hj ⊢; exact r2 j v hj
      · rw [if_neg h1] at hj ⊢
        by_cases h2 : j = a
        · rw [if_pos h2] at hj ⊢
          exact Option.some.inj hj
        · rw [if_neg h2] at hj ⊢
          have := (List.getElem?_eq_some_iff.mp hj).1
          rw [if_pos (by omega)]
          exact r2 _ v hj
theorem nodeOf_ok {z : Zd} {m : Nat} (hM : MO z m) {I : Nat → Nat → Int32} {L : List Int32} (hR : RN I m L) (h100 : L.length ≤ 100) (x : Int32) : m_X8_nodeOf m x (I, z) = some (fnd L x, (I, z)) := by
  obtain ⟨l1, l2⟩ := hR
  unfold m_X8_nodeOf
  cases hf : L.findIdx? (fun y => y == x) with
  | none =>
    have hno : ∀ (i : Nat) (y : Int32), L[i]? = some y → y ≠ x := fun i y hi => by
      have := List.findIdx?_eq_none_iff.mp hf y (List.mem_of_getElem? hi)
      simpa using this
    rw [fnd_none hno]
    refine lp_FU (fun i => nI i) (fun _ => (I, z)) L.length (by omega) (fun i hi k => ?_) (fun k => ?_)
    · show m_X8_nodeOf_B2 m x k (nI i) (I, z) = _
      unfold m_X8_nodeOf_B2
      rw [mb_gI hM.o]
      simp only [l1]
      rw [if_neg (nI_ge hi (by omega)), mb_gR hM.o hM.rNodes, mb_aI hM.sNodes (show i < 100 by omega) (by omega)]
      have hx := l2 i L[i] (List.getElem?_eq_getElem hi)
      simp only
      rw [if_neg (by rw [hx]; exact hno i _ (List.getElem?_eq_getElem hi)), nI_1]
    · show m_X8_nodeOf_B2 m x k (nI L.length) (I, z) = _
      unfold m_X8_nodeOf_B2
      rw [mb_gI hM.o]
      simp only [l1]
      rw [if_pos (nI_le (Nat.le_refl _) (by omega))]
      rfl
  | some j =>
    obtain ⟨h1, h2, h3⟩ := List.findIdx?_eq_some_iff_getElem.mp hf
    have hj : L[j]? = some x := by
      rw [List.getElem?_eq_getElem h1]
      congr 1
      simpa using h2
    have hno : ∀ (i : Nat) (y : Int32), i < j → L[i]? = some y → y ≠ x := fun i y hi hy => by
      have := h3 i hi
      have e : L[i]'(by omega) = y := by
        rw [List.getElem?_eq_getElem (by omega)] at hy
        exact Option.some.inj hy
      rw [e] at this
      simpa using this
    rw [fnd_at hj hno]
    refine lp_FU (fun i => nI i) (fun _ => (I, z)) j (by omega) (fun i hi k => ?_) (fun k => ?_)
    · show m_X8_nodeOf_B2 m x k (nI i) (I, z) = _
      unfold m_X8_nodeOf_B2
      rw [mb_gI hM.o]
      simp only [l1]
      rw [if_neg (nI_ge (by omega) (by omega)), mb_gR hM.o hM.rNodes, mb_aI hM.sNodes (show i < 100 by omega) (by omega)]
      have hx := l2 i L[i] (List.getElem?_eq_getElem (by omega))
      simp only
      rw [if_neg (by rw [hx]; exact hno i _ hi (List.getElem?_eq_getElem (by omega))), nI_1]
    · show m_X8_nodeOf_B2 m x k (nI j) (I, z) = _
      unfold m_X8_nodeOf_B2
      rw [mb_gI hM.o]
      simp only [l1]
      rw [if_neg (nI_ge h1 (by omega)), mb_gR hM.o hM.rNodes, mb_aI hM.sNodes (show j < 100 by omega) (by omega)]
      simp only
      rw [if_pos (l2 j x hj)]
      rfl
/-! first and last letters of a word -/
theorem b8_take {u : List Nat} (h : ∀ c ∈ u, c < 8) {n : Nat} (hn : n ≤ u.length) : b8 u / 8 ^ (u.length - n) = b8 (u.take n) := by
  have e : b8 u = b8 (u.take n) * 8 ^ (u.drop n).length + b8 (u.drop n) := by rw [← b8_app, List.take_append_drop]
  have h2 := b8_lt (u := u.drop n) (fun c hc => h c (List.mem_of_mem_drop hc))
  rw [List.length_drop] at e h2
  rw [e, Nat.mul_comm, Nat.mul_add_div (Nat.pos_of_ne_zero (by simp)), Nat.div_eq_of_lt h2, Nat.add_zero]
theorem b8_drop {u : List Nat} (h : ∀ c ∈ u, c < 8) {n : Nat} (hn : n ≤ u.length) : b8 u % 8 ^ n = b8 (u.drop (u.length - n)) := by
  have e : b8 u = b8 (u.take (u.length - n)) * 8 ^ (u.drop (u.length - n)).length + b8 (u.drop (u.length - n)) := by rw [← b8_app, List.take_append_drop]
  have h2 := b8_lt (u := u.drop (u.length - n)) (fun c hc => h c (List.mem_of_mem_drop hc))
  rw [List.length_drop, show u.length - (u.length - n) = n by omega] at e h2
  rw [e, Nat.mul_comm, Nat.mul_add_mod, Nat.mod_eq_of_lt h2]
theorem firsts_ok {u : List Nat} (h : ∀ c ∈ u, c < 8) (hl : u.length ≤ 6) {n : Nat} (hn : n ≤ u.length) (w : Wd) : m_X8_firsts (rcI u) (nI n) w = some (rcI (u.take n), w) := by
  have h1 := b8_small h hl
  have h2 := rc_lt h hl
  unfold m_X8_firsts
  show some (nI n * nI 1048576 + (((rcI u &&& 1048575)) >>> ((3 * ((rcI u / 1048576) - nI n)) &&& 31)), w) = _
  rw [rcI_div h hl, pk_sub hn, show (3 : Int32) = nI 3 from rfl, pk_mul, pk_mul]
  unfold rcI
  rw [show (1048575 : Int32) = nI (2 ^ 20 - 1) from rfl, bx_mask]
  rw [show rc u % 2 ^ 20 = b8 u by unfold rc; omega, bx_shr (by omega) (by omega), nI_add, ← pow8, b8_take h hn]
  unfold rc
  rw [List.length_take, Nat.min_eq_left hn]
theorem lasts_ok {u : List Nat} (h : ∀ c ∈ u, c < 8) {x : Nat} (hx : x % 1048576 = b8 u % 1048576) {n : Nat} (h6 : n ≤ 6) (hn : n ≤ u.length) (w : Wd) : m_X8_lasts (nI x) (nI n) w = some (rcI (u.drop (u.length - n)), w) := by
  unfold m_X8_lasts
  show some (nI n * nI 1048576 + (nI x &&& ((((1 : Int32) <<< ((3 * nI n) &&& 31))) - 1)), w) = _
  have hp : 0 < 2 ^ (3 * n) := Nat.pos_of_ne_zero (by simp)
  rw [show (3 : Int32) = nI 3 from rfl, pk_mul, pk_mul, show (1 : Int32) = nI 1 from rfl, bx_shl (by omega), Nat.one_mul, pk_sub (by omega), bx_mask, nI_add]
  have e : x % 2 ^ (3 * n) = b8 (u.drop (u.length - n)) := by
    rw [← b8_drop h hn, pow8]
    have hd : 2 ^ (3 * n) ∣ 1048576 := ⟨2 ^ (20 - 3 * n), by rw [← Nat.pow_add, show 3 * n + (20 - 3 * n) = 20 by omega]⟩
    rw [← Nat.mod_mod_of_dvd x hd, hx, Nat.mod_mod_of_dvd _ hd]
  rw [e]
  unfold rcI rc
  rw [List.length_drop, show u.length - (u.length - n) = n by omega]
theorem withLetterR_ok {u : List Nat} (h : ∀ c ∈ u, c < 8) (hl : u.length ≤ 6) (c : Nat) (w : Wd) : m_X8_withLetter (rcI u) (nI c) w = some (nI (rc (u ++ [c])), w) := by
  have h1 := b8_small h hl
  have h2 := rc_lt h hl
  unfold m_X8_withLetter
  show some (((rcI u / 1048576) + 1) * nI 1048576 + (rcI u &&& 262143) * nI 8 + nI c, w) = _
  rw [rcI_div h hl, nI_1, pk_mul]
  unfold rcI
  rw [show (262143 : Int32) = nI (2 ^ 18 - 1) from rfl, bx_mask, pk_mul, nI_add, nI_add]
  have e : (u.length + 1) * 1048576 + rc u % 2 ^ 18 * 8 + c = rc (u ++ [c]) := by
    unfold rc
    rw [b8_snoc, List.length_append, List.length_singleton]
    omega
  rw [e]
theorem fnd_map {ns : List (List Nat)} (h8 : ∀ v ∈ ns, (∀ d ∈ v, d < 8) ∧ v.length ≤ 6) (hnd : ns.Nodup) {u : List Nat} (hu : (∀ d ∈ u, d < 8) ∧ u.length ≤ 6) : (∃ k, ns[k]? = some u ∧ fnd (ns.map rcI) (rcI u) = nI k) ∨ (u ∉ ns ∧ fnd (ns.map rcI) (rcI u) = -9) := by
  by_cases hm : u ∈ ns
  · obtain ⟨k, hk⟩ := List.getElem?_of_mem hm
    refine Or.inl ⟨k, hk, fnd_at (by rw [List.getElem?_map, hk]; rfl) (fun i y hi hy he => ?_)⟩
    rw [List.getElem?_map] at hy
    cases hv : ns[i]? with
    | none => rw [hv] at hy; cases hy
    | some v =>
      rw [hv] at hy
      have hyv : rcI v = y := Option.some.inj hy
      have hmv := h8 v (List.mem_of_getElem? hv)
      have : v = u := rcI_inj hmv.1 hu.1 hmv.2 hu.2 (hyv.trans he)
      rw [this] at hv
      have := nodup_idx hnd hv hk
      omega
  · refine Or.inr ⟨hm, fnd_none (fun i y hy he => ?_)⟩
    rw [List.getElem?_map] at hy
    cases hv : ns[i]? with
    | none => rw [hv] at hy; cases hy
    | some v =>
      rw [hv] at hy
      have hyv : rcI v = y := Option.some.inj hy
      have hmv := h8 v (List.mem_of_getElem? hv)
      have : v = u := rcI_inj hmv.1 hu.1 hmv.2 hu.2 (hyv.trans he)
      exact hm (this ▸ List.mem_of_getElem? hv)
/-- the longest ending that is a node -/
theorem longest_ok {z : Zd} {m : Nat} (hM : MO z m) {I : Nat → Nat → Int32} {W ns : List (List Nat)} (hN : NS W ns) (hR : RN I m (ns.map rcI)) (h100 : ns.length ≤ 100) (h8 : ∀ v ∈ ns, (∀ d ∈ v, d < 8) ∧ v.length ≤ 6) {t : List Nat} (ht : ∀ c ∈ t, c < 8) {x : Nat} (hx : x % 1048576 = b8 t % 1048576) :
    ∀ (n : Nat), n ≤ 6 → n ≤ t.length → ∃ k, ns[k]? = some (lsuf ns (t.drop (t.length - n))) ∧ m_X8_longest m (nI x) (nI n) (I, z) = some (nI k, (I, z)) := by
  intro n h6 hn
  have hgen : ∀ (n : Nat), n ≤ 6 → n ≤ t.length → ∃ k, ns[k]? = some (lsuf ns (t.drop (t.length - n))) ∧ ∀ f, n < f → lp (fun k s => m_X8_longest_B2 m (nI x) k s) f (nI n) (I, z) = some (nI k, (I, z)) := by
    intro n
    induction n with
    | zero =>
      intro _ _
      refine ⟨0, by rw [Nat.sub_zero, List.drop_length]; exact hN.zero, fun f hf => ?_⟩
      obtain ⟨g, rfl⟩ : ∃ g, f = g + 1 := ⟨f - 1, by omega⟩
      rw [lp_s]
      unfold m_X8_longest_B2
      rw [if_pos (by decide)]
      rfl
    | succ n ih =>
      intro h6 hn
      obtain ⟨k1, e1, e2⟩ := ih (by omega) (by omega)
      have hdl : (t.drop (t.length - (n + 1))).length = n + 1 := by rw [List.length_drop]; omega
      obtain ⟨a, s, has⟩ : ∃ a s, t.drop (t.length - (n + 1)) = a :: s := by
        cases h : t.drop (t.length - (n + 1)) with
        | nil => rw [h] at hdl; simp at hdl
        | cons a s => exact ⟨a, s, rfl⟩
      have htail : s = t.drop (t.length - n) := by
        have h1 : (t.drop (t.length - (n + 1))).tail = s := by rw [has]; rfl
        rw [← h1, List.tail_drop]
        congr 1
        omega
      have hd8 : (∀ d ∈ t.drop (t.length - (n + 1)), d < 8) ∧ (t.drop (t.length - (n + 1))).length ≤ 6 := ⟨fun d hd => ht d (List.mem_of_mem_drop hd), by omega⟩
      have step : ∀ k : Int32 → Mo Int32, m_X8_longest_B2 m (nI x) k (nI (n + 1)) (I, z) = (if fnd (ns.map rcI) (rcI (t.drop (t.length - (n + 1)))) = -9 then k (nI n) else mp (fnd (ns.map rcI) (rcI (t.drop (t.length - (n + 1)))))) (I, z) := by
        intro k
        unfold m_X8_longest_B2
        rw [if_neg (nI_nle (by omega) (by omega)), mb_call (lasts_ok ht hx h6 hn (I, z)), mb_vc hM.o, mb_call (nodeOf_ok hM hR (by rw [List.length_map]; exact h100) _), nI_m1]
      rcases fnd_map h8 hN.nodup hd8 with ⟨k, hk1, hk2⟩ | ⟨hno, hk2⟩
      · refine ⟨k, by rw [lsuf_of_mem (List.mem_of_getElem? hk1)]; exact hk1, fun f hf => ?_⟩
        obtain ⟨g, rfl⟩ : ∃ g, f = g + 1 := ⟨f - 1, by omega⟩
        have hkl := (List.getElem?_eq_some_iff.mp hk1).1
        rw [lp_s, step, hk2, if_neg]
        · rfl
        · intro h
          have h2 : (nI k).toInt = -9 := by rw [h]; rfl
          rw [nI_toInt (by omega)] at h2
          omega
      · refine ⟨k1, ?_, fun f hf => ?_⟩
        · rw [has] at hno ⊢
          rw [lsuf_not hno, htail]
          exact e1
        · obtain ⟨g, rfl⟩ : ∃ g, f = g + 1 := ⟨f - 1, by omega⟩
          rw [lp_s, step, hk2, if_pos rfl]
          exact e2 g (by omega)
  obtain ⟨k, e1, e2⟩ := hgen n h6 hn
  exact ⟨k, e1, e2 FU (by unfold FU; omega)⟩
