theorem winsW_get {W : List (List Nat)} {u : List Nat} (h : pkI u ∉ W.map pkI) (j : Nat) : (winsW W u)[j]? = if j < ipos (W.map pkI) (pkI u) then W[j]? else if j = ipos (W.map pkI) (pkI u) then some u else W[j - 1]? := by
  unfold winsW
  rw [if_neg h]
  have hl := ipos_le (W.map pkI) (pkI u)
  rw [List.length_map] at hl
  have hlen : (W.take (ipos (W.map pkI) (pkI u))).length = ipos (W.map pkI) (pkI u) := by simp; omega
  by_cases h1 : j < ipos (W.map pkI) (pkI u)
  · rw [if_pos h1, List.getElem?_append_left (by omega), List.getElem?_take, if_pos h1]
  · rw [if_neg h1, List.getElem?_append_right (by omega), hlen]
    by_cases h2 : j = ipos (W.map pkI) (pkI u)
    · rw [if_pos h2, h2, Nat.sub_self]; rfl
    · rw [if_neg h2]
      obtain ⟨d, hd⟩ : ∃ d, j - ipos (W.map pkI) (pkI u) = d + 1 := ⟨j - ipos (W.map pkI) (pkI u) - 1, by omega⟩
      rw [hd, List.getElem?_cons_succ, List.getElem?_drop]
      congr 1
      omega
/-- a row into which a code comes at a place: those behind go on by one -/
def insR (f : Nat → Int32) (n i : Nat) (x : Int32) : Nat → Int32 := fun j => if j < i then f j else if j = i then x else if j ≤ n then f (j - 1) else f j
theorem shift_w {z : Zd} {m : Nat} (hM : MO z m) {I : Nat → Nat → Int32} {n i : Nat} (x : Int32) (hn : I m 15 = nI n) (hi : i ≤ n) (h64 : n < 64) : m_X8_addWord_J48 m x (nI i) (I, z) = some ((), (u2 (uA I (m + 7) (insR (I (m + 7)) n i x)) m 15 (nI (n + 1)), z)) := by
  unfold m_X8_addWord_J48
  rw [mb_gI hM.o]
  simp only [hn]
  have key := lp_FU (F := fun k s => m_X8_addWord_B53 m x (nI i) k s) (fun j => nI (n - j)) (fun j => (uA I (m + 7) (fun q => if n - j < q ∧ q ≤ n then I (m + 7) (q - 1) else I (m + 7) q), z)) (X := some ((), (u2 (uA I (m + 7) (insR (I (m + 7)) n i x)) m 15 (nI (n + 1)), z))) (n - i) (by omega) (fun j hj k => ?_) (fun k => ?_)
  · have e0 : (uA I (m + 7) (fun q => if n - 0 < q ∧ q ≤ n then I (m + 7) (q - 1) else I (m + 7) q)) = I := by
      rw [show (fun q => if n - 0 < q ∧ q ≤ n then I (m + 7) (q - 1) else I (m + 7) q) = I (m + 7) from funext fun q => if_neg (by omega)]
      exact uA_self I (m + 7)
    rw [e0] at key
    exact key
  · show m_X8_addWord_B53 m x (nI i) k (nI (n - j)) _ = _
    unfold m_X8_addWord_B53
    obtain ⟨v, hv⟩ : ∃ v, n - j = v + 1 := ⟨n - j - 1, by omega⟩
    rw [hv, if_neg (nI_ge (by omega) (by omega)), mb_gR hM.o hM.rWords, mb_gR hM.o hM.rWords, nI_pred, mb_aI hM.sWords (show v < 64 by omega) (by omega), mb_tI hM.sWords (show v + 1 < 64 by omega) (by omega)]
    simp only [uA_eq, u2_uA2]
    rw [if_neg (show ¬ (v + 1 < v ∧ v ≤ n) by omega), nI_m1, show n - (j + 1) = v by omega]
    congr 2
    congr 1
    funext q
    unfold va_up
    dsimp only
    by_cases hq : q = v + 1
    · rw [if_pos hq, if_pos (by omega), hq]; rfl
    · rw [if_neg hq]
      by_cases h2 : v + 1 < q ∧ q ≤ n
      · rw [if_pos h2, if_pos (by omega)]
      · rw [if_neg h2, if_neg (by omega)]
  · show m_X8_addWord_B53 m x (nI i) k (nI (n - (n - i))) _ = _
    unfold m_X8_addWord_B53
    rw [show n - (n - i) = i by omega, if_pos (nI_le (Nat.le_refl i) (by omega)), mb_gR hM.o hM.rWords, mb_tI hM.sWords (show i < 64 by omega) (by omega), mb_gI hM.o, mb_sI hM.o]
    simp only [u2_uA2]
    rw [uA_ne (show m ≠ m + 7 by omega), hn, nI_1]
    show some ((), (u2 (uA I (m + 7) _) m 15 (nI (n + 1)), z)) = _
    congr 5
    funext q
    unfold va_up insR
    dsimp only
    by_cases h1 : q < i
    · rw [if_neg (by omega), if_neg (by omega), if_pos h1]
    · rw [if_neg h1]
      by_cases h2 : q = i
      · rw [if_pos h2, if_pos h2]
      · rw [if_neg h2, if_neg h2]
        by_cases h3 : q ≤ n
        · rw [if_pos (by omega), if_pos h3]
        · rw [if_neg (by omega), if_neg h3]
theorem addWord_ok {z : Zd} {m : Nat} (hM : MO z m) {I : Nat → Nat → Int32} {W : List (List Nat)} (hR : RW I m W) (hW : okL W) (h64 : W.length < 64) {u : List Nat} (hu : okW u) :
    ∃ I', m_X8_addWord m (rcI u) (I, z) = some ((), (I', z)) ∧ RW I' m (winsW W u) ∧ (∀ x, x ≠ m → x ≠ m + 7 → I' x = I x) ∧ ∀ k, k ≠ 15 → I' m k = I m k := by
  obtain ⟨r1, r2⟩ := hR
  have hsr : Srt (W.map pkI) := (okL_srt hW.1).mp hW.2
  -- the place
  obtain ⟨a, hal, hbef, hat⟩ : ∃ a, a ≤ W.length ∧ (∀ i v, i < a → W[i]? = some v → pk v < pk u) ∧ (∀ v, W[a]? = some v → ¬ pk v < pk u) := by
    cases hf : W.findIdx? (fun v => !decide (pk v < pk u)) with
    | none =>
      refine ⟨W.length, Nat.le_refl _, fun i v _ hv => ?_, fun v hv => by simp at hv⟩
      have := List.findIdx?_eq_none_iff.mp hf v (List.mem_of_getElem? hv)
      simpa using this
    | some j =>
      obtain ⟨h1, h2, h3⟩ := List.findIdx?_eq_some_iff_getElem.mp hf
      refine ⟨j, by omega, fun i v hi hv => ?_, fun v hv => ?_⟩
      · have := h3 i hi
        obtain ⟨h4, h5⟩ := List.getElem?_eq_some_iff.mp hv
        rw [h5] at this
        simpa using this
      · obtain ⟨h4, h5⟩ := List.getElem?_eq_some_iff.mp hv
        rw [h5] at h2
        simpa using h2
  have toJ : ∀ X, m_X8_addWord_J29 m (rcI u) (nI a) (I, z) = X → m_X8_addWord m (rcI u) (I, z) = X := by
    intro X hX
    unfold m_X8_addWord
    refine lp_FU (fun i => nI i) (fun _ => (I, z)) a (by omega) (fun i hi k => ?_) (fun k => ?_)
    · show m_X8_addWord_B2 m (rcI u) k (nI i) (I, z) = _
      have hv := List.getElem?_eq_getElem (show i < W.length by omega)
      generalize W[i]'(by omega) = v at hv
      obtain ⟨r, e, hr⟩ := order_ok (hW.1 v (List.mem_of_getElem? hv)) hu (I, z)
      unfold m_X8_addWord_B2
      rw [mb_gI hM.o]
      simp only [r1]
      rw [if_neg (nI_ge (by omega) (by omega)), mb_gR hM.o hM.rWords, mb_aI hM.sWords (show i < 64 by omega) (by omega)]
      simp only [r2 i v hv]
      rw [mb_call e, if_neg (by rw [hr]; exact fun h => h (hbef i v hi hv)), nI_1]
    · show m_X8_addWord_B2 m (rcI u) k (nI a) (I, z) = _
      unfold m_X8_addWord_B2
      rw [mb_gI hM.o]
      simp only [r1]
      by_cases hal2 : a = W.length
      · rw [if_pos (nI_le (by omega) (by omega))]; exact hX
      · have hv := List.getElem?_eq_getElem (show a < W.length by omega)
        generalize W[a]'(by omega) = v at hv
        obtain ⟨r, e, hr⟩ := order_ok (hW.1 v (List.mem_of_getElem? hv)) hu (I, z)
        rw [if_neg (nI_ge (by omega) (by omega)), mb_gR hM.o hM.rWords, mb_aI hM.sWords (show a < 64 by omega) (by omega)]
        simp only [r2 a v hv]
        rw [mb_call e, if_pos (hr.mpr (hat v hv))]
        exact hX
  by_cases hmem : pkI u ∈ W.map pkI
  · obtain ⟨x, hx, he⟩ := List.mem_map.mp hmem
    have hxu : x = u := pkI_inj (hW.1 x hx).2.2 hu.2.2 (hW.1 x hx).2.1 hu.2.1 he
    subst hxu
    obtain ⟨i, hi⟩ := List.getElem?_of_mem hx
    have hil := (List.getElem?_eq_some_iff.mp hi).1
    have hia : i = a := by
      rcases Nat.lt_trichotomy i a with h | h | h
      · have := hbef i x h hi; omega
      · exact h
      · have hv := List.getElem?_eq_getElem (show a < W.length by omega)
        have h1 := hat _ hv
        have h2 := List.pairwise_iff_getElem.mp hW.2 a i (by omega) hil h
        rw [(List.getElem?_eq_some_iff.mp hi).2] at h2
        omega
    subst hia
    refine ⟨I, toJ _ ?_, ?_, fun _ _ _ => rfl, fun _ _ => rfl⟩
    · unfold m_X8_addWord_J29
      rw [mb_gI hM.o]
      simp only [r1]
      rw [if_neg (nI_ge hil (by omega)), mb_gR hM.o hM.rWords, mb_aI hM.sWords (show i < 64 by omega) (by omega)]
      simp only [r2 i x hi]
      rw [if_pos trivial]
      rfl
    · unfold winsW; rw [if_pos hmem]; exact ⟨r1, r2⟩
  · have hip : ipos (W.map pkI) (pkI u) = a := by
      have hl := ipos_le (W.map pkI) (pkI u)
      rw [List.length_map] at hl
      have nomem : ∀ i v, W[i]? = some v → pk v ≠ pk u := fun i v hv h => hmem (List.mem_map.mpr ⟨v, List.mem_of_getElem? hv, by unfold pkI; rw [h]⟩)
      rcases Nat.lt_trichotomy (ipos (W.map pkI) (pkI u)) a with h | h | h
      · have hv := List.getElem?_eq_getElem (show ipos (W.map pkI) (pkI u) < W.length by omega)
        generalize W[ipos (W.map pkI) (pkI u)]'(by omega) = v at hv
        have h1 := ipos_behind hsr (x := pkI u) (Nat.le_refl _) (show (W.map pkI)[ipos (W.map pkI) (pkI u)]? = some (pkI v) by rw [List.getElem?_map, hv]; rfl)
        rw [pkI_lt hu.2.2 (hW.1 v (List.mem_of_getElem? hv)).2.2] at h1
        have h2 := hbef _ v h hv
        omega
      · exact h
      · have hv := List.getElem?_eq_getElem (show a < W.length by omega)
        generalize W[a]'(by omega) = v at hv
        have h1 := ipos_before (x := pkI u) h (show (W.map pkI)[a]? = some (pkI v) by rw [List.getElem?_map, hv]; rfl)
        rw [pkI_lt hu.2.2 (hW.1 v (List.mem_of_getElem? hv)).2.2] at h1
        have h2 := hat v hv
        have h3 := nomem a v hv
        omega
    refine ⟨u2 (uA I (m + 7) (insR (I (m + 7)) W.length a (rcI u))) m 15 (nI (W.length + 1)), toJ _ ?_, ⟨?_, ?_⟩, fun x h1 h2 => by rw [u2_row h1, uA_ne h2], fun k hk => by rw [u2_ne (Or.inr hk), uA_ne (by omega)]⟩
    · unfold m_X8_addWord_J29
      rw [mb_gI hM.o]
      simp only [r1]
      by_cases hal2 : a = W.length
      · rw [if_pos (nI_le (by omega) (by omega))]
        exact shift_w hM (rcI u) r1 hal h64
      · have hv := List.getElem?_eq_getElem (show a < W.length by omega)
        generalize W[a]'(by omega) = v at hv
        rw [if_neg (nI_ge (by omega) (by omega)), mb_gR hM.o hM.rWords, mb_aI hM.sWords (show a < 64 by omega) (by omega)]
        simp only [r2 a v hv]
        have hok := hW.1 v (List.mem_of_getElem? hv)
        rw [if_neg (fun h => hmem (List.mem_map.mpr ⟨v, List.mem_of_getElem? hv, by rw [rcI_inj hok.2.2 hu.2.2 hok.2.1 hu.2.1 h]⟩))]
        exact shift_w hM (rcI u) r1 hal h64
    · rw [u2_eq]
      have e := congrArg List.length (winsW_map W u)
      rw [List.length_map, wins_len hmem, List.length_map] at e
      rw [e]
    · intro j v hj
      rw [u2_row (by omega), uA_eq]
      rw [winsW_get hmem, hip] at hj
      unfold insR
      by_cases h1 : j < a
      · rw [if_pos h1] at hj ⊢; exact r2 j v hj
      · rw [if_neg h1] at hj ⊢
        by_cases h2 : j = a
        · rw [if_pos h2] at hj ⊢
          rw [Option.some.inj hj]
        · rw [if_neg h2] at hj ⊢
          have := (List.getElem?_eq_some_iff.mp hj).1
          rw [if_pos (by omega)]
          exact r2 _ v hj
