/-! ===== the class's Words: a list of codes ===== -/
/-- a Words object at p, its row of codes at a, room for n -/
def WO (z : (Nat → Nat → Int64) × (Nat → Nat → Option Nat) × List (Nat × Nat)) (p a n : Nat) : Prop := z.2.2[p]? = some (5, nf 5) ∧ z.2.1 p 0 = some a ∧ z.2.2[a]? = some (100, n) ∧ a ≠ p ∧ n < 1000
/-- it holds the codes L -/
def WL (f g : Nat → Int32) (L : List Int32) : Prop := f 1 = nI L.length ∧ ∀ (j : Nat) (x : Int32), L[j]? = some x → g j = x
def fnd (L : List Int32) (x : Int32) : Int32 := match L.findIdx? (fun y => y == x) with
  | none => -9
  | some j => nI j
theorem fnd_none {L : List Int32} {x : Int32} (h : ∀ (i : Nat) (y : Int32), L[i]? = some y → y ≠ x) : fnd L x = -9 := by
  unfold fnd
  rw [List.findIdx?_eq_none_iff.mpr]
  intro y hy
  obtain ⟨i, hi⟩ := List.getElem?_of_mem hy
  simpa using h i y hi
theorem fnd_at {L : List Int32} {x : Int32} {j : Nat} (hj : L[j]? = some x) (h : ∀ (i : Nat) (y : Int32), i < j → L[i]? = some y → y ≠ x) : fnd L x = nI j := by
  unfold fnd
  have hl := (List.getElem?_eq_some_iff.mp hj)
  obtain ⟨h1, h2⟩ := hl
  rw [List.findIdx?_eq_some_iff_getElem.mpr ⟨h1, by simp [h2], fun i hi => by
    have := h i (L[i]) hi (List.getElem?_eq_getElem (by omega))
    simpa using this⟩]
theorem find_ok {z : (Nat → Nat → Int64) × (Nat → Nat → Option Nat) × List (Nat × Nat)} {I : Nat → Nat → Int32} {p a n : Nat} {L : List Int32} (hz : WO z p a n) (hL : WL (I p) (I a) L) (hn : L.length ≤ n) (x : Int32) : m_X6_find p x (I, z) = some (fnd L x, (I, z)) := by
  obtain ⟨z1, z2, z3, z4, z5⟩ := hz
  obtain ⟨l1, l2⟩ := hL
  unfold m_X6_find
  cases hf : L.findIdx? (fun y => y == x) with
  | none =>
    have hno : ∀ (i : Nat) (y : Int32), L[i]? = some y → y ≠ x := fun i y hi => by
      have := List.findIdx?_eq_none_iff.mp hf y (List.mem_of_getElem? hi)
      simpa using this
    rw [fnd_none hno]
    refine lp_FU (fun i => nI i) (fun _ => (I, z)) L.length (by omega) (fun i hi k => ?_) (fun k => ?_)
    · show m_X6_find_B2 p x k (nI i) (I, z) = _
      unfold m_X6_find_B2
      rw [mb_gI z1]
      simp only [l1]
      rw [if_neg (by rw [nI_leI (by omega) (by omega)]; omega), mb_gR z1 z2, mb_aI z3 (show i < n by omega) (by omega)]
      have hx := l2 i L[i] (List.getElem?_eq_getElem hi)
      simp only
      rw [if_neg (by rw [hx]; exact hno i _ (List.getElem?_eq_getElem hi)), nI_1]
    · show m_X6_find_B2 p x k (nI L.length) (I, z) = _
      unfold m_X6_find_B2
      rw [mb_gI z1]
      simp only [l1]
      rw [if_pos (by rw [nI_leI (by omega) (by omega)]; omega)]
      rfl
  | some j =>
    obtain ⟨h1, h2, h3⟩ := List.findIdx?_eq_some_iff_getElem.mp hf
    have hj : L[j]? = some x := by
      rw [List.getElem?_eq_getElem h1]
      congr 1
      simpa using h2
    have hno : ∀ (i : Nat) (y : Int32), i < j → L[i]? = some y → y ≠ x := fun i y hi hy => by
      have := h3 i hi
      have e : L[i]'(by omega) = y := by
        rw [List.getElem?_eq_getElem (by omega)] at hy
        exact Option.some.inj hy
      rw [e] at this
      simpa using this
    rw [fnd_at hj hno]
    refine lp_FU (fun i => nI i) (fun _ => (I, z)) j (by omega) (fun i hi k => ?_) (fun k => ?_)
    · show m_X6_find_B2 p x k (nI i) (I, z) = _
      unfold m_X6_find_B2
      rw [mb_gI z1]
      simp only [l1]
      rw [if_neg (by rw [nI_leI (by omega) (by omega)]; omega), mb_gR z1 z2, mb_aI z3 (show i < n by omega) (by omega)]
      have hx := l2 i L[i] (List.getElem?_eq_getElem (by omega))
      simp only
      rw [if_neg (by rw [hx]; exact hno i _ hi (List.getElem?_eq_getElem (by omega))), nI_1]
    · show m_X6_find_B2 p x k (nI j) (I, z) = _
      unfold m_X6_find_B2
      rw [mb_gI z1]
      simp only [l1]
      rw [if_neg (by rw [nI_leI (by omega) (by omega)]; omega), mb_gR z1 z2, mb_aI z3 (show j < n by omega) (by omega)]
      simp only
      rw [if_pos (l2 j x hj)]
      rfl
/-- the place at which a code comes in -/
def ipos (L : List Int32) (x : Int32) : Nat := match L.findIdx? (fun y => decide (x < y)) with
  | none => L.length
  | some j => j
def wins (L : List Int32) (x : Int32) : List Int32 := if x ∈ L then L else L.take (ipos L x) ++ x :: L.drop (ipos L x)
abbrev Zd : Type := (Nat → Nat → Int64) × (Nat → Nat → Option Nat) × List (Nat × Nat)
abbrev Srt (L : List Int32) : Prop := L.Pairwise (fun a b => a < b)
theorem i32_lt_trans {a b c : Int32} (h : a < b) (h2 : b < c) : a < c := by
  rw [Int32.lt_iff_toInt_lt] at *; omega
theorem i32_lt_le {a b c : Int32} (h : a ≤ b) (h2 : b < c) : a < c := by
  rw [Int32.lt_iff_toInt_lt] at *; rw [Int32.le_iff_toInt_le] at h; omega
theorem i32_nlt {a b : Int32} (h : ¬ a < b) : b ≤ a := by
  rw [Int32.lt_iff_toInt_lt] at h; rw [Int32.le_iff_toInt_le]; omega
theorem i32_nle {a b : Int32} (h : ¬ a ≤ b) : b < a := by
  rw [Int32.le_iff_toInt_le] at h; rw [Int32.lt_iff_toInt_lt]; omega
theorem i32_lt_nle {a b : Int32} (h : a < b) : ¬ b ≤ a := by
  rw [Int32.lt_iff_toInt_lt] at h; rw [Int32.le_iff_toInt_le]; omega
theorem i32_lt_ne {a b : Int32} (h : a < b) : a ≠ b := by
  rintro rfl; rw [Int32.lt_iff_toInt_lt] at h; omega
theorem ipos_le (L : List Int32) (x : Int32) : ipos L x ≤ L.length := by
  unfold ipos
  cases h : L.findIdx? (fun y => decide (x < y)) with
  | none => exact Nat.le_refl _
  | some j => exact Nat.le_of_lt (List.findIdx?_eq_some_iff_getElem.mp h).1
theorem ipos_before {L : List Int32} {x : Int32} {i : Nat} {y : Int32} (h : i < ipos L x) (hy : L[i]? = some y) : ¬ x < y := by
  unfold ipos at h
  cases hf : L.findIdx? (fun y => decide (x < y)) with
  | none =>
    have := List.findIdx?_eq_none_iff.mp hf y (List.mem_of_getElem? hy)
    simpa using this
  | some j =>
    rw [hf] at h
    obtain ⟨h1, h2, h3⟩ := List.findIdx?_eq_some_iff_getElem.mp hf
    have h4 := h3 i h
    have e : L[i]'(by simp only at h; omega) = y := by
      rw [List.getElem?_eq_getElem (by simp only at h; omega)] at hy
      exact Option.some.inj hy
    rw [e] at h4
    simpa using h4
theorem ipos_behind {L : List Int32} (hs : Srt L) {x : Int32} {i : Nat} {y : Int32} (h : ipos L x ≤ i) (hy : L[i]? = some y) : x < y := by
  unfold ipos at h
  have hi := (List.getElem?_eq_some_iff.mp hy)
  cases hf : L.findIdx? (fun y => decide (x < y)) with
  | none => rw [hf] at h; simp only at h; have := hi.1; omega
  | some j =>
    rw [hf] at h
    simp only at h
    obtain ⟨h1, h2, h3⟩ := List.findIdx?_eq_some_iff_getElem.mp hf
    have h2 : x < L[j] := by simpa using h2
    by_cases hij : i = j
    · subst hij; rw [← hi.2]; exact h2
    · have h5 := List.pairwise_iff_getElem.mp hs j i h1 hi.1 (by omega)
      rw [hi.2] at h5
      exact i32_lt_trans h2 h5
theorem wins_len {L : List Int32} {x : Int32} (h : x ∉ L) : (wins L x).length = L.length + 1 := by
  unfold wins
  rw [if_neg h]
  have := ipos_le L x
  simp
  omega
theorem wins_get {L : List Int32} {x : Int32} (h : x ∉ L) (j : Nat) : (wins L x)[j]? = if j < ipos L x then L[j]? else if j = ipos L x then some x else L[j - 1]? := by
  unfold wins
  rw [if_neg h]
  have hl := ipos_le L x
  have hlen : (L.take (ipos L x)).length = ipos L x := by simp; omega
  by_cases h1 : j < ipos L x
  · rw [if_pos h1, List.getElem?_append_left (by omega), List.getElem?_take, if_pos h1]
  · rw [if_neg h1, List.getElem?_append_right (by omega), hlen]
    by_cases h2 : j = ipos L x
    · rw [if_pos h2, h2, Nat.sub_self]; rfl
    · rw [if_neg h2]
      obtain ⟨d, hd⟩ : ∃ d, j - ipos L x = d + 1 := ⟨j - ipos L x - 1, by omega⟩
      rw [hd, List.getElem?_cons_succ, List.getElem?_drop]
      congr 1
      omega
theorem mem_wins {L : List Int32} {x y : Int32} : y ∈ wins L x ↔ y = x ∨ y ∈ L := by
  unfold wins
  by_cases h : x ∈ L
  · rw [if_pos h]
    constructor
    · exact Or.inr
    · rintro (rfl | h2)
      · exact h
      · exact h2
  · rw [if_neg h]
    have e : y ∈ L ↔ y ∈ L.take (ipos L x) ∨ y ∈ L.drop (ipos L x) := by rw [← List.mem_append, List.take_append_drop]
    simp only [List.mem_append, List.mem_cons, e]
    constructor
    · rintro (h1 | h1 | h1)
      · exact Or.inr (Or.inl h1)
      · exact Or.inl h1
      · exact Or.inr (Or.inr h1)
    · rintro (h1 | h1 | h1)
      · exact Or.inr (Or.inl h1)
      · exact Or.inl h1
      · exact Or.inr (Or.inr h1)
theorem wins_srt {L : List Int32} (hs : Srt L) (x : Int32) : Srt (wins L x) := by
  by_cases h : x ∈ L
  · unfold wins; rw [if_pos h]; exact hs
  · have hlt : ∀ (i : Nat) (y : Int32), i < ipos L x → L[i]? = some y → y < x := by
      intro i y hi hy
      have h1 := i32_nlt (ipos_before hi hy)
      have h2 : y ≠ x := by rintro rfl; exact h (List.mem_of_getElem? hy)
      rw [Int32.le_iff_toInt_le] at h1
      rw [Int32.lt_iff_toInt_lt]
      have h3 : y.toInt ≠ x.toInt := fun e => h2 (Int32.toInt_inj.mp e)
      omega
    unfold wins
    rw [if_neg h]
    refine List.pairwise_append.mpr ⟨List.Pairwise.take hs, List.pairwise_cons.mpr ⟨?_, List.Pairwise.drop hs⟩, ?_⟩
    · intro y hy
      obtain ⟨i, hi⟩ := List.getElem?_of_mem hy
      rw [List.getElem?_drop] at hi
      exact ipos_behind hs (by omega) hi
    · intro a ha b hb
      obtain ⟨i, hi⟩ := List.getElem?_of_mem ha
      rw [List.getElem?_take] at hi
      by_cases hi2 : i < ipos L x
      · rw [if_pos hi2] at hi
        have hax := hlt i a hi2 hi
        rcases List.mem_cons.mp hb with rfl | hb
        · exact hax
        · obtain ⟨j, hj⟩ := List.getElem?_of_mem hb
          rw [List.getElem?_drop] at hj
          exact i32_lt_trans hax (ipos_behind hs (by omega) hj)
      · rw [if_neg hi2] at hi; cases hi
theorem fnd_mem {L : List Int32} {x : Int32} (hl : L.length < 2 ^ 31) : (fnd L x < 0) ↔ x ∉ L := by
  unfold fnd
  cases hf : L.findIdx? (fun y => y == x) with
  | none =>
    have h1 := List.findIdx?_eq_none_iff.mp hf
    constructor
    · intro _ hm
      have := h1 x hm
      simp at this
    · intro _; decide
  | some j =>
    obtain ⟨h1, h2, h3⟩ := List.findIdx?_eq_some_iff_getElem.mp hf
    constructor
    · intro h; exact absurd h (nI_pos (by omega))
    · intro h
      have h2 : L[j] = x := by simpa using h2
      exact absurd (h2 ▸ List.getElem_mem h1) h
theorem put_ok {z : Zd} {I : Nat → Nat → Int32} {p a n : Nat} {L : List Int32} (hz : WO z p a n) (hL : WL (I p) (I a) L) (hs : Srt L) (hn : L.length ≤ n) (x : Int32) (hroom : x ∈ L ∨ L.length < n) :
    ∃ I', m_X6_put p x (I, z) = some (1, (I', z)) ∧ WL (I' p) (I' a) (wins L x) ∧ ∀ q, q ≠ p → q ≠ a → I' q = I q := by
  have hfind := find_ok hz hL hn x
  obtain ⟨z1, z2, z3, z4, z5⟩ := hz
  obtain ⟨l1, l2⟩ := hL
  unfold m_X6_put
  rw [mb_vc z1, mb_call hfind]
  by_cases hx : x ∈ L
  · rw [if_neg (by rw [fnd_mem (by omega)]; exact fun h => h hx)]
    refine ⟨I, rfl, ?_, fun _ _ _ => rfl⟩
    unfold wins
    rw [if_pos hx]
    exact ⟨l1, l2⟩
  · have hlt : L.length < n := hroom.resolve_left hx
    rw [if_pos ((fnd_mem (by omega)).mpr hx), mb_gI z1, mb_gR z1 z2, mb_aL z3]
    simp only [l1]
    rw [if_pos (by rw [nI_ltI (by omega) (by omega)]; exact hlt), mb_gI z1]
    simp only [l1]
    have hip := ipos_le L x
    refine ⟨u2 (uA I a (va_up (fun j => if ipos L x < j ∧ j ≤ L.length then L.getD (j - 1) 0 else I a j) (ipos L x) x)) p 1 (nI (L.length + 1)), ?_, ?_, ?_⟩
    · have key := lp_FU (F := fun k s => m_X6_put_B29 p x k s) (fun i => nI (L.length - i)) (fun i => (uA I a (fun j => if L.length - i < j ∧ j ≤ L.length then L.getD (j - 1) 0 else I a j), z)) (X := some (1, (u2 (uA I a (va_up (fun j => if ipos L x < j ∧ j ≤ L.length then L.getD (j - 1) 0 else I a j) (ipos L x) x)) p 1 (nI (L.length + 1)), z))) (L.length - ipos L x) (by omega) (fun i hi k => ?_) (fun k => ?_)
      · have e0 : (uA I a (fun j => if L.length - 0 < j ∧ j ≤ L.length then L.getD (j - 1) 0 else I a j)) = I := by
          rw [show (fun j => if L.length - 0 < j ∧ j ≤ L.length then L.getD (j - 1) 0 else I a j) = I a from funext fun j => if_neg (by omega)]
          exact uA_self I a
        rw [e0] at key
        exact key
      · show m_X6_put_B29 p x k (nI (L.length - i)) _ = _
        unfold m_X6_put_B29
        obtain ⟨v, hv⟩ : ∃ v, L.length - i = v + 1 := ⟨L.length - i - 1, by omega⟩
        rw [hv, if_neg (nI_nle (by omega) (by omega)), mb_gR z1 z2]
        rw [show nI (v + 1) - 1 = nI v from nI_pred v, mb_aI z3 (show v < n by omega) (by omega)]
        have hrow : ∀ j, j ≤ v → uA I a (fun j => if v + 1 < j ∧ j ≤ L.length then L.getD (j - 1) 0 else I a j) a j = I a j := fun j hj => by rw [uA_eq]; exact if_neg (by omega)
        have hget : L[v]? = some (L.getD v 0) := by rw [List.getD_eq_getElem?_getD, List.getElem?_eq_getElem (by omega)]; rfl
        have hIv := l2 v _ hget
        simp only [hrow v (Nat.le_refl v)]
        rw [if_neg (by rw [hIv]; exact i32_lt_nle (ipos_behind hs (by omega) hget)), mb_gR z1 z2, mb_gR z1 z2, mb_aI z3 (show v < n by omega) (by omega), mb_tI z3 (show v + 1 < n by omega) (by omega)]
        simp only [hrow v (Nat.le_refl v)]
        rw [u2_uA2, nI_m1]
        rw [show L.length - (i + 1) = v by omega]
        congr 2
        congr 1
        funext j
        unfold va_up
        dsimp only
        by_cases hj : j = v + 1
        · rw [if_pos hj, if_pos (by omega), hj, hIv]; rfl
        · rw [if_neg hj]
          by_cases hj2 : v + 1 < j ∧ j ≤ L.length
          · rw [if_pos hj2, if_pos (by omega)]
          · rw [if_neg hj2, if_neg (by omega)]
      · show m_X6_put_B29 p x k (nI (L.length - (L.length - ipos L x))) _ = _
        rw [show L.length - (L.length - ipos L x) = ipos L x by omega]
        have fin : ∀ g : Nat → Int32, m_X6_put_J65 p x (nI (ipos L x)) (uA I a g, z) = some (1, (u2 (uA I a (va_up g (ipos L x) x)) p 1 (nI (L.length + 1)), z)) := by
          intro g
          unfold m_X6_put_J65
          rw [mb_gR z1 z2, mb_tI z3 (show ipos L x < n by omega) (by omega), mb_gI z1, mb_sI z1]
          simp only [u2_uA2]
          rw [uA_ne (Ne.symm z4), l1, nI_1]
          rfl
        unfold m_X6_put_B29
        by_cases h0 : ipos L x = 0
        · rw [if_pos (by rw [h0]; decide)]
          exact fin _
        · obtain ⟨v, hv⟩ : ∃ v, ipos L x = v + 1 := ⟨ipos L x - 1, by omega⟩
          rw [if_neg (nI_nle (by omega) (by omega)), mb_gR z1 z2]
          rw [show nI (ipos L x) - 1 = nI v by rw [hv]; exact nI_pred v, mb_aI z3 (show v < n by omega) (by omega)]
          have hget : L[v]? = some (L.getD v 0) := by rw [List.getD_eq_getElem?_getD, List.getElem?_eq_getElem (by omega)]; rfl
          have hIv := l2 v _ hget
          simp only [uA_eq]
          rw [if_neg (show ¬ (ipos L x < v ∧ v ≤ L.length) by omega), if_pos (by rw [hIv]; exact i32_nlt (ipos_before (by omega) hget))]
          exact fin _
    · refine ⟨by rw [u2_eq, wins_len hx], fun j y hj => ?_⟩
      rw [u2_row z4, uA_eq]
      rw [wins_get hx] at hj
      unfold va_up
      dsimp only
      by_cases h1 : j < ipos L x
      · rw [if_pos h1] at hj
        rw [if_neg (by omega), if_neg (by omega)]
        exact l2 j y hj
      · rw [if_neg h1] at hj
        by_cases h2 : j = ipos L x
        · rw [if_pos h2] at hj
          rw [if_pos h2]
          exact Option.some.inj hj
        · rw [if_neg h2] at hj
          have := (List.getElem?_eq_some_iff.mp hj).1
          rw [if_neg h2, if_pos (by omega), List.getD_eq_getElem?_getD, hj]
          rfl
    · intro q h1 h2
      rw [u2_row h1, uA_ne h2]
