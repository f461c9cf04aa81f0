/-! ===== the class's holds(), matches(), since() ===== -/
theorem lg0 (x : Int64) : (lg_cmp x 0 = 0) ↔ x = 0 := by
  unfold lg_cmp
  constructor
  · intro h
    by_cases h1 : x > 0
    · rw [if_pos h1] at h; exact absurd h (by decide)
    · rw [if_neg h1] at h
      by_cases h2 : x = 0
      · exact h2
      · rw [if_neg h2] at h; exact absurd h (by decide)
  · rintro rfl
    rfl
theorem hb_bit (ls u : List Nat) : ∀ (n i : Nat), (hb ls u n).testBit i = (decide (i < n) && En ls u i)
  | 0, i => by simp [hb]
  | n + 1, i => by
    rw [show hb ls u (n + 1) = hb ls u n ||| (if En ls u n then 2 ^ n else 0) from rfl, Nat.testBit_or, hb_bit ls u n i]
    by_cases h : i = n
    · subst h
      cases he : En ls u i <;> simp [Nat.testBit_two_pow]
    · have hx : (if En ls u n then 2 ^ n else 0).testBit i = false := by
        cases En ls u n
        · simp
        · simp [Nat.testBit_two_pow]; omega
      rw [hx, Bool.or_false]
      congr 1
      rw [Bool.eq_iff_iff, decide_eq_true_iff, decide_eq_true_iff]
      omega
theorem hb_lt (ls u : List Nat) (n : Nat) : hb ls u n < 2 ^ n := by
  apply Nat.lt_pow_two_of_testBit
  intro i hi
  rw [hb_bit, show decide (i < n) = false by simp; omega]
  rfl
theorem hb_mask (ls u : List Nat) {n L : Nat} (h : n ≤ L) : hb ls u L &&& (2 ^ n - 1) = hb ls u n := by
  apply Nat.eq_of_testBit_eq
  intro i
  rw [Nat.testBit_and, hb_bit, hb_bit, Nat.testBit_two_pow_sub_one]
  by_cases hi : i < n
  · rw [show decide (i < n) = true by simp [hi], show decide (i < L) = true by simp; omega, Bool.and_true]
  · rw [show decide (i < n) = false by simp; omega, Bool.and_false]; rfl
theorem hb_zero (ls u : List Nat) (n : Nat) : hb ls u n = 0 ↔ hct ls u n = 0 := by
  constructor
  · intro h
    by_cases h0 : hct ls u n = 0
    · exact h0
    · obtain ⟨i, a, b⟩ := (hct_pos ls u n).mp (by omega)
      have := hb_bit ls u n i
      rw [h, b, show decide (i < n) = true by simp [a]] at this
      simp at this
  · intro h
    apply Nat.eq_of_testBit_eq
    intro i
    rw [hb_bit, Nat.zero_testBit]
    by_cases hi : i < n
    · cases he : En ls u i
      · simp
      · have := (hct_pos ls u n).mpr ⟨i, hi, he⟩
        omega
    · rw [show decide (i < n) = false by simp; omega]; rfl
def nzF (A B : Nat) : Nat → Nat → Bool
  | _, 0 => false
  | d, k + 1 => decide (A * 2 ^ (d + 1) &&& B ≠ 0) || nzF A B (d + 1) k
theorem nzF_iff (A B : Nat) : ∀ (k d : Nat), nzF A B d k = true ↔ ∃ e, d ≤ e ∧ e < d + k ∧ A * 2 ^ (e + 1) &&& B ≠ 0
  | 0, d => by
    constructor
    · intro h; exact absurd h (by simp [nzF])
    · rintro ⟨e, a, b, -⟩; omega
  | k + 1, d => by
    unfold nzF
    rw [Bool.or_eq_true, decide_eq_true_iff, nzF_iff A B k (d + 1)]
    constructor
    · rintro (h | ⟨e, a, b, c⟩)
      · exact ⟨d, by omega, by omega, h⟩
      · exact ⟨e, by omega, by omega, c⟩
    · rintro ⟨e, a, b, c⟩
      by_cases h : e = d
      · subst h; exact Or.inl c
      · exact Or.inr ⟨e, by omega, by omega, c⟩
theorem near_iff (ls u v : List Nat) (r n : Nat) : near ls u v r n = true ↔ ∃ i e, i < n ∧ e < r ∧ e + 1 ≤ i ∧ En ls u i = true ∧ En ls v (i - (e + 1)) = true := by
  unfold near nearI
  simp only [List.any_eq_true, List.mem_range, Bool.and_eq_true, decide_eq_true_iff]
  constructor
  · rintro ⟨i, a, b, e, c, d, f⟩
    exact ⟨i, e, a, c, d, b, f⟩
  · rintro ⟨i, e, a, c, d, b, f⟩
    exact ⟨i, a, b, e, c, d, f⟩
theorem near_nz (ls u v : List Nat) (r : Nat) {n L : Nat} (h : n ≤ L) : nzF (hb ls v L) (hb ls u n) 0 r = near ls u v r n := by
  rw [Bool.eq_iff_iff, nzF_iff, near_iff]
  constructor
  · rintro ⟨e, -, a, b⟩
    obtain ⟨i, hi⟩ := Nat.exists_testBit_of_ne_zero b
    rw [Nat.testBit_and, Nat.testBit_mul_two_pow, hb_bit, hb_bit] at hi
    simp only [Bool.and_eq_true, decide_eq_true_iff] at hi
    obtain ⟨⟨p, -, q⟩, s, t⟩ := hi
    exact ⟨i, e, s, by omega, by omega, t, q⟩
  · rintro ⟨i, e, a, b, c, d, f⟩
    refine ⟨e, by omega, by omega, fun h0 => ?_⟩
    have := congrArg (fun x => x.testBit i) h0
    simp only [Nat.testBit_and, Nat.testBit_mul_two_pow, hb_bit, Nat.zero_testBit] at this
    rw [d, f, show decide (e + 1 ≤ i) = true by simp; omega, show decide (i - (e + 1) < L) = true by simp; omega, show decide (i < n) = true by simp [a]] at this
    simp at this
theorem isNear_ok {A B r : Nat} (hA : A < 2 ^ 40) (hB : B < 2 ^ 40) (hr : r ≤ 9) (w : Wd) : m_X7_isNear (lN A) (lN B) (nI r) w = some (bI (nzF A B 0 r), w) := by
  have hgen : ∀ k d, d + k = r → ∀ f, k < f → lp (fun k s => m_X7_isNear_B3 (lN A) (lN B) (nI r) k s) f (nI (d + 1)) w = some (bI (nzF A B d k), w) := by
    intro k
    induction k with
    | zero =>
      intro d hd f hf
      obtain ⟨g, rfl⟩ : ∃ g, f = g + 1 := ⟨f - 1, by omega⟩
      rw [lp_s]
      unfold m_X7_isNear_B3
      rw [if_pos (nI_lt (by omega) (by omega))]
      rfl
    | succ k ih =>
      intro d hd f hf
      obtain ⟨g, rfl⟩ : ∃ g, f = g + 1 := ⟨f - 1, by omega⟩
      rw [lp_s]
      have ih := ih (d + 1) (by omega) g (by omega)
      generalize lp (fun k s => m_X7_isNear_B3 (lN A) (lN B) (nI r) k s) g = kk at ih
      have hle : A * 2 ^ (d + 1) &&& B < 2 ^ 40 := Nat.lt_of_le_of_lt Nat.and_le_right hB
      show m_X7_isNear_B3 (lN A) (lN B) (nI r) kk (nI (d + 1)) w = _
      unfold m_X7_isNear_B3
      rw [if_neg (nI_nlt (by omega) (by omega)), lx_shl (by omega), lx_and]
      unfold nzF
      by_cases h : A * 2 ^ (d + 1) &&& B = 0
      · rw [if_pos ((lg0 _).mpr (by rw [h]; rfl)), nI_1, ih, show decide (A * 2 ^ (d + 1) &&& B ≠ 0) = false by simp [h], Bool.false_or]
      · rw [if_neg (fun h2 => h ((lx_eq (b := 0) (by omega) (by omega)).mp ((lg0 _).mp h2))), show decide (A * 2 ^ (d + 1) &&& B ≠ 0) = true by simp [h], Bool.true_or]
        rfl
  unfold m_X7_isNear
  exact hgen r 0 (by omega) FU (by unfold FU; omega)
