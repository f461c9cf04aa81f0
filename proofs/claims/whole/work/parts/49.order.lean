/-! ===== the reference's order of words is the class's ===== -/
def lcp : List Nat → List Nat → Nat
  | a :: u, b :: v => if a = b then lcp u v + 1 else 0
  | _, _ => 0
theorem lcp_same : ∀ (u v : List Nat) (i : Nat), i < lcp u v → ∃ c, u[i]? = some c ∧ v[i]? = some c
  | [], v, i, h => by simp [lcp] at h
  | _ :: _, [], i, h => by simp [lcp] at h
  | a :: u, b :: v, i, h => by
    unfold lcp at h
    by_cases hab : a = b
    · rw [if_pos hab] at h
      subst hab
      cases i with
      | zero => exact ⟨a, rfl, rfl⟩
      | succ i => exact lcp_same u v i (by omega)
    · rw [if_neg hab] at h; omega
theorem lcp_le : ∀ u v : List Nat, lcp u v ≤ u.length ∧ lcp u v ≤ v.length
  | [], v => by simp [lcp]
  | _ :: _, [] => by simp [lcp]
  | a :: u, b :: v => by
    have := lcp_le u v
    unfold lcp
    by_cases hab : a = b
    · rw [if_pos hab]; simp; omega
    · rw [if_neg hab]; simp
theorem lcp_end : ∀ (u v : List Nat) (a b : Nat), u[lcp u v]? = some a → v[lcp u v]? = some b → a ≠ b
  | [], v, a, b, h, _ => by simp at h
  | _ :: _, [], a, b, _, h => by simp at h
  | x :: u, y :: v, a, b, h1, h2 => by
    unfold lcp at h1 h2
    by_cases hxy : x = y
    · rw [if_pos hxy] at h1 h2
      exact lcp_end u v a b h1 h2
    · rw [if_neg hxy] at h1 h2
      have e1 : x = a := Option.some.inj h1
      have e2 : y = b := Option.some.inj h2
      rw [← e1, ← e2]; exact hxy
def ltl (u v : List Nat) : Prop := match u[lcp u v]?, v[lcp u v]? with
  | some a, some b => a < b
  | none, some _ => True
  | _, none => False
theorem pkA_cmp : ∀ (n : Nat) (u v : List Nat), (∀ c ∈ u, c < 8) → (∀ c ∈ v, c < 8) → u.length ≤ n → v.length ≤ n → (pkA n u < pkA n v ↔ ltl u v)
  | n, [], [], _, _, _, _ => by simp [ltl, lcp]
  | 0, [], _ :: _, _, _, _, h => by simp at h
  | n + 1, [], b :: v, _, _, _, _ => by
    have : 0 < pkA (n + 1) (b :: v) := by
      show 0 < (b + 1) * 16 ^ n + pkA n v
      exact Nat.lt_of_lt_of_le (Nat.mul_pos (Nat.succ_pos b) (Nat.pos_of_ne_zero (by simp))) (Nat.le_add_right _ _)
    simp [ltl, lcp]
    exact this
  | n, a :: u, [], _, _, _, _ => by
    have h0 : pkA n [] = 0 := by cases n <;> rfl
    rw [h0]
    simp [ltl, lcp]
  | 0, _ :: _, _ :: _, _, _, h, _ => by simp at h
  | n + 1, a :: u, b :: v, hu, hv, lu, lv => by
    have h1 := pkA_lt n u (fun x hx => hu x (List.mem_cons_of_mem _ hx))
    have h2 := pkA_lt n v (fun x hx => hv x (List.mem_cons_of_mem _ hx))
    have ih := pkA_cmp n u v (fun x hx => hu x (List.mem_cons_of_mem _ hx)) (fun x hx => hv x (List.mem_cons_of_mem _ hx)) (by simp at lu; omega) (by simp at lv; omega)
    show (a + 1) * 16 ^ n + pkA n u < (b + 1) * 16 ^ n + pkA n v ↔ _
    by_cases hab : a = b
    · subst hab
      rw [show ltl (a :: u) (a :: v) ↔ ltl u v by unfold ltl; rw [show lcp (a :: u) (a :: v) = lcp u v + 1 by simp [lcp]]; rfl, ← ih]
      omega
    · have hl : lcp (a :: u) (b :: v) = 0 := by simp [lcp, hab]
      have e : ltl (a :: u) (b :: v) ↔ a < b := by unfold ltl; rw [hl]; rfl
      rw [e]
      rcases Nat.lt_or_gt_of_ne hab with h | h
      · have : (a + 1 + 1) * 16 ^ n ≤ (b + 1) * 16 ^ n := Nat.mul_le_mul_right _ (by omega)
        rw [Nat.add_mul] at this
        constructor <;> intro _ <;> omega
      · have : (b + 1 + 1) * 16 ^ n ≤ (a + 1) * 16 ^ n := Nat.mul_le_mul_right _ (by omega)
        rw [Nat.add_mul] at this
        constructor <;> intro _ <;> omega
theorem order_ok {u v : List Nat} (hu : okW u) (hv : okW v) (w : Wd) : ∃ r, m_X8_order (rcI u) (rcI v) w = some (r, w) ∧ (0 ≤ r ↔ ¬ pk u < pk v) := by
  obtain ⟨u1, u6, u8⟩ := hu
  obtain ⟨v1, v6, v8⟩ := hv
  have hcmp := pkA_cmp 6 u v u8 v8 u6 v6
  obtain ⟨hl1, hl2⟩ := lcp_le u v
  have start : ∀ (X : Option (Int32 × Wd)), (∀ k : Int32 → Mo Int32, m_X8_order_B13 (rcI u) (rcI v) (nI u.length) (nI v.length) k (nI (lcp u v)) w = X) → m_X8_order (rcI u) (rcI v) w = X := by
    intro X hX
    unfold m_X8_order
    rw [mb_mp, mb_mp, rcI_div u8 u6, rcI_div v8 v6]
    refine lp_FU (fun i => nI i) (fun _ => w) (lcp u v) (by omega) (fun i hi k => ?_) (fun k => hX k)
    obtain ⟨c, c1, c2⟩ := lcp_same u v i hi
    show m_X8_order_B13 _ _ _ _ k (nI i) w = _
    unfold m_X8_order_B13
    rw [if_neg (nI_ge (by omega) (by omega)), if_neg (nI_ge (by omega) (by omega)), mb_call (letterOf_ok u8 u6 c1 w), mb_call (letterOf_ok v8 v6 c2 w), mb_mp, if_pos (by rw [pk_sub (Nat.le_refl c), Nat.sub_self]; rfl), nI_1]
  have diff : ∀ a b : Nat, a ≤ 8 → b ≤ 8 → (0 ≤ nI a - nI b ↔ ¬ a < b) := by
    intro a b ha hb
    rw [Int32.le_iff_toInt_le, pk_sub_toInt (by omega) (by omega), show (0 : Int32).toInt = 0 from rfl]
    omega
  unfold pk
  rw [hcmp]
  unfold ltl
  have shortE : ∀ k : Int32 → Mo Int32, (u.length ≤ lcp u v ∨ v.length ≤ lcp u v) → m_X8_order_B13 (rcI u) (rcI v) (nI u.length) (nI v.length) k (nI (lcp u v)) w = some (nI u.length - nI v.length, w) := by
    intro k h
    unfold m_X8_order_B13
    by_cases h1 : u.length ≤ lcp u v
    · rw [if_pos (nI_le h1 (by omega))]; rfl
    · rw [if_neg (nI_ge (by omega) (by omega)), if_pos (nI_le (by omega) (by omega))]; rfl
  cases hua : u[lcp u v]? with
  | none =>
    have h1 := List.getElem?_eq_none_iff.mp hua
    refine ⟨_, start _ (fun k => shortE k (Or.inl h1)), ?_⟩
    rw [diff _ _ (by omega) (by omega)]
    cases hvb : v[lcp u v]? with
    | none => have h2 := List.getElem?_eq_none_iff.mp hvb; simp; omega
    | some b => have h2 := (List.getElem?_eq_some_iff.mp hvb).1; simp; omega
  | some a =>
    have h1 := (List.getElem?_eq_some_iff.mp hua).1
    cases hvb : v[lcp u v]? with
    | none =>
      have h2 := List.getElem?_eq_none_iff.mp hvb
      refine ⟨_, start _ (fun k => shortE k (Or.inr h2)), ?_⟩
      rw [diff _ _ (by omega) (by omega)]
      simp; omega
    | some b =>
      have h2 := (List.getElem?_eq_some_iff.mp hvb).1
      have ha := u8 a (List.mem_of_getElem? hua)
      have hb := v8 b (List.mem_of_getElem? hvb)
      have hne := lcp_end u v a b hua hvb
      refine ⟨nI a - nI b, start _ (fun k => ?_), by rw [diff _ _ (by omega) (by omega)]⟩
      unfold m_X8_order_B13
      rw [if_neg (nI_ge (by omega) (by omega)), if_neg (nI_ge (by omega) (by omega)), mb_call (letterOf_ok u8 u6 hua w), mb_call (letterOf_ok v8 v6 hvb w), mb_mp, if_neg]
      · rfl
      · intro h
        have h3 : (nI a - nI b).toInt = 0 := by rw [h]; rfl
        rw [pk_sub_toInt (by omega) (by omega)] at h3
        omega
