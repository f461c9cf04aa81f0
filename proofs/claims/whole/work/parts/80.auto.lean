/-! ===== what a query asks of a row of letters (latest first): pure ===== -/
def Eu (u t : List Nat) : Bool := u.isSuffixOf t.reverse
def alv (Q : List Pt) : List Nat → Bool
  | [] => true
  | c :: t => alv Q t && !(Q.any (fun P => decide (P.1 = 1) && Eu P.2.1 (c :: t)))
def hadW (u : List Nat) : List Nat → Bool
  | [] => false
  | c :: t => hadW u t || Eu u (c :: t)
def stN (near : Nat) (later earlier : Bool) (r : Nat) : Nat := if near = 10 ∨ (0 < near ∧ later = true) then 10 else if earlier then 1 else if 0 < near ∧ near < r then near + 1 else 0
def nrS (u v : List Nat) (r : Nat) : List Nat → Nat
  | [] => 0
  | c :: t => stN (nrS u v r t) (Eu u (c :: t)) (Eu v (c :: t)) r
/-- at most one part of a query is a NEAR part -/
def oneN (Q : List Pt) : Prop := ∀ (i j : Nat) (P P' : Pt), Q[i]? = some P → Q[j]? = some P' → P.1 = 2 → P'.1 = 2 → i = j
def nPt (Q : List Pt) : Option Pt := Q.find? (fun P => decide (P.1 = 2))
theorem nPt_none {Q : List Pt} (h : nPt Q = none) : ∀ P ∈ Q, P.1 ≠ 2 := by
  intro P hP e
  have := List.find?_eq_none.mp h P hP
  simp [e] at this
theorem nPt_some {Q : List Pt} {P : Pt} (h : nPt Q = some P) : P ∈ Q ∧ P.1 = 2 := by
  have h1 := List.mem_of_find?_eq_some h
  have h2 := List.find?_some h
  exact ⟨h1, by simpa using h2⟩
theorem oneN.eq {Q : List Pt} (h : oneN Q) {P P' : Pt} (hP : P ∈ Q) (hP' : P' ∈ Q) (e : P.1 = 2) (e' : P'.1 = 2) : P = P' := by
  obtain ⟨i, hi⟩ := List.getElem?_of_mem hP
  obtain ⟨j, hj⟩ := List.getElem?_of_mem hP'
  have := h i j P P' hi hj e e'
  subst this
  exact Option.some.inj (hi.symm.trans hj)
/-- how many HAS parts among the first k -/
def hc (Q : List Pt) : Nat → Nat
  | 0 => 0
  | k + 1 => hc Q k + (match Q[k]? with
    | none => 0
    | some P => if P.1 = 0 then 1 else 0)
theorem hc_le (Q : List Pt) : ∀ k, hc Q k ≤ k
  | 0 => Nat.le_refl 0
  | k + 1 => by
    have := hc_le Q k
    show hc Q k + (match Q[k]? with
      | none => 0
      | some P => if P.1 = 0 then 1 else 0) ≤ k + 1
    cases Q[k]? with
    | none => dsimp only; omega
    | some P => dsimp only; split <;> omega
theorem hc_some {Q : List Pt} {k : Nat} {P : Pt} (h : Q[k]? = some P) : hc Q (k + 1) = hc Q k + (if P.1 = 0 then 1 else 0) := by
  show hc Q k + (match Q[k]? with
      | none => 0
      | some P => if P.1 = 0 then 1 else 0) = _
  rw [h]
/-- bits of the HAS parts, in their order -/
def hsT (D : List Nat → Bool) (Q : List Pt) : Nat → Nat
  | 0 => 0
  | k + 1 => hsT D Q k ||| (match Q[k]? with
    | none => 0
    | some P => if P.1 = 0 ∧ D P.2.1 = true then 2 ^ hc Q k else 0)
theorem hsT_some {D : List Nat → Bool} {Q : List Pt} {k : Nat} {P : Pt} (h : Q[k]? = some P) : hsT D Q (k + 1) = hsT D Q k ||| (if P.1 = 0 ∧ D P.2.1 = true then 2 ^ hc Q k else 0) := by
  show hsT D Q k ||| (match Q[k]? with
    | none => 0
    | some P => if P.1 = 0 ∧ D P.2.1 = true then 2 ^ hc Q k else 0) = _
  rw [h]
theorem hsT_lt (D : List Nat → Bool) (Q : List Pt) : ∀ k, k ≤ Q.length → hsT D Q k < 2 ^ hc Q k
  | 0, _ => by simp [hsT, hc]
  | k + 1, hk => by
    have ih := hsT_lt D Q k (by omega)
    have hP := List.getElem?_eq_getElem (show k < Q.length by omega)
    rw [hsT_some hP, hc_some hP]
    generalize Q[k] = P
    have hpw : 2 ^ hc Q k ≤ 2 ^ (hc Q k + (if P.1 = 0 then 1 else 0)) := Nat.pow_le_pow_right (by omega) (by omega)
    apply Nat.or_lt_two_pow
    · omega
    · by_cases h0 : P.1 = 0
      · rw [if_pos h0, Nat.pow_succ]
        have : 0 < 2 ^ hc Q k := Nat.pos_of_ne_zero (by simp)
        split <;> omega
      · rw [if_neg (fun h => h0 h.1)]
        exact Nat.pos_of_ne_zero (by simp)
theorem hsT_or (D E : List Nat → Bool) (Q : List Pt) : ∀ k, hsT D Q k ||| hsT E Q k = hsT (fun u => D u || E u) Q k
  | 0 => by simp [hsT]
  | k + 1 => by
    show (hsT D Q k ||| _) ||| (hsT E Q k ||| _) = hsT (fun u => D u || E u) Q k ||| _
    rw [← hsT_or D E Q k]
    apply Nat.eq_of_testBit_eq
    intro i
    simp only [Nat.testBit_or]
    cases Q[k]? with
    | none => simp
    | some P =>
      dsimp only
      generalize (hsT D Q k).testBit i = a
      generalize (hsT E Q k).testBit i = b
      by_cases h0 : P.1 = 0
      · by_cases hd : D P.2.1 = true <;> by_cases he : E P.2.1 = true <;> simp [h0, hd, he] <;> cases a <;> cases b <;> simp
      · cases a <;> cases b <;> simp [h0]
theorem hsT_cong {D E : List Nat → Bool} {Q : List Pt} (h : ∀ P ∈ Q, D P.2.1 = E P.2.1) : ∀ k, hsT D Q k = hsT E Q k
  | 0 => rfl
  | k + 1 => by
    show hsT D Q k ||| _ = hsT E Q k ||| _
    rw [hsT_cong h k]
    cases hQ : Q[k]? with
    | none => rfl
    | some P => dsimp only; rw [h P (List.mem_of_getElem? hQ)]
/-- all HAS parts are there -/
theorem hsT_full {D : List Nat → Bool} {Q : List Pt} : ∀ k, k ≤ Q.length → (hsT D Q k = 2 ^ hc Q k - 1 ↔ ∀ (i : Nat) (P : Pt), i < k → Q[i]? = some P → P.1 = 0 → D P.2.1 = true)
  | 0, _ => by simp [hsT, hc]
  | k + 1, hk => by
    have hP := List.getElem?_eq_getElem (show k < Q.length by omega)
    rw [hsT_some hP, hc_some hP]
    generalize Q[k] = P at hP
    have ih := hsT_full (D := D) k (show k ≤ Q.length by omega)
    have hlt := hsT_lt D Q k (by omega)
    have hpos : 0 < 2 ^ hc Q k := Nat.pos_of_ne_zero (by simp)
    have hsplit : (∀ (i : Nat) (P : Pt), i < k + 1 → Q[i]? = some P → P.1 = 0 → D P.2.1 = true) ↔ (∀ (i : Nat) (P : Pt), i < k → Q[i]? = some P → P.1 = 0 → D P.2.1 = true) ∧ (P.1 = 0 → D P.2.1 = true) := by
      constructor
      · intro h
        exact ⟨fun i P' hi => h i P' (by omega), h k P (by omega) hP⟩
      · rintro ⟨h1, h2⟩ i P' hi hP' h0
        by_cases hik : i = k
        · subst hik
          have : P' = P := Option.some.inj (hP'.symm.trans hP)
          subst this
          exact h2 h0
        · exact h1 i P' (by omega) hP' h0
    rw [hsplit, ← ih]
    by_cases h0 : P.1 = 0
    · rw [if_pos h0, Nat.pow_succ]
      have hor : ∀ x, x < 2 ^ hc Q k → x ||| 2 ^ hc Q k = x + 2 ^ hc Q k := fun x hx => by
        rw [Nat.or_comm]
        have := Nat.two_pow_add_eq_or_of_lt hx 1
        rw [Nat.mul_one] at this
        omega
      cases hD : D P.2.1
      · rw [if_neg (by simp), Nat.or_zero]
        simp [h0]
        omega
      · rw [if_pos ⟨h0, rfl⟩, hor _ hlt]
        simp
        omega
    · rw [if_neg h0, if_neg (fun h => h0 h.1), Nat.or_zero, Nat.add_zero]
      simp [h0]
/-- a node's marks -/
def mkP (E : List Nat → Bool) (h : Nat) (P : Pt) : Nat := if P.1 = 0 then (if E P.2.1 then 2 ^ h else 0) else if P.1 = 1 then (if E P.2.1 then 16 else 0) else (if E P.2.1 then 64 else 0) ||| (if E P.2.2.1 then 32 else 0)
def mkT (E : List Nat → Bool) (Q : List Pt) : Nat → Nat
  | 0 => 0
  | k + 1 => mkT E Q k ||| (match Q[k]? with
    | none => 0
    | some P => mkP E (hc Q k) P)
theorem mkT_some {E : List Nat → Bool} {Q : List Pt} {k : Nat} {P : Pt} (h : Q[k]? = some P) : mkT E Q (k + 1) = mkT E Q k ||| mkP E (hc Q k) P := by
  show mkT E Q k ||| (match Q[k]? with
    | none => 0
    | some P => mkP E (hc Q k) P) = _
  rw [h]
theorem mkT_lt (E : List Nat → Bool) {Q : List Pt} (h4 : Q.length ≤ 4) : ∀ k, k ≤ Q.length → mkT E Q k < 128
  | 0, _ => by simp [mkT]
  | k + 1, hk => by
    have ih := mkT_lt E h4 k (by omega)
    have hP := List.getElem?_eq_getElem (show k < Q.length by omega)
    rw [mkT_some hP]
    generalize Q[k] = P
    have hh := hc_le Q k
    apply Nat.or_lt_two_pow (n := 7) ih
    unfold mkP
    have h8 : (2 : Nat) ^ hc Q k ≤ 2 ^ 3 := Nat.pow_le_pow_right (by omega) (by omega)
    by_cases h0 : P.1 = 0
    · rw [if_pos h0]; split <;> omega
    · rw [if_neg h0]
      by_cases h1 : P.1 = 1
      · rw [if_pos h1]; split <;> omega
      · rw [if_neg h1]
        cases E P.2.1 <;> cases E P.2.2.1 <;> decide
theorem mkT_has (E : List Nat → Bool) {Q : List Pt} (h4 : Q.length ≤ 4) : ∀ k, k ≤ Q.length → mkT E Q k &&& 15 = hsT E Q k
  | 0, _ => by simp [mkT, hsT]
  | k + 1, hk => by
    have ih := mkT_has E h4 k (by omega)
    have hP := List.getElem?_eq_getElem (show k < Q.length by omega)
    rw [mkT_some hP, hsT_some hP, Nat.and_or_distrib_right, ih]
    generalize Q[k] = P
    have hh := hc_le Q k
    congr 1
    unfold mkP
    have h8 : (2 : Nat) ^ hc Q k ≤ 2 ^ 3 := Nat.pow_le_pow_right (by omega) (by omega)
    by_cases h0 : P.1 = 0
    · rw [if_pos h0]
      cases E P.2.1
      · simp
      · rw [if_pos rfl, if_pos ⟨h0, rfl⟩, show (15 : Nat) = 2 ^ 4 - 1 from rfl, Nat.and_two_pow_sub_one_eq_mod]
        exact Nat.mod_eq_of_lt (Nat.lt_of_le_of_lt h8 (by decide))
    · rw [if_neg h0, if_neg (show ¬ (P.1 = 0 ∧ E P.2.1 = true) from fun h => h0 h.1)]
      by_cases h1 : P.1 = 1
      · rw [if_pos h1]; cases E P.2.1 <;> decide
      · rw [if_neg h1]
        cases E P.2.1 <;> cases E P.2.2.1 <;> decide
theorem mkT_bit (E : List Nat → Bool) {Q : List Pt} (h4 : Q.length ≤ 4) : ∀ k, k ≤ Q.length → ((mkT E Q k).testBit 4 = (Q.take k).any (fun P => decide (P.1 = 1) && E P.2.1)) ∧ ((mkT E Q k).testBit 6 = (Q.take k).any (fun P => (!decide (P.1 = 0) && !decide (P.1 = 1)) && E P.2.1)) ∧ ((mkT E Q k).testBit 5 = (Q.take k).any (fun P => (!decide (P.1 = 0) && !decide (P.1 = 1)) && E P.2.2.1))
  | 0, _ => by simp [mkT]
  | k + 1, hk => by
    obtain ⟨i1, i2, i3⟩ := mkT_bit E h4 k (by omega)
    have hkl : k < Q.length := by omega
    have hP := List.getElem?_eq_getElem hkl
    rw [mkT_some hP, Nat.testBit_or, Nat.testBit_or, Nat.testBit_or, i1, i2, i3, List.take_succ_eq_append_getElem hkl, List.any_append, List.any_append, List.any_append]
    generalize Q[k] = P
    have hh := hc_le Q k
    have hb : ∀ i, 4 ≤ i → (mkP E (hc Q k) P).testBit i = (if P.1 = 0 then false else if P.1 = 1 then (decide (i = 4) && E P.2.1) else ((decide (i = 6) && E P.2.1) || (decide (i = 5) && E P.2.2.1))) := by
      intro i hi
      unfold mkP
      by_cases h0 : P.1 = 0
      · rw [if_pos h0, if_pos h0]
        cases E P.2.1
        · simp
        · rw [if_pos rfl, Nat.testBit_two_pow, decide_eq_false_iff_not]; omega
      · rw [if_neg h0, if_neg h0]
        by_cases h1 : P.1 = 1
        · rw [if_pos h1, if_pos h1]
          cases E P.2.1
          · simp
          · rw [if_pos rfl, show (16 : Nat) = 2 ^ 4 from rfl, Nat.testBit_two_pow, Bool.and_true]
            simp [eq_comm]
        · rw [if_neg h1, if_neg h1, Nat.testBit_or]
          have e6 : (if E P.2.1 then 64 else 0 : Nat).testBit i = (decide (i = 6) && E P.2.1) := by
            cases E P.2.1
            · simp
            · rw [if_pos rfl, show (64 : Nat) = 2 ^ 6 from rfl, Nat.testBit_two_pow, Bool.and_true]; simp [eq_comm]
          have e5 : (if E P.2.2.1 then 32 else 0 : Nat).testBit i = (decide (i = 5) && E P.2.2.1) := by
            cases E P.2.2.1
            · simp
            · rw [if_pos rfl, show (32 : Nat) = 2 ^ 5 from rfl, Nat.testBit_two_pow, Bool.and_true]; simp [eq_comm]
          rw [e6, e5]
    rw [hb 4 (by omega), hb 6 (by omega), hb 5 (by omega)]
    by_cases h0 : P.1 = 0
    · simp [h0]
    · by_cases h1 : P.1 = 1
      · simp [h1]
      · simp [h0, h1]
def nbT (Q : List Pt) : Nat → Nat
  | 0 => 0
  | k + 1 => match Q[k]? with
    | none => nbT Q k
    | some P => if P.1 = 0 then nbT Q k else if P.1 = 1 then nbT Q k else 4
def rchT (Q : List Pt) : Nat → Nat
  | 0 => 0
  | k + 1 => match Q[k]? with
    | none => rchT Q k
    | some P => if P.1 = 0 then rchT Q k else if P.1 = 1 then rchT Q k else P.2.2.2
theorem nbT_some {Q : List Pt} {k : Nat} {P : Pt} (h : Q[k]? = some P) : nbT Q (k + 1) = (if P.1 = 0 then nbT Q k else if P.1 = 1 then nbT Q k else 4) ∧ rchT Q (k + 1) = (if P.1 = 0 then rchT Q k else if P.1 = 1 then rchT Q k else P.2.2.2) := by
  constructor
  · show (match Q[k]? with
    | none => nbT Q k
    | some P => if P.1 = 0 then nbT Q k else if P.1 = 1 then nbT Q k else 4) = _
    rw [h]
  · show (match Q[k]? with
    | none => rchT Q k
    | some P => if P.1 = 0 then rchT Q k else if P.1 = 1 then rchT Q k else P.2.2.2) = _
    rw [h]
theorem nbT_no {Q : List Pt} {k : Nat} (h : Q[k]? = none) : nbT Q (k + 1) = nbT Q k ∧ rchT Q (k + 1) = rchT Q k := by
  constructor
  · show (match Q[k]? with
    | none => nbT Q k
    | some P => if P.1 = 0 then nbT Q k else if P.1 = 1 then nbT Q k else 4) = _
    rw [h]
  · show (match Q[k]? with
    | none => rchT Q k
    | some P => if P.1 = 0 then rchT Q k else if P.1 = 1 then rchT Q k else P.2.2.2) = _
    rw [h]
theorem nbT_none {Q : List Pt} (h2 : ∀ P ∈ Q, P.1 ≤ 2) (h : nPt Q = none) : ∀ k, nbT Q k = 0 ∧ rchT Q k = 0
  | 0 => ⟨rfl, rfl⟩
  | k + 1 => by
    obtain ⟨a, b⟩ := nbT_none h2 h k
    cases hP : Q[k]? with
    | none =>
      obtain ⟨e1, e2⟩ := nbT_no hP
      exact ⟨e1.trans a, e2.trans b⟩
    | some P =>
      have hm := List.mem_of_getElem? hP
      have h3 := nPt_none h P hm
      have h4 := h2 P hm
      obtain ⟨e1, e2⟩ := nbT_some hP
      rw [e1, e2, a, b]
      by_cases h0 : P.1 = 0
      · rw [if_pos h0, if_pos h0]; exact ⟨rfl, rfl⟩
      · rw [if_neg h0, if_neg h0, if_pos (by omega), if_pos (by omega)]; exact ⟨rfl, rfl⟩
theorem nbT_near {Q : List Pt} (h2 : ∀ P ∈ Q, P.1 ≤ 2) (h1 : oneN Q) {P : Pt} (h : nPt Q = some P) : nbT Q Q.length = 4 ∧ rchT Q Q.length = P.2.2.2 := by
  obtain ⟨hm, he⟩ := nPt_some h
  obtain ⟨i, hi⟩ := List.getElem?_of_mem hm
  have hil := (List.getElem?_eq_some_iff.mp hi).1
  have : ∀ k, k ≤ Q.length → i < k → nbT Q k = 4 ∧ rchT Q k = P.2.2.2 := by
    intro k
    induction k with
    | zero => intro _ h; omega
    | succ k ih =>
      intro hk hik
      have hP := List.getElem?_eq_getElem (show k < Q.length by omega)
      generalize Q[k] = P' at hP
      obtain ⟨e1, e2⟩ := nbT_some hP
      rw [e1, e2]
      by_cases hik2 : i = k
      · subst hik2
        have : P' = P := Option.some.inj (hP.symm.trans hi)
        subst this
        rw [if_neg (by omega), if_neg (by omega), if_neg (by omega), if_neg (by omega)]
        exact ⟨rfl, rfl⟩
      · obtain ⟨a, b⟩ := ih (by omega) (by omega)
        have h3 : P'.1 ≠ 2 := fun e => hik2 (h1 i k P P' hi hP he e)
        have h4 := h2 P' (List.mem_of_getElem? hP)
        by_cases h0 : P'.1 = 0
        · rw [if_pos h0, if_pos h0]; exact ⟨a, b⟩
        · rw [if_neg h0, if_neg h0, if_pos (by omega), if_pos (by omega)]; exact ⟨a, b⟩
  exact this Q.length (Nat.le_refl _) hil
theorem near_any {Q : List Pt} (h2 : ∀ P ∈ Q, P.1 ≤ 2) (h1 : oneN Q) {P : Pt} (h : nPt Q = some P) (f : Pt → Bool) : Q.any (fun P => (!decide (P.1 = 0) && !decide (P.1 = 1)) && f P) = f P := by
  obtain ⟨hm, he⟩ := nPt_some h
  rw [Bool.eq_iff_iff, List.any_eq_true]
  constructor
  · rintro ⟨P', hP', e⟩
    simp only [Bool.and_eq_true, Bool.not_eq_true', decide_eq_false_iff_not] at e
    have h4 := h2 P' hP'
    have : P' = P := h1.eq hP' hm (by omega) he
    rw [← this]; exact e.2
  · intro e
    exact ⟨P, hm, by simp [he, e]⟩
def nrA (Q : List Pt) (t : List Nat) : Bool := match nPt Q with
  | none => true
  | some P => decide (nrS P.2.1 P.2.2.1 P.2.2.2 t = 10)
/-- the row is taken -/
def accQ (Q : List Pt) (t : List Nat) : Bool := alv Q t && (Q.all (fun P => !decide (P.1 = 0) || hadW P.2.1 t) && nrA Q t)
theorem nrS_le {u v : List Nat} {r : Nat} (hr : 1 ≤ r) (hr9 : r ≤ 9) : ∀ t, nrS u v r t = 10 ∨ nrS u v r t ≤ r
  | [] => Or.inr (Nat.zero_le _)
  | c :: t => by
    have ih := nrS_le (u := u) (v := v) hr hr9 t
    show stN (nrS u v r t) _ _ r = 10 ∨ stN (nrS u v r t) _ _ r ≤ r
    unfold stN
    split
    · exact Or.inl rfl
    · split
      · exact Or.inr hr
      · split
        · exact Or.inr (by omega)
        · exact Or.inr (by omega)
