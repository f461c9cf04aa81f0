/-! ===== semantics: how the operations go on a memory; loops ===== -/
section Base
variable {α β : Type} {w w' : Wd} {ci k p q n kd : Nat}
theorem mb_mp (a : α) (f : α → Mo β) (w : Wd) : mb (mp a) f w = f a w := rfl
theorem mb_call {x : Mo α} {f : α → Mo β} {r : α} (e : x w = some (r, w')) : mb x f w = f r w' := by unfold mb; rw [e]
theorem mb_gI {f : Int32 → Mo β} (h : (wS w)[p]? = some (ci, nf ci)) : mb (gI ci k p) f w = f (w.1 p k) w := mb_call (by unfold gI; rw [if_pos h])
theorem mb_gR {f : Nat → Mo β} (h : (wS w)[p]? = some (ci, nf ci)) (hr : w.2.2.1 p k = some q) : mb (gR ci k p) f w = f q w := mb_call (by unfold gR; rw [if_pos h, hr])
theorem mb_gQ {f : Option Nat → Mo β} (h : (wS w)[p]? = some (ci, nf ci)) : mb (gQ ci k p) f w = f (w.2.2.1 p k) w := mb_call (by unfold gQ; rw [if_pos h])
theorem mb_sI {f : Unit → Mo β} {v : Int32} (h : (wS w)[p]? = some (ci, nf ci)) : mb (sI ci k p v) f w = f () (u2 w.1 p k v, w.2) := mb_call (by unfold sI; rw [if_pos h])
theorem mb_sR {f : Unit → Mo β} (h : (wS w)[p]? = some (ci, nf ci)) : mb (sR ci k p q) f w = f () (w.1, w.2.1, u2 w.2.2.1 p k (some q), w.2.2.2) := mb_call (by unfold sR; rw [if_pos h])
theorem mb_vc {x : Mo α} {f : α → Mo β} (h : (wS w)[p]? = some (ci, nf ci)) : mb (vc ci p x) f w = mb x f w := by unfold mb vc; rw [if_pos h]
theorem vc_ok {x : Mo α} (h : (wS w)[p]? = some (ci, nf ci)) : vc ci p x w = x w := by unfold vc; rw [if_pos h]
theorem alen_of (h : (wS w)[p]? = some (kd, n)) : alen w kd p = n := by unfold alen; rw [h]; simp
theorem nI_idx {i : Nat} (h : i < n) (hn : n < 2 ^ 31) : ¬ nI i < 0 ∧ (nI i).toNatClampNeg < n := ⟨nI_pos (by omega), by rw [nI_clamp (by omega)]; exact h⟩
theorem mb_aI {f : Int32 → Mo β} {i : Nat} (h : (wS w)[p]? = some (100, n)) (hi : i < n) (hn : n < 2 ^ 31) : mb (aI p (nI i)) f w = f (w.1 p i) w := mb_call (by unfold aI; rw [alen_of h, if_pos (nI_idx hi hn), nI_clamp (by omega)])
theorem mb_aZ {f : Int32 → Mo β} {i : Nat} (h : (wS w)[p]? = some (102, n)) (hi : i < n) (hn : n < 2 ^ 31) : mb (aZ p (nI i)) f w = f (w.1 p i) w := mb_call (by unfold aZ; rw [alen_of h, if_pos (nI_idx hi hn), nI_clamp (by omega)])
theorem mb_aJ {f : Int64 → Mo β} {i : Nat} (h : (wS w)[p]? = some (101, n)) (hi : i < n) (hn : n < 2 ^ 31) : mb (aJ p (nI i)) f w = f (w.2.1 p i) w := mb_call (by unfold aJ; rw [alen_of h, if_pos (nI_idx hi hn), nI_clamp (by omega)])
theorem mb_aQ {f : Option Nat → Mo β} {i : Nat} (h : (wS w)[p]? = some (103, n)) (hi : i < n) (hn : n < 2 ^ 31) : mb (aQ p (nI i)) f w = f (w.2.2.1 p i) w := mb_call (by unfold aQ; rw [alen_of h, if_pos (nI_idx hi hn), nI_clamp (by omega)])
theorem mb_tI {f : Unit → Mo β} {i : Nat} {v : Int32} (h : (wS w)[p]? = some (100, n)) (hi : i < n) (hn : n < 2 ^ 31) : mb (tI p (nI i) v) f w = f () (u2 w.1 p i v, w.2) := mb_call (by unfold tI; rw [alen_of h, if_pos (nI_idx hi hn), nI_clamp (by omega)])
theorem mb_tZ {f : Unit → Mo β} {i : Nat} {v : Int32} (h : (wS w)[p]? = some (102, n)) (hi : i < n) (hn : n < 2 ^ 31) (hv : v = 0 ∨ v = 1) : mb (tZ p (nI i) v) f w = f () (u2 w.1 p i v, w.2) := mb_call (by unfold tZ; rw [alen_of h, if_pos ⟨nI_idx hi hn, hv⟩, nI_clamp (by omega)])
theorem mb_tJ {f : Unit → Mo β} {i : Nat} {v : Int64} (h : (wS w)[p]? = some (101, n)) (hi : i < n) (hn : n < 2 ^ 31) : mb (tJ p (nI i) v) f w = f () (w.1, u2 w.2.1 p i v, w.2.2) := mb_call (by unfold tJ; rw [alen_of h, if_pos (nI_idx hi hn), nI_clamp (by omega)])
theorem mb_tQ {f : Unit → Mo β} {i : Nat} (h : (wS w)[p]? = some (103, n)) (hi : i < n) (hn : n < 2 ^ 31) (hq : (wS w)[q]? = some (1, nf 1)) : mb (tQ p (nI i) q) f w = f () (w.1, w.2.1, u2 w.2.2.1 p i (some q), w.2.2.2) := mb_call (by unfold tQ; rw [alen_of h, if_pos ⟨nI_idx hi hn, hq⟩, nI_clamp (by omega)])
theorem mb_aL {f : Int32 → Mo β} (h : (wS w)[p]? = some (kd, n)) : mb (aL kd p) f w = f (nI n) w := mb_call (by unfold aL; rw [h]; simp [nI])
theorem mb_nO {f : Nat → Mo β} : mb (nO ci) f w = f (cnt w) (wNew w (ci, nf ci)) := rfl
theorem mb_nA {f : Nat → Mo β} (hn : n ≤ 60000) : mb (nA kd (nI n)) f w = f (cnt w) (wNew w (kd, n)) := mb_call (by unfold nA; rw [if_pos ⟨nI_pos (by omega), by rw [nI_clamp (by omega)]; exact hn⟩, nI_clamp (by omega)])
theorem lp_s {σ : Type} (F : (σ → Mo α) → σ → Mo α) (n : Nat) (s : σ) : lp F (n + 1) s = F (lp F n) s := rfl
/-- a loop whose states and memories are known -/
theorem lp_run {σ : Type} {F : (σ → Mo α) → σ → Mo α} (s : Nat → σ) (W : Nat → Wd) {X : Option (α × Wd)} (n : Nat) (hs : ∀ i, i < n → ∀ k : σ → Mo α, F k (s i) (W i) = k (s (i + 1)) (W (i + 1))) (he : ∀ k : σ → Mo α, F k (s n) (W n) = X) : ∀ (fuel i : Nat), i ≤ n → n - i < fuel → lp F fuel (s i) (W i) = X := by
  intro fuel
  induction fuel with
  | zero => intro i _ h; omega
  | succ f ih =>
    intro i hi h
    rw [lp_s]
    by_cases hin : i = n
    · subst hin; exact he _
    · rw [hs i (by omega)]
      exact ih (i + 1) (by omega) (by omega)
theorem lp_FU {σ : Type} {F : (σ → Mo α) → σ → Mo α} (s : Nat → σ) (W : Nat → Wd) {X : Option (α × Wd)} (n : Nat) (hn : n < 100000) (hs : ∀ i, i < n → ∀ k : σ → Mo α, F k (s i) (W i) = k (s (i + 1)) (W (i + 1))) (he : ∀ k : σ → Mo α, F k (s n) (W n) = X) : lp F FU (s 0) (W 0) = X :=
  lp_run s W n hs he FU 0 (Nat.zero_le n) (by unfold FU; omega)
/-- a loop with an invariant: it runs n times, then leaves -/
theorem lp_inv {σ : Type} {F : (σ → Mo α) → σ → Mo α} (P : Nat → σ → Wd → Prop) (n : Nat) (hs : ∀ i, i < n → ∀ s w, P i s w → ∃ s' w', P (i + 1) s' w' ∧ ∀ k : σ → Mo α, F k s w = k s' w') : ∀ (fuel i : Nat) (s : σ) (w : Wd), P i s w → i ≤ n → n - i ≤ fuel → ∃ s' w', P n s' w' ∧ lp F fuel s w = lp F (fuel - (n - i)) s' w' := by
  intro fuel
  induction fuel with
  | zero => intro i s w h h1 h2; exact ⟨s, w, by rw [show n = i by omega]; exact h, by rw [show 0 - (n - i) = 0 by omega]⟩
  | succ f ih =>
    intro i s w h h1 h2
    by_cases hin : i = n
    · subst hin; exact ⟨s, w, h, by rw [show f + 1 - (i - i) = f + 1 by omega]⟩
    · obtain ⟨s', w', h3, h4⟩ := hs i (by omega) s w h
      obtain ⟨s2, w2, h5, h6⟩ := ih (i + 1) s' w' h3 (by omega) (by omega)
      exact ⟨s2, w2, h5, by rw [lp_s, h4, h6]; congr 1; omega⟩
theorem lp_FUi {σ : Type} {F : (σ → Mo α) → σ → Mo α} (P : Nat → σ → Wd → Prop) (n : Nat) (hn : n < 100000) (hs : ∀ i, i < n → ∀ s w, P i s w → ∃ s' w', P (i + 1) s' w' ∧ ∀ k : σ → Mo α, F k s w = k s' w') {s : σ} {w : Wd} (h0 : P 0 s w) : ∃ s' w' k, P n s' w' ∧ lp F FU s w = F k s' w' := by
  obtain ⟨s', w', h1, h2⟩ := lp_inv P n hs FU 0 s w h0 (Nat.zero_le n) (by unfold FU; omega)
  have e : FU - (n - 0) = (FU - n - 1) + 1 := by unfold FU; omega
  exact ⟨s', w', lp F (FU - n - 1), h1, by rw [h2, e, lp_s]⟩
end Base
/-! numbers -/
theorem lit0' : (0 : Int32) = nI 0 := rfl
theorem nI_mul (a b : Nat) : nI a * nI b = nI (a * b) := (Int32.ofNat_mul a b).symm
theorem nI_sub {a b : Nat} (h : b ≤ a) : nI a - nI b = nI (a - b) := by
  have h1 : nI a = nI (a - b) + nI b := by rw [nI_add]; congr 1; omega
  rw [h1]
  exact Int32.add_sub_cancel _ _
theorem nI_m1 (a : Nat) : nI (a + 1) + (-1) = nI a := by
  rw [nI_succ, Int32.add_assoc]
  exact Int32.add_zero _
theorem u2_eq {α : Type} (f : Nat → Nat → α) (p k : Nat) (v : α) : u2 f p k v p k = v := by simp [u2]
theorem u2_ne {α : Type} {f : Nat → Nat → α} {p k q j : Nat} {v : α} (h : q ≠ p ∨ j ≠ k) : u2 f p k v q j = f q j := by
  unfold u2
  rw [if_neg]
  rintro ⟨h1, h2⟩
  rcases h with h | h
  · exact h h1
  · exact h h2
theorem u2_row {α : Type} {f : Nat → Nat → α} {p k q : Nat} {v : α} (h : q ≠ p) : u2 f p k v q = f q := funext fun _ => u2_ne (Or.inl h)
theorem u2_uA {α : Type} (f : Nat → Nat → α) (p k : Nat) (v : α) : u2 f p k v = uA f p (va_up (f p) k v) := by
  funext q j
  unfold u2 uA va_up
  by_cases h : q = p
  · subst h; simp
  · simp [h]
theorem uA_eq {α : Type} (f : Nat → Nat → α) (p : Nat) (g : Nat → α) : uA f p g p = g := by funext j; simp [uA]
theorem uA_ne {α : Type} {f : Nat → Nat → α} {p q : Nat} {g : Nat → α} (h : q ≠ p) : uA f p g q = f q := by funext j; simp [uA, h]
theorem uA_uA {α : Type} (f : Nat → Nat → α) (p : Nat) (g g' : Nat → α) : uA (uA f p g) p g' = uA f p g' := by
  funext q j
  unfold uA
  by_cases h : q = p <;> simp [h]
theorem u2_uA2 {α : Type} (f : Nat → Nat → α) (p k : Nat) (v : α) (g : Nat → α) : u2 (uA f p g) p k v = uA f p (va_up g k v) := by rw [u2_uA, uA_uA, uA_eq]
theorem uA_self {α : Type} (f : Nat → Nat → α) (p : Nat) : uA f p (f p) = f := by
  funext q j
  unfold uA
  by_cases h : q = p
  · subst h; simp
  · simp [h]
