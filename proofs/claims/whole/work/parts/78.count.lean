/-! ===== counting rows of letters; the class's letterOfRow(), rowsOf() ===== -/
def sm (f : Nat → Nat) : Nat → Nat
  | 0 => 0
  | k + 1 => sm f k + f k
theorem sm_cong {f g : Nat → Nat} : ∀ {k : Nat}, (∀ d, d < k → f d = g d) → sm f k = sm g k
  | 0, _ => rfl
  | k + 1, h => by
    show sm f k + f k = sm g k + g k
    rw [sm_cong (fun d hd => h d (by omega)), h k (by omega)]
theorem sm_upd {f g : Nat → Nat} {c x : Nat} (h : ∀ d, d ≠ c → g d = f d) (hc : g c = f c + x) : ∀ {k : Nat}, c < k → sm g k = sm f k + x
  | 0, hk => by omega
  | k + 1, hk => by
    show sm g k + g k = sm f k + f k + x
    by_cases he : c = k
    · subst he
      rw [hc, sm_cong (fun d hd => h d (by omega))]
      omega
    · rw [sm_upd h hc (show c < k by omega), h k (by omega)]
      omega
theorem sm_add {f g r : Nat → Nat} : ∀ {k : Nat}, (∀ d, d < k → f d + g d = r d) → sm f k + sm g k = sm r k
  | 0, _ => rfl
  | k + 1, h => by
    have := sm_add (k := k) (fun d hd => h d (by omega))
    have h2 := h k (by omega)
    show sm f k + f k + (sm g k + g k) = sm r k + r k
    omega
theorem sm_le {f : Nat → Nat} {x : Nat} : ∀ {k : Nat}, (∀ d, d < k → f d ≤ x) → sm f k ≤ k * x
  | 0, _ => by simp [sm]
  | k + 1, h => by
    have := sm_le (k := k) (fun d hd => h d (by omega))
    have h2 := h k (by omega)
    show sm f k + f k ≤ (k + 1) * x
    rw [Nat.succ_mul]
    omega
/-- how many rows of n letters -/
def cS : Nat → (List Nat → Bool) → Nat
  | 0, P => if P [] then 1 else 0
  | n + 1, P => sm (fun d => cS n (fun t => P (d :: t))) 8
theorem cS_add : ∀ {n : Nat} {P Q R : List Nat → Bool}, (∀ t, ok8 t → t.length = n → (if P t then 1 else 0) + (if Q t then 1 else 0) = (if R t then 1 else 0)) → cS n P + cS n Q = cS n R
  | 0, P, Q, R, h => h [] ok8_nil rfl
  | n + 1, P, Q, R, h => sm_add (fun d hd => cS_add (fun t ht hl => h (d :: t) (ok8_cons.mpr ⟨hd, ht⟩) (by simp [hl])))
theorem cS_cong : ∀ {n : Nat} {P Q : List Nat → Bool}, (∀ t, ok8 t → t.length = n → P t = Q t) → cS n P = cS n Q
  | 0, P, Q, h => by unfold cS; rw [h [] ok8_nil rfl]
  | n + 1, P, Q, h => sm_cong (fun d hd => cS_cong (fun t ht hl => h (d :: t) (ok8_cons.mpr ⟨hd, ht⟩) (by simp [hl])))
theorem cS_false : ∀ (n : Nat), cS n (fun _ => false) = 0
  | 0 => rfl
  | n + 1 => by
    show sm (fun d => cS n (fun t => false)) 8 = 0
    rw [sm_cong (g := fun _ => 0) (fun d hd => cS_false n)]
    rfl
theorem cS_zero {n : Nat} {P : List Nat → Bool} (h : ∀ t, ok8 t → t.length = n → P t = false) : cS n P = 0 := (cS_cong h).trans (cS_false n)
theorem cS_le : ∀ (n : Nat) (P : List Nat → Bool), cS n P ≤ 8 ^ n
  | 0, P => by unfold cS; split <;> simp
  | n + 1, P => by
    have := sm_le (f := fun d => cS n (fun t => P (d :: t))) (x := 8 ^ n) (k := 8) (fun d hd => cS_le n _)
    rw [Nat.pow_succ, Nat.mul_comm]
    exact this
theorem cS_ex : ∀ {n : Nat} {P : List Nat → Bool}, cS n P ≠ 0 → ∃ t, ok8 t ∧ t.length = n ∧ P t = true := by
  intro n P h
  refine Classical.byContradiction fun hx => h (cS_zero fun t ht hl => ?_)
  cases hp : P t
  · rfl
  · exact absurd ⟨t, ht, hl, hp⟩ hx
theorem cS_lt {n : Nat} (hn : n ≤ 12) (P : List Nat → Bool) : cS n P < 2 ^ 40 := by
  have h1 := cS_le n P
  have h2 : 8 ^ n ≤ 8 ^ 12 := Nat.pow_le_pow_right (by omega) hn
  have h3 : (8 : Nat) ^ 12 < 2 ^ 40 := by decide
  omega
def isS (σ : List Nat → Option Nat) (s : Nat) (t : List Nat) : Bool := decide (σ t = some s)
/-- those that come from a state ahead of s0, or from s0 by a letter ahead of c -/
def bf (σ : List Nat → Option Nat) (s0 c d : Nat) (t : List Nat) : Bool := match σ t with
  | none => false
  | some s => decide (s < s0 ∨ (s = s0 ∧ d < c))
def VV (σ : List Nat → Option Nat) (n s0 c s' : Nat) : Nat := sm (fun d => cS n (fun t => bf σ s0 c d t && isS σ s' (d :: t))) 8
theorem VV_zero (σ : List Nat → Option Nat) (n s' : Nat) : VV σ n 0 0 s' = 0 := by
  unfold VV
  rw [sm_cong (g := fun _ => 0)]
  · rfl
  · intro d hd
    refine cS_zero fun t _ _ => ?_
    have : bf σ 0 0 d t = false := by
      unfold bf
      cases σ t with
      | none => rfl
      | some s => simp
    rw [this, Bool.false_and]
theorem VV_next (σ : List Nat → Option Nat) (n s0 s' : Nat) : VV σ n s0 8 s' = VV σ n (s0 + 1) 0 s' := by
  unfold VV
  refine sm_cong fun d hd => cS_cong fun t _ _ => ?_
  have : bf σ s0 8 d t = bf σ (s0 + 1) 0 d t := by
    unfold bf
    cases σ t with
    | none => rfl
    | some s =>
      dsimp only
      rw [Bool.eq_iff_iff, decide_eq_true_iff, decide_eq_true_iff]
      omega
  rw [this]
theorem VV_end {σ : List Nat → Option Nat} (hS : Sys σ) {N : Nat} (hb : ∀ t s, ok8 t → σ t = some s → s < N) (n s' : Nat) : VV σ n N 0 s' = cS (n + 1) (isS σ s') := by
  unfold VV
  show _ = sm (fun d => cS n (fun t => isS σ s' (d :: t))) 8
  refine sm_cong fun d hd => cS_cong fun t ht _ => ?_
  cases hs : σ t with
  | none =>
    have : σ (d :: t) = none := hS.2 t d hs
    unfold isS
    rw [this]
    simp
  | some s =>
    have h1 := hb t s ht hs
    have : bf σ N 0 d t = true := by
      unfold bf
      rw [hs]
      simp [h1]
    rw [this, Bool.true_and]
theorem VV_step {σ : List Nat → Option Nat} (n s0 c s' : Nat) (hc : c < 8) : VV σ n s0 (c + 1) s' = VV σ n s0 c s' + cS n (fun t => isS σ s0 t && isS σ s' (c :: t)) := by
  unfold VV
  refine sm_upd (c := c) (fun d hd => cS_cong fun t _ _ => ?_) (cS_add fun t _ _ => ?_).symm hc
  · have : bf σ s0 (c + 1) d t = bf σ s0 c d t := by
      unfold bf
      cases σ t with
      | none => rfl
      | some s =>
        dsimp only
        rw [Bool.eq_iff_iff, decide_eq_true_iff, decide_eq_true_iff]
        omega
    rw [this]
  · cases isS σ s' (c :: t)
    · simp
    · simp only [Bool.and_true]
      unfold bf isS
      cases σ t with
      | none => simp
      | some s =>
        dsimp only
        by_cases h1 : s < s0
        · have a : s ≠ s0 := by omega
          simp [h1, a]
        · by_cases h2 : s = s0
          · subst h2; simp
          · simp [h1, h2]
theorem VV_some {σ : List Nat → Option Nat} (hS : Sys σ) {n s0 c : Nat} {t0 : List Nat} (h0 : ok8 t0) (hs0 : σ t0 = some s0) (hc : c < 8) (s' : Nat) : cS n (fun t => isS σ s0 t && isS σ s' (c :: t)) = if σ (c :: t0) = some s' then cS n (isS σ s0) else 0 := by
  have hsame : ∀ t, ok8 t → σ t = some s0 → σ (c :: t) = σ (c :: t0) := fun t ht e => hS.1 t t0 c ht h0 hc (e.trans hs0.symm)
  by_cases h : σ (c :: t0) = some s'
  · rw [if_pos h]
    refine cS_cong fun t ht _ => ?_
    unfold isS
    by_cases e : σ t = some s0
    · rw [hsame t ht e, h]; simp
    · simp [e]
  · rw [if_neg h]
    refine cS_zero fun t ht _ => ?_
    unfold isS
    by_cases e : σ t = some s0
    · rw [hsame t ht e]; simp [h]
    · simp [e]
theorem VV_none {σ : List Nat → Option Nat} {n s0 : Nat} (h : cS n (isS σ s0) = 0) (c s' : Nat) : VV σ n s0 c s' = VV σ n s0 0 s' := by
  have hz : ∀ t, ok8 t → t.length = n → σ t ≠ some s0 := by
    intro t ht hl e
    have h1 := cS_add (n := n) (P := fun t' => isS σ s0 t' && !(decide (t' = t))) (Q := fun t' => decide (t' = t)) (R := isS σ s0) (fun t' _ _ => by
      by_cases ht' : t' = t
      · subst ht'; simp [isS, e]
      · simp [ht'])
    have h2 : cS n (fun t' => decide (t' = t)) ≠ 0 := by
      clear h1 h e
      induction t generalizing n with
      | nil =>
        subst hl
        simp [cS]
      | cons d t ih =>
        obtain ⟨m, rfl⟩ : ∃ m, n = m + 1 := ⟨t.length, by rw [← hl]; rfl⟩
        obtain ⟨d8, t8⟩ := ok8_cons.mp ht
        have ih := ih t8 (by simpa using hl)
        show sm (fun d' => cS m (fun t' => decide (d' :: t' = d :: t))) 8 ≠ 0
        have hle : ∀ (f : Nat → Nat) (k : Nat), d < k → f d ≤ sm f k := by
          intro f k
          induction k with
          | zero => intro h; omega
          | succ k ihk =>
            intro hk
            show f d ≤ sm f k + f k
            by_cases e : d = k
            · subst e; omega
            · have := ihk (by omega); omega
        have h3 := hle (fun d' => cS m (fun t' => decide (d' :: t' = d :: t))) 8 d8
        have h4 : cS m (fun t' => decide (d :: t' = d :: t)) = cS m (fun t' => decide (t' = t)) := cS_cong (fun t' _ _ => by simp)
        simp only [h4] at h3
        omega
    omega
  unfold VV
  refine sm_cong fun d hd => cS_cong fun t ht hl => ?_
  have : bf σ s0 c d t = bf σ s0 0 d t := by
    unfold bf
    cases hs : σ t with
    | none => rfl
    | some s =>
      have h1 : s ≠ s0 := fun e => hz t ht hl (by rw [hs, e])
      dsimp only
      rw [Bool.eq_iff_iff, decide_eq_true_iff, decide_eq_true_iff]
      omega
  rw [this]
/-- the sum over the states ahead of s0 that match -/
def RRs (σ : List Nat → Option Nat) (dn : Nat → Bool) (n s0 : Nat) : Nat := cS n (fun t => match σ t with
  | none => false
  | some s => decide (s < s0) && dn s)
theorem RRs_zero (σ : List Nat → Option Nat) (dn : Nat → Bool) (n : Nat) : RRs σ dn n 0 = 0 := by
  refine cS_zero fun t _ _ => ?_
  cases σ t <;> simp
theorem RRs_step (σ : List Nat → Option Nat) (dn : Nat → Bool) (n s0 : Nat) : RRs σ dn n (s0 + 1) = RRs σ dn n s0 + (if dn s0 then cS n (isS σ s0) else 0) := by
  have h : (if dn s0 then cS n (isS σ s0) else 0) = cS n (fun t => isS σ s0 t && dn s0) := by
    cases dn s0
    · rw [if_neg (by decide), cS_zero (fun t _ _ => by simp)]
    · rw [if_pos rfl]; exact cS_cong (fun t _ _ => by simp)
  rw [h]
  refine (cS_add fun t _ _ => ?_).symm
  unfold isS
  cases σ t with
  | none => simp
  | some s =>
    show ((if (decide (s < s0) && dn s) = true then 1 else 0) + (if (decide (some s = some s0) && dn s0) = true then 1 else 0) : Nat) = (if (decide (s < s0 + 1) && dn s) = true then 1 else 0)
    by_cases h1 : s = s0
    · subst h1; simp
    · have e : decide (some s = some s0) = false := by simp [h1]
      rw [e, Bool.false_and]
      by_cases h2 : s < s0
      · rw [show decide (s < s0) = true by simp [h2], show decide (s < s0 + 1) = true by simp; omega]; simp
      · rw [show decide (s < s0) = false by simp; omega, show decide (s < s0 + 1) = false by simp; omega]; simp
theorem RRs_end {σ : List Nat → Option Nat} (dn : Nat → Bool) {N : Nat} (hb : ∀ t s, ok8 t → σ t = some s → s < N) (n : Nat) : RRs σ dn n N = cS n (acc σ dn) := by
  refine cS_cong fun t ht _ => ?_
  unfold acc
  cases hs : σ t with
  | none => rfl
  | some s =>
    have := hb t s ht hs
    simp [this]
section CC
variable {z : Zd} {p N : Nat} {I0 : Nat → Nat → Int32} {σ : List Nat → Option Nat} {dn : Nat → Bool}
theorem row_ok (hz : SO z p) (hb : ∀ t s, ok8 t → σ t = some s → s < N) (hN : N ≤ 3968) {I : Nat → Nat → Int32} {k : Nat} : ∀ (u : List Nat) (s : Nat), ok8 u → u.length ≤ 60 → σ u = some s → Chn (I (p + 12)) σ u → k < u.length → ∀ f, u.length < f → lp (fun kk (s1 : Int32 × Int32) => m_X4_letterOfRow_B10 p (nI k) kk s1.1 s1.2) f (nI s, nI (u.length - 1)) (I, z) = some (nI (u.getD (u.length - 1 - k) 0), (I, z))
  | [], _, _, _, _, _, hk, _, _ => by simp at hk
  | d :: t, s, h8, h60, hs, hc, hk, f, hf => by
    obtain ⟨z0, ⟨r0, r1, r2, r3, r4⟩, -, -, ⟨s11, s12, s13, -, -⟩, -⟩ := id hz
    obtain ⟨⟨s1, s', a, b, c⟩, hc'⟩ := hc
    have : s1 = s := Option.some.inj (a.symm.trans hs)
    subst this
    obtain ⟨d8, t8⟩ := ok8_cons.mp h8
    have hsN := hb _ _ h8 hs
    have hs'N := hb _ _ t8 b
    have h60' : t.length + 1 ≤ 60 := h60
    have hk' : k < t.length + 1 := hk
    obtain ⟨g, rfl⟩ : ∃ g, f = g + 1 := ⟨f - 1, by simp at hf; omega⟩
    rw [lp_s]
    have ih := fun hk2 : k < t.length => row_ok hz hb hN (I := I) t s' t8 (by omega) b hc' hk2 g (by simp at hf; omega)
    generalize lp (fun kk (s1 : Int32 × Int32) => m_X4_letterOfRow_B10 p (nI k) kk s1.1 s1.2) g = kk at ih
    show m_X4_letterOfRow_B10 p (nI k) kk (nI s1) (nI (t.length + 1 - 1)) (I, z) = some (nI ((d :: t).getD (t.length + 1 - 1 - k) 0), (I, z))
    rw [Nat.add_sub_cancel]
    unfold m_X4_letterOfRow_B10
    by_cases hend : t.length ≤ k
    · rw [if_pos (nI_le hend (by omega)), show t.length - k = 0 by omega]
      unfold m_X4_letterOfRow_J43
      rw [mb_gR z0 r3, mb_aI s12 (show s1 < 3968 by omega) (by omega)]
      simp only [c]
      have e1 : nI (1 + 8 * s' + d) - 1 = nI (8 * s' + d) := by rw [show 1 + 8 * s' + d = (8 * s' + d) + 1 by omega]; exact nI_pred _
      have e2 : (if (0 : Int32) < nI (1 + 8 * s' + d) - 1 then nI (1 + 8 * s' + d) - 1 else 0) = nI (8 * s' + d) := by
        rw [e1]
        by_cases h0 : 8 * s' + d = 0
        · rw [h0]; rfl
        · rw [if_pos (show (0 : Int32) < nI (8 * s' + d) from nI_lt (a := 0) (by omega) (by omega))]
      rw [e2]
      show some (nI (8 * s' + d) - nI (8 * s' + d) / nI 8 * nI 8, (I, z)) = _
      rw [pk_rem (by omega) (by omega) (by omega), show (8 * s' + d) % 8 = d by omega]
      rfl
    · rw [if_neg (nI_ge (by omega) (by omega)), mb_gR z0 r3, mb_aI s12 (show s1 < 3968 by omega) (by omega)]
      simp only [c]
      rw [if_neg (nI_nle (by omega) (by omega)), mb_gR z0 r3, mb_aI s12 (show s1 < 3968 by omega) (by omega)]
      simp only [c]
      rw [mb_mp, show nI (1 + 8 * s' + d) - 1 = nI (8 * s' + d) by rw [show 1 + 8 * s' + d = (8 * s' + d) + 1 by omega]; exact nI_pred _, show nI (8 * s' + d) / 8 = nI s' by
        show nI (8 * s' + d) / nI 8 = nI s'
        rw [pk_div (by omega) (by omega) (by omega)]; congr 1; omega]
      rw [show nI t.length + -1 = nI (t.length - 1) by
        rw [show nI t.length = nI ((t.length - 1) + 1) by congr 1; omega]; exact nI_m1 _, ih (by omega)]
      rw [show t.length - k = (t.length - 1 - k) + 1 by omega]
      rfl
theorem letterOfRow_ok (hz : SO z p) (hC : CSys p I0 σ dn N) {I : Nat → Nat → Int32} {u : List Nat} (hF : Fnd σ dn p I u) {k : Nat} (hk : k < u.length) : m_X4_letterOfRow p (nI k) (nI u.length) (I, z) = some (nI (u.getD (u.length - 1 - k) 0), (I, z)) := by
  obtain ⟨⟨h8, h60, -⟩, s, e1, e2, e3, e4⟩ := hF
  unfold m_X4_letterOfRow
  rw [mb_gI hz.1]
  simp only [e3]
  rw [mb_mp, show nI u.length - 1 = nI (u.length - 1) from nI_sub (b := 1) (by omega)]
  exact row_ok hz hC.2.2.2.1 hC.1 u s h8 h60 e1 e4 hk FU (by unfold FU; omega)
end CC
