/-! ===== words as the reference has them ===== -/
def b8 : List Nat → Nat
  | [] => 0
  | c :: u => c * 8 ^ u.length + b8 u
def rc (u : List Nat) : Nat := u.length * 1048576 + b8 u
def rcI (u : List Nat) : Int32 := nI (rc u)
theorem b8_lt : ∀ {u : List Nat}, (∀ c ∈ u, c < 8) → b8 u < 8 ^ u.length
  | [], _ => by simp [b8]
  | c :: u, h => by
    have h1 := b8_lt (u := u) (fun x hx => h x (List.mem_cons_of_mem _ hx))
    have h2 := h c List.mem_cons_self
    have h3 : c * 8 ^ u.length ≤ 7 * 8 ^ u.length := Nat.mul_le_mul_right _ (by omega)
    show c * 8 ^ u.length + b8 u < 8 ^ (u.length + 1)
    rw [Nat.pow_succ]
    omega
theorem b8_app (u v : List Nat) : b8 (u ++ v) = b8 u * 8 ^ v.length + b8 v := by
  induction u with
  | nil => simp [b8]
  | cons c u ih =>
    show c * 8 ^ (u ++ v).length + b8 (u ++ v) = (c * 8 ^ u.length + b8 u) * 8 ^ v.length + b8 v
    rw [ih, List.length_append, Nat.pow_add, Nat.add_mul, Nat.mul_assoc]
    omega
theorem b8_snoc (u : List Nat) (c : Nat) : b8 (u ++ [c]) = 8 * b8 u + c := by
  rw [b8_app]; simp [b8]; omega
theorem pow8 (n : Nat) : (8 : Nat) ^ n = 2 ^ (3 * n) := by rw [Nat.pow_mul]
theorem b8_small {u : List Nat} (h : ∀ c ∈ u, c < 8) (hl : u.length ≤ 6) : b8 u < 262144 := by
  have h1 := b8_lt h
  have h2 : 8 ^ u.length ≤ 8 ^ 6 := Nat.pow_le_pow_right (by decide) hl
  exact Nat.lt_of_lt_of_le h1 h2
theorem rc_lt {u : List Nat} (h : ∀ c ∈ u, c < 8) (hl : u.length ≤ 6) : rc u < 7340032 := by
  have := b8_small h hl
  unfold rc
  omega
theorem rc_len {u : List Nat} (h : ∀ c ∈ u, c < 8) (hl : u.length ≤ 6) : rc u / 1048576 = u.length := by
  have := b8_small h hl
  unfold rc
  omega
theorem rc_inj {u v : List Nat} (hu : ∀ c ∈ u, c < 8) (hv : ∀ c ∈ v, c < 8) (lu : u.length ≤ 6) (lv : v.length ≤ 6) (h : rc u = rc v) : u = v := by
  have hlen : u.length = v.length := by rw [← rc_len hu lu, ← rc_len hv lv, h]
  have hb : b8 u = b8 v := by unfold rc at h; omega
  clear h lu lv
  induction u generalizing v with
  | nil => exact (List.length_eq_zero_iff.mp hlen.symm).symm
  | cons c u ih =>
    cases v with
    | nil => simp at hlen
    | cons d v =>
      have hl : u.length = v.length := by simpa using hlen
      have hb' : c * 8 ^ u.length + b8 u = d * 8 ^ v.length + b8 v := hb
      have h1 := b8_lt (u := u) (fun x hx => hu x (List.mem_cons_of_mem _ hx))
      have h2 := b8_lt (u := v) (fun x hx => hv x (List.mem_cons_of_mem _ hx))
      rw [← hl] at h2 hb'
      have hcd : c = d := by
        have e1 : (c * 8 ^ u.length + b8 u) / 8 ^ u.length = c := by rw [Nat.mul_comm, Nat.mul_add_div (Nat.pos_of_ne_zero (by simp)), Nat.div_eq_of_lt h1]; omega
        have e2 : (d * 8 ^ u.length + b8 v) / 8 ^ u.length = d := by rw [Nat.mul_comm, Nat.mul_add_div (Nat.pos_of_ne_zero (by simp)), Nat.div_eq_of_lt h2]; omega
        rw [← e1, hb', e2]
      subst hcd
      rw [ih (fun x hx => hu x (List.mem_cons_of_mem _ hx)) (fun x hx => hv x (List.mem_cons_of_mem _ hx)) hl (by omega)]
theorem rcI_inj {u v : List Nat} (hu : ∀ c ∈ u, c < 8) (hv : ∀ c ∈ v, c < 8) (lu : u.length ≤ 6) (lv : v.length ≤ 6) (h : rcI u = rcI v) : u = v := by
  have h1 := rc_lt hu lu
  have h2 := rc_lt hv lv
  exact rc_inj hu hv lu lv ((nI_eq (by omega) (by omega)).mp h)
theorem rcI_div {u : List Nat} (h : ∀ c ∈ u, c < 8) (hl : u.length ≤ 6) : rcI u / 1048576 = nI u.length := by
  have h1 := rc_lt h hl
  show nI (rc u) / nI 1048576 = _
  rw [pk_div (by omega) (by omega) (by omega), rc_len h hl]
/-- a letter of a word -/
theorem b8_digit : ∀ {u : List Nat} {k c : Nat}, (∀ c ∈ u, c < 8) → u[k]? = some c → b8 u / 8 ^ (u.length - 1 - k) % 8 = c
  | [], k, c, _, h => by simp at h
  | a :: u, 0, c, hu, h => by
    have hc : a = c := Option.some.inj h
    subst hc
    have h1 := b8_lt (u := u) (fun x hx => hu x (List.mem_cons_of_mem _ hx))
    have h2 := hu a List.mem_cons_self
    show (a * 8 ^ u.length + b8 u) / 8 ^ (u.length + 1 - 1 - 0) % 8 = a
    rw [show u.length + 1 - 1 - 0 = u.length by omega, Nat.mul_comm, Nat.mul_add_div (Nat.pos_of_ne_zero (by simp)), Nat.div_eq_of_lt h1]
    omega
  | a :: u, k + 1, c, hu, h => by
    have h' : u[k]? = some c := h
    have hk := (List.getElem?_eq_some_iff.mp h').1
    have ih := b8_digit (u := u) (fun x hx => hu x (List.mem_cons_of_mem _ hx)) h'
    show (a * 8 ^ u.length + b8 u) / 8 ^ (u.length + 1 - 1 - (k + 1)) % 8 = c
    rw [show u.length + 1 - 1 - (k + 1) = u.length - 1 - k by omega]
    have e : 8 ^ u.length = 8 ^ (u.length - 1 - k) * (8 * 8 ^ k) := by
      rw [← Nat.pow_succ', ← Nat.pow_add]; congr 1; omega
    rw [show a * 8 ^ u.length = 8 ^ (u.length - 1 - k) * (a * (8 * 8 ^ k)) by rw [e, Nat.mul_left_comm], Nat.mul_add_div (Nat.pos_of_ne_zero (by simp)), show a * (8 * 8 ^ k) = 8 * (a * 8 ^ k) by rw [Nat.mul_left_comm], Nat.mul_add_mod, ih]
theorem letterOf_ok {u : List Nat} (h : ∀ c ∈ u, c < 8) (hl : u.length ≤ 6) {k c : Nat} (hk : u[k]? = some c) (w : Wd) : m_X8_letterOf (rcI u) (nI k) w = some (nI c, w) := by
  have hlt := (List.getElem?_eq_some_iff.mp hk).1
  have hrc := rc_lt h hl
  unfold m_X8_letterOf
  show some ((rcI u >>> (((3 : Int32) * (rcI u / 1048576 - 1 - nI k)) &&& 31)) &&& 7, w) = _
  obtain ⟨n, hn⟩ : ∃ n, u.length = n + 1 := ⟨u.length - 1, by omega⟩
  rw [rcI_div h hl, hn, nI_pred, pk_sub (by omega), show (3 : Int32) = nI 3 from rfl, pk_mul]
  unfold rcI
  rw [bx_shr (by omega) (by omega), show (7 : Int32) = nI (2 ^ 3 - 1) from rfl, bx_mask]
  have hd := b8_digit h hk
  rw [hn, Nat.add_sub_cancel, pow8] at hd
  congr 2
  congr 1
  rw [show (2 : Nat) ^ 3 = 8 from rfl, ← hd]
  have e : 1048576 = 2 ^ (3 * (n - k)) * (8 * 2 ^ (17 - 3 * (n - k))) := by
    rw [show (8 : Nat) = 2 ^ 3 from rfl, ← Nat.pow_add, ← Nat.pow_add, show 3 * (n - k) + (3 + (17 - 3 * (n - k))) = 20 by omega]
  unfold rc
  rw [show u.length * 1048576 = 2 ^ (3 * (n - k)) * (8 * (u.length * 2 ^ (17 - 3 * (n - k)))) by
    rw [Nat.mul_left_comm 8, ← Nat.mul_assoc (2 ^ (3 * (n - k))) u.length, Nat.mul_comm (2 ^ (3 * (n - k))) u.length, Nat.mul_assoc, ← e]]
  rw [Nat.mul_add_div (Nat.pos_of_ne_zero (by simp)), Nat.mul_add_mod]
