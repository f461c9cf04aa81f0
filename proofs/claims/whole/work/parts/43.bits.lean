/-! ===== bits of small numbers; words as the class packs them ===== -/
theorem bx_and (a b : Nat) : nI a &&& nI b = nI (a &&& b) := by
  apply Int32.toBitVec_inj.1
  show BitVec.ofNat 32 a &&& BitVec.ofNat 32 b = BitVec.ofNat 32 (a &&& b)
  apply BitVec.eq_of_getLsbD_eq
  intro i hi
  simp [hi]
theorem bx_or (a b : Nat) : nI a ||| nI b = nI (a ||| b) := by
  apply Int32.toBitVec_inj.1
  show BitVec.ofNat 32 a ||| BitVec.ofNat 32 b = BitVec.ofNat 32 (a ||| b)
  apply BitVec.eq_of_getLsbD_eq
  intro i hi
  simp [hi]
theorem bx_mask (n k : Nat) : nI n &&& nI (2 ^ k - 1) = nI (n % 2 ^ k) := by rw [bx_and, Nat.and_two_pow_sub_one_eq_mod]
theorem bx_sm : ∀ n, n < 32 → ((nI n &&& 31).toBitVec.smod 32).toNat = n := by decide +kernel
theorem bx_shr {a s : Nat} (ha : a < 2 ^ 31) (hs : s < 32) : nI a >>> (nI s &&& 31) = nI (a / 2 ^ s) := by
  apply Int32.toInt_inj.mp
  have h1 : a / 2 ^ s ≤ a := Nat.div_le_self _ _
  rw [Jvm.Kit.i32_shr _ _ (bx_sm s hs), nI_toInt ha, nI_toInt (by omega)]
  simp
theorem bx_shl {a s : Nat} (hs : s < 32) : nI a <<< (nI s &&& 31) = nI (a * 2 ^ s) := by
  apply Int32.toBitVec_inj.1
  rw [Int32.toBitVec_shiftLeft]
  show (BitVec.ofNat 32 a) <<< ((nI s &&& 31).toBitVec.smod 32).toNat = BitVec.ofNat 32 (a * 2 ^ s)
  rw [bx_sm s hs]
  apply BitVec.eq_of_toNat_eq
  simp [Nat.shiftLeft_eq]
theorem shift_ok {i : Nat} (hi : i ≤ 5) (w : Wd) : m_X3_shiftOf (nI i) w = some (nI (4 * (5 - i)), w) := by
  show some (nI 4 * (nI 5 - nI i), w) = _
  rw [pk_sub hi, pk_mul]
theorem pkA_lt : ∀ (n : Nat) (u : List Nat), (∀ c ∈ u, c < 8) → pkA n u < 16 ^ n
  | n, [], _ => by rw [show pkA n [] = 0 by cases n <;> rfl]; exact Nat.pos_of_ne_zero (by simp)
  | 0, _ :: _, _ => by simp [pkA]
  | n + 1, c :: u, h => by
    have h1 := pkA_lt n u (fun x hx => h x (List.mem_cons_of_mem _ hx))
    have h2 := h c List.mem_cons_self
    have h3 : (c + 1) * 16 ^ n ≤ 8 * 16 ^ n := Nat.mul_le_mul_right _ (by omega)
    have h4 : 16 ^ (n + 1) = 16 * 16 ^ n := by rw [Nat.pow_succ, Nat.mul_comm]
    show (c + 1) * 16 ^ n + pkA n u < 16 ^ (n + 1)
    omega
/-- the digit of a place -/
def dgt (u : List Nat) (i : Nat) : Nat := match u[i]? with
  | none => 0
  | some c => c + 1
theorem pkA_dgt : ∀ (n : Nat) (u : List Nat) (i : Nat), (∀ c ∈ u, c < 8) → u.length ≤ n → i < n → pkA n u / 16 ^ (n - 1 - i) % 16 = dgt u i
  | n, [], i, _, _, _ => by rw [show pkA n [] = 0 by cases n <;> rfl]; simp [dgt]
  | 0, _ :: _, _, _, h, _ => by simp at h
  | n + 1, c :: u, 0, h, _, _ => by
    have h1 := pkA_lt n u (fun x hx => h x (List.mem_cons_of_mem _ hx))
    have h2 := h c List.mem_cons_self
    show ((c + 1) * 16 ^ n + pkA n u) / 16 ^ n % 16 = c + 1
    rw [Nat.mul_comm, Nat.mul_add_div (Nat.pos_of_ne_zero (by simp)), Nat.div_eq_of_lt h1]
    omega
  | n + 1, c :: u, i + 1, h, hl, hi => by
    have ih := pkA_dgt n u i (fun x hx => h x (List.mem_cons_of_mem _ hx)) (by simp at hl; omega) (by omega)
    show ((c + 1) * 16 ^ n + pkA n u) / 16 ^ (n + 1 - 1 - (i + 1)) % 16 = dgt (c :: u) (i + 1)
    rw [show n + 1 - 1 - (i + 1) = n - 1 - i by omega]
    have e : 16 ^ n = 16 ^ (n - 1 - i) * (16 * 16 ^ i) := by
      rw [← Nat.pow_succ', ← Nat.pow_add]; congr 1; omega
    rw [show (c + 1) * 16 ^ n = 16 ^ (n - 1 - i) * ((c + 1) * (16 * 16 ^ i)) by rw [e, Nat.mul_left_comm], Nat.mul_add_div (Nat.pos_of_ne_zero (by simp))]
    rw [show (c + 1) * (16 * 16 ^ i) = 16 * ((c + 1) * 16 ^ i) by rw [Nat.mul_left_comm], Nat.mul_add_mod]
    rw [ih]
    rfl
theorem pkA_take : ∀ (n : Nat) (u : List Nat) (l : Nat), (∀ c ∈ u, c < 8) → u.length ≤ n → l ≤ n → pkA n (u.take l) = pkA n u / 16 ^ (n - l) * 16 ^ (n - l)
  | n, [], l, _, _, _ => by rw [List.take_nil, show pkA n [] = 0 by cases n <;> rfl]; simp
  | 0, _ :: _, _, _, h, _ => by simp at h
  | n + 1, c :: u, 0, h, hl, _ => by
    have h1 := pkA_lt (n + 1) (c :: u) h
    rw [List.take_zero, Nat.sub_zero, Nat.div_eq_of_lt h1]
    simp [pkA]
  | n + 1, c :: u, l + 1, h, hl, hi => by
    have ih := pkA_take n u l (fun x hx => h x (List.mem_cons_of_mem _ hx)) (by simp at hl; omega) (by omega)
    show (c + 1) * 16 ^ n + pkA n (u.take l) = ((c + 1) * 16 ^ n + pkA n u) / 16 ^ (n + 1 - (l + 1)) * 16 ^ (n + 1 - (l + 1))
    rw [show n + 1 - (l + 1) = n - l by omega]
    have e : 16 ^ n = 16 ^ (n - l) * 16 ^ l := by rw [← Nat.pow_add]; congr 1; omega
    rw [show (c + 1) * 16 ^ n = 16 ^ (n - l) * ((c + 1) * 16 ^ l) by rw [e, Nat.mul_left_comm], Nat.mul_add_div (Nat.pos_of_ne_zero (by simp)), ih, Nat.add_mul _ (pkA n u / 16 ^ (n - l)), Nat.mul_comm (16 ^ (n - l))]
theorem pkw_lt {u : List Nat} (h : ∀ c ∈ u, c < 8) : pk u < 16777216 := pkA_lt 6 u h
theorem pkw_dgt {u : List Nat} (h : ∀ c ∈ u, c < 8) (hl : u.length ≤ 6) {i : Nat} (hi : i < 6) : pk u / 2 ^ (4 * (5 - i)) % 16 = dgt u i := by
  have := pkA_dgt 6 u i h hl hi
  rw [show (16 : Nat) = 2 ^ 4 from rfl, ← Nat.pow_mul, show 6 - 1 - i = 5 - i by omega] at this
  exact this
theorem dgt_some {u : List Nat} {i c : Nat} (h : u[i]? = some c) : dgt u i = c + 1 := by unfold dgt; rw [h]
theorem dgt_none {u : List Nat} {i : Nat} (h : u.length ≤ i) : dgt u i = 0 := by unfold dgt; rw [List.getElem?_eq_none h]
theorem dig_ok {u : List Nat} (h : ∀ c ∈ u, c < 8) (hl : u.length ≤ 6) {i : Nat} (hi : i < 6) : (pkI u >>> (nI (4 * (5 - i)) &&& 31)) &&& 15 = nI (dgt u i) := by
  have hlt := pkw_lt h
  unfold pkI
  rw [bx_shr (by omega) (by omega), show (15 : Int32) = nI (2 ^ 4 - 1) from rfl, bx_mask, pkw_dgt h hl hi]
theorem dgt_le {u : List Nat} (h : ∀ c ∈ u, c < 8) (i : Nat) : dgt u i ≤ 8 := by
  unfold dgt
  cases hc : u[i]? with
  | none => simp
  | some c => have := h c (List.mem_of_getElem? hc); simp only; omega
theorem sizeOf_ok {u : List Nat} (h : ∀ c ∈ u, c < 8) (hl : u.length ≤ 6) (w : Wd) : m_X3_sizeOf (pkI u) w = some (nI u.length, w) := by
  unfold m_X3_sizeOf
  refine lp_FU (F := fun k s => m_X3_sizeOf_B4 (pkI u) k s.1 s.2) (fun i => (nI (min i u.length), nI i)) (fun _ => w) 6 (by omega) (fun i hi k => ?_) (fun k => ?_)
  · show m_X3_sizeOf_B4 (pkI u) k (nI (min i u.length)) (nI i) w = _
    unfold m_X3_sizeOf_B4
    rw [if_neg (show ¬ (6 : Int32) ≤ nI i from nI_ge (b := 6) hi (by omega)), mb_call (shift_ok (by omega) w), dig_ok h hl hi]
    by_cases hu : i < u.length
    · rw [dgt_some (List.getElem?_eq_getElem hu), if_neg (nI_ne0 (by omega) (by have := h _ (List.getElem_mem hu); omega))]
      unfold m_X3_sizeOf_J25
      rw [nI_1, nI_1, show min i u.length + 1 = min (i + 1) u.length by omega]
    · rw [dgt_none (by omega), if_pos (by rfl)]
      unfold m_X3_sizeOf_J25
      rw [nI_1, show min i u.length = min (i + 1) u.length by omega]
  · show m_X3_sizeOf_B4 (pkI u) k (nI (min 6 u.length)) (nI 6) w = _
    unfold m_X3_sizeOf_B4
    rw [if_pos (show (6 : Int32) ≤ nI 6 from nI_le (a := 6) (Nat.le_refl 6) (by omega)), show min 6 u.length = u.length by omega]
    rfl
theorem letterAt_ok {u : List Nat} (h : ∀ c ∈ u, c < 8) (hl : u.length ≤ 6) {i c : Nat} (hi : u[i]? = some c) (w : Wd) : m_X3_letterAt (pkI u) (nI i) w = some (nI c, w) := by
  have hlt := (List.getElem?_eq_some_iff.mp hi).1
  have hc := h c (List.mem_of_getElem? hi)
  unfold m_X3_letterAt
  rw [mb_call (shift_ok (by omega) w), dig_ok h hl (by omega), dgt_some hi]
  show some ((if (0 : Int32) < nI (c + 1) - 1 then nI (c + 1) - 1 else 0), w) = _
  rw [nI_pred]
  by_cases h0 : c = 0
  · subst h0; rfl
  · rw [if_pos (show (0 : Int32) < nI c from nI_lt (a := 0) (by omega) (by omega))]
theorem headOf_ok {u : List Nat} (h : ∀ c ∈ u, c < 8) (hl : u.length ≤ 6) {l : Nat} (h1 : 1 ≤ l) (h6 : l ≤ 6) (w : Wd) : m_X3_headOf (pkI u) (nI l) w = some (pkI (u.take l), w) := by
  have hlt := pkw_lt h
  obtain ⟨m, rfl⟩ : ∃ m, l = m + 1 := ⟨l - 1, by omega⟩
  unfold m_X3_headOf
  rw [nI_pred, mb_call (shift_ok (by omega) w), mb_call (shift_ok (by omega) w)]
  show some ((pkI u >>> (nI (4 * (5 - m)) &&& 31)) <<< (nI (4 * (5 - m)) &&& 31), w) = _
  unfold pkI
  rw [bx_shr (by omega) (by omega), bx_shl (by omega)]
  have := pkA_take 6 u (m + 1) h hl h6
  rw [show (16 : Nat) = 2 ^ 4 from rfl, ← Nat.pow_mul, show 6 - (m + 1) = 5 - m by omega] at this
  unfold pk
  rw [this]
theorem pkw_inj {u v : List Nat} (hu : ∀ c ∈ u, c < 8) (hv : ∀ c ∈ v, c < 8) (lu : u.length ≤ 6) (lv : v.length ≤ 6) (h : pk u = pk v) : u = v := by
  apply List.ext_getElem?
  intro i
  by_cases hi : i < 6
  · have e : dgt u i = dgt v i := by rw [← pkw_dgt hu lu hi, ← pkw_dgt hv lv hi, h]
    unfold dgt at e
    cases h1 : u[i]? <;> cases h2 : v[i]? <;> rw [h1, h2] at e <;> simp_all
  · rw [List.getElem?_eq_none (by omega), List.getElem?_eq_none (by omega)]
theorem pkI_inj {u v : List Nat} (hu : ∀ c ∈ u, c < 8) (hv : ∀ c ∈ v, c < 8) (lu : u.length ≤ 6) (lv : v.length ≤ 6) (h : pkI u = pkI v) : u = v := by
  have h1 := pkw_lt hu
  have h2 := pkw_lt hv
  exact pkw_inj hu hv lu lv ((nI_eq (by omega) (by omega)).mp h)
