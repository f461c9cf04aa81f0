/-! ===== Long.bitCount ===== -/
def pcn (x : Nat) : Nat → Nat
  | 0 => 0
  | k + 1 => pcn x k + (if x.testBit k then 1 else 0)
def vl : List Nat → Nat
  | [] => 0
  | b :: bs => b + 256 * vl bs
def rp (m : Nat) : Nat → Nat
  | 0 => 0
  | k + 1 => m + 256 * rp m k
def s1b (b : Nat) : Nat := b - (b / 2 &&& 85)
def s2b (b : Nat) : Nat := (b &&& 51) + (b / 4 &&& 51)
theorem and_split (a b k : Nat) : a &&& b = (a % 2 ^ k &&& b % 2 ^ k) + 2 ^ k * (a / 2 ^ k &&& b / 2 ^ k) := by
  rw [← Nat.and_mod_two_pow, ← Nat.and_div_two_pow, Nat.mod_add_div]
theorem and_rp {m x v k : Nat} (hm : m < 256) (hx : x < 256) : (x + 256 * v) &&& rp m (k + 1) = (x &&& m) + 256 * (v &&& rp m k) := by
  rw [and_split _ _ 8]
  show ((x + 256 * v) % 256 &&& (m + 256 * rp m k) % 256) + 256 * ((x + 256 * v) / 256 &&& (m + 256 * rp m k) / 256) = _
  rw [show (x + 256 * v) % 256 = x by omega, show (m + 256 * rp m k) % 256 = m by omega, show (x + 256 * v) / 256 = v by omega, show (m + 256 * rp m k) / 256 = rp m k by omega]
theorem bc_d1 : ∀ b, b < 256 → ∀ c, c < 2 → (b / 2 + 128 * c) &&& 85 = b / 2 &&& 85 := by decide +kernel
theorem bc_d2 : ∀ b, b < 256 → ∀ c, c < 4 → (b / 4 + 64 * c) &&& 51 = b / 4 &&& 51 := by decide +kernel
theorem bc_d3 : ∀ b, b < 256 → s1b b < 256 ∧ s2b (s1b b) % 16 ≤ 4 ∧ s2b (s1b b) / 16 ≤ 4 ∧ (s2b (s1b b) + s2b (s1b b) / 16) % 16 = pcn b 8 := by decide +kernel
theorem bc1 : ∀ bs : List Nat, (∀ b ∈ bs, b < 256) → vl bs - (vl bs / 2 &&& rp 85 bs.length) = vl (bs.map s1b)
  | [], _ => by simp [vl]
  | b :: bs, h => by
    have hb := h b List.mem_cons_self
    have ih := bc1 bs (fun x hx => h x (List.mem_cons_of_mem _ hx))
    show (b + 256 * vl bs) - ((b + 256 * vl bs) / 2 &&& rp 85 (bs.length + 1)) = s1b b + 256 * vl (bs.map s1b)
    rw [← ih]
    generalize vl bs = v
    have e : (b + 256 * v) / 2 = (b / 2 + 128 * (v % 2)) + 256 * (v / 2) := by omega
    rw [e, and_rp (by omega) (by omega), bc_d1 b hb (v % 2) (by omega)]
    have h1 : (b / 2 &&& 85) ≤ b / 2 := Nat.and_le_left
    have h2 : (v / 2 &&& rp 85 bs.length) ≤ v / 2 := Nat.and_le_left
    unfold s1b
    omega
theorem bc2 : ∀ bs : List Nat, (∀ b ∈ bs, b < 256) → (vl bs &&& rp 51 bs.length) + (vl bs / 4 &&& rp 51 bs.length) = vl (bs.map s2b)
  | [], _ => by simp [vl]
  | b :: bs, h => by
    have hb := h b List.mem_cons_self
    have ih := bc2 bs (fun x hx => h x (List.mem_cons_of_mem _ hx))
    show ((b + 256 * vl bs) &&& rp 51 (bs.length + 1)) + ((b + 256 * vl bs) / 4 &&& rp 51 (bs.length + 1)) = s2b b + 256 * vl (bs.map s2b)
    rw [← ih]
    generalize vl bs = v
    have e : (b + 256 * v) / 4 = (b / 4 + 64 * (v % 4)) + 256 * (v / 4) := by omega
    rw [e, and_rp (by omega) (by omega), and_rp (by omega) (by omega), bc_d2 b hb (v % 4) (by omega)]
    unfold s2b
    omega
theorem vl_low : ∀ bs : List Nat, (∀ b ∈ bs, b % 16 ≤ 4) → vl bs % 16 ≤ 4
  | [], _ => by simp [vl]
  | b :: bs, h => by
    have hb := h b List.mem_cons_self
    show (b + 256 * vl bs) % 16 ≤ 4
    omega
theorem bc3 : ∀ bs : List Nat, (∀ b ∈ bs, b % 16 ≤ 4 ∧ b / 16 ≤ 4) → (vl bs + vl bs / 16) &&& rp 15 bs.length = vl (bs.map (fun b => (b + b / 16) % 16))
  | [], _ => by simp [vl, rp]
  | b :: bs, h => by
    have hb := h b List.mem_cons_self
    have ih := bc3 bs (fun x hx => h x (List.mem_cons_of_mem _ hx))
    have hl := vl_low bs (fun x hx => (h x (List.mem_cons_of_mem _ hx)).1)
    show ((b + 256 * vl bs) + (b + 256 * vl bs) / 16) &&& rp 15 (bs.length + 1) = (b + b / 16) % 16 + 256 * vl (bs.map (fun b => (b + b / 16) % 16))
    rw [← ih]
    generalize vl bs = v at *
    have e : (b + 256 * v) + (b + 256 * v) / 16 = (b + b / 16 + 16 * (v % 16)) + 256 * (v + v / 16) := by omega
    rw [e, and_rp (by omega) (by omega), show (b + b / 16 + 16 * (v % 16)) &&& 15 = (b + b / 16 + 16 * (v % 16)) % 16 from Nat.and_two_pow_sub_one_eq_mod _ 4]
    omega
def bts (a : Nat) : Nat → List Nat
  | 0 => []
  | k + 1 => a % 256 :: bts (a / 256) k
theorem bts_len : ∀ (k a : Nat), (bts a k).length = k
  | 0, _ => rfl
  | k + 1, a => by show (bts (a / 256) k).length + 1 = k + 1; rw [bts_len k]
theorem bts_lt : ∀ (k a : Nat), ∀ b ∈ bts a k, b < 256
  | 0, _ => by simp [bts]
  | k + 1, a => by
    intro b hb
    rcases List.mem_cons.mp hb with rfl | hb
    · omega
    · exact bts_lt k _ b hb
theorem bts_vl : ∀ (k a : Nat), a < 256 ^ k → vl (bts a k) = a
  | 0, a, h => by simp at h; simp [bts, vl, h]
  | k + 1, a, h => by
    have h2 : a / 256 < 256 ^ k := by
      rw [Nat.div_lt_iff_lt_mul (by omega)]
      rw [Nat.pow_succ] at h; exact h
    show a % 256 + 256 * vl (bts (a / 256) k) = a
    rw [bts_vl k _ h2]
    omega
theorem pcn_split (a : Nat) : ∀ j, pcn a (8 + j) = pcn (a % 256) 8 + pcn (a / 256) j
  | 0 => by
    have : ∀ k, k ≤ 8 → pcn a k = pcn (a % 256) k := by
      intro k
      induction k with
      | zero => intro _; rfl
      | succ k ih =>
        intro hk
        show pcn a k + _ = pcn (a % 256) k + _
        rw [ih (by omega), show a % 256 = a % 2 ^ 8 from rfl, Nat.testBit_mod_two_pow, show decide (k < 8) = true by simp; omega, Bool.true_and]
    exact this 8 (Nat.le_refl 8)
  | j + 1 => by
    show pcn a (8 + j) + (if a.testBit (8 + j) then 1 else 0) = pcn (a % 256) 8 + (pcn (a / 256) j + (if (a / 256).testBit j then 1 else 0))
    rw [pcn_split a j, show a / 256 = a / 2 ^ 8 from rfl, Nat.testBit_div_two_pow, Nat.add_comm j 8, Nat.add_assoc]
theorem pcn_le (a : Nat) : ∀ k, pcn a k ≤ k
  | 0 => Nat.le_refl 0
  | k + 1 => by
    have := pcn_le a k
    show pcn a k + (if a.testBit k then 1 else 0) ≤ k + 1
    split <;> omega
theorem pf_lI' {n : Nat} (h : n < 2 ^ 63) : (lN n).toInt = (n : Int) := by
  have c := BitVec.toInt_eq_toNat_cond (lN n).toBitVec
  have e : (lN n).toBitVec.toNat = n := by
    show (BitVec.ofNat 64 n).toNat = n
    rw [BitVec.toNat_ofNat, Nat.mod_eq_of_lt (by omega)]
  rw [e] at c
  show (lN n).toBitVec.toInt = _
  rw [c]
  split <;> omega
theorem lx_ushr {a d : Nat} {D : UInt64} (hD : D.toNat % 64 = d) (h : a < 2 ^ 64) : ((lN a).toUInt64 >>> D).toInt64 = lN (a / 2 ^ d) := by
  have hd : a / 2 ^ d ≤ a := Nat.div_le_self _ _
  have e : (lN a).toUInt64 >>> D = UInt64.ofNat (a / 2 ^ d) := UInt64.toNat_inj.mp (by
    rw [UInt64.toNat_shiftRight, hD, Nat.shiftRight_eq_div_pow, UInt64.toNat_ofNat']
    show (UInt64.ofNat a).toNat / 2 ^ d = _
    rw [UInt64.toNat_ofNat', Nat.mod_eq_of_lt (by omega), Nat.mod_eq_of_lt (by omega)])
  rw [e]
  rfl
theorem lx_shrD {a d : Nat} {D : Int64} (hD : (D.toBitVec.smod 64).toNat = d) (h : a < 2 ^ 62) : lN a >>> D = lN (a / 2 ^ d) := by
  have hd : a / 2 ^ d ≤ a := Nat.div_le_self _ _
  apply Int64.toInt_inj.mp
  have e : (lN a >>> D).toInt = (lN a).toInt >>> d := by
    rw [← hD]
    exact BitVec.toInt_sshiftRight ..
  rw [e, Int.shiftRight_eq_div_pow, pf_lI' (by omega), pf_lI' (by omega)]
  rfl
theorem lx_shr {a s : Nat} (hs : s < 64) (h : a < 2 ^ 62) : lN a >>> ((nI s).toInt64 &&& 63) = lN (a / 2 ^ s) := lx_shrD (lx_sm s hs) h
theorem bq0 {p q : Nat} (h : p ≤ 8) : (p + 256 * q) / 256 = q := by omega
theorem bq1 (p0 p1 p2 q : Nat) : (p0 + 256 * (p1 + 256 * (p2 + 256 * q))) + (p1 + 256 * (p2 + 256 * q)) = ((p0 + p1) + 256 * (p1 + p2)) + 65536 * (p2 + 256 * q + q) := by omega
theorem bq2 (p2 p3 p4 q : Nat) : p2 + 256 * (p3 + 256 * (p4 + 256 * q)) + (p3 + 256 * (p4 + 256 * q)) = ((p2 + p3) + 256 * (p3 + p4)) + 65536 * (p4 + 256 * q + q) := by omega
theorem bq3 {r A : Nat} (h : r ≤ 4112) : (r + 65536 * A) / 65536 = A := by omega
theorem bq4 (r s B : Nat) : (r + 65536 * (s + 65536 * B)) + (s + 65536 * B) = (r + s) + 65536 * ((s + 65536 * B) + B) := by omega
theorem bq5 (s t C : Nat) : (s + 65536 * (t + 65536 * C)) + (t + 65536 * C) = (s + t) + 65536 * ((t + 65536 * C) + C) := by omega
theorem bq6 {r s D : Nat} (h : r ≤ 8224) (h2 : s ≤ 8224) : (r + 65536 * (s + 65536 * D)) / 4294967296 = D := by omega
theorem bq7 (r E t C : Nat) : (r + 65536 * E + ((t + 65536 * C) + C)) % 128 = (r + t + C) % 128 := by omega
theorem bq8 {p0 p1 p2 p3 p4 p5 p6 p7 : Nat} (h0 : p0 ≤ 8) (h1 : p1 ≤ 8) (h2 : p2 ≤ 8) (h3 : p3 ≤ 8) (h4 : p4 ≤ 8) (h5 : p5 ≤ 8) (h6 : p6 ≤ 8) (h7 : p7 ≤ 8) : (((p0 + p1) + 256 * (p1 + p2)) + ((p2 + p3) + 256 * (p3 + p4)) + ((p4 + p5) + 256 * (p5 + p6)) + (p6 + 256 * p7 + p7)) % 128 = p0 + p1 + p2 + p3 + p4 + p5 + p6 + p7 := by omega
theorem bc_sum {p0 p1 p2 p3 p4 p5 p6 p7 : Nat} (h0 : p0 ≤ 8) (h1 : p1 ≤ 8) (h2 : p2 ≤ 8) (h3 : p3 ≤ 8) (h4 : p4 ≤ 8) (h5 : p5 ≤ 8) (h6 : p6 ≤ 8) (h7 : p7 ≤ 8) :
    ∃ v4 v5 v6, v4 = vl [p0, p1, p2, p3, p4, p5, p6, p7] + vl [p0, p1, p2, p3, p4, p5, p6, p7] / 256 ∧ v5 = v4 + v4 / 65536 ∧ v6 = v5 + v5 / 4294967296 ∧ vl [p0, p1, p2, p3, p4, p5, p6, p7] ≤ v4 ∧ v4 ≤ v5 ∧ v5 < 18446744073709551616 ∧ v6 % 128 = p0 + p1 + p2 + p3 + p4 + p5 + p6 + p7 := by
  have e3 : vl [p0, p1, p2, p3, p4, p5, p6, p7] = p0 + 256 * (p1 + 256 * (p2 + 256 * (p3 + 256 * (p4 + 256 * (p5 + 256 * (p6 + 256 * p7)))))) := by simp [vl]
  have e4 : vl [p0, p1, p2, p3, p4, p5, p6, p7] + vl [p0, p1, p2, p3, p4, p5, p6, p7] / 256 = ((p0 + p1) + 256 * (p1 + p2)) + 65536 * (((p2 + p3) + 256 * (p3 + p4)) + 65536 * (((p4 + p5) + 256 * (p5 + p6)) + 65536 * (p6 + 256 * p7 + p7))) := by
    rw [e3, bq0 h0, bq1, bq2, bq2]
  have e8 := bq8 h0 h1 h2 h3 h4 h5 h6 h7
  refine ⟨_, _, _, rfl, rfl, rfl, Nat.le_add_right _ _, Nat.le_add_right _ _, ?_⟩
  rw [e4]
  clear e3 e4
  have lr : (p0 + p1) + 256 * (p1 + p2) ≤ 4112 := by omega
  have ls : (p2 + p3) + 256 * (p3 + p4) ≤ 4112 := by omega
  have lt : (p4 + p5) + 256 * (p5 + p6) ≤ 4112 := by omega
  have lC : p6 + 256 * p7 + p7 ≤ 4112 := by omega
  rw [← e8]
  clear e8
  generalize (p0 + p1) + 256 * (p1 + p2) = r at *
  generalize (p2 + p3) + 256 * (p3 + p4) = s at *
  generalize (p4 + p5) + 256 * (p5 + p6) = t at *
  generalize p6 + 256 * p7 + p7 = C at *
  clear h0 h1 h2 h3 h4 h5 h6 h7
  rw [bq3 lr, bq4, bq5, bq6 (by omega) (by omega), bq7]
  exact ⟨by omega, rfl⟩
theorem bitCount_ok {a : Nat} (ha : a < 2 ^ 62) (w : Wd) : m_J13_bitCount_95d88 (lN a) w = some (nI (pcn a 64), w) := by
  have hb := bts_lt 8 a
  have hlen := bts_len 8 a
  have hv := bts_vl 8 a (by omega)
  have k1 := bc1 (bts a 8) hb
  rw [hv, hlen] at k1
  have hb1 : ∀ b ∈ (bts a 8).map s1b, b < 256 := fun b h => by
    obtain ⟨x, hx, rfl⟩ := List.mem_map.mp h
    exact (bc_d3 x (hb x hx)).1
  have k2 := bc2 ((bts a 8).map s1b) hb1
  rw [List.length_map, hlen, ← k1] at k2
  have hb2 : ∀ b ∈ ((bts a 8).map s1b).map s2b, b % 16 ≤ 4 ∧ b / 16 ≤ 4 := fun b h => by
    obtain ⟨x, hx, rfl⟩ := List.mem_map.mp h
    obtain ⟨y, hy, rfl⟩ := List.mem_map.mp hx
    exact ⟨(bc_d3 y (hb y hy)).2.1, (bc_d3 y (hb y hy)).2.2.1⟩
  have k3 := bc3 (((bts a 8).map s1b).map s2b) hb2
  rw [List.length_map, List.length_map, hlen, ← k2, List.map_map, List.map_map] at k3
  have e3 : (bts a 8).map (((fun b => (b + b / 16) % 16) ∘ s2b) ∘ s1b) = (bts a 8).map (fun b => pcn b 8) := List.map_congr_left (fun b h => (bc_d3 b (hb b h)).2.2.2)
  rw [e3] at k3
  generalize hA1 : a - (a / 2 &&& rp 85 8) = a1 at *
  generalize hA2 : (a1 &&& rp 51 8) + (a1 / 4 &&& rp 51 8) = a2 at *
  have h1 : a1 < 2 ^ 62 := by rw [← hA1]; exact Nat.lt_of_le_of_lt (Nat.sub_le _ _) ha
  have h2 : a2 < 2 ^ 64 := by
    have q1 : (a1 &&& rp 51 8) ≤ a1 := Nat.and_le_left
    have q2 : (a1 / 4 &&& rp 51 8) ≤ a1 / 4 := Nat.and_le_left
    have q3 : a1 / 4 ≤ a1 := Nat.div_le_self _ _
    clear hA1 k1 k2 k3
    omega
  have hps : pcn a 64 = pcn (a % 256) 8 + (pcn (a / 256 % 256) 8 + (pcn (a / 256 / 256 % 256) 8 + (pcn (a / 256 / 256 / 256 % 256) 8 + (pcn (a / 256 / 256 / 256 / 256 % 256) 8 + (pcn (a / 256 / 256 / 256 / 256 / 256 % 256) 8 + (pcn (a / 256 / 256 / 256 / 256 / 256 / 256 % 256) 8 + (pcn (a / 256 / 256 / 256 / 256 / 256 / 256 / 256 % 256) 8 + 0))))))) := by
    rw [show 64 = 8 + 56 from rfl, pcn_split, show 56 = 8 + 48 from rfl, pcn_split, show 48 = 8 + 40 from rfl, pcn_split, show 40 = 8 + 32 from rfl, pcn_split, show 32 = 8 + 24 from rfl, pcn_split, show 24 = 8 + 16 from rfl, pcn_split, show 16 = 8 + 8 from rfl, pcn_split, show pcn (a / 256 / 256 / 256 / 256 / 256 / 256 / 256) 8 = pcn (a / 256 / 256 / 256 / 256 / 256 / 256 / 256) (8 + 0) from rfl, pcn_split]
    rfl
  obtain ⟨v4, v5, v6, f4, f5, f6, l3, l4, l5, hs⟩ := bc_sum (pcn_le (a % 256) 8) (pcn_le (a / 256 % 256) 8) (pcn_le (a / 256 / 256 % 256) 8) (pcn_le (a / 256 / 256 / 256 % 256) 8) (pcn_le (a / 256 / 256 / 256 / 256 % 256) 8) (pcn_le (a / 256 / 256 / 256 / 256 / 256 % 256) 8) (pcn_le (a / 256 / 256 / 256 / 256 / 256 / 256 % 256) 8) (pcn_le (a / 256 / 256 / 256 / 256 / 256 / 256 / 256 % 256) 8)
  have k3' : (a2 + a2 / 16) &&& rp 15 8 = vl [pcn (a % 256) 8, pcn (a / 256 % 256) 8, pcn (a / 256 / 256 % 256) 8, pcn (a / 256 / 256 / 256 % 256) 8, pcn (a / 256 / 256 / 256 / 256 % 256) 8, pcn (a / 256 / 256 / 256 / 256 / 256 % 256) 8, pcn (a / 256 / 256 / 256 / 256 / 256 / 256 % 256) 8, pcn (a / 256 / 256 / 256 / 256 / 256 / 256 / 256 % 256) 8] := k3
  generalize vl [pcn (a % 256) 8, pcn (a / 256 % 256) 8, pcn (a / 256 / 256 % 256) 8, pcn (a / 256 / 256 / 256 % 256) 8, pcn (a / 256 / 256 / 256 / 256 % 256) 8, pcn (a / 256 / 256 / 256 / 256 / 256 % 256) 8, pcn (a / 256 / 256 / 256 / 256 / 256 / 256 % 256) 8, pcn (a / 256 / 256 / 256 / 256 / 256 / 256 / 256 % 256) 8] = v3 at *
  unfold m_J13_bitCount_95d88
  rw [mb_mp, lx_ushr (d := 1) (by decide) (by omega), show (6148914691236517205 : Int64) = lN (rp 85 8) from rfl, lx_and, lN_sub (Nat.le_trans Nat.and_le_left (Nat.div_le_self _ _)), show a / 2 ^ 1 = a / 2 from rfl, hA1]
  rw [mb_mp, lx_ushr (d := 2) (by decide) (by omega), show (3689348814741910323 : Int64) = lN (rp 51 8) from rfl, lx_and, lx_and, lN_add, show a1 / 2 ^ 2 = a1 / 4 from rfl, hA2]
  rw [mb_mp, lx_ushr (d := 4) (by decide) (by omega), show (1085102592571150095 : Int64) = lN (rp 15 8) from rfl, lN_add, lx_and, show a2 / 2 ^ 4 = a2 / 16 from rfl, k3']
  rw [mb_mp, lx_ushr (d := 8) (by decide) (by omega), lN_add, show v3 / 2 ^ 8 = v3 / 256 from rfl, ← f4]
  rw [mb_mp, lx_ushr (d := 16) (by decide) (by omega), lN_add, show v4 / 2 ^ 16 = v4 / 65536 from rfl, ← f5]
  rw [mb_mp, lx_ushr (d := 32) (by decide) (by omega), lN_add, show v5 / 2 ^ 32 = v5 / 4294967296 from rfl, ← f6]
  show some ((lN v6).toInt32 &&& 127, w) = _
  rw [lN_i, show (127 : Int32) = nI (2 ^ 7 - 1) from rfl, bx_mask, show v6 % 2 ^ 7 = v6 % 128 from rfl, hs, hps]
  simp only [Nat.add_assoc, Nat.add_zero]
theorem pcn_hb (ls u : List Nat) (n : Nat) : ∀ j, pcn (hb ls u n) (n + j) = hct ls u n
  | 0 => by
    have : ∀ k, k ≤ n → pcn (hb ls u n) k = hct ls u k := by
      intro k
      induction k with
      | zero => intro _; rfl
      | succ k ih =>
        intro hk
        show pcn (hb ls u n) k + (if (hb ls u n).testBit k then 1 else 0) = hct ls u k + _
        rw [ih (by omega), hb_bit, show decide (k < n) = true by simp; omega, Bool.true_and]
    exact this n (Nat.le_refl n)
  | j + 1 => by
    show pcn (hb ls u n) (n + j) + (if (hb ls u n).testBit (n + j) then 1 else 0) = _
    rw [pcn_hb ls u n j, hb_bit, show decide (n + j < n) = false by simp, Bool.false_and]
    rfl
