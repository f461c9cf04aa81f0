/-! ===== readWord(), both sides ===== -/
def wdT (tx : List Nat) (p : Nat) : List Nat := ((tx.drop (tkB tx p)).take (tkE tx p - tkB tx p)).map (fun c => c - 97)
/-- a word may stand there -/
def okT (tx : List Nat) (W : List (List Nat)) (p : Nat) : Prop := tkK tx p = 1 ∧ tkE tx p - tkB tx p ≤ 6 ∧ (∀ c ∈ wdT tx p, c < 8) ∧ (wdT tx p ∈ W ∨ W.length < 16)
theorem wdT_get {tx : List Nat} {p : Nat} (hp : p ≤ tx.length) (i : Nat) : (wdT tx p)[i]? = if i < tkE tx p - tkB tx p then (tx[tkB tx p + i]?).map (fun c => c - 97) else none := by
  unfold wdT
  rw [List.getElem?_map, List.getElem?_take]
  split
  · rw [List.getElem?_drop]
  · rfl
theorem wdT_len {tx : List Nat} {p : Nat} (hp : p ≤ tx.length) : (wdT tx p).length = tkE tx p - tkB tx p := by
  have h := (tkE_le tx hp).1
  unfold wdT
  rw [List.length_map, List.length_take, List.length_drop]
  omega
/-- the bytes of a token of letters -/
theorem tk_letters {tx : List Nat} {p : Nat} (hk : tkK tx p = 1) {j : Nat} (h1 : tkB tx p ≤ j) (h2 : j < tkE tx p) : ∃ c, tx[j]? = some c ∧ 97 ≤ c ∧ c ≤ 122 := by
  unfold tkK at hk
  unfold tkB at h1
  unfold tkE at h2
  cases hc : tx[skp tx p]? with
  | none => rw [hc] at hk; cases hk
  | some c =>
    rw [hc] at hk h2
    have hkc : knd c = 1 := hk
    dsimp only at h2
    rw [if_pos (Or.inl hkc), hkc] at h2
    obtain ⟨q1, q2, q3⟩ := run_ok tx 1 (skp tx p + 1)
    by_cases hj : j = skp tx p
    · exact ⟨c, by rw [hj]; exact hc, (knd1 c).mp hkc⟩
    · have := q2 j (by omega) h2
      cases hd : tx[j]? with
      | none => rw [hd] at this; cases this
      | some d =>
        rw [hd] at this
        exact ⟨d, rfl, (knd1 d).mp (Option.some.inj this)⟩
theorem pk_snoc {v : List Nat} {c : Nat} (hv : ∀ d ∈ v, d < 8) (hc : c < 8) (hl : v.length ≤ 5) : pkI v ||| ((nI c + 1) <<< (nI (4 * (5 - v.length)) &&& 31)) = pkI (v ++ [c]) := by
  have h8 : ∀ d ∈ v ++ [c], d < 8 := fun d hd => by
    rcases List.mem_append.mp hd with hd | hd
    · exact hv d hd
    · rw [List.mem_singleton.mp hd]; exact hc
  have hlen : (v ++ [c]).length ≤ 6 := by simp; omega
  have t0 := pk_take (u := v ++ [c]) h8 hlen (l := v.length) (by omega)
  have t1 := pk_take (u := v ++ [c]) h8 hlen (l := v.length + 1) (by omega)
  have td := pkw_dgt h8 hlen (i := v.length) (by omega)
  rw [List.take_left] at t0
  rw [List.take_of_length_le (by simp)] at t1
  rw [dgt_some (c := c) (by simp)] at td
  have e16 : ∀ k, (16 : Nat) ^ k = 2 ^ (4 * k) := fun k => by rw [Nat.pow_mul]
  rw [e16] at t0 t1
  rw [show 6 - (v.length + 1) = 5 - v.length by omega] at t1
  rw [show 6 - v.length = (5 - v.length) + 1 by omega, Nat.mul_add, Nat.pow_add] at t0
  generalize hX : pk (v ++ [c]) = X at *
  generalize hA : 2 ^ (4 * (5 - v.length)) = A at *
  have hA0 : 0 < A := by rw [← hA]; exact Nat.pos_of_ne_zero (by simp)
  unfold pkI
  rw [nI_1, bx_shl (by omega), bx_or, hA, hX]
  congr 1
  have hdd : X / (A * 2 ^ (4 * 1)) = X / A / 16 := by rw [show (2 : Nat) ^ (4 * 1) = 16 from rfl, Nat.div_div_eq_div_mul]
  rw [hdd, show (2 : Nat) ^ (4 * 1) = 16 from rfl] at t0
  rw [t0]
  have hb : (c + 1) * A < 2 ^ (4 * (5 - v.length) + 4) := by
    rw [Nat.pow_add, hA]
    have : (c + 1) * A ≤ 8 * A := Nat.mul_le_mul_right _ (by omega)
    have e : A * 2 ^ 4 = 16 * A := by rw [Nat.mul_comm]
    omega
  have h16 : X / A / 16 * (A * 16) = (X / A / 16) * 2 ^ (4 * (5 - v.length) + 4) := by rw [Nat.pow_add, hA]
  rw [h16, or_add' _ _ _ hb, ← h16]
  have hdm := Nat.div_add_mod (X / A) 16
  rw [td] at hdm
  generalize X / A = Y at *
  rw [t1]
  have : Y = 16 * (Y / 16) + (c + 1) := hdm.symm
  have e1 : Y / 16 * (A * 16) = 16 * (Y / 16) * A := by rw [Nat.mul_comm A 16, ← Nat.mul_assoc, Nat.mul_comm (Y / 16) 16]
  rw [e1, ← Nat.add_mul, hdm]
/-- the class's text with the token of p at hand -/
def TokC (I : Nat → Nat → Int32) (tx : List Nat) (p : Nat) : Prop := I 1 4 = nI (tkB tx p) ∧ I 1 5 = nI (tkE tx p) ∧ I 1 6 = nI (tkK tx p) ∧ p ≤ tx.length
section RWD
variable {z : Zd} {I : Nat → Nat → Int32} {tx : List Nat} {W : List (List Nat)} {p : Nat}
theorem put_full {z : Zd} {I : Nat → Nat → Int32} {p a n : Nat} {L : List Int32} (hz : WO z p a n) (hL : WL (I p) (I a) L) (hn : L.length = n) {x : Int32} (hx : x ∉ L) : m_X6_put p x (I, z) = some (0, (I, z)) := by
  have hfind := find_ok hz hL (by omega) x
  obtain ⟨z1, z2, z3, z4, z5⟩ := hz
  unfold m_X6_put
  rw [mb_vc z1, mb_call hfind, if_pos ((fnd_mem (by omega)).mpr hx), mb_gI z1, mb_gR z1 z2, mb_aL z3]
  simp only [hL.1]
  rw [if_neg (nI_nlt (by omega) (by omega))]
  rfl
theorem creadWord_ok (h : CT z I tx) (hw : z.2.1 1 3 = some 10) (hwo : WO z 10 11 16) (hL : WL (I 10) (I 11) (W.map pkI)) (hW : okL W) (h16 : W.length ≤ 16) (ht : TokC I tx p) :
    (¬ okT tx W p ∧ m_X5_readWord 1 (I, z) = some (0, (I, z))) ∨ (okT tx W p ∧ okW (wdT tx p) ∧ ∃ I', m_X5_readWord 1 (I, z) = some (pkI (wdT tx p), (I', z)) ∧ TokC I' tx (tkE tx p) ∧ WL (I' 10) (I' 11) ((winsW W (wdT tx p)).map pkI) ∧ (∀ k, k ≠ 4 → k ≠ 5 → k ≠ 6 → I' 1 k = I 1 k) ∧ ∀ x, x ≠ 1 → x ≠ 10 → x ≠ 11 → I' x = I x) := by
  obtain ⟨o, r, s2, t1, t2, t3, t4⟩ := id h
  obtain ⟨a4, a5, a6, hp⟩ := ht
  obtain ⟨l1, l2, l3, l4, l5⟩ := tkE_le tx hp
  unfold m_X5_readWord
  rw [mb_gI (w := (I, z)) o]
  simp only [a6]
  have hK4 : tkK tx p ≤ 4 := by
    unfold tkK
    cases tx[skp tx p]? with
    | none => dsimp only; omega
    | some c => exact (knd_le c).2
  by_cases hk : tkK tx p = 1
  · rw [if_pos (show nI (tkK tx p) = 1 by rw [hk]; rfl), mb_gI (w := (I, z)) o]
    simp only [a5]
    rw [mb_gI (w := (I, z)) o]
    simp only [a4]
    rw [nI_sub l2]
    by_cases h6 : tkE tx p - tkB tx p ≤ 6
    · rw [if_pos (show nI (tkE tx p - tkB tx p) ≤ 6 from nI_le (b := 6) h6 (by omega)), mb_gI (w := (I, z)) o]
      simp only [a4]
      have hlen := wdT_len (tx := tx) hp
      have hbl := l4 (by omega)
      -- the loop
      have hgen : ∀ n i, i + n = tkE tx p - tkB tx p → (∀ c ∈ (wdT tx p).take i, c < 8) → ∀ f, n < f → lp (fun k (s : Int32 × Int32) => m_X5_readWord_B31 1 k s.1 s.2) f (pkI ((wdT tx p).take i), nI (tkB tx p + i)) (I, z) = (if (∀ c ∈ wdT tx p, c < 8) then (mb (gR 4 3 1) fun words6 => mb (vc 5 words6 (m_X6_put words6 (pkI (wdT tx p)))) fun c7 => if c7 = 0 then mp 0 else mb (vc 4 1 (m_X5_advance 1)) fun _ => mp (pkI (wdT tx p))) else mp 0) (I, z) := by
        intro n
        induction n with
        | zero =>
          intro i hi hg f hf
          obtain ⟨g, rfl⟩ : ∃ g, f = g + 1 := ⟨f - 1, by omega⟩
          have htk : (wdT tx p).take i = wdT tx p := List.take_of_length_le (by omega)
          rw [htk] at hg ⊢
          rw [lp_s, if_pos hg]
          unfold m_X5_readWord_B31
          rw [mb_gI (w := (I, z)) o]
          simp only [a5]
          rw [if_pos (nI_le (by omega) (by omega))]
        | succ n ih =>
          intro i hi hg f hf
          obtain ⟨g, rfl⟩ : ∃ g, f = g + 1 := ⟨f - 1, by omega⟩
          obtain ⟨c, hc, hc97, hc122⟩ := tk_letters hk (show tkB tx p ≤ tkB tx p + i by omega) (show tkB tx p + i < tkE tx p by omega)
          have hd : (wdT tx p)[i]? = some (c - 97) := by rw [wdT_get hp, if_pos (by omega), hc]; rfl
          have hrow : I 2 (tkB tx p + i) = nI c := t2 _ c hc
          have ih := ih (i + 1) (by omega)
          rw [lp_s]
          show m_X5_readWord_B31 1 (lp (fun k (s : Int32 × Int32) => m_X5_readWord_B31 1 k s.1 s.2) g) (pkI ((wdT tx p).take i)) (nI (tkB tx p + i)) (I, z) = _
          generalize hkk : lp (fun k (s : Int32 × Int32) => m_X5_readWord_B31 1 k s.1 s.2) g = kk
          unfold m_X5_readWord_B31
          rw [mb_gI (w := (I, z)) o]
          simp only [a5]
          rw [if_neg (nI_ge (by omega) (by omega)), mb_gR (w := (I, z)) o r, mb_aI (w := (I, z)) s2 (show tkB tx p + i < 150 by omega) (by omega)]
          simp only [hrow]
          rcases isLetter_ok (nI c) (I, z) with ⟨e, hx⟩ | ⟨c', hc', hcc, e⟩
          · rw [nI_toInt (by omega)] at hx
            rw [mb_call e, if_pos rfl, if_neg]
            intro hall
            have := hall (c - 97) (List.mem_of_getElem? hd)
            omega
          · have hce : c = 97 + c' := (nI_eq (by omega) (by omega)).mp hcc
            have hil : ((wdT tx p).take i).length = i := by rw [List.length_take]; omega
            rw [mb_call e, if_neg (show ¬ (1 : Int32) = 0 by decide), mb_gI (w := (I, z)) o]
            simp only [a4]
            rw [mb_gR (w := (I, z)) o r, mb_aI (w := (I, z)) s2 (show tkB tx p + i < 150 by omega) (by omega)]
            simp only [hrow]
            have hsn := pk_snoc (v := (wdT tx p).take i) (c := c - 97) hg (by omega) (by omega)
            rw [hil] at hsn
            have hwl : m_X3_withLetter (pkI ((wdT tx p).take i)) (nI (tkB tx p + i) - nI (tkB tx p)) (nI c - 97) (I, z) = some (pkI ((wdT tx p).take (i + 1)), (I, z)) := by
              unfold m_X3_withLetter
              rw [nI_sub (by omega), show tkB tx p + i - tkB tx p = i by omega, mb_call (shift_ok (by omega) _), show nI c - 97 = nI (c - 97) from nI_sub (b := 97) hc97, hsn, take_snoc hd]
              rfl
            rw [mb_call hwl, nI_1, ← hkk]
            refine ih (fun d hd' => ?_) g (by omega)
            rw [take_snoc hd] at hd'
            rcases List.mem_append.mp hd' with hd' | hd'
            · exact hg d hd'
            · rw [List.mem_singleton.mp hd']; omega
      have hrun := hgen (tkE tx p - tkB tx p) 0 (by omega) (by simp) FU (by unfold FU; omega)
      rw [show lp (fun k (s : Int32 × Int32) => m_X5_readWord_B31 1 k s.1 s.2) FU (0, nI (tkB tx p)) (I, z) = _ from hrun]
      by_cases hall : ∀ c ∈ wdT tx p, c < 8
      · rw [if_pos hall]
        have hok : okW (wdT tx p) := ⟨by omega, by omega, hall⟩
        have hmem : pkI (wdT tx p) ∈ W.map pkI ↔ wdT tx p ∈ W := by
          constructor
          · intro hm
            obtain ⟨v, hv, e⟩ := List.mem_map.mp hm
            have hvo := hW.1 v hv
            rw [← pkI_inj hvo.2.2 hok.2.2 hvo.2.1 hok.2.1 e]; exact hv
          · intro hm; exact List.mem_map_of_mem hm
        rw [mb_gR (w := (I, z)) o hw, mb_vc (w := (I, z)) hwo.1]
        by_cases hroom : wdT tx p ∈ W ∨ W.length < 16
        · obtain ⟨I1, e1, L1, F1⟩ := put_ok (I := I) hwo hL ((okL_srt hW.1).mp hW.2) (by rw [List.length_map]; exact h16) (pkI (wdT tx p)) (by rw [List.length_map, hmem]; exact hroom)
          rw [← winsW_map] at L1
          have hCT1 : CT z I1 tx := ⟨o, r, s2, by rw [F1 1 (by omega) (by omega)]; exact t1, by rw [F1 2 (by omega) (by omega)]; exact t2, t3, t4⟩
          obtain ⟨I2, e2, b4, b5, b6, bk, bx⟩ := advance_ok hCT1 (p := tkE tx p) (by rw [F1 1 (by omega) (by omega)]; exact a5) l1
          refine Or.inr ⟨⟨hk, h6, hall, hroom⟩, hok, I2, ?_, ⟨b4, b5, b6, l1⟩, ?_, fun k x y z => by rw [bk k x y z, F1 1 (by omega) (by omega)], fun x c d e => by rw [bx x c, F1 x d e]⟩
          · rw [mb_call e1, if_neg (show ¬ (1 : Int32) = 0 by decide), mb_vc (w := (I1, z)) o, mb_call e2]; rfl
          · rw [bx 10 (by omega), bx 11 (by omega)]; exact L1
        · refine Or.inl ⟨fun hh => hroom hh.2.2.2, ?_⟩
          rw [mb_call (put_full hwo hL (by rw [List.length_map]; omega) (fun hm => hroom (Or.inl (hmem.mp hm)))), if_pos rfl]
          rfl
      · rw [if_neg hall]
        exact Or.inl ⟨fun hh => hall hh.2.2.1, rfl⟩
    · rw [if_neg (show ¬ nI (tkE tx p - tkB tx p) ≤ 6 from nI_ge (a := 6) (by omega) (by omega))]
      exact Or.inl ⟨fun hh => h6 hh.2.1, rfl⟩
  · rw [if_neg (show ¬ nI (tkK tx p) = 1 from fun e => hk ((nI_eq (b := 1) (by omega) (by omega)).mp e))]
    exact Or.inl ⟨fun hh => hk hh.1, rfl⟩
/-- the reference's text with the token of p at hand -/
def TokR (I : Nat → Nat → Int32) (tx : List Nat) (p : Nat) : Prop := I 33 3 = nI (tkE tx p) ∧ I 33 4 = nI (tkB tx p) ∧ I 33 7 = nI (tkE tx p - tkB tx p) ∧ StV tx p I ∧ p ≤ tx.length
theorem rreadWord_ok (h : RT z I tx) (hc3 : I 33 3 = nI p) (hp : p ≤ tx.length) (hRW : RW I 33 W) (hW : okL W) (h16 : W.length ≤ 16) :
    ∃ I', TokR I' tx p ∧ (∀ k, (k < 3 ∨ 7 < k) → k ≠ 15 → I' 33 k = I 33 k) ∧ (∀ x, x ≠ 33 → x ≠ 40 → I' x = I x) ∧ ((¬ okT tx W p ∧ m_X8_readWord 33 (I, z) = some (0, (I', z))) ∨ (okT tx W p ∧ okW (wdT tx p) ∧ m_X8_readWord 33 (I, z) = some (rcI (wdT tx p), (I', z)) ∧ RW I' 33 (winsW W (wdT tx p)))) := by
  obtain ⟨hM, t1, t2, t3, t4⟩ := id h
  obtain ⟨l1, l2, l3, l4, l5⟩ := tkE_le tx hp
  obtain ⟨I1, e1, b3, b4, b7, bS, bk, bx⟩ := step_ok h hc3 hp
  have hTok : TokR I1 tx p := ⟨b3, b4, b7, bS, hp⟩
  obtain ⟨tok, v, s1, s2, s3, s4, s5⟩ := id bS
  have hRW1 : RW I1 33 W := by unfold RW; rw [bk 15 (by omega), bx 40 (by omega)]; exact hRW
  have fin : ∀ (hno : ¬ okT tx W p), m_X8_readWord 33 (I, z) = some (0, (I1, z)) → ∃ I', TokR I' tx p ∧ (∀ k, (k < 3 ∨ 7 < k) → k ≠ 15 → I' 33 k = I 33 k) ∧ (∀ x, x ≠ 33 → x ≠ 40 → I' x = I x) ∧ ((¬ okT tx W p ∧ m_X8_readWord 33 (I, z) = some (0, (I', z))) ∨ (okT tx W p ∧ okW (wdT tx p) ∧ m_X8_readWord 33 (I, z) = some (rcI (wdT tx p), (I', z)) ∧ RW I' 33 (winsW W (wdT tx p)))) := fun hno hrun => ⟨I1, hTok, fun k a _ => bk k a, fun x a _ => bx x a, Or.inl ⟨hno, hrun⟩⟩
  have hstart : m_X8_readWord 33 (I, z) = (if nI tok = 1 then (mb (gI 7 7 33) fun size2 => if size2 ≤ 6 then mb (gI 7 7 33) fun size3 => mb (mp (size3 * 1048576)) fun v4 => mb (gI 7 4 33) fun start5 => lp (fun k (s : Int32 × Int32) => m_X8_readWord_B38 33 v4 k s.1 s.2) FU (0, start5) else mp 0) else mp 0) (I1, z) := by
    unfold m_X8_readWord
    rw [mb_vc (w := (I, z)) hM.o, mb_call e1, mb_gI (w := (I1, z)) hM.o]
    simp only [s1]
  have hK4 : tkK tx p ≤ 4 := by
    unfold tkK
    cases tx[skp tx p]? with
    | none => dsimp only; omega
    | some c => exact (knd_le c).2
  by_cases hk : tkK tx p = 1
  · have htok1 : tok = 1 := by rw [s3 (by omega)]; exact hk
    rw [if_pos (show nI tok = 1 by rw [htok1]; rfl), mb_gI (w := (I1, z)) hM.o] at hstart
    simp only [b7] at hstart
    by_cases h6 : tkE tx p - tkB tx p ≤ 6
    · rw [if_pos (show nI (tkE tx p - tkB tx p) ≤ 6 from nI_le (b := 6) h6 (by omega)), mb_gI (w := (I1, z)) hM.o] at hstart
      simp only [b7] at hstart
      rw [mb_mp, show nI (tkE tx p - tkB tx p) * 1048576 = nI ((tkE tx p - tkB tx p) * 1048576) by rw [show (1048576 : Int32) = nI 1048576 from rfl, pk_mul], mb_gI (w := (I1, z)) hM.o] at hstart
      simp only [b4] at hstart
      have hlen := wdT_len (tx := tx) hp
      have hbl := l4 (by omega)
      have hgen : ∀ n i, i + n = tkE tx p - tkB tx p → (∀ c ∈ (wdT tx p).take i, c < 8) → ∀ f, n < f → lp (fun k (s : Int32 × Int32) => m_X8_readWord_B38 33 (nI ((tkE tx p - tkB tx p) * 1048576)) k s.1 s.2) f (nI (b8 ((wdT tx p).take i)), nI (tkB tx p + i)) (I1, z) = (if (∀ c ∈ wdT tx p, c < 8) then (mb (vc 7 33 (m_X8_addWord 33 (rcI (wdT tx p)))) fun _ => mb (gI 7 15 33) fun wordMany7 => if wordMany7 ≤ 16 then mp (rcI (wdT tx p)) else mp 0) else mp 0) (I1, z) := by
        intro n
        induction n with
        | zero =>
          intro i hi hg f hf
          obtain ⟨g, rfl⟩ : ∃ g, f = g + 1 := ⟨f - 1, by omega⟩
          have htk : (wdT tx p).take i = wdT tx p := List.take_of_length_le (by omega)
          rw [htk] at hg ⊢
          rw [lp_s, if_pos hg]
          unfold m_X8_readWord_B38
          rw [mb_gI (w := (I1, z)) hM.o]
          simp only [b3]
          rw [if_pos (nI_le (by omega) (by omega)), nI_add, show (tkE tx p - tkB tx p) * 1048576 + b8 (wdT tx p) = rc (wdT tx p) by unfold rc; rw [hlen]]
          rfl
        | succ n ih =>
          intro i hi hg f hf
          obtain ⟨g, rfl⟩ : ∃ g, f = g + 1 := ⟨f - 1, by omega⟩
          obtain ⟨c, hc, hc97, hc122⟩ := tk_letters hk (show tkB tx p ≤ tkB tx p + i by omega) (show tkB tx p + i < tkE tx p by omega)
          have hd : (wdT tx p)[i]? = some (c - 97) := by rw [wdT_get hp, if_pos (by omega), hc]; rfl
          have hrow : I1 34 (tkB tx p + i) = nI c := by rw [bx 34 (by omega)]; exact t2 _ c hc
          have ih := ih (i + 1) (by omega)
          rw [lp_s]
          show m_X8_readWord_B38 33 (nI ((tkE tx p - tkB tx p) * 1048576)) (lp (fun k (s : Int32 × Int32) => m_X8_readWord_B38 33 (nI ((tkE tx p - tkB tx p) * 1048576)) k s.1 s.2) g) (nI (b8 ((wdT tx p).take i))) (nI (tkB tx p + i)) (I1, z) = _
          generalize hkk : lp (fun k (s : Int32 × Int32) => m_X8_readWord_B38 33 (nI ((tkE tx p - tkB tx p) * 1048576)) k s.1 s.2) g = kk
          unfold m_X8_readWord_B38
          rw [mb_gI (w := (I1, z)) hM.o]
          simp only [b3]
          rw [if_neg (nI_ge (by omega) (by omega)), mb_gR (w := (I1, z)) hM.o hM.rText, mb_aI (w := (I1, z)) hM.sText (show tkB tx p + i < 150 by omega) (by omega)]
          simp only [show (33 + 1) = 34 from rfl, hrow]
          by_cases h104 : c ≤ 104
          · rw [if_pos (show nI c ≤ 104 from nI_le (b := 104) h104 (by omega)), mb_gR (w := (I1, z)) hM.o hM.rText, mb_aI (w := (I1, z)) hM.sText (show tkB tx p + i < 150 by omega) (by omega)]
            simp only [show (33 + 1) = 34 from rfl, hrow]
            rw [mb_mp, nI_1, show (8 : Int32) * nI (b8 ((wdT tx p).take i)) + nI c - 97 = nI (b8 ((wdT tx p).take (i + 1))) by
              rw [take_snoc hd, b8_snoc, show (8 : Int32) = nI 8 from rfl, pk_mul, nI_add, show (97 : Int32) = nI 97 from rfl, nI_sub (by omega)]
              congr 1; omega, ← hkk]
            refine ih (fun d hd' => ?_) g (by omega)
            rw [take_snoc hd] at hd'
            rcases List.mem_append.mp hd' with hd' | hd'
            · exact hg d hd'
            · rw [List.mem_singleton.mp hd']; omega
          · rw [if_neg (show ¬ nI c ≤ 104 from nI_ge (a := 104) (by omega) (by omega)), if_neg]
            intro hall
            have := hall (c - 97) (List.mem_of_getElem? hd)
            omega
      have hrun := hgen (tkE tx p - tkB tx p) 0 (by omega) (by simp) FU (by unfold FU; omega)
      rw [show lp (fun k (s : Int32 × Int32) => m_X8_readWord_B38 33 (nI ((tkE tx p - tkB tx p) * 1048576)) k s.1 s.2) FU (0, nI (tkB tx p)) (I1, z) = _ from hrun] at hstart
      by_cases hall : ∀ c ∈ wdT tx p, c < 8
      · rw [if_pos hall] at hstart
        have hok : okW (wdT tx p) := ⟨by omega, by omega, hall⟩
        obtain ⟨I2, e2, c1, c2, c3⟩ := addWord_ok hM hRW1 hW (by omega) hok
        have c15 : I2 33 15 = nI (winsW W (wdT tx p)).length := c1.1
        have hmem : pkI (wdT tx p) ∈ W.map pkI ↔ wdT tx p ∈ W := by
          constructor
          · intro hm
            obtain ⟨v, hv, e⟩ := List.mem_map.mp hm
            have hvo := hW.1 v hv
            rw [← pkI_inj hvo.2.2 hok.2.2 hvo.2.1 hok.2.1 e]; exact hv
          · intro hm; exact List.mem_map_of_mem hm
        have hwl : (winsW W (wdT tx p)).length ≤ 16 ↔ (wdT tx p ∈ W ∨ W.length < 16) := by
          have e : (winsW W (wdT tx p)).length = (wins (W.map pkI) (pkI (wdT tx p))).length := by rw [← winsW_map, List.length_map]
          rw [e]
          by_cases hm : pkI (wdT tx p) ∈ W.map pkI
          · unfold wins; rw [if_pos hm, List.length_map]
            exact ⟨fun _ => Or.inl (hmem.mp hm), fun _ => h16⟩
          · rw [wins_len hm, List.length_map]
            exact ⟨fun hh => Or.inr (by omega), fun hh => by
              rcases hh with hh | hh
              · exact absurd (hmem.mpr hh) hm
              · omega⟩
        have hle := winsW_le W (wdT tx p)
        have hTok2 : TokR I2 tx p := by
          refine ⟨by rw [c3 3 (by omega)]; exact b3, by rw [c3 4 (by omega)]; exact b4, by rw [c3 7 (by omega)]; exact b7, ?_, hp⟩
          exact ⟨tok, v, by rw [c3 5 (by omega)]; exact s1, s2, s3, by rw [c3 6 (by omega)]; exact s4, by rw [c3 6 (by omega)]; exact s5⟩
        refine ⟨I2, hTok2, fun k a b => by rw [c3 k b, bk k a], fun x a b => by rw [c2 x a b, bx x a], ?_⟩
        rw [mb_vc (w := (I1, z)) hM.o, mb_call e2, mb_gI (w := (I2, z)) hM.o] at hstart
        simp only [c15] at hstart
        by_cases hroom : wdT tx p ∈ W ∨ W.length < 16
        · rw [if_pos (show nI (winsW W (wdT tx p)).length ≤ 16 from nI_le (b := 16) (hwl.mpr hroom) (by omega))] at hstart
          exact Or.inr ⟨⟨hk, h6, hall, hroom⟩, hok, hstart, c1⟩
        · rw [if_neg (show ¬ nI (winsW W (wdT tx p)).length ≤ 16 from nI_ge (a := 16) (by have h17 : ¬ (winsW W (wdT tx p)).length ≤ 16 := fun hh => hroom (hwl.mp hh); omega) (by omega))] at hstart
          exact Or.inl ⟨fun hh => hroom hh.2.2.2, hstart⟩
      · rw [if_neg hall] at hstart
        exact fin (fun hh => hall hh.2.2.1) hstart
    · rw [if_neg (show ¬ nI (tkE tx p - tkB tx p) ≤ 6 from nI_ge (a := 6) (by omega) (by omega))] at hstart
      exact fin (fun hh => h6 hh.2.1) hstart
  · have htok1 : ¬ nI tok = 1 := by
      intro e
      have ht1 := (nI_eq (b := 1) (by omega) (by omega)).mp e
      by_cases hk2 : tkK tx p = 2
      · have := (s5 hk2).1; omega
      · have := s3 hk2; omega
    rw [if_neg htok1] at hstart
    exact fin (fun hh => hk hh.1) hstart
end RWD
