/-! ===== adds(): the reference's ===== -/
section RAD
variable {w : Wd} {hs : HS} {hi : List HS} {im : Nat → Option HS} {tx : List Nat} {ns : List (List Nat)}
theorem copyAll_ok {z : Zd} {I : Nat → Nat → Int32} {a b : Nat} (ha : z.2.2[a]? = some (100, 178)) (hb : z.2.2[b]? = some (100, 178)) (hne : a ≠ b) : ∃ I', m_X8_copyAll a b (I, z) = some ((), (I', z)) ∧ (∀ k, k < 178 → I' b k = I a k) ∧ ∀ x, x ≠ b → I' x = I x := by
  obtain ⟨s, y, k, ⟨rfl, K, rfl, k1, k2⟩, e⟩ := lp_FUi (F := fun k s => m_X8_copyAll_B2 a b k s) (fun i s y => s = nI i ∧ ∃ K, y = (K, z) ∧ (∀ j, j < i → K b j = I a j) ∧ ∀ y, y ≠ b → K y = I y) 178 (by omega) (by
    intro i hi' s y hP
    obtain ⟨rfl, K, rfl, k1, k2⟩ := hP
    have hv : K a i = I a i := by rw [k2 a hne]
    refine ⟨nI (i + 1), (u2 K b i (I a i), z), ⟨rfl, _, rfl, fun j hj => ?_, fun y hy => by rw [u2_row hy]; exact k2 y hy⟩, fun k => ?_⟩
    · by_cases hji : j = i
      · subst hji; rw [u2_eq]
      · rw [u2_ne (Or.inr hji)]; exact k1 j (by omega)
    · unfold m_X8_copyAll_B2
      rw [if_neg (show ¬ (178 : Int32) ≤ nI i from nI_ge (b := 178) hi' (by omega)), mb_aI (w := (K, z)) ha hi' (by omega)]
      simp only [hv]
      rw [mb_tI (w := (K, z)) hb hi' (by omega), nI_1]) (s := 0) (w := (I, z)) ⟨rfl, I, rfl, fun j hj => absurd hj (by omega), fun _ _ => rfl⟩
  refine ⟨K, ?_, k1, k2⟩
  unfold m_X8_copyAll
  rw [e]
  unfold m_X8_copyAll_B2
  rw [if_pos (show (178 : Int32) ≤ nI 178 from nI_le (a := 178) (Nat.le_refl _) (by omega))]
  rfl
theorem radds_ok (h : MI w hs hi im tx ns) (hO : OKS hs hi im tx) {ns' : List (List Nat)} (hN : NS (Wo (adHs hs (adR hs tx))) ns') (h97 : ns'.length ≤ 97) : ∃ w', m_X8_adds 33 w = some (adAns hs (adR hs tx), w') ∧ MI w' (adHs hs (adR hs tx)) (adHi hs hi (adR hs tx)) im (adTx tx (adR hs tx)) ns' ∧ frM w w' := by
  obtain ⟨h1, h2, h3, h4, h5, h6, h7⟩ := h
  obtain ⟨I, z⟩ := w
  have hB := hO.1.1
  have n8 : hs.1.length ≤ 8 := hB.1
  generalize hJ : u2 (u2 I 33 0 0) 33 3 0 = J
  have jx : ∀ x, x ≠ 33 → J x = I x := fun x hx => by rw [← hJ, u2_row hx, u2_row hx]
  have jk : ∀ k, k ≠ 0 → k ≠ 3 → J 33 k = I 33 k := fun k a b => by rw [← hJ, u2_ne (Or.inr b), u2_ne (Or.inr a)]
  obtain ⟨I1, e1, c1, c2⟩ := copyAll_ok (I := J) (a := 35) (b := 36) h1.sNow h1.sFresh (by omega)
  have hR35 : RR (I1 35) hs := by rw [c2 35 (by omega), jx 35 (by omega)]; exact h2
  obtain ⟨I2, e2, l1, l2, l3⟩ := layWords_ok (I := I1) (r := 35) h1 h1.sNow ⟨by omega, by omega⟩ hB hR35 hO.1.2.1
  have x2 : ∀ x, x ≠ 33 → x ≠ 36 → x ≠ 40 → I2 x = I x := fun x a b c => by rw [l2 x a c, c2 x b, jx x a]
  have k2 : ∀ k, k ≠ 0 → k ≠ 3 → k ≠ 15 → I2 33 k = I 33 k := fun k a b c => by rw [l3 k c, c2 33 (by omega), jk k a b]
  have h36 : RR (I2 36) hs := RR_cong hB h2 (fun k hk => by rw [l2 36 (by omega) (by omega), c1 k hk, jx 35 (by omega)])
  have hS0 : SR0 z I2 tx hs.1.length hs.1 hs.2 0 := by
    refine ⟨⟨h1, by rw [k2 2 (by omega) (by omega) (by omega)]; exact h4.1, by rw [x2 34 (by omega) (by omega) (by omega)]; exact h4.2, hO.2.2.2.2.1, hO.2.2.2.2.2⟩, ⟨?_, Nat.zero_le _⟩, h36, hO.1, l1, by rw [x2 35 (by omega) (by omega) (by omega)]; exact h2.1, Nat.le_refl _⟩
    rw [l3 3 (by omega), c2 33 (by omega), ← hJ, u2_eq]; rfl
  obtain ⟨I3, e3, hS3, hT3, f3⟩ := SR_step hS0
  obtain ⟨I4, f4, hc⟩ := rloop_ok (tx.length + 1) hs.1 0 I3 hS3 hT3 (by omega) FU (by have := hO.2.2.2.2.1; unfold FU; omega)
  have hrun : m_X8_adds 33 (I, z) = lp (fun k (s : Unit) => m_X8_adds_B33 33 k) FU () (I3, z) := by
    unfold m_X8_adds
    rw [mb_sI (w := (I, z)) h1.o, mb_sI (w := (u2 I 33 0 0, z)) h1.o]
    dsimp only
    rw [hJ, mb_gR (w := (J, z)) h1.o h1.rNow, mb_gR (w := (J, z)) h1.o h1.rFresh, mb_call e1, mb_gR (w := (I1, z)) h1.o h1.rNow, mb_vc (w := (I1, z)) h1.o, mb_call e2, mb_vc (w := (I2, z)) h1.o, mb_call e3]
  have x4 : ∀ x, x ≠ 33 → x ≠ 36 → x ≠ 40 → I4 x = I x := fun x a b c => by rw [f4.2 x a b c, f3.2 x a b c, x2 x a b c]
  have k4 : ∀ k, k ≠ 0 → (k < 3 ∨ 7 < k) → k ≠ 15 → I4 33 k = I 33 k := fun k a b c => by rw [f4.1 k b c, f3.1 k b c, k2 k a (by omega) c]
  rw [hrun]
  unfold adR at hN ⊢
  rcases hc with ⟨F, e5, e6⟩ | ⟨g, qs', e5, e6, hR6, hok6⟩
  · rw [e5] at hN ⊢
    obtain ⟨I5, m1, m2, m3, m4⟩ := rmake_ok (I := I4) (hs := hs) (ns := ns') h1 hO.1 (by rw [x4 35 (by omega) (by omega) (by omega)]; exact h2) hN h97
    have x5 : ∀ x, x ≠ 33 → x ≠ 36 → (x < 40 ∨ 44 < x) → I5 x = I x := fun x a b c => by rw [m3 x a c, x4 x a b (by omega)]
    have k5 : ∀ k, k ≠ 0 → (k < 3 ∨ 7 < k) → k ≠ 15 → k ≠ 17 → I5 33 k = I 33 k := fun k a b c d => by rw [m4 k c d, k4 k a b c]
    refine ⟨(I5, z), e6 I5 m1 (m4 2 (by omega) (by omega)), ⟨h1, ?_, m2, ?_, ?_, ?_, ?_⟩, rfl, fun y hy => ⟨x5 y (by omega) (by omega) (by omega), rfl⟩⟩
    · show RR (I5 35) hs
      rw [x5 35 (by omega) (by omega) (by omega)]; exact h2
    · show I5 33 2 = _ ∧ ∀ (i c : Nat), tx[i]? = some c → I5 34 i = nI c
      rw [k5 2 (by omega) (by omega) (by omega) (by omega), x5 34 (by omega) (by omega) (by omega)]; exact h4
    · show I5 33 11 = _
      rw [k5 11 (by omega) (by omega) (by omega) (by omega)]; exact h5
    · show ∀ (j : Nat) (h : HS), hi[j]? = some h → RR (fun k => I5 37 (178 * j + k)) h
      rw [x5 37 (by omega) (by omega) (by omega)]; exact h6
    · show ∀ i, i < 2 → (im i = none ∧ I5 38 i = 0) ∨ ∃ h, im i = some h ∧ I5 38 i = 1 ∧ RR (fun k => I5 39 (178 * i + k)) h
      rw [x5 38 (by omega) (by omega) (by omega), x5 39 (by omega) (by omega) (by omega)]; exact h7
  · rw [e5] at hN ⊢
    generalize hK : u2 I4 33 2 0 = K
    have kx : ∀ x, x ≠ 33 → K x = I4 x := fun x hx => by rw [← hK, u2_row hx]
    have kk : ∀ k, k ≠ 2 → K 33 k = I4 33 k := fun k hk => by rw [← hK, u2_ne (Or.inr hk)]
    have hK35 : RR (K 35) hs := by rw [kx 35 (by omega), x4 35 (by omega) (by omega) (by omega)]; exact h2
    obtain ⟨I5, a1, a2, a3, a4, a5⟩ := keepAct_ok (I := K) h1 hO.2.2.1 (fun x hx => (hO.2.1 x hx).1) hB hK35 (by rw [kk 11 (by omega), k4 11 (by omega) (by omega) (by omega)]; exact h5) (by rw [kx 37 (by omega), x4 37 (by omega) (by omega) (by omega)]; exact h6)
    have h365 : RR (I5 36) (qs', hs.2) := by rw [a5 36 (by omega) (by omega), kx 36 (by omega)]; exact hR6
    have hf0 : I5 36 0 = nI qs'.length := h365.1
    have hn0 : I5 35 0 = nI hs.1.length := by rw [a5 35 (by omega) (by omega)]; exact hK35.1
    obtain ⟨I6, b1, b2, b3⟩ := copyAll_ok (I := I5) (a := 36) (b := 35) h1.sFresh h1.sNow (by omega)
    have hR35' : RR (I6 35) (qs', hs.2) := RR_cong hok6.1 h365 b2
    obtain ⟨I7, m1, m2, m3, m4⟩ := rmake_ok (I := I6) (hs := (qs', hs.2)) (ns := ns') h1 hok6 hR35' hN h97
    have x7 : ∀ x, x ≠ 33 → x ≠ 35 → x ≠ 36 → x ≠ 37 → (x < 40 ∨ 44 < x) → I7 x = I x := fun x a b c d e => by rw [m3 x a e, b3 x b, a5 x a d, kx x a, x4 x a c (by omega)]
    have k7 : ∀ k, k ≠ 0 → k ≠ 2 → k ≠ 11 → (k < 3 ∨ 7 < k) → k ≠ 15 → k ≠ 17 → I7 33 k = I 33 k := fun k a b c d e f => by rw [m4 k e f, b3 33 (by omega), a4 k c, kk k b, k4 k a d e]
    refine ⟨(I7, z), ?_, ⟨h1, ?_, m2, ?_, ?_, ?_, ?_⟩, rfl, fun y hy => ⟨x7 y (by omega) (by omega) (by omega) (by omega) (by omega), rfl⟩⟩
    · rw [e6]
      unfold rend
      rw [mb_sI (w := (I4, z)) h1.o]
      dsimp only
      rw [hK, mb_vc (w := (K, z)) h1.o, mb_call a1, mb_gR (w := (I5, z)) h1.o h1.rFresh, show aI (33 + 3) 0 = aI 36 (nI 0) from rfl, mb_aI (w := (I5, z)) h1.sFresh (show 0 < 178 by omega) (by omega)]
      simp only [hf0]
      rw [mb_gR (w := (I5, z)) h1.o h1.rNow, show aI (33 + 2) 0 = aI 35 (nI 0) from rfl, mb_aI (w := (I5, z)) h1.sNow (show 0 < 178 by omega) (by omega)]
      simp only [hn0]
      rw [mb_mp, mb_gR (w := (I5, z)) h1.o h1.rFresh, mb_gR (w := (I5, z)) h1.o h1.rNow, mb_call b1, mb_vc (w := (I6, z)) h1.o, mb_call m1]
      rfl
    · show RR (I7 35) (qs', hs.2)
      rw [m3 35 (by omega) (by omega)]; exact hR35'
    · show I7 33 2 = nI 0 ∧ ∀ (i c : Nat), ([] : List Nat)[i]? = some c → I7 34 i = nI c
      refine ⟨?_, fun i c hc => by simp at hc⟩
      rw [m4 2 (by omega) (by omega), b3 33 (by omega), a4 2 (by omega), ← hK, u2_eq]; rfl
    · show I7 33 11 = nI (hpush hi hs).length
      rw [m4 11 (by omega) (by omega), b3 33 (by omega)]; exact a2
    · show ∀ (j : Nat) (h : HS), (hpush hi hs)[j]? = some h → RR (fun k => I7 37 (178 * j + k)) h
      rw [m3 37 (by omega) (by omega), b3 37 (by omega)]; exact a3
    · show ∀ i, i < 2 → (im i = none ∧ I7 38 i = 0) ∨ ∃ h, im i = some h ∧ I7 38 i = 1 ∧ RR (fun k => I7 39 (178 * i + k)) h
      rw [x7 38 (by omega) (by omega) (by omega) (by omega) (by omega), x7 39 (by omega) (by omega) (by omega) (by omega) (by omega)]; exact h7
end RAD
