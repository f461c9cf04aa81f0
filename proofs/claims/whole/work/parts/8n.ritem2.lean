/-! ===== the reference's readPart(), readItem() ===== -/
section RIT2
variable {z : Zd} {I : Nat → Nat → Int32} {tx : List Nat} {n0 : Nat} {qs : List (List Pt)} {ls : List Nat} {p : Nat}
/-- a step with the cursor at p -/
theorem SR_step (h : SR0 z I tx n0 qs ls p) : ∃ I', m_X8_step 33 (I, z) = some ((), (I', z)) ∧ SR0 z I' tx n0 qs ls (tkE tx p) ∧ TokR I' tx p ∧ FrR I I' := by
  obtain ⟨h1, h2, h3, h4, h5, h6, h7⟩ := h
  obtain ⟨I', e, b3, b4, b7, bS, bk, bx⟩ := step_ok h1 h2.1 h2.2
  exact ⟨I', e, ⟨h1.kept (bk 2 (by omega)) (bx 34 (by omega)), ⟨b3, (tkE_le tx h2.2).1⟩, by rw [bx 36 (by omega)]; exact h3, h4, by unfold RW; rw [bk 15 (by omega), bx 40 (by omega)]; exact h5, by rw [bx 35 (by omega)]; exact h6, h7⟩, ⟨b3, b4, b7, bS, h2.2⟩, fun k a _ => bk k a, fun x a _ _ => bx x a⟩
/-- four cells of the row fresh, and how many parts -/
theorem J165_ok (hM : MO z 33) (h8 : qs.length ≤ 8) (h0 : 0 < qs.length) (hl4 : (lastQ qs).length < 4) (hc : I 36 (42 + 17 * (qs.length - 1)) = nI (lastQ qs).length) : m_X8_readPart_J165 33 (nI (qs.length - 1)) (I, z) = some (1, (u2 I 36 (42 + 17 * (qs.length - 1)) (nI ((lastQ qs).length + 1)), z)) := by
  unfold m_X8_readPart_J165
  rw [mb_gR (w := (I, z)) hM.o hM.rFresh, show (42 : Int32) + 17 * nI (qs.length - 1) = nI (42 + 17 * (qs.length - 1)) by rw [show (17 : Int32) = nI 17 from rfl, show (42 : Int32) = nI 42 from rfl, pk_mul, nI_add], mb_aI (w := (I, z)) hM.sFresh (show 42 + 17 * (qs.length - 1) < 178 by omega) (by omega)]
  simp only [show (33 + 3) = 36 from rfl, hc]
  rw [nI_1, mb_tI (w := (I, z)) hM.sFresh (show 42 + 17 * (qs.length - 1) < 178 by omega) (by omega)]
  rfl
theorem SR_addP {I' : Nat → Nat → Int32} {p' : Nat} (h : SR0 z I tx n0 qs ls p) (h0 : 0 < qs.length) (h4 : (lastQ qs).length < 4) (P : Pt) (hoP : okP P) (h1n : P.1 = 2 → ∀ P' ∈ lastQ qs, P'.1 ≠ 2) (h16 : (Wq (addP qs P)).length ≤ 16) (f : FrR I I') (hp' : I' 33 3 = nI p' ∧ p' ≤ tx.length) (hW : RW I' 33 (Wq (addP qs P)))
    (e : ∀ k, k ≠ 42 + 17 * (qs.length - 1) → (k < 43 + 17 * (qs.length - 1) + 4 * (lastQ qs).length ∨ 46 + 17 * (qs.length - 1) + 4 * (lastQ qs).length < k) → I' 36 k = I 36 k)
    (en : I' 36 (42 + 17 * (qs.length - 1)) = nI ((lastQ qs).length + 1)) (e0 : I' 36 (43 + 17 * (qs.length - 1) + 4 * (lastQ qs).length) = nI P.1) (e1 : I' 36 (44 + 17 * (qs.length - 1) + 4 * (lastQ qs).length) = rcI P.2.1) (e2 : I' 36 (45 + 17 * (qs.length - 1) + 4 * (lastQ qs).length) = rcI P.2.2.1) (e3 : I' 36 (46 + 17 * (qs.length - 1) + 4 * (lastQ qs).length) = nI P.2.2.2) : SR0 z I' tx n0 (addP qs P) ls p' := by
  obtain ⟨a1, a2, a3, a4, a5, a6, a7⟩ := h
  exact ⟨a1.kept (f.1 2 (by omega) (by omega)) (f.2 34 (by omega) (by omega) (by omega)), hp', RR_addP a4.1 a3 h0 h4 P e en e0 e1 e2 e3, okHS_addP a4 h0 h4 hoP h1n h16, hW, by rw [f.2 35 (by omega) (by omega) (by omega)]; exact a6, by rw [addP_len h0]; exact a7⟩
theorem rpartS_ok (h : SR0 z I tx n0 qs ls (tkE tx p)) (hm : mayP n0 qs) (s : Nat) (hs : s < 2) : ResR z I tx n0 ls (iff' (okT tx (Wq qs) (tkE tx p)) (stp tx (addP qs (s, wdT tx (tkE tx p), [], 0)) (tkE tx (tkE tx p))) (bad (tkB tx (tkE tx p)))) (m_X8_readPart 33 (nI s) (I, z)) := by
  obtain ⟨h1, h2, h3, h4, h5, h6, h7⟩ := id h
  have hM := h1.1
  have h8 : qs.length ≤ 8 := h4.1.1
  have h0 : 0 < qs.length := by have := hm.1; omega
  have hl4 : (lastQ qs).length < 4 := hm.2
  have hq0 : I 36 0 = nI qs.length := h3.1
  have hW : okL (Wq qs) := okL.gat okL_nil h4.1.allw
  generalize hp1 : tkE tx p = p1 at *
  generalize hq : qs.length - 1 = q at *
  generalize hmm : (lastQ qs).length = m at *
  unfold m_X8_readPart
  rw [mb_gR (w := (I, z)) hM.o hM.rFresh, show aI (33 + 3) 0 = aI 36 (nI 0) from rfl, mb_aI (w := (I, z)) hM.sFresh (show 0 < 178 by omega) (by omega)]
  simp only [hq0]
  rw [mb_mp, show nI qs.length - 1 = nI q by rw [← hq]; exact nI_sub (b := 1) (by omega), mb_gR (w := (I, z)) hM.o hM.rFresh, mb_call (parts_ok (w := (I, z)) (r := 36) hM.sFresh (show q < 8 by omega))]
  have hlc : I 36 (42 + 17 * q) = nI m := by rw [← hq, ← hmm]; exact rlast h3 h0
  simp only [hlc]
  rw [mb_mp, show (42 : Int32) + 17 * nI q + 1 + 4 * nI m = nI (43 + 17 * q + 4 * m) by
    rw [show (17 : Int32) = nI 17 from rfl, show (42 : Int32) = nI 42 from rfl, show (4 : Int32) = nI 4 from rfl, show (1 : Int32) = nI 1 from rfl, pk_mul, pk_mul, nI_add, nI_add, nI_add]
    congr 1; omega, mb_vc (w := (I, z)) hM.o]
  obtain ⟨I1, hT1, k1, x1, hcase⟩ := rreadWord_ok h1 h2.1 h2.2 h5 hW h4.2.1
  have f1 : FrR I I1 := ⟨k1, fun x a _ c => x1 x a c⟩
  rcases hcase with ⟨hno, e⟩ | ⟨hyes, hok, e, hW1⟩
  · rw [iff_f hno, mb_call e, if_pos rfl]
    exact ⟨I1, f1, Or.inl ⟨_, rfl, rfl, hT1.2.1⟩⟩
  · rw [iff_t hyes, mb_call e, if_neg (rc_ne0 hok), if_neg (show ¬ nI s = 2 from fun e => by have := (nI_eq (b := 2) (by omega) (by omega)).mp e; omega)]
    unfold m_X8_readPart_J60
    rw [if_neg (rc_ne0 hok), mb_gR (w := (I1, z)) hM.o hM.rFresh, mb_tI (w := (I1, z)) hM.sFresh (show 43 + 17 * q + 4 * m < 178 by omega) (by omega)]
    generalize hJ1 : u2 I1 (33 + 3) (43 + 17 * q + 4 * m) (nI s) = J1
    rw [mb_gR (w := (J1, z)) hM.o hM.rFresh, nI_1, mb_tI (w := (J1, z)) hM.sFresh (show 43 + 17 * q + 4 * m + 1 < 178 by omega) (by omega)]
    generalize hJ2 : u2 J1 (33 + 3) (43 + 17 * q + 4 * m + 1) (rcI (wdT tx p1)) = J2
    rw [mb_gR (w := (J2, z)) hM.o hM.rFresh, if_neg (show ¬ nI s = 2 from fun e => by have := (nI_eq (b := 2) (by omega) (by omega)).mp e; omega)]
    unfold m_X8_readPart_J107
    rw [show nI (43 + 17 * q + 4 * m) + 2 = nI (43 + 17 * q + 4 * m + 2) from nI_add _ 2, mb_tI (w := (J2, z)) hM.sFresh (show 43 + 17 * q + 4 * m + 2 < 178 by omega) (by omega)]
    generalize hJ3 : u2 J2 (33 + 3) (43 + 17 * q + 4 * m + 2) 0 = J3
    rw [mb_gR (w := (J3, z)) hM.o hM.rFresh, show nI (43 + 17 * q + 4 * m) + 3 = nI (43 + 17 * q + 4 * m + 3) from nI_add _ 3, mb_tI (w := (J3, z)) hM.sFresh (show 43 + 17 * q + 4 * m + 3 < 178 by omega) (by omega), if_neg (show ¬ nI s = 2 from fun e => by have := (nI_eq (b := 2) (by omega) (by omega)).mp e; omega)]
    generalize hJ4 : u2 J3 (33 + 3) (43 + 17 * q + 4 * m + 3) 0 = J4
    have r0 : J4 36 (43 + 17 * q + 4 * m) = nI s := by rw [← hJ4, u2_ne (Or.inr (by omega)), ← hJ3, u2_ne (Or.inr (by omega)), ← hJ2, u2_ne (Or.inr (by omega)), ← hJ1]; exact u2_eq _ _ _ _
    have r1 : J4 36 (44 + 17 * q + 4 * m) = rcI (wdT tx p1) := by rw [show 44 + 17 * q + 4 * m = 43 + 17 * q + 4 * m + 1 by omega, ← hJ4, u2_ne (Or.inr (by omega)), ← hJ3, u2_ne (Or.inr (by omega)), ← hJ2]; exact u2_eq _ _ _ _
    have r2 : J4 36 (45 + 17 * q + 4 * m) = 0 := by rw [show 45 + 17 * q + 4 * m = 43 + 17 * q + 4 * m + 2 by omega, ← hJ4, u2_ne (Or.inr (by omega)), ← hJ3]; exact u2_eq _ _ _ _
    have r3 : J4 36 (46 + 17 * q + 4 * m) = 0 := by rw [show 46 + 17 * q + 4 * m = 43 + 17 * q + 4 * m + 3 by omega, ← hJ4]; exact u2_eq _ _ _ _
    have rk : ∀ k, (k < 43 + 17 * q + 4 * m ∨ 46 + 17 * q + 4 * m < k) → J4 36 k = I 36 k := fun k hk => by
      rw [← hJ4, u2_ne (Or.inr (by omega)), ← hJ3, u2_ne (Or.inr (by omega)), ← hJ2, u2_ne (Or.inr (by omega)), ← hJ1, u2_ne (Or.inr (by omega)), x1 36 (by omega) (by omega)]
    have rx : ∀ x, x ≠ 36 → J4 x = I1 x := fun x hx => by
      rw [← hJ4, u2_row hx, ← hJ3, u2_row hx, ← hJ2, u2_row hx, ← hJ1, u2_row hx]
    have hend := J165_ok (I := J4) hM h8 h0 (by omega) (by rw [hq, rk _ (by omega), hmm]; exact hlc)
    rw [hq, hmm] at hend
    rw [hend]
    have hWq : Wq (addP qs (s, wdT tx p1, [], 0)) = winsW (Wq qs) (wdT tx p1) := Wq_has h0 (show s ≠ 2 by omega)
    have hoP : okP (s, wdT tx p1, [], 0) := ⟨by show s ≤ 2; omega, hok, fun e => by exact absurd (show s = 2 from e) (by omega), fun _ => ⟨rfl, rfl⟩⟩
    have f5 : FrR I (u2 J4 36 (42 + 17 * q) (nI (m + 1))) := ⟨fun k a b => by rw [u2_row (by omega), rx 33 (by omega)]; exact k1 k a b, fun x a b c => by rw [u2_row b, rx x b]; exact x1 x a c⟩
    refine ⟨_, f5, Or.inr ⟨_, _, rfl, rfl, SR_addP h h0 (by omega) (s, wdT tx p1, [], 0) hoP (fun e => by exact absurd (show s = 2 from e) (by omega)) (by rw [hWq]; exact wins16 hW h4.2.1 hok hyes.2.2.2) f5 ?_ ?_ ?_ ?_ ?_ ?_ ?_ ?_⟩⟩
    · exact ⟨by rw [u2_row (by omega), rx 33 (by omega)]; exact hT1.1, (tkE_le tx h2.2).1⟩
    · unfold RW; rw [hWq, u2_row (by omega), u2_row (by omega), rx 33 (by omega), rx (33 + 7) (by omega)]; exact hW1
    · rw [hq, hmm]; intro k a b; rw [u2_ne (Or.inr a), rk k b]
    · rw [hq, hmm, u2_eq]
    · rw [hq, hmm, u2_ne (Or.inr (by omega))]; exact r0
    · rw [hq, hmm, u2_ne (Or.inr (by omega))]; exact r1
    · rw [hq, hmm, u2_ne (Or.inr (by omega))]; rw [r2]; show (0 : Int32) = rcI []; decide
    · rw [hq, hmm, u2_ne (Or.inr (by omega))]; exact r3
theorem rnear_ok (h : SR0 z I tx n0 qs ls (tkE tx p)) (hm : mayP n0 qs) (han : anyN (lastQ qs) = false) : ResR z I tx n0 ls (iff' (okT tx (Wq qs) (tkE tx p)) (iff' (okT tx (winsW (Wq qs) (wdT tx (tkE tx p))) (tkE tx (tkE tx p))) (iff' (okD tx (tkE tx (tkE tx (tkE tx p)))) (stp tx (addP qs (2, wdT tx (tkE tx (tkE tx p)), wdT tx (tkE tx p), dig tx (tkE tx (tkE tx (tkE tx p))))) (tkE tx (tkE tx (tkE tx (tkE tx p))))) (bad (tkB tx (tkE tx (tkE tx (tkE tx p)))))) (bad (tkB tx (tkE tx (tkE tx p))))) (bad (tkB tx (tkE tx p)))) (m_X8_readPart 33 2 (I, z)) := by
  obtain ⟨h1, h2, h3, h4, h5, h6, h7⟩ := id h
  have hM := h1.1
  have h8 : qs.length ≤ 8 := h4.1.1
  have h0 : 0 < qs.length := by have := hm.1; omega
  have hl4 : (lastQ qs).length < 4 := hm.2
  have hq0 : I 36 0 = nI qs.length := h3.1
  have hW : okL (Wq qs) := okL.gat okL_nil h4.1.allw
  generalize hp1 : tkE tx p = p1 at *
  generalize hp2 : tkE tx p1 = p2 at *
  generalize hp3 : tkE tx p2 = p3 at *
  generalize hq : qs.length - 1 = q at *
  generalize hmm : (lastQ qs).length = m at *
  unfold m_X8_readPart
  rw [mb_gR (w := (I, z)) hM.o hM.rFresh, show aI (33 + 3) 0 = aI 36 (nI 0) from rfl, mb_aI (w := (I, z)) hM.sFresh (show 0 < 178 by omega) (by omega)]
  simp only [hq0]
  rw [mb_mp, show nI qs.length - 1 = nI q by rw [← hq]; exact nI_sub (b := 1) (by omega), mb_gR (w := (I, z)) hM.o hM.rFresh, mb_call (parts_ok (w := (I, z)) (r := 36) hM.sFresh (show q < 8 by omega))]
  have hlc : I 36 (42 + 17 * q) = nI m := by rw [← hq, ← hmm]; exact rlast h3 h0
  simp only [hlc]
  rw [mb_mp, show (42 : Int32) + 17 * nI q + 1 + 4 * nI m = nI (43 + 17 * q + 4 * m) by
    rw [show (17 : Int32) = nI 17 from rfl, show (42 : Int32) = nI 42 from rfl, show (4 : Int32) = nI 4 from rfl, show (1 : Int32) = nI 1 from rfl, pk_mul, pk_mul, nI_add, nI_add, nI_add]
    congr 1; omega, mb_vc (w := (I, z)) hM.o]
  obtain ⟨I1, hT1, k1, x1, hcase⟩ := rreadWord_ok h1 h2.1 h2.2 h5 hW h4.2.1
  have f1 : FrR I I1 := ⟨k1, fun x a _ c => x1 x a c⟩
  rcases hcase with ⟨hno, e⟩ | ⟨hyes, hok, e, hW1⟩
  · rw [iff_f hno, mb_call e, if_pos rfl]
    exact ⟨I1, f1, Or.inl ⟨_, rfl, rfl, hT1.2.1⟩⟩
  rw [iff_t hyes, mb_call e, if_neg (rc_ne0 hok), if_pos trivial, mb_vc (w := (I1, z)) hM.o]
  have hW2 := hW.wins hok
  have h162 := wins16 hW h4.2.1 hok hyes.2.2.2
  have hRT1 : RT z I1 tx := h1.kept (k1 2 (by omega) (by omega)) (x1 34 (by omega) (by omega))
  have hp2l : p2 ≤ tx.length := by rw [← hp2]; exact (tkE_le tx h2.2).1
  obtain ⟨I2, hT2, k2, x2, hcase2⟩ := rreadWord_ok hRT1 (p := p2) (by rw [← hp2]; exact hT1.1) hp2l hW1 hW2 h162
  have f2 : FrR I1 I2 := ⟨k2, fun x a _ c => x2 x a c⟩
  rcases hcase2 with ⟨hno2, e2⟩ | ⟨hyes2, hok2, e2, hWW⟩
  · rw [iff_f hno2, mb_call e2]
    unfold m_X8_readPart_J60
    rw [if_pos rfl]
    exact ⟨I2, f1.trans f2, Or.inl ⟨_, rfl, rfl, hT2.2.1⟩⟩
  rw [iff_t hyes2, mb_call e2]
  unfold m_X8_readPart_J60
  rw [if_neg (rc_ne0 hok2), mb_gR (w := (I2, z)) hM.o hM.rFresh, mb_tI (w := (I2, z)) hM.sFresh (show 43 + 17 * q + 4 * m < 178 by omega) (by omega)]
  generalize hJ1 : u2 I2 (33 + 3) (43 + 17 * q + 4 * m) 2 = J1
  rw [mb_gR (w := (J1, z)) hM.o hM.rFresh, nI_1, mb_tI (w := (J1, z)) hM.sFresh (show 43 + 17 * q + 4 * m + 1 < 178 by omega) (by omega)]
  generalize hJ2 : u2 J1 (33 + 3) (43 + 17 * q + 4 * m + 1) (rcI (wdT tx p2)) = J2
  rw [mb_gR (w := (J2, z)) hM.o hM.rFresh, if_pos rfl]
  unfold m_X8_readPart_J107
  rw [show nI (43 + 17 * q + 4 * m) + 2 = nI (43 + 17 * q + 4 * m + 2) from nI_add _ 2, mb_tI (w := (J2, z)) hM.sFresh (show 43 + 17 * q + 4 * m + 2 < 178 by omega) (by omega)]
  generalize hJ3 : u2 J2 (33 + 3) (43 + 17 * q + 4 * m + 2) (rcI (wdT tx p1)) = J3
  rw [mb_gR (w := (J3, z)) hM.o hM.rFresh, show nI (43 + 17 * q + 4 * m) + 3 = nI (43 + 17 * q + 4 * m + 3) from nI_add _ 3, mb_tI (w := (J3, z)) hM.sFresh (show 43 + 17 * q + 4 * m + 3 < 178 by omega) (by omega), if_pos rfl]
  generalize hJ4 : u2 J3 (33 + 3) (43 + 17 * q + 4 * m + 3) 0 = J4
  have r0 : J4 36 (43 + 17 * q + 4 * m) = 2 := by rw [← hJ4, u2_ne (Or.inr (by omega)), ← hJ3, u2_ne (Or.inr (by omega)), ← hJ2, u2_ne (Or.inr (by omega)), ← hJ1]; exact u2_eq _ _ _ _
  have r1 : J4 36 (44 + 17 * q + 4 * m) = rcI (wdT tx p2) := by rw [show 44 + 17 * q + 4 * m = 43 + 17 * q + 4 * m + 1 by omega, ← hJ4, u2_ne (Or.inr (by omega)), ← hJ3, u2_ne (Or.inr (by omega)), ← hJ2]; exact u2_eq _ _ _ _
  have r2 : J4 36 (45 + 17 * q + 4 * m) = rcI (wdT tx p1) := by rw [show 45 + 17 * q + 4 * m = 43 + 17 * q + 4 * m + 2 by omega, ← hJ4, u2_ne (Or.inr (by omega)), ← hJ3]; exact u2_eq _ _ _ _
  have rk : ∀ k, (k < 43 + 17 * q + 4 * m ∨ 46 + 17 * q + 4 * m < k) → J4 36 k = I 36 k := fun k hk => by
    rw [← hJ4, u2_ne (Or.inr (by omega)), ← hJ3, u2_ne (Or.inr (by omega)), ← hJ2, u2_ne (Or.inr (by omega)), ← hJ1, u2_ne (Or.inr (by omega)), x2 36 (by omega) (by omega), x1 36 (by omega) (by omega)]
  have rx : ∀ x, x ≠ 36 → J4 x = I2 x := fun x hx => by
    rw [← hJ4, u2_row hx, ← hJ3, u2_row hx, ← hJ2, u2_row hx, ← hJ1, u2_row hx]
  have hRT4 : RT z J4 tx := hRT1.kept (by rw [rx 33 (by omega)]; exact k2 2 (by omega) (by omega)) (by rw [rx 34 (by omega)]; exact x2 34 (by omega) (by omega))
  have hp3l : p3 ≤ tx.length := by rw [← hp3]; exact (tkE_le tx hp2l).1
  obtain ⟨I5, e5, b3, b4, b7, ⟨tok, v, s1, s2, s3, s4, s5⟩, bk, bx⟩ := step_ok hRT4 (p := p3) (by rw [rx 33 (by omega), ← hp3]; exact hT2.1) hp3l
  have f5 : FrR I I5 := ⟨fun k a b => by rw [bk k a, rx 33 (by omega), k2 k a b, k1 k a b], fun x a b c => by rw [bx x a, rx x b, x2 x a c, x1 x a c]⟩
  have hbad : ¬ okD tx p3 → ResR z I tx n0 ls (iff' (okD tx p3) (stp tx (addP qs (2, wdT tx p2, wdT tx p1, dig tx p3)) (tkE tx p3)) (bad (tkB tx p3))) (rZ 0 (I5, z)) := fun hh => by
    rw [iff_f hh]
    exact ⟨I5, f5, Or.inl ⟨_, rfl, rfl, b4⟩⟩
  have hk4 := tkK_le tx p3
  rw [mb_vc (w := (J4, z)) hM.o, mb_call e5, mb_gI (w := (I5, z)) hM.o]
  simp only [s1]
  by_cases hk2 : tkK tx p3 = 2
  · obtain ⟨t1, t2, t3, t4, t5⟩ := s5 hk2
    by_cases ht2 : tok = 2
    · rw [if_pos (show nI tok = 2 by rw [ht2]; rfl), mb_gI (w := (I5, z)) hM.o]
      simp only [t2]
      rw [mb_call (in_ok _ _ _ _), Int32.toInt_toInt64, nI_toInt (by omega), show (1 : Int64).toInt = 1 by decide, show (9 : Int64).toInt = 9 by decide]
      by_cases hv : 1 ≤ v ∧ v ≤ 9
      · obtain ⟨q1, q2⟩ := t4.mp ⟨ht2, hv⟩
        obtain ⟨c, hc, hcv⟩ := t5 q1
        have hdig : dig tx p3 = v := by unfold dig; rw [hc]; show c - 48 = v; omega
        rw [decide_eq_true (show (1 : Int) ≤ (v : Int) ∧ (v : Int) ≤ 9 by omega), if_neg (show ¬ bI true = 0 by decide), iff_t (show okD tx p3 from ⟨hk2, q1, q2⟩), hdig, mb_gR (w := (I5, z)) hM.o hM.rFresh, mb_gI (w := (I5, z)) hM.o]
        simp only [t2]
        rw [mb_tI (w := (I5, z)) hM.sFresh (show 43 + 17 * q + 4 * m + 3 < 178 by omega) (by omega)]
        generalize hJ6 : u2 I5 (33 + 3) (43 + 17 * q + 4 * m + 3) (nI v) = J6
        have r6 : ∀ k, k ≠ 43 + 17 * q + 4 * m + 3 → J6 36 k = J4 36 k := fun k hk => by rw [← hJ6, u2_ne (Or.inr hk), bx 36 (by omega)]
        have r6e : J6 36 (46 + 17 * q + 4 * m) = nI v := by rw [show 46 + 17 * q + 4 * m = 43 + 17 * q + 4 * m + 3 by omega, ← hJ6]; exact u2_eq _ _ _ _
        have rx6 : ∀ x, x ≠ 36 → J6 x = I5 x := fun x hx => by rw [← hJ6, u2_row hx]
        have hend := J165_ok (I := J6) hM h8 h0 (by omega) (by rw [hq, r6 _ (by omega), rk _ (by omega), hmm]; exact hlc)
        rw [hq, hmm] at hend
        rw [hend]
        have hWq : Wq (addP qs (2, wdT tx p2, wdT tx p1, v)) = winsW (winsW (Wq qs) (wdT tx p1)) (wdT tx p2) := Wq_near h0 hW (P := (2, wdT tx p2, wdT tx p1, v)) rfl hok2 hok
        have hoP : okP (2, wdT tx p2, wdT tx p1, v) := ⟨Nat.le_refl 2, hok2, fun _ => ⟨hok, hv⟩, fun hh => absurd rfl hh⟩
        have f7 : FrR I (u2 J6 36 (42 + 17 * q) (nI (m + 1))) := ⟨fun k a b => by rw [u2_row (by omega), rx6 33 (by omega)]; exact f5.1 k a b, fun x a b c => by rw [u2_row b, rx6 x b]; exact f5.2 x a b c⟩
        refine ⟨_, f7, Or.inr ⟨_, _, rfl, rfl, SR_addP h h0 (by omega) (2, wdT tx p2, wdT tx p1, v) hoP (fun _ P' hP' e => ?_) (by rw [hWq]; exact wins16 hW2 h162 hok2 hyes2.2.2.2) f7 ?_ ?_ ?_ ?_ ?_ ?_ ?_ ?_⟩⟩
        · unfold anyN at han
          rw [List.any_eq_false] at han
          exact han P' hP' (by simp [e])
        · exact ⟨by rw [u2_row (by omega), rx6 33 (by omega)]; exact b3, (tkE_le tx hp3l).1⟩
        · unfold RW; rw [hWq, u2_row (by omega), u2_row (by omega), rx6 33 (by omega), rx6 (33 + 7) (by omega), bk 15 (by omega), bx (33 + 7) (by omega), rx 33 (by omega), rx (33 + 7) (by omega)]; exact hWW
        · rw [hq, hmm]; intro k a b; rw [u2_ne (Or.inr a), r6 k (by omega), rk k b]
        · rw [hq, hmm, u2_eq]
        · rw [hq, hmm, u2_ne (Or.inr (by omega)), r6 _ (by omega)]; exact r0
        · rw [hq, hmm, u2_ne (Or.inr (by omega)), r6 _ (by omega)]; exact r1
        · rw [hq, hmm, u2_ne (Or.inr (by omega)), r6 _ (by omega)]; exact r2
        · rw [hq, hmm, u2_ne (Or.inr (by omega))]; exact r6e
      · rw [decide_eq_false (show ¬ ((1 : Int) ≤ (v : Int) ∧ (v : Int) ≤ 9) by omega), if_pos (show bI false = 0 from rfl)]
        exact hbad (fun hh => hv (t4.mpr hh.2).2)
    · rw [if_neg (show ¬ nI tok = 2 from fun e => ht2 ((nI_eq (b := 2) (by omega) (by omega)).mp e))]
      exact hbad (fun hh => ht2 (t4.mpr hh.2).1)
  · rw [if_neg (show ¬ nI tok = 2 from fun e => hk2 (by rw [← s3 hk2]; exact (nI_eq (b := 2) (by omega) (by omega)).mp e))]
    exact hbad (fun hh => hk2 hh.1)
end RIT2
