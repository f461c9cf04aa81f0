/-! ===== an item: pure; the class's readItem() ===== -/
noncomputable def iff' {α : Type} (c : Prop) (a b : α) : α := @ite α c (Classical.propDecidable c) a b
theorem iff_t {α : Type} {c : Prop} (h : c) (a b : α) : iff' c a b = a := by unfold iff'; rw [if_pos h]
theorem iff_f {α : Type} {c : Prop} (h : ¬ c) (a b : α) : iff' c a b = b := by unfold iff'; rw [if_neg h]
abbrev Rs : Type := Nat × Option (List (List Pt) × Nat)
def bad (f : Nat) : Rs := (f, none)
def stp (tx : List Nat) (qs : List (List Pt)) (p : Nat) : Rs := if tkK tx p = 3 then (0, some (qs, tkE tx p)) else bad (tkB tx p)
noncomputable def prt (tx : List Nat) (n0 : Nat) (qs : List (List Pt)) (p s : Nat) : Rs := iff' (mayP n0 qs) (iff' (okT tx (Wq qs) (tkE tx p)) (stp tx (addP qs (s, wdT tx (tkE tx p), [], 0)) (tkE tx (tkE tx p))) (bad (tkB tx (tkE tx p)))) (bad (tkB tx p))
def dig (tx : List Nat) (p : Nat) : Nat := (tx[tkB tx p]?.getD 48) - 48
def okD (tx : List Nat) (p : Nat) : Prop := tkK tx p = 2 ∧ tkE tx p = tkB tx p + 1 ∧ tx[tkB tx p]? ≠ some 48
noncomputable def nrt (tx : List Nat) (n0 : Nat) (qs : List (List Pt)) (p : Nat) : Rs := iff' (mayP n0 qs ∧ anyN (lastQ qs) = false) (iff' (okT tx (Wq qs) (tkE tx p)) (iff' (okT tx (winsW (Wq qs) (wdT tx (tkE tx p))) (tkE tx (tkE tx p))) (iff' (okD tx (tkE tx (tkE tx (tkE tx p)))) (stp tx (addP qs (2, wdT tx (tkE tx (tkE tx p)), wdT tx (tkE tx p), dig tx (tkE tx (tkE tx (tkE tx p))))) (tkE tx (tkE tx (tkE tx (tkE tx p))))) (bad (tkB tx (tkE tx (tkE tx (tkE tx p)))))) (bad (tkB tx (tkE tx (tkE tx p))))) (bad (tkB tx (tkE tx p)))) (bad (tkB tx p))
noncomputable def itm (tx : List Nat) (n0 : Nat) (qs : List (List Pt)) (p : Nat) : Rs := iff' (tkK tx p = 1 ∧ tkE tx p = tkB tx p + 1) (if tx[tkB tx p]? = some 113 then iff' ((n0 < qs.length ∧ (lastQ qs).length = 0) ∨ 8 ≤ qs.length) (bad (tkB tx p)) (stp tx (qs ++ [[]]) (tkE tx p)) else if tx[tkB tx p]? = some 104 then prt tx n0 qs p 0 else if tx[tkB tx p]? = some 110 then prt tx n0 qs p 1 else if tx[tkB tx p]? = some 112 then nrt tx n0 qs p else bad (tkB tx p)) (bad (tkB tx p))
def SC (z : Zd) (I : Nat → Nat → Int32) (tx : List Nat) (n0 : Nat) (qs : List (List Pt)) (ls : List Nat) (p : Nat) : Prop := CT z I tx ∧ (z.2.1 1 2 = some 3 ∧ z.2.1 1 3 = some 10 ∧ HO z 3 ∧ WO z 10 11 16) ∧ TokC I tx p ∧ HR I 3 (qs, ls) ∧ okHS (qs, ls) ∧ WL (I 10) (I 11) ((Wq qs).map pkI) ∧ I 1 7 = nI n0 ∧ n0 ≤ 8
def FrT (I I' : Nat → Nat → Int32) : Prop := (∀ k, k ≠ 4 → k ≠ 5 → k ≠ 6 → I' 1 k = I 1 k) ∧ ∀ x, (x < 1 ∨ x = 2 ∨ 11 < x) → I' x = I x
theorem FrT.refl (I : Nat → Nat → Int32) : FrT I I := ⟨fun _ _ _ _ => rfl, fun _ _ => rfl⟩
theorem FrT.trans {I I1 I2 : Nat → Nat → Int32} (h : FrT I I1) (h2 : FrT I1 I2) : FrT I I2 := ⟨fun k a b c => (h2.1 k a b c).trans (h.1 k a b c), fun x hx => (h2.2 x hx).trans (h.2 x hx)⟩
def ResC (z : Zd) (I : Nat → Nat → Int32) (tx : List Nat) (n0 : Nat) (ls : List Nat) (r : Rs) (o : Option (Int32 × Wd)) : Prop := ∃ I', FrT I I' ∧ ((∃ f, r = bad f ∧ o = some (0, (I', z)) ∧ I' 1 4 = nI f) ∨ ∃ g qs' p', r = (g, some (qs', p')) ∧ o = some (1, (I', z)) ∧ SC z I' tx n0 qs' ls p')
section CIT
variable {z : Zd} {I : Nat → Nat → Int32} {tx : List Nat} {n0 : Nat} {qs : List (List Pt)} {ls : List Nat} {p : Nat}
theorem CT.fr {I' : Nat → Nat → Int32} (h : CT z I tx) (f : FrT I I') : CT z I' tx := by
  obtain ⟨o, r, s2, t1, t2, t3, t4⟩ := h
  exact ⟨o, r, s2, by rw [f.1 1 (by omega) (by omega) (by omega)]; exact t1, by rw [f.2 2 (by omega)]; exact t2, t3, t4⟩
theorem ResC.then {I1 : Nat → Nat → Int32} {r : Rs} {o : Option (Int32 × Wd)} (f : FrT I I1) (h : ResC z I1 tx n0 ls r o) : ResC z I tx n0 ls r o := by
  obtain ⟨I', f', h⟩ := h
  exact ⟨I', f.trans f', h⟩
theorem SC_tok (h : SC z I tx n0 qs ls p) : ∃ I', m_X5_advance 1 (I, z) = some ((), (I', z)) ∧ SC z I' tx n0 qs ls (tkE tx p) ∧ FrT I I' := by
  obtain ⟨h1, h2, h3, h4, h5, h6, h7, h8⟩ := h
  have hle := (tkE_le tx h3.2.2.2).1
  obtain ⟨I', e, b4, b5, b6, bk, bx⟩ := advance_ok h1 h3.2.1 hle
  have f : FrT I I' := ⟨bk, fun x hx => bx x (by omega)⟩
  exact ⟨I', e, ⟨h1.fr f, h2, ⟨b4, b5, b6, hle⟩, h4.kept (fun j hj => bx _ (by omega)), h5, by rw [bx 10 (by omega), bx 11 (by omega)]; exact h6, by rw [bk 7 (by omega) (by omega) (by omega)]; exact h7, h8⟩, f⟩
theorem tkK_le (tx : List Nat) (p : Nat) : tkK tx p ≤ 4 := by
  unfold tkK
  cases tx[skp tx p]? with
  | none => dsimp only; omega
  | some c => exact (knd_le c).2
theorem cstop_ok (h : SC z I tx n0 qs ls p) : ResC z I tx n0 ls (stp tx qs p) (m_X5_readStop 1 (I, z)) := by
  have hk4 := tkK_le tx p
  have h6 := h.2.2.1.2.2.1
  have o := h.1.1
  unfold m_X5_readStop stp
  rw [mb_gI (w := (I, z)) o]
  simp only [h6]
  by_cases hk : tkK tx p = 3
  · obtain ⟨I', e, hS, f⟩ := SC_tok h
    rw [if_pos hk, if_pos (show nI (tkK tx p) = 3 by rw [hk]; rfl), mb_vc (w := (I, z)) o, mb_call e]
    exact ⟨I', f, Or.inr ⟨0, qs, tkE tx p, rfl, rfl, hS⟩⟩
  · rw [if_neg hk, if_neg (show ¬ nI (tkK tx p) = 3 from fun e => hk ((nI_eq (b := 3) (by omega) (by omega)).mp e))]
    exact ⟨I, FrT.refl I, Or.inl ⟨tkB tx p, rfl, rfl, h.2.2.1.1⟩⟩
theorem SC_4 (h : SC z I tx n0 qs ls p) : (lastQ qs).length ≤ 4 := by
  have hB := h.2.2.2.2.1.1
  by_cases h0 : 0 < qs.length
  · exact (hB.2.2.1 _ (List.mem_of_getElem? (lastQ_get h0))).1
  · unfold lastQ; rw [List.getElem?_eq_none (by omega)]; simp
theorem rZ_pass {I0 : Nat → Nat → Int32} {r : Rs} {x : Mo Int32} (h : ResC z I0 tx n0 ls r (x (I, z))) : ResC z I0 tx n0 ls r (mb x (fun c => rZ c) (I, z)) := by
  obtain ⟨I', f, h⟩ := h
  refine ⟨I', f, ?_⟩
  rcases h with ⟨g, e1, e2, e3⟩ | ⟨g, qs', p', e1, e2, e3⟩
  · exact Or.inl ⟨g, e1, by rw [mb_call e2]; rfl, e3⟩
  · exact Or.inr ⟨g, qs', p', e1, by rw [mb_call e2]; rfl, e3⟩
theorem okW_wd {W : List (List Nat)} (h : okT tx W p) (hp : p ≤ tx.length) : okW (wdT tx p) := by
  have hl := wdT_len (tx := tx) hp
  have hb := (tkE_le tx hp).2.2.2.1 (by rw [h.1]; omega)
  exact ⟨by omega, by have := h.2.1; omega, h.2.2.1⟩
theorem wins16 {W : List (List Nat)} (hW : okL W) (h16 : W.length ≤ 16) {u : List Nat} (hu : okW u) (hr : u ∈ W ∨ W.length < 16) : (winsW W u).length ≤ 16 := by
  rcases hr with hm | hlt
  · unfold winsW; rw [if_pos (List.mem_map_of_mem hm)]; exact h16
  · have := winsW_le W u; omega
theorem cpartS_ok (h : SC z I tx n0 qs ls p) (s : Nat) (hs : s < 2) : ResC z I tx n0 ls (prt tx n0 qs p s) (m_X5_readPart 1 (nI s) (I, z)) := by
  obtain ⟨h1, ⟨rd, rw', ho, hwo⟩, h3, h4, h5, h6, h7, h8⟩ := id h
  have hq8 : qs.length ≤ 8 := h5.1.1
  unfold m_X5_readPart prt
  rw [mb_vc (w := (I, z)) h1.1, mb_call (mayHave_ok h1.1 rd ho h4 h7 hq8 h8 (SC_4 h))]
  by_cases hm : mayP n0 qs
  · rw [iff_t hm, decide_eq_true (show n0 < qs.length ∧ (lastQ qs).length < 4 from hm), if_neg (show ¬ bI true = 0 by decide)]
    obtain ⟨I1, e1, hS1, f1⟩ := SC_tok h
    obtain ⟨g1, -, g3, g4, g5, g6, g7, g8⟩ := id hS1
    have hW : okL (Wq qs) := okL.gat okL_nil h5.1.allw
    rw [mb_vc (w := (I, z)) h1.1, mb_call e1, mb_vc (w := (I1, z)) h1.1]
    rcases creadWord_ok g1 rw' hwo g6 hW h5.2.1 g3 with ⟨hno, e2⟩ | ⟨hyes, hok, I2, e2, t2, L2, k2, x2⟩
    · rw [iff_f hno, mb_call e2, if_pos rfl]
      exact ⟨I1, f1, Or.inl ⟨_, rfl, rfl, g3.1⟩⟩
    · rw [iff_t hyes, mb_call e2, if_neg (pk_ne0 hok)]
      have f2 : FrT I1 I2 := ⟨k2, fun x hx => x2 x (by omega) (by omega) (by omega)⟩
      obtain ⟨I3, e3, r3, x3⟩ := addPart_ok (I := I2) ho (g4.kept (fun j hj => x2 _ (by omega) (by omega) (by omega))) (fun Q hQ => (h5.1.2.2.1 Q hQ).1) hq8 (by have := hm.1; omega) hm.2 (s, wdT tx (tkE tx p), [], 0)
      have f3 : FrT I2 I3 := ⟨fun k _ _ _ => by rw [x3 1 (by omega)], fun x hx => x3 x (by omega)⟩
      have hWq : Wq (addP qs (s, wdT tx (tkE tx p), [], 0)) = winsW (Wq qs) (wdT tx (tkE tx p)) := Wq_has (by have := hm.1; omega) (show s ≠ 2 by omega)
      have hoP : okP (s, wdT tx (tkE tx p), [], 0) := ⟨by show s ≤ 2; omega, hok, fun e => by exact absurd (show s = 2 from e) (by omega), fun _ => ⟨rfl, rfl⟩⟩
      have hS3 : SC z I3 tx n0 (addP qs (s, wdT tx (tkE tx p), [], 0)) ls (tkE tx (tkE tx p)) := by
        refine ⟨(g1.fr f2).fr f3, ⟨rd, rw', ho, hwo⟩, ?_, r3, okHS_addP h5 (by have := hm.1; omega) hm.2 hoP (fun e => by exact absurd (show s = 2 from e) (by omega)) (by rw [hWq]; exact wins16 hW h5.2.1 hok hyes.2.2.2), ?_, ?_, h8⟩
        · unfold TokC; rw [x3 1 (by omega)]; exact t2
        · rw [x3 10 (by omega), x3 11 (by omega), hWq]; exact L2
        · rw [x3 1 (by omega), k2 7 (by omega) (by omega) (by omega)]; exact g7
      rw [mb_gR (w := (I2, z)) h1.1 rd, mb_vc (w := (I2, z)) ho.1, mb_call (show m_X1_addPart 3 (nI s) (pkI (wdT tx (tkE tx p))) 0 0 (I2, z) = some ((), (I3, z)) from e3), mb_vc (w := (I3, z)) h1.1]
      exact ((rZ_pass (cstop_ok hS3)).then f3).then (f1.trans f2)
  · rw [iff_f hm, decide_eq_false (show ¬ (n0 < qs.length ∧ (lastQ qs).length < 4) from hm), if_pos (show bI false = 0 from rfl)]
    exact ⟨I, FrT.refl I, Or.inl ⟨_, rfl, rfl, h3.1⟩⟩
theorem cnear_ok (h : SC z I tx n0 qs ls p) : ResC z I tx n0 ls (nrt tx n0 qs p) (m_X5_readNear 1 (I, z)) := by
  obtain ⟨h1, ⟨rd, rw', ho, hwo⟩, h3, h4, h5, h6, h7, h8⟩ := id h
  have hq8 : qs.length ≤ 8 := h5.1.1
  unfold m_X5_readNear nrt
  rw [mb_vc (w := (I, z)) h1.1, mb_call (mayHave_ok h1.1 rd ho h4 h7 hq8 h8 (SC_4 h))]
  by_cases hm : mayP n0 qs
  · have h0 : 0 < qs.length := by have := hm.1; omega
    rw [decide_eq_true (show n0 < qs.length ∧ (lastQ qs).length < 4 from hm), if_neg (show ¬ bI true = 0 by decide), mb_gR (w := (I, z)) h1.1 rd, mb_vc (w := (I, z)) ho.1, mb_call (lastNear_ok ho h4 h5.1 h0)]
    cases han : anyN (lastQ qs)
    · rw [iff_t ⟨hm, rfl⟩, if_pos (show bI false = 0 from rfl)]
      obtain ⟨I1, e1, hS1, f1⟩ := SC_tok h
      obtain ⟨g1, -, g3, g4, g5, g6, g7, g8⟩ := id hS1
      have hW : okL (Wq qs) := okL.gat okL_nil h5.1.allw
      rw [mb_vc (w := (I, z)) h1.1, mb_call e1, mb_vc (w := (I1, z)) h1.1]
      rcases creadWord_ok g1 rw' hwo g6 hW h5.2.1 g3 with ⟨hno, e2⟩ | ⟨hyes, hok, I2, e2, t2, L2, k2, x2⟩
      · rw [iff_f hno, mb_call e2, if_pos rfl]
        exact ⟨I1, f1, Or.inl ⟨_, rfl, rfl, g3.1⟩⟩
      · rw [iff_t hyes, mb_call e2, if_neg (pk_ne0 hok)]
        have f2 : FrT I1 I2 := ⟨k2, fun x hx => x2 x (by omega) (by omega) (by omega)⟩
        have hW2 := hW.wins hok
        rw [mb_vc (w := (I2, z)) h1.1]
        rcases creadWord_ok (g1.fr f2) rw' hwo L2 hW2 (wins16 hW h5.2.1 hok hyes.2.2.2) t2 with ⟨hno2, e3⟩ | ⟨hyes2, hok2, I3, e3, t3, L3, k3, x3⟩
        · rw [iff_f hno2, mb_call e3, if_pos rfl]
          exact ⟨I2, f1.trans f2, Or.inl ⟨_, rfl, rfl, t2.1⟩⟩
        · rw [iff_t hyes2, mb_call e3, if_neg (pk_ne0 hok2)]
          have f3 : FrT I2 I3 := ⟨k3, fun x hx => x3 x (by omega) (by omega) (by omega)⟩
          have hCT3 := (g1.fr f2).fr f3
          generalize hE3 : tkE tx (tkE tx (tkE tx p)) = E3 at *
          obtain ⟨b4, b5, b6, bl⟩ := id t3
          have hk4 := tkK_le tx E3
          obtain ⟨l1, l2, l3, l4, l5⟩ := tkE_le tx bl
          have hlen := h1.2.2.2.2.2.1
          rw [mb_gI (w := (I3, z)) h1.1]
          simp only [b6]
          have hbadres : ¬ okD tx E3 → ResC z I tx n0 ls (iff' (okD tx E3) (stp tx (addP qs (2, wdT tx (tkE tx (tkE tx p)), wdT tx (tkE tx p), dig tx E3)) (tkE tx E3)) (bad (tkB tx E3))) (rZ 0 (I3, z)) := fun hh => by
            rw [iff_f hh]
            exact ⟨I3, (f1.trans f2).trans f3, Or.inl ⟨_, rfl, rfl, b4⟩⟩
          by_cases hk2 : tkK tx E3 = 2
          · rw [if_pos (show nI (tkK tx E3) = 2 by rw [hk2]; rfl), mb_gI (w := (I3, z)) h1.1]
            simp only [b5]
            rw [mb_gI (w := (I3, z)) h1.1]
            simp only [b4]
            rw [nI_sub l2]
            by_cases h1l : tkE tx E3 = tkB tx E3 + 1
            · rw [if_pos (show nI (tkE tx E3 - tkB tx E3) = 1 by rw [h1l, show tkB tx E3 + 1 - tkB tx E3 = 1 by omega]; rfl), mb_gR (w := (I3, z)) h1.1 h1.2.1, mb_gI (w := (I3, z)) h1.1]
              simp only [b4]
              rw [mb_aI (w := (I3, z)) h1.2.2.1 (show tkB tx E3 < 150 by omega) (by omega)]
              have hc := List.getElem?_eq_getElem (show tkB tx E3 < tx.length by omega)
              have h256 := h1.2.2.2.2.2.2 _ (List.getElem_mem (show tkB tx E3 < tx.length by omega))
              have hcd : 48 ≤ tx[tkB tx E3]'(by omega) ∧ tx[tkB tx E3]'(by omega) ≤ 57 := by
                have : tkK tx E3 = knd (tx[tkB tx E3]'(by omega)) := by
                  unfold tkK
                  rw [show tx[skp tx E3]? = some (tx[tkB tx E3]'(by omega)) from hc]
                rw [this] at hk2
                exact (knd2 _).mp hk2
              generalize tx[tkB tx E3]'(by omega) = c at hc h256 hcd
              have hrow : I3 2 (tkB tx E3) = nI c := hCT3.2.2.2.2.1 _ c hc
              simp only [hrow]
              by_cases h48 : c = 48
              · rw [if_pos (show nI c = 48 by rw [h48]; rfl)]
                exact hbadres (fun hh => hh.2.2 (by rw [hc, h48]))
              · rw [if_neg (show ¬ nI c = 48 from fun e => h48 ((nI_eq (b := 48) (by omega) (by omega)).mp e)), mb_gR (w := (I3, z)) h1.1 rd, mb_gR (w := (I3, z)) h1.1 h1.2.1, mb_gI (w := (I3, z)) h1.1]
                simp only [b4]
                rw [mb_aI (w := (I3, z)) h1.2.2.1 (show tkB tx E3 < 150 by omega) (by omega)]
                simp only [hrow]
                have hdig : dig tx E3 = c - 48 := by unfold dig; rw [hc]; rfl
                rw [iff_t (show okD tx E3 from ⟨hk2, h1l, fun e => h48 (Option.some.inj (hc.symm.trans e))⟩), hdig, show nI c - 48 = nI (c - 48) from nI_sub (b := 48) hcd.1]
                obtain ⟨I4, e4, r4, x4⟩ := addPart_ok (I := I3) ho ((g4.kept (fun j hj => x2 _ (by omega) (by omega) (by omega))).kept (fun j hj => x3 _ (by omega) (by omega) (by omega))) (fun Q hQ => (h5.1.2.2.1 Q hQ).1) hq8 h0 hm.2 (2, wdT tx (tkE tx (tkE tx p)), wdT tx (tkE tx p), c - 48)
                have f4 : FrT I3 I4 := ⟨fun k _ _ _ => by rw [x4 1 (by omega)], fun x hx => x4 x (by omega)⟩
                have hWq : Wq (addP qs (2, wdT tx (tkE tx (tkE tx p)), wdT tx (tkE tx p), c - 48)) = winsW (winsW (Wq qs) (wdT tx (tkE tx p))) (wdT tx (tkE tx (tkE tx p))) := Wq_near h0 hW (P := (2, wdT tx (tkE tx (tkE tx p)), wdT tx (tkE tx p), c - 48)) rfl hok2 hok
                have hoP : okP (2, wdT tx (tkE tx (tkE tx p)), wdT tx (tkE tx p), c - 48) := ⟨Nat.le_refl 2, hok2, fun _ => ⟨hok, by show 1 ≤ c - 48; omega, by show c - 48 ≤ 9; omega⟩, fun hh => absurd rfl hh⟩
                have hS4 : SC z I4 tx n0 (addP qs (2, wdT tx (tkE tx (tkE tx p)), wdT tx (tkE tx p), c - 48)) ls E3 := by
                  refine ⟨hCT3.fr f4, ⟨rd, rw', ho, hwo⟩, ?_, r4, okHS_addP h5 h0 hm.2 hoP (fun _ P' hP' e => ?_) (by rw [hWq]; exact wins16 hW2 (wins16 hW h5.2.1 hok hyes.2.2.2) hok2 hyes2.2.2.2), ?_, ?_, h8⟩
                  · unfold TokC; rw [x4 1 (by omega)]; exact t3
                  · unfold anyN at han
                    rw [List.any_eq_false] at han
                    exact han P' hP' (by simp [e])
                  · rw [x4 10 (by omega), x4 11 (by omega), hWq]; exact L3
                  · rw [x4 1 (by omega), k3 7 (by omega) (by omega) (by omega), k2 7 (by omega) (by omega) (by omega)]; exact g7
                obtain ⟨I5, e5, hS5, f5⟩ := SC_tok hS4
                rw [mb_vc (w := (I3, z)) ho.1, mb_call (show m_X1_addPart 3 2 (pkI (wdT tx (tkE tx (tkE tx p)))) (pkI (wdT tx (tkE tx p))) (nI (c - 48)) (I3, z) = some ((), (I4, z)) from e4), mb_vc (w := (I4, z)) h1.1, mb_call e5, mb_vc (w := (I5, z)) h1.1]
                exact ((rZ_pass (cstop_ok hS5)).then (f4.trans f5)).then ((f1.trans f2).trans f3)
            · rw [if_neg (show ¬ nI (tkE tx E3 - tkB tx E3) = 1 from fun e => h1l (by have := (nI_eq (b := 1) (by omega) (by omega)).mp e; omega))]
              exact hbadres (fun hh => h1l hh.2.1)
          · rw [if_neg (show ¬ nI (tkK tx E3) = 2 from fun e => hk2 ((nI_eq (b := 2) (by omega) (by omega)).mp e))]
            exact hbadres (fun hh => hk2 hh.1)
    · rw [iff_f (fun hh => by cases hh.2), if_neg (show ¬ bI true = 0 by decide)]
      exact ⟨I, FrT.refl I, Or.inl ⟨_, rfl, rfl, h3.1⟩⟩
  · rw [iff_f (fun hh => hm hh.1), decide_eq_false (show ¬ (n0 < qs.length ∧ (lastQ qs).length < 4) from hm), if_pos (show bI false = 0 from rfl)]
    exact ⟨I, FrT.refl I, Or.inl ⟨_, rfl, rfl, h3.1⟩⟩
theorem cquery2_ok (h : SC z I tx n0 qs ls p) : ResC z I tx n0 ls (iff' ((n0 < qs.length ∧ (lastQ qs).length = 0) ∨ 8 ≤ qs.length) (bad (tkB tx p)) (stp tx (qs ++ [[]]) (tkE tx p))) (m_X5_readQuery 1 (I, z)) := by
  obtain ⟨h1, ⟨rd, rw', ho, hwo⟩, h3, h4, h5, h6, h7, h8⟩ := id h
  have hq8 : qs.length ≤ 8 := h5.1.1
  unfold m_X5_readQuery
  rw [mb_vc (w := (I, z)) h1.1, mb_call (lacksParts_ok h1.1 rd ho h4 h7 hq8 h8 (SC_4 h))]
  by_cases hm : n0 < qs.length ∧ (lastQ qs).length = 0
  · rw [iff_t (Or.inl hm), decide_eq_true hm, if_neg (show ¬ bI true = 0 by decide)]
    exact ⟨I, FrT.refl I, Or.inl ⟨_, rfl, rfl, h3.1⟩⟩
  · rw [decide_eq_false hm, if_pos (show bI false = 0 from rfl), mb_gR (w := (I, z)) h1.1 rd, mb_vc (w := (I, z)) ho.1]
    rcases startQ_ok ho h4 hq8 with ⟨hge, e⟩ | ⟨hlt, I1, e, r1, x1⟩
    · rw [iff_t (Or.inr hge), mb_call e, if_pos rfl]
      exact ⟨I, FrT.refl I, Or.inl ⟨_, rfl, rfl, h3.1⟩⟩
    · rw [iff_f (fun hh => hh.elim hm (by omega)), mb_call e, if_neg (show ¬ (1 : Int32) = 0 by decide)]
      have f1 : FrT I I1 := ⟨fun k _ _ _ => by rw [x1 1 (by omega)], fun x hx => x1 x (by omega)⟩
      have hS1 : SC z I1 tx n0 (qs ++ [[]]) ls p := by
        refine ⟨h1.fr f1, ⟨rd, rw', ho, hwo⟩, by unfold TokC; rw [x1 1 (by omega)]; exact h3, r1, okHS_newQ h5 hlt, ?_, by rw [x1 1 (by omega)]; exact h7, h8⟩
        rw [x1 10 (by omega), x1 11 (by omega)]
        unfold Wq
        rw [aws_newQ]
        exact h6
      obtain ⟨I2, e2, hS2, f2⟩ := SC_tok hS1
      rw [mb_vc (w := (I1, z)) h1.1, mb_call e2, mb_vc (w := (I2, z)) h1.1]
      exact (rZ_pass (cstop_ok hS2)).then (f1.trans f2)
theorem citem_ok (h : SC z I tx n0 qs ls p) : ResC z I tx n0 ls (itm tx n0 qs p) (m_X5_readItem 1 (I, z)) := by
  obtain ⟨h1, ⟨rd, rw', ho, hwo⟩, h3, h4, h5, h6, h7, h8⟩ := id h
  have hk4 := tkK_le tx p
  obtain ⟨l1, l2, l3, l4, l5⟩ := tkE_le tx h3.2.2.2
  have hlen := h1.2.2.2.2.2.1
  have hbd : ResC z I tx n0 ls (bad (tkB tx p)) (rZ 0 (I, z)) := ⟨I, FrT.refl I, Or.inl ⟨_, rfl, rfl, h3.1⟩⟩
  unfold m_X5_readItem itm
  have b4 := h3.1
  have b5 := h3.2.1
  have b6 := h3.2.2.1
  rw [mb_gI (w := (I, z)) h1.1]
  simp only [b6]
  by_cases hk : tkK tx p = 1
  · rw [if_pos (show nI (tkK tx p) = 1 by rw [hk]; rfl), mb_gI (w := (I, z)) h1.1]
    simp only [b5]
    rw [mb_gI (w := (I, z)) h1.1]
    simp only [b4]
    rw [nI_sub l2]
    by_cases h1l : tkE tx p = tkB tx p + 1
    · rw [iff_t ⟨hk, h1l⟩, if_pos (show nI (tkE tx p - tkB tx p) = 1 by rw [h1l, show tkB tx p + 1 - tkB tx p = 1 by omega]; rfl), mb_gR (w := (I, z)) h1.1 h1.2.1, mb_gI (w := (I, z)) h1.1]
      simp only [b4]
      rw [mb_aI (w := (I, z)) h1.2.2.1 (show tkB tx p < 150 by omega) (by omega)]
      have hc := List.getElem?_eq_getElem (show tkB tx p < tx.length by omega)
      have h256 := h1.2.2.2.2.2.2 _ (List.getElem_mem (show tkB tx p < tx.length by omega))
      generalize tx[tkB tx p]'(by omega) = c at hc h256
      have hrow : I 2 (tkB tx p) = nI c := h1.2.2.2.2.1 _ c hc
      simp only [hrow, hc]
      have hd : ∀ j : Nat, j < 256 → (nI c = nI j ↔ c = j) := fun j hj => nI_eq (by omega) (by omega)
      have hne : ∀ j : Nat, j < 256 → c ≠ j → ¬ nI c = nI j := fun j hj hcj e => hcj ((hd j hj).mp e)
      have hso : ∀ j : Nat, (some c = some j) ↔ c = j := fun j => ⟨Option.some.inj, fun e => by rw [e]⟩
      by_cases c104 : c = 104
      · rw [if_neg (fun e => by have := (hso 113).mp e; omega), if_pos ((hso 104).mpr c104), if_pos (show nI c = 104 from (hd 104 (by omega)).mpr c104), mb_vc (w := (I, z)) h1.1]
        exact rZ_pass (cpartS_ok h 0 (by omega))
      rw [if_neg (show ¬ nI c = 104 from hne 104 (by omega) c104)]
      by_cases c110 : c = 110
      · rw [if_neg (fun e => by have := (hso 113).mp e; omega), if_neg (fun e => by have := (hso 104).mp e; omega), if_pos ((hso 110).mpr c110), if_neg (show ¬ nI c = 105 from hne 105 (by omega) (by omega)), if_neg (show ¬ nI c = 106 from hne 106 (by omega) (by omega)), if_neg (show ¬ nI c = 107 from hne 107 (by omega) (by omega)), if_neg (show ¬ nI c = 108 from hne 108 (by omega) (by omega)), if_neg (show ¬ nI c = 109 from hne 109 (by omega) (by omega)), if_pos (show nI c = 110 from (hd 110 (by omega)).mpr c110), mb_vc (w := (I, z)) h1.1]
        exact rZ_pass (cpartS_ok h 1 (by omega))
      by_cases c112 : c = 112
      · rw [if_neg (fun e => by have := (hso 113).mp e; omega), if_neg (fun e => by have := (hso 104).mp e; omega), if_neg (fun e => by have := (hso 110).mp e; omega), if_pos ((hso 112).mpr c112), if_neg (show ¬ nI c = 105 from hne 105 (by omega) (by omega)), if_neg (show ¬ nI c = 106 from hne 106 (by omega) (by omega)), if_neg (show ¬ nI c = 107 from hne 107 (by omega) (by omega)), if_neg (show ¬ nI c = 108 from hne 108 (by omega) (by omega)), if_neg (show ¬ nI c = 109 from hne 109 (by omega) (by omega)), if_neg (show ¬ nI c = 110 from hne 110 (by omega) (by omega)), if_neg (show ¬ nI c = 111 from hne 111 (by omega) (by omega)), if_pos (show nI c = 112 from (hd 112 (by omega)).mpr c112), mb_vc (w := (I, z)) h1.1]
        exact rZ_pass (cnear_ok h)
      by_cases c113 : c = 113
      · rw [if_pos ((hso 113).mpr c113), if_neg (show ¬ nI c = 105 from hne 105 (by omega) (by omega)), if_neg (show ¬ nI c = 106 from hne 106 (by omega) (by omega)), if_neg (show ¬ nI c = 107 from hne 107 (by omega) (by omega)), if_neg (show ¬ nI c = 108 from hne 108 (by omega) (by omega)), if_neg (show ¬ nI c = 109 from hne 109 (by omega) (by omega)), if_neg (show ¬ nI c = 110 from hne 110 (by omega) (by omega)), if_neg (show ¬ nI c = 111 from hne 111 (by omega) (by omega)), if_neg (show ¬ nI c = 112 from hne 112 (by omega) (by omega)), if_pos (show nI c = 113 from (hd 113 (by omega)).mpr c113), mb_vc (w := (I, z)) h1.1]
        exact rZ_pass (cquery2_ok h)
      rw [if_neg (fun e => c113 ((hso 113).mp e)), if_neg (fun e => c104 ((hso 104).mp e)), if_neg (fun e => c110 ((hso 110).mp e)), if_neg (fun e => c112 ((hso 112).mp e))]
      by_cases c105 : nI c = 105
      · rw [if_pos c105]; exact hbd
      rw [if_neg c105]
      by_cases c106 : nI c = 106
      · rw [if_pos c106]; exact hbd
      rw [if_neg c106]
      by_cases c107 : nI c = 107
      · rw [if_pos c107]; exact hbd
      rw [if_neg c107]
      by_cases c108 : nI c = 108
      · rw [if_pos c108]; exact hbd
      rw [if_neg c108]
      by_cases c109 : nI c = 109
      · rw [if_pos c109]; exact hbd
      rw [if_neg c109, if_neg (show ¬ nI c = 110 from hne 110 (by omega) c110)]
      by_cases c111 : nI c = 111
      · rw [if_pos c111]; exact hbd
      rw [if_neg c111, if_neg (show ¬ nI c = 112 from hne 112 (by omega) c112), if_neg (show ¬ nI c = 113 from hne 113 (by omega) c113)]
      exact hbd
    · rw [iff_f (fun hh => h1l hh.2), if_neg (show ¬ nI (tkE tx p - tkB tx p) = 1 from fun e => h1l (by have := (nI_eq (b := 1) (by omega) (by omega)).mp e; omega))]
      exact hbd
  · rw [iff_f (fun hh => hk hh.1), if_neg (show ¬ nI (tkK tx p) = 1 from fun e => hk ((nI_eq (b := 1) (by omega) (by omega)).mp e))]
    exact hbd
end CIT
