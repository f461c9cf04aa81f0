/-! ===== the loops of adds() on both sides ===== -/
def lck (n0 : Nat) (qs : List (List Pt)) : Prop := n0 < qs.length ∧ (lastQ qs).length = 0
noncomputable def psr (tx : List Nat) (n0 : Nat) : Nat → List (List Pt) → Nat → Nat × Option (List (List Pt))
  | 0, qs, _ => (0, some qs)
  | n + 1, qs, p => if tkK tx p = 0 then iff' (lck n0 qs) (tx.length, none) (0, some qs) else match itm tx n0 qs p with
    | (f, none) => (f, none)
    | (_, some (qs', p')) => psr tx n0 n qs' p'
def GdI (tx : List Nat) (p : Nat) (r : Rs) : Prop := (∀ f, r = bad f → f ≤ tx.length) ∧ ∀ g qs' p', r = (g, some (qs', p')) → p < p' ∧ p' ≤ tx.length
theorem GdI_bad {tx : List Nat} {p p' : Nat} (h : p' ≤ tx.length) : GdI tx p (bad (tkB tx p')) := by
  obtain ⟨a, b, c, d, e⟩ := tkE_le tx h
  refine ⟨fun f hf => ?_, fun g qs' p'' e => by cases e⟩
  have : tkB tx p' = f := congrArg Prod.fst hf
  omega
theorem GdI_stp {tx : List Nat} {p p' : Nat} {qs : List (List Pt)} (h : p' ≤ tx.length) (hp : p ≤ p') : GdI tx p (stp tx qs p') := by
  unfold stp
  by_cases hk : tkK tx p' = 3
  · rw [if_pos hk]
    obtain ⟨a, b, c, d, e⟩ := tkE_le tx h
    have := d (by omega)
    refine ⟨fun f hf => (by cases hf), fun g qs' p'' e => ?_⟩
    have h2 : tkE tx p' = p'' := congrArg (fun x : Rs => match x.2 with
      | none => 0
      | some y => y.2) e
    omega
  · rw [if_neg hk]; exact GdI_bad h
theorem GdI_iff {tx : List Nat} {p : Nat} {c : Prop} {a b : Rs} (ha : GdI tx p a) (hb : GdI tx p b) : GdI tx p (iff' c a b) := by
  by_cases h : c
  · rw [iff_t h]; exact ha
  · rw [iff_f h]; exact hb
theorem itm_le (tx : List Nat) (n0 : Nat) (qs : List (List Pt)) {p : Nat} (h : p ≤ tx.length) : GdI tx p (itm tx n0 qs p) := by
  have q1 := (tkE_le tx h).1
  have q2 := (tkE_le tx q1).1
  have q3 := (tkE_le tx q2).1
  have q4 := (tkE_le tx q3).1
  have p1 := (tkE_le tx h).2.1
  have p1' := (tkE_le tx h).2.2.1
  have p2 := (tkE_le tx q1).2.1
  have p2' := (tkE_le tx q1).2.2.1
  have p3 := (tkE_le tx q2).2.1
  have p3' := (tkE_le tx q2).2.2.1
  have p4 := (tkE_le tx q3).2.1
  have p4' := (tkE_le tx q3).2.2.1
  have hprt : ∀ s, GdI tx p (prt tx n0 qs p s) := fun s => GdI_iff (GdI_iff (GdI_stp q2 (by omega)) (GdI_bad q1)) (GdI_bad h)
  unfold itm
  refine GdI_iff ?_ (GdI_bad h)
  split
  · exact GdI_iff (GdI_bad h) (GdI_stp q1 (by omega))
  · split
    · exact hprt 0
    · split
      · exact hprt 1
      · split
        · exact GdI_iff (GdI_iff (GdI_iff (GdI_iff (GdI_stp q4 (by omega)) (GdI_bad q3)) (GdI_bad q2)) (GdI_bad q1)) (GdI_bad h)
        · exact GdI_bad h
section LPS
variable {z : Zd} {tx : List Nat} {n0 : Nat} {ls : List Nat}
theorem cJ67_ok {I : Nat → Nat → Int32} {qs : List (List Pt)} {p : Nat} (h : SC z I tx n0 qs ls p) (hk : tkK tx p = 0) : (lck n0 qs ∧ m_X5_readBehind_J67 1 (I, z) = some (nI tx.length, (I, z))) ∨ (¬ lck n0 qs ∧ m_X5_readBehind_J67 1 (I, z) = some (-9, (I, z))) := by
  obtain ⟨h1, ⟨rd, rw', ho, hwo⟩, h3, h4, h5, h6, h7, h8⟩ := id h
  have hb := (tkE_le tx h3.2.2.2).2.2.2.2.mp hk
  have hb4 : I 1 4 = nI tx.length := by rw [← hb]; exact h3.1
  unfold m_X5_readBehind_J67
  rw [mb_vc (w := (I, z)) h1.1, mb_call (lacksParts_ok h1.1 rd ho h4 h7 h5.1.1 h8 (SC_4 h))]
  by_cases hm : n0 < qs.length ∧ (lastQ qs).length = 0
  · rw [decide_eq_true hm, if_neg (show ¬ bI true = 0 by decide), mb_gI (w := (I, z)) h1.1]
    simp only [hb4]
    exact Or.inl ⟨hm, rfl⟩
  · rw [decide_eq_false hm, if_pos (show bI false = 0 from rfl)]
    exact Or.inr ⟨hm, rfl⟩
def CEnd (z : Zd) (I : Nat → Nat → Int32) (tx : List Nat) (ls : List Nat) (r : Nat × Option (List (List Pt))) (o : Option (Int32 × Wd)) : Prop := ∃ I', FrT I I' ∧ ((∃ F, r = (F, none) ∧ F ≤ tx.length ∧ o = some (nI F, (I', z))) ∨ ∃ g qs', r = (g, some qs') ∧ o = some (-9, (I', z)) ∧ HR I' 3 (qs', ls) ∧ okHS (qs', ls))
theorem cloop_ok : ∀ (n : Nat) (qs : List (List Pt)) (p i : Nat) (I : Nat → Nat → Int32), SC z I tx n0 qs ls p → tx.length < n + p → i ≤ p → ∀ f, n < f → CEnd z I tx ls (psr tx n0 n qs p) (lp (fun k s => m_X5_readBehind_B35 1 k s) f (nI i) (I, z)) := by
  intro n
  induction n with
  | zero => intro qs p i I h hn; have := h.2.2.1.2.2.2; omega
  | succ n ih =>
    intro qs p i I h hn hi f hf
    obtain ⟨g, rfl⟩ : ∃ g, f = g + 1 := ⟨f - 1, by omega⟩
    obtain ⟨h1, ⟨rd, rw', ho, hwo⟩, h3, h4, h5, h6, h7, h8⟩ := id h
    have hpl := h3.2.2.2
    have h150 := h1.2.2.2.2.2.1
    have hk4 := tkK_le tx p
    have b6 := h3.2.2.1
    obtain ⟨l1, l2, l3, l4, l5⟩ := tkE_le tx hpl
    have hzero : tkK tx p = 0 → CEnd z I tx ls (psr tx n0 (n + 1) qs p) (m_X5_readBehind_J67 1 (I, z)) := fun hk => by
      unfold psr
      rw [if_pos hk]
      rcases cJ67_ok h hk with ⟨a, b⟩ | ⟨a, b⟩
      · rw [iff_t a, b]; exact ⟨I, FrT.refl I, Or.inl ⟨_, rfl, Nat.le_refl _, rfl⟩⟩
      · rw [iff_f a, b]; exact ⟨I, FrT.refl I, Or.inr ⟨0, qs, rfl, rfl, h4, h5⟩⟩
    rw [lp_s]
    generalize hkk : lp (fun k s => m_X5_readBehind_B35 1 k s) g = kk
    unfold m_X5_readBehind_B35
    by_cases hi150 : 150 ≤ i
    · rw [if_pos (show (150 : Int32) ≤ nI i from nI_le (a := 150) hi150 (by omega))]
      exact hzero (l5.mpr (by omega))
    · rw [if_neg (show ¬ (150 : Int32) ≤ nI i from nI_ge (b := 150) (by omega) (by omega)), mb_gI (w := (I, z)) h1.1]
      simp only [b6]
      by_cases hk : tkK tx p = 0
      · rw [if_pos (show nI (tkK tx p) = 0 by rw [hk]; rfl)]
        exact hzero hk
      · rw [if_neg (show ¬ nI (tkK tx p) = 0 from fun e => hk ((nI_eq (b := 0) (by omega) (by omega)).mp e)), mb_vc (w := (I, z)) h1.1]
        obtain ⟨gd1, gd2⟩ := itm_le tx n0 qs hpl
        obtain ⟨I', f', hc⟩ := citem_ok h
        rcases hc with ⟨F, e1, e2, e3⟩ | ⟨w, qs', p', e1, e2, e3⟩
        · rw [mb_call e2, if_pos rfl, mb_gI (w := (I', z)) h1.1]
          simp only [e3]
          refine ⟨I', f', Or.inl ⟨F, ?_, gd1 F e1, rfl⟩⟩
          unfold psr
          rw [if_neg hk, e1]; rfl
        · rw [mb_call e2, if_neg (show ¬ (1 : Int32) = 0 by decide), nI_1, ← hkk]
          obtain ⟨g1, g2⟩ := gd2 w qs' p' e1
          obtain ⟨I'', f'', hc'⟩ := ih qs' p' (i + 1) I' e3 (by omega) (by omega) g (by omega)
          have hpe : psr tx n0 (n + 1) qs p = psr tx n0 n qs' p' := by
            rw [show psr tx n0 (n + 1) qs p = (if tkK tx p = 0 then iff' (lck n0 qs) (tx.length, none) (0, some qs) else match itm tx n0 qs p with
              | (f, none) => (f, none)
              | (_, some (qs', p')) => psr tx n0 n qs' p') from rfl, if_neg hk, e1]
          rw [hpe]
          exact ⟨I'', f'.trans f'', hc'⟩
def rend : Mo Int32 := mb (sI 7 2 33 0) fun _ => mb (vc 7 33 (m_X8_keepAct 33)) fun _ => mb (gR 7 9 33) fun fresh6 => mb (aI fresh6 0) fun x7 => mb (gR 7 8 33) fun now8 => mb (aI now8 0) fun x9 => mb (mp (x7 - x9)) fun v10 => mb (gR 7 9 33) fun fresh11 => mb (gR 7 8 33) fun now12 => mb (m_X8_copyAll fresh11 now12) fun _ => mb (vc 7 33 (m_X8_make 33)) fun _ => mp v10
def REnd (z : Zd) (I : Nat → Nat → Int32) (tx : List Nat) (ls : List Nat) (r : Nat × Option (List (List Pt))) (o : Option (Int32 × Wd)) : Prop := ∃ I', FrR I I' ∧ ((∃ F, r = (F, none) ∧ ∀ J, m_X8_make 33 (I', z) = some ((), (J, z)) → J 33 2 = I' 33 2 → o = some (-10 - nI F, (J, z))) ∨ ∃ g qs', r = (g, some qs') ∧ o = rend (I', z) ∧ RR (I' 36) (qs', ls) ∧ okHS (qs', ls))
theorem rloop_ok : ∀ (n : Nat) (qs : List (List Pt)) (p : Nat) (I : Nat → Nat → Int32), SR0 z I tx n0 qs ls (tkE tx p) → TokR I tx p → tx.length < n + p → ∀ f, n < f → REnd z I tx ls (psr tx n0 n qs p) (lp (fun k (s : Unit) => m_X8_adds_B33 33 k) f () (I, z)) := by
  intro n
  induction n with
  | zero => intro qs p I h hT hn; have := hT.2.2.2.2; omega
  | succ n ih =>
    intro qs p I h hT hn f hf
    obtain ⟨g, rfl⟩ : ∃ g, f = g + 1 := ⟨f - 1, by omega⟩
    obtain ⟨h1, h2, h3, h4, h5, h6, h7⟩ := id h
    have hM := h1.1
    obtain ⟨b3, b4, b7, ⟨tok, v, s1, s2, s3, s4, s5⟩, hpl⟩ := id hT
    have hk4 := tkK_le tx p
    have hpu : psr tx n0 (n + 1) qs p = (if tkK tx p = 0 then iff' (lck n0 qs) (tx.length, none) (0, some qs) else match itm tx n0 qs p with
              | (f, none) => (f, none)
              | (_, some (qs', p')) => psr tx n0 n qs' p') := rfl
    have htok : nI tok = 0 ↔ tkK tx p = 0 := by
      constructor
      · intro e
        have ht := (nI_eq (b := 0) (by omega) (by omega)).mp e
        by_cases hk2 : tkK tx p = 2
        · have := (s5 hk2).1; omega
        · rw [← s3 hk2]; exact ht
      · intro e
        rw [s3 (by omega), e]; rfl
    rw [lp_s]
    generalize hkk : lp (fun k (s : Unit) => m_X8_adds_B33 33 k) g = kk
    show REnd z I tx ls (psr tx n0 (n + 1) qs p) (m_X8_adds_B33 33 kk (I, z))
    unfold m_X8_adds_B33
    rw [mb_gI (w := (I, z)) hM.o]
    simp only [s1]
    by_cases hk : tkK tx p = 0
    · rw [if_pos (htok.mpr hk), hpu, if_pos hk, mb_vc (w := (I, z)) hM.o, mb_call (isWhole_ok h)]
      by_cases hl : n0 < qs.length ∧ (lastQ qs).length = 0
      · rw [decide_eq_false (fun hh => hh hl), if_pos (show bI false = 0 from rfl), iff_t (show lck n0 qs from hl)]
        refine ⟨I, FrR.refl I, Or.inl ⟨_, rfl, fun J e e2 => ?_⟩⟩
        rw [mb_vc (w := (I, z)) hM.o, mb_call e, mb_gI (w := (J, z)) hM.o]
        simp only [e2, h1.2.1]
        rfl
      · rw [decide_eq_true hl, if_neg (show ¬ bI true = 0 by decide), iff_f (show ¬ lck n0 qs from hl)]
        exact ⟨I, FrR.refl I, Or.inr ⟨0, qs, rfl, rfl, h3, h4⟩⟩
    · rw [if_neg (fun e => hk (htok.mp e)), hpu, if_neg hk, mb_vc (w := (I, z)) hM.o]
      obtain ⟨gd1, gd2⟩ := itm_le tx n0 qs hpl
      obtain ⟨I', f', hc⟩ := ritem_ok h hT
      rcases hc with ⟨F, e1, e2, e3⟩ | ⟨qs', p', e1, e2, e3⟩
      · rw [mb_call e2, if_pos rfl, e1]
        refine ⟨I', f', Or.inl ⟨F, rfl, fun J e4 e5 => ?_⟩⟩
        unfold m_X8_adds_J67
        rw [if_pos rfl, mb_gI (w := (I', z)) hM.o]
        simp only [e3]
        rw [mb_vc (w := (I', z)) hM.o, mb_call e4]
        rfl
      · obtain ⟨I2, e4, hS2, hT2, f2⟩ := SR_step e3
        rw [mb_call e2, if_neg (show ¬ (1 : Int32) = 0 by decide), mb_vc (w := (I', z)) hM.o, mb_call e4]
        obtain ⟨c3, c4, c7, ⟨tok2, v2, t1, t2, t3, t4, t5⟩, hpl2⟩ := id hT2
        have hk42 := tkK_le tx p'
        rw [mb_gI (w := (I2, z)) hM.o]
        simp only [t1]
        have htok2 : nI tok2 = 3 ↔ tkK tx p' = 3 := by
          constructor
          · intro e
            have ht := (nI_eq (b := 3) (by omega) (by omega)).mp e
            by_cases hk2 : tkK tx p' = 2
            · have := (t5 hk2).1; omega
            · rw [← t3 hk2]; exact ht
          · intro e
            rw [t3 (by omega), e]; rfl
        unfold stp at e1
        by_cases hk3 : tkK tx p' = 3
        · rw [if_pos hk3] at e1
          rw [if_pos (htok2.mpr hk3), e1]
          obtain ⟨g1, g2⟩ := gd2 _ _ _ e1
          obtain ⟨I3, e5, hS3, hT3, f3⟩ := SR_step hS2
          obtain ⟨I4, f4, hc⟩ := ih qs' (tkE tx p') I3 hS3 hT3 (by omega) g (by omega)
          unfold m_X8_adds_J66 m_X8_adds_J67
          rw [if_neg (show ¬ (1 : Int32) = 0 by decide), mb_vc (w := (I2, z)) hM.o, mb_call e5, ← hkk]
          exact ⟨I4, ((f'.trans f2).trans f3).trans f4, hc⟩
        · rw [if_neg hk3] at e1
          rw [if_neg (fun e => hk3 (htok2.mp e)), e1]
          refine ⟨I2, f'.trans f2, Or.inl ⟨_, rfl, fun J e6 e7 => ?_⟩⟩
          unfold m_X8_adds_J66 m_X8_adds_J67
          rw [if_pos rfl, mb_gI (w := (I2, z)) hM.o]
          simp only [c4]
          rw [mb_vc (w := (I2, z)) hM.o, mb_call e6]
          rfl
end LPS
