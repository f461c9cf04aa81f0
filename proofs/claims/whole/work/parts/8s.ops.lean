/-! ===== each call of the law: both sides answer the same, the state stays ===== -/
def Op {α : Type} (f g : Mo α) : Prop := ∀ (w : Wd) (hs : HS) (hi : List HS) (im : Nat → Option HS) (tx : List Nat) (ns : List (List Nat)), CI w hs hi im tx ns → MI w hs hi im tx ns →
  ∃ (r : α) (w1 w2 : Wd) (hs' : HS) (hi' : List HS) (im' : Nat → Option HS) (tx' : List Nat) (ns' : List (List Nat)), f w = some (r, w1) ∧ g w1 = some (r, w2) ∧ CI w2 hs' hi' im' tx' ns' ∧ MI w2 hs' hi' im' tx' ns' ∧ Rm w w2 ∧ wS w1 = wS w2
theorem Op_mk {α : Type} {f g : Mo α} {w w1 : Wd} {hs hs' : HS} {hi hi' : List HS} {im im' : Nat → Option HS} {tx tx' : List Nat} {ns ns' : List (List Nat)} (hM : MI w hs hi im tx ns) {r : α} (e : f w = some (r, w1)) (c : CI w1 hs' hi' im' tx' ns') (fr : frC w w1) (rm : Rm w w1) (g' : MI w1 hs hi im tx ns → ∃ w2, g w1 = some (r, w2) ∧ MI w2 hs' hi' im' tx' ns' ∧ frM w1 w2) :
    ∃ (r : α) (w1 w2 : Wd) (hs' : HS) (hi' : List HS) (im' : Nat → Option HS) (tx' : List Nat) (ns' : List (List Nat)), f w = some (r, w1) ∧ g w1 = some (r, w2) ∧ CI w2 hs' hi' im' tx' ns' ∧ MI w2 hs' hi' im' tx' ns' ∧ Rm w w2 ∧ wS w1 = wS w2 := by
  obtain ⟨w2, e2, m2, f2⟩ := g' (MI_kept hM fr)
  exact ⟨r, w1, w2, _, _, _, _, _, e, e2, CI_frM c f2, m2, rm.two f2.1, by show w1.2.2.2 = w2.2.2.2; rw [f2.1]⟩
/-- neither side changes what it holds -/
theorem Op_read {α : Type} {f g : Mo α} {w : Wd} {hs : HS} {hi : List HS} {im : Nat → Option HS} {tx : List Nat} {ns : List (List Nat)} (hC : CI w hs hi im tx ns) (hM : MI w hs hi im tx ns) {r : α} {I2 : Nat → Nat → Int32} (e : f w = some (r, w)) (e2 : g w = some (r, (I2, w.2))) (hk : ∀ k, k ≠ 0 → I2 33 k = w.1 33 k) (hx : ∀ p, p ≠ 33 → p ≠ 33 + 12 → I2 p = w.1 p) :
    ∃ (r : α) (w1 w2 : Wd) (hs' : HS) (hi' : List HS) (im' : Nat → Option HS) (tx' : List Nat) (ns' : List (List Nat)), f w = some (r, w1) ∧ g w1 = some (r, w2) ∧ CI w2 hs' hi' im' tx' ns' ∧ MI w2 hs' hi' im' tx' ns' ∧ Rm w w2 ∧ wS w1 = wS w2 := by
  refine Op_mk hM e hC (frC.refl w) (Rm.same rfl rfl) (fun _ => ⟨(I2, w.2), e2, MI_own hM rfl (fun k hk' => hk k (by omega)) (fun x a b c => hx x (by omega) (by omega)), rfl, fun x hx' => ⟨hx x (by omega) (by omega), rfl⟩⟩)
theorem Op_read0 {α : Type} {f g : Mo α} {w : Wd} {hs : HS} {hi : List HS} {im : Nat → Option HS} {tx : List Nat} {ns : List (List Nat)} (hC : CI w hs hi im tx ns) (hM : MI w hs hi im tx ns) {r : α} (e : f w = some (r, w)) (e2 : g w = some (r, (u2 w.1 33 0 0, w.2))) :
    ∃ (r : α) (w1 w2 : Wd) (hs' : HS) (hi' : List HS) (im' : Nat → Option HS) (tx' : List Nat) (ns' : List (List Nat)), f w = some (r, w1) ∧ g w1 = some (r, w2) ∧ CI w2 hs' hi' im' tx' ns' ∧ MI w2 hs' hi' im' tx' ns' ∧ Rm w w2 ∧ wS w1 = wS w2 :=
  Op_read hC hM e e2 (fun k hk => u2_ne (Or.inr hk)) (fun p hp _ => u2_row hp)
theorem op_adds : Op (m_X7_adds 0) (m_X8_adds 33) := by
  intro w hs hi im tx ns hC hM
  obtain ⟨w1, ns', e, c, fr, rm⟩ := cadds_ok hC
  exact Op_mk hM e c fr rm (fun m => radds_ok m hC.2.1 c.2.2.2.1.1 c.2.2.2.2.1)
theorem op_query (x y : Int32) : Op (m_X7_query 0 x y) (m_X8_query 33 x y) := by
  intro w hs hi im tx ns hC hM
  obtain ⟨I2, e2, hk, hx⟩ := query_ok (I := w.1) hM.1 hC.2.1.1.1 hM.2.1 hM.2.2.1 hC.2.2.1.2.2.2.2.2.2.2 x y
  exact Op_read hC hM (cquery_ok (I := w.1) (z := w.2) hC.2.2.1 x y) e2 hk hx
theorem op_part (x k y : Int32) : Op (m_X7_part 0 x k y) (m_X8_part 33 x k y) := by
  intro w hs hi im tx ns hC hM
  obtain ⟨I2, e2, hk, hx⟩ := part_ok (I := w.1) hM.1 hC.2.1.1.1 hM.2.1 hM.2.2.1 hC.2.2.1.2.2.2.2.2.2.2 x k y
  exact Op_read hC hM (cpart_ok (I := w.1) (z := w.2) hC.2.2.1 x k y) e2 hk hx
theorem op_word (x y : Int32) : Op (m_X7_word 0 x y) (m_X8_word 33 x y) := by
  intro w hs hi im tx ns hC hM
  exact Op_read0 hC hM (cword_ok (I := w.1) (z := w.2) hC.2.2.1 x y) (word_ok hM.1 hM.2.2.1 x y)
theorem op_letter (x : Int32) : Op (m_X7_letter 0 x) (m_X8_letter 33 x) := by
  intro w hs hi im tx ns hC hM
  exact Op_read0 hC hM (cletter_ok (I := w.1) (z := w.2) hC.2.2.1 x) (letter_ok hM.1 hC.2.1.1.1 hM.2.1 x)
theorem op_next (x y : Int32) : Op (m_X7_next 0 x y) (m_X8_next 33 x y) := by
  intro w hs hi im tx ns hC hM
  obtain ⟨r, e, e2⟩ := next_same (I := w.1) (z := w.2) hC.2.2.1.1 hC.2.2.2.1 hC.2.2.2.2.1 hM.1 hM.2.2.1 x y
  exact Op_read0 hC hM e e2
theorem op_node (x y : Int32) : Op (m_X7_node 0 x y) (m_X8_node 33 x y) := by
  intro w hs hi im tx ns hC hM
  obtain ⟨r, e, e2⟩ := node_same (I := w.1) (z := w.2) hC.2.2.1.1 hC.2.2.2.1 hC.2.2.2.2.1 hM.1 hM.2.2.1 x y
  exact Op_read0 hC hM e e2
theorem op_hit (x y : Int32) : Op (m_X7_hit 0 x y) (m_X8_hit 33 x y) := by
  intro w hs hi im tx ns hC hM
  obtain ⟨r, I2, e, e2, hk, hx⟩ := hit_same (I := w.1) (z := w.2) hC.2.2.1 hM.1 hM.2.1 hM.2.2.1 x y
  exact Op_read hC hM e e2 hk hx
theorem op_now (x : Int32) : Op (m_X7_now 0 x) (m_X8_now 33 x) := by
  intro w hs hi im tx ns hC hM
  obtain ⟨kk, hk1, hk2⟩ := hC.2.2.2.2.2.1
  obtain ⟨r, I2, e, e2, hk, hx⟩ := now_same (I := w.1) (z := w.2) hC.2.2.1 hM.1 hM.2.1 hM.2.2.1 hk1 hk2 x
  exact Op_read hC hM e e2 hk hx
theorem op_shortest (x y : Int32) : Op (m_X7_shortest 0 x y) (m_X8_shortest 33 x y) := by
  intro w hs hi im tx ns hC hM
  obtain ⟨r, w1, e, a, c, fr, rm⟩ := cshortest_ok hC x y
  refine Op_mk hM e c fr rm (fun m => ?_)
  obtain ⟨r', w2, e2, a2, m2, f2⟩ := rshortest_ok m hC.2.1.1 x y
  rw [← ShA_one a a2] at e2
  exact ⟨w2, e2, m2, f2⟩
theorem op_more (x : Int32) : Op (m_X7_more 0 x) (m_X8_more 33 x) := by
  intro w hs hi im tx ns hC hM
  obtain ⟨r, w1, e, a, c, fr, rm⟩ := cmore_ok hC x
  refine Op_mk hM e c fr rm (fun m => ?_)
  obtain ⟨r', w2, e2, a2, m2, f2⟩ := rmore_ok m hC.2.1.1 x
  rw [← MoA_one a a2] at e2
  exact ⟨w2, e2, m2, f2⟩
theorem op_many (x y : Int32) : Op (m_X7_many 0 x y) (m_X8_many 33 x y) := by
  intro w hs hi im tx ns hC hM
  obtain ⟨w1, e, c, fr, rm⟩ := cmany_ok hC x y
  exact Op_mk hM e c fr rm (fun m => rmany_ok m hC.2.1.1 x y)
theorem op_keep (x : Int32) : Op (m_X7_keep 0 x) (m_X8_keep 33 x) := by
  intro w hs hi im tx ns hC hM
  obtain ⟨w1, e, c, fr, rm⟩ := ckeep_ok hC x
  exact Op_mk hM e c fr rm (fun m => rkeep_ok m hC.2.1 x)
theorem pw_uniq {α : Type} {r : α → α → Prop} (irr : ∀ a, ¬ r a a) (asy : ∀ a b, r a b → ¬ r b a) : ∀ (l l' : List α), l.Pairwise r → l'.Pairwise r → (∀ x, x ∈ l ↔ x ∈ l') → l = l' := by
  intro l
  induction l with
  | nil =>
    intro l' _ _ h
    cases l' with
    | nil => rfl
    | cons b l' => exact absurd ((h b).mpr List.mem_cons_self) (by simp)
  | cons a l ih =>
    intro l' h1 h2 h
    cases l' with
    | nil => exact absurd ((h a).mp List.mem_cons_self) (by simp)
    | cons b l' =>
      obtain ⟨a1, a2⟩ := List.pairwise_cons.mp h1
      obtain ⟨b1, b2⟩ := List.pairwise_cons.mp h2
      have hab : a = b := by
        rcases List.mem_cons.mp ((h a).mp List.mem_cons_self) with e | e
        · exact e
        · rcases List.mem_cons.mp ((h b).mpr List.mem_cons_self) with e2 | e2
          · exact e2.symm
          · exact absurd (b1 a e) (asy a b (a1 b e2))
      subst hab
      refine congrArg (a :: ·) (ih l' a2 b2 (fun x => ⟨fun hx => ?_, fun hx => ?_⟩))
      · rcases List.mem_cons.mp ((h x).mp (List.mem_cons_of_mem _ hx)) with e | e
        · subst e; exact absurd (a1 x hx) (irr x)
        · exact e
      · rcases List.mem_cons.mp ((h x).mpr (List.mem_cons_of_mem _ hx)) with e | e
        · subst e; exact absurd (b1 x hx) (irr x)
        · exact e
theorem NS_uniq {W ns ns' : List (List Nat)} (h : NS W ns) (h' : NS W ns') : ns = ns' :=
  pw_uniq (fun a h => nlt_irr a h) (fun a b h h2 => by unfold nlt at h h2; omega) ns ns' h.1 h'.1 (fun x => (h.2 x).trans (h'.2 x).symm)
theorem op_undo : Op (m_X7_undo 0) (m_X8_undo 33) := by
  intro w hs hi im tx ns hC hM
  obtain ⟨w1, ns', e, c, fr, rm⟩ := cundo_ok hC
  by_cases h0 : hi.length = 0
  · have hhi : hi = [] := List.length_eq_zero_iff.mp h0
    have hu : unHs hs hi = hs := by rw [hhi]; rfl
    have hd : hi.dropLast = hi := by rw [hhi]; rfl
    rw [hu, hd] at c
    have hns := NS_uniq c.2.2.2.1.1 hC.2.2.2.1.1
    subst hns
    refine Op_mk hM e c fr rm (fun m => ?_)
    obtain ⟨w2, e2, -, m2, f2⟩ := rundo_ok m hC.2.1 (by rw [hu]; exact c.2.2.2.1.1) c.2.2.2.2.1
    exact ⟨w2, e2, m2 h0, f2⟩
  · refine Op_mk hM e c fr rm (fun m => ?_)
    obtain ⟨w2, e2, m2, -, f2⟩ := rundo_ok m hC.2.1 c.2.2.2.1.1 c.2.2.2.2.1
    exact ⟨w2, e2, m2 h0, f2⟩
theorem op_back (x : Int32) : Op (m_X7_back 0 x) (m_X8_back 33 x) := by
  intro w hs hi im tx ns hC hM
  obtain ⟨w1, ns', e, c, fr, rm⟩ := cback_ok hC x
  by_cases h0 : ∃ i y, imAt x = some i ∧ im i = some y
  · refine Op_mk hM e c fr rm (fun m => ?_)
    obtain ⟨w2, e2, m2, -, f2⟩ := rback_ok m hC.2.1 x c.2.2.2.1.1 c.2.2.2.2.1
    exact ⟨w2, e2, m2 h0, f2⟩
  · have hu : bkHs hs im x = hs ∧ bkHi hi im x = hi := by
      unfold bkHs bkHi
      cases hx : imAt x with
      | none => exact ⟨rfl, rfl⟩
      | some i =>
        cases hy : im i with
        | none => dsimp only; rw [hy]; exact ⟨rfl, rfl⟩
        | some y => exact absurd ⟨i, y, hx, hy⟩ h0
    have hns := NS_uniq (show NS (Wo hs) ns' by have := c.2.2.2.1.1; rw [hu.1] at this; exact this) hC.2.2.2.1.1
    subst hns
    refine Op_mk hM e c fr rm (fun m => ?_)
    obtain ⟨w2, e2, -, m2, f2⟩ := rback_ok m hC.2.1 x c.2.2.2.1.1 c.2.2.2.2.1
    refine ⟨w2, e2, ?_, f2⟩
    rw [hu.1, hu.2]
    exact m2 h0
section OPS
variable {w : Wd} {hs : HS} {hi : List HS} {im : Nat → Option HS} {tx : List Nat} {ns : List (List Nat)}
theorem op_drops (x : Int32) : Op (m_X7_drops 0 x) (m_X8_drops 33 x) := by
  intro w hs hi im tx ns hC hM
  cases hq : qAt hs x with
  | some v =>
    obtain ⟨q, Q⟩ := v
    have hq' : x = nI q ∧ hs.1[q]? = some Q := by
      unfold qAt at hq
      by_cases hx : x < 0
      · rw [if_pos hx] at hq; cases hq
      · obtain ⟨n, hn, rfl⟩ := i32_nn hx
        rw [if_neg hx, nI_clamp (by omega)] at hq
        cases hh : hs.1[n]? with
        | none => rw [hh] at hq; cases hq
        | some Q' =>
          rw [hh] at hq
          have h1 := Option.some.inj hq
          have h2 : n = q := congrArg Prod.fst h1
          have h3 : Q' = Q := congrArg Prod.snd h1
          subst h2; subst h3
          exact ⟨rfl, hh⟩
    obtain ⟨rfl, hQ⟩ := hq'
    obtain ⟨w1, ns', e, c, fr, rm⟩ := cdrop_ok hC hQ
    exact Op_mk hM e c fr rm (fun m => rdrop_ok m hC.2.1 hQ c.2.2.2.1.1 c.2.2.2.2.1)
  | none =>
    have hSQ := hC.2.2.1.1
    refine Op_read0 hC hM (r := -1) ?_ ?_
    · unfold m_X7_drops
      rw [mb_vc hSQ.1, mb_call (cisQuery_ok (I := w.1) (z := w.2) hC.2.2.1 x), hq]
      rfl
    · unfold m_X8_drops
      rw [mb_sI hM.1.o, mb_vc (w := (u2 w.1 33 0 0, w.2)) hM.1.o, mb_call (isQuery_ok (I := u2 w.1 33 0 0) hM.1 hC.2.1.1.1 (by rw [u2_row (by omega)]; exact hM.2.1) x), hq]
      rfl
theorem op_feeds (x : Int32) : Op (m_X7_feeds 0 x) (m_X8_feeds 33 x) := by
  intro w hs hi im tx ns hC hM
  have hSQ := hC.2.2.1.1
  have hHR := hC.2.2.1.2.2.1
  have hl40 : hs.2.length ≤ 40 := hC.2.1.1.1.2.1
  rcases isLetter_ok x w with ⟨e, hx⟩ | ⟨c, hc, rfl, e⟩
  · refine Op_read0 hC hM (r := -1) ?_ ?_
    · unfold m_X7_feeds
      rw [mb_call e, if_pos rfl]; rfl
    · unfold m_X8_feeds
      rw [mb_sI hM.1.o, mb_call (in_ok _ _ _ _), Int32.toInt_toInt64, show (97 : Int64).toInt = 97 by decide, show (104 : Int64).toInt = 104 by decide, decide_eq_false (by omega), if_pos (show bI false = 0 from rfl)]
      rfl
  · by_cases hl : hs.2.length < 40
    · obtain ⟨w1, k, e, c1, hk, fr, rm⟩ := cfeed_ok hC hc hl
      refine Op_mk hM e c1 fr rm (fun m => ?_)
      obtain ⟨w2, k2, e2, hk2, m2, f2⟩ := rfeed_ok m hC.2.1 hc hl
      have hkk : k2 = k := nodup_idx (hC.2.2.2.1.1.1.imp (fun hlt e => by rw [e] at hlt; exact nlt_irr _ hlt)) hk2 hk
      rw [hkk] at e2
      exact ⟨w2, e2, m2, f2⟩
    · have h40 : hs.2.length = 40 := by omega
      have hc1 : w.1 12 1 = nI hs.2.length := hHR.2.1
      have hr1 : u2 w.1 33 0 0 (33 + 2) 1 = nI hs.2.length := by rw [u2_row (by omega)]; exact hM.2.1.2.1
      refine Op_read0 hC hM (r := -3) ?_ ?_
      · unfold m_X7_feeds
        rw [mb_call e, if_neg (show ¬ (1 : Int32) = 0 by decide), mb_gR hSQ.1 hSQ.2.1.2.1, mb_gI hSQ.2.2.1.1]
        simp only [hc1]
        rw [if_neg (show ¬ nI hs.2.length < 40 by rw [h40]; decide)]
        rfl
      · unfold m_X8_feeds
        rw [mb_sI hM.1.o, mb_call (in_ok _ _ _ _), Int32.toInt_toInt64, nI_toInt (by omega), show (97 : Int64).toInt = 97 by decide, show (104 : Int64).toInt = 104 by decide, decide_eq_true (by omega), if_neg (show ¬ bI true = 0 by decide), mb_gR (w := (u2 w.1 33 0 0, w.2)) hM.1.o hM.1.rNow, show aI (33 + 2) 1 = aI (33 + 2) (nI 1) from rfl, mb_aI (w := (u2 w.1 33 0 0, w.2)) hM.1.sNow (show 1 < 178 by omega) (by omega)]
        simp only [hr1]
        rw [if_pos (show nI hs.2.length = 40 by rw [h40]; rfl)]
        rfl
theorem op_cuts : Op (m_X7_cuts 0) (m_X8_cuts 33) := by
  intro w hs hi im tx ns hC hM
  have hSQ := hC.2.2.1.1
  have hHR := hC.2.2.1.2.2.1
  by_cases hl : hs.2.length = 0
  · have hc1 : w.1 12 1 = nI hs.2.length := hHR.2.1
    have hr1 : u2 w.1 33 0 0 (33 + 2) 1 = nI hs.2.length := by rw [u2_row (by omega)]; exact hM.2.1.2.1
    refine Op_read0 hC hM (r := -2) ?_ ?_
    · unfold m_X7_cuts
      rw [mb_gR hSQ.1 hSQ.2.1.2.1, mb_gI hSQ.2.2.1.1]
      simp only [hc1]
      rw [if_neg (show ¬ 0 < nI hs.2.length by rw [hl]; decide)]
      rfl
    · unfold m_X8_cuts
      rw [mb_sI hM.1.o, mb_gR (w := (u2 w.1 33 0 0, w.2)) hM.1.o hM.1.rNow, show aI (33 + 2) 1 = aI (33 + 2) (nI 1) from rfl, mb_aI (w := (u2 w.1 33 0 0, w.2)) hM.1.sNow (show 1 < 178 by omega) (by omega)]
      simp only [hr1]
      rw [if_pos (show nI hs.2.length = 0 by rw [hl]; rfl)]
      rfl
  · have hne : hs.2 ≠ [] := fun e => hl (by rw [e]; rfl)
    have hls := (List.dropLast_concat_getLast hne).symm
    obtain ⟨w1, e, c, fr, rm⟩ := ccut_ok hC hls
    exact Op_mk hM e c fr rm (fun m => rcut_ok m hC.2.1 hls)
theorem op_count (x : Int32) : Op (m_X7_count 0 x) (m_X8_count 33 x) := by
  intro w hs hi im tx ns hC hM
  have hSQ := hC.2.2.1.1
  have hHR := hC.2.2.1.2.2.1
  obtain ⟨hCB, hO, ⟨lt, g1, g2, g3, g4⟩, hI⟩ := CI_CB hC
  have hX := hM.2.2.1
  have k : ∀ j, j ≠ 0 → u2 w.1 33 0 0 33 j = w.1 33 j := fun j hj => u2_ne (Or.inr hj)
  unfold m_X7_count m_X8_count
  by_cases h0 : x = 0
  · refine Op_read0 hC hM (r := nI hs.1.length) ?_ ?_
    · rw [if_pos h0, mb_gR hSQ.1 hSQ.2.1.2.1, mb_gI hSQ.2.2.1.1, hHR.1]; rfl
    · rw [mb_sI hM.1.o, if_pos h0, mb_gR (w := (u2 w.1 33 0 0, w.2)) hM.1.o hM.1.rNow, show aI (33 + 2) 0 = aI (33 + 2) (nI 0) from rfl, mb_aI (w := (u2 w.1 33 0 0, w.2)) hM.1.sNow (show 0 < 178 by omega) (by omega)]
      dsimp only
      rw [u2_row (by omega), show w.1 (33 + 2) 0 = nI hs.1.length from hM.2.1.1]; rfl
  by_cases h1 : x = 1
  · refine Op_read0 hC hM (r := nI (Wo hs).length) ?_ ?_
    · rw [if_neg h0, if_pos h1, mb_gR hSQ.1 hSQ.2.1.2.2.2.2.1, mb_gI hSQ.2.2.2.1.1, hC.2.2.1.2.2.2.2.2.1.1, List.length_map]; rfl
    · rw [mb_sI hM.1.o, if_neg h0, if_pos h1, mb_gI (w := (u2 w.1 33 0 0, w.2)) hM.1.o]
      dsimp only
      rw [k 15 (by omega), hX.2.2.2.2.1.1]; rfl
  by_cases h2 : x = 2
  · refine Op_read0 hC hM (r := nI ns.length) ?_ ?_
    · rw [if_neg h0, if_neg h1, if_pos h2, mb_gR hSQ.1 hSQ.2.1.2.2.2.2.2.1, mb_gI hSQ.2.2.2.2.1.1, hC.2.2.2.1.2.1]; rfl
    · rw [mb_sI hM.1.o, if_neg h0, if_neg h1, if_pos h2, mb_gI (w := (u2 w.1 33 0 0, w.2)) hM.1.o]
      dsimp only
      rw [k 17 (by omega), hX.2.2.2.2.2.1.1, List.length_map]; rfl
  by_cases h3 : x = 3
  · refine Op_read0 hC hM (r := nI hs.2.length) ?_ ?_
    · rw [if_neg h0, if_neg h1, if_neg h2, if_pos h3, mb_gR hSQ.1 hSQ.2.1.2.1, mb_gI hSQ.2.2.1.1, hHR.2.1]; rfl
    · rw [mb_sI hM.1.o, if_neg h0, if_neg h1, if_neg h2, if_pos h3, mb_gR (w := (u2 w.1 33 0 0, w.2)) hM.1.o hM.1.rNow, show aI (33 + 2) 1 = aI (33 + 2) (nI 1) from rfl, mb_aI (w := (u2 w.1 33 0 0, w.2)) hM.1.sNow (show 1 < 178 by omega) (by omega)]
      dsimp only
      rw [u2_row (by omega), show w.1 (33 + 2) 1 = nI hs.2.length from hM.2.1.2.1]; rfl
  by_cases h4 : x = 4
  · refine Op_read0 hC hM (r := nI hi.length) ?_ ?_
    · rw [if_neg h0, if_neg h1, if_neg h2, if_neg h3, if_pos h4, mb_gR hSQ.1 hSQ.2.1.2.2.1, mb_gI hCB.2.2.2.2.2.2.2.1.1, g3]; rfl
    · rw [mb_sI hM.1.o, if_neg h0, if_neg h1, if_neg h2, if_neg h3, if_pos h4, mb_gI (w := (u2 w.1 33 0 0, w.2)) hM.1.o]
      dsimp only
      rw [k 11 (by omega), hM.2.2.2.2.1]; rfl
  by_cases h5 : x = 5
  · refine Op_read0 hC hM (r := nI tx.length) ?_ ?_
    · rw [if_neg h0, if_neg h1, if_neg h2, if_neg h3, if_neg h4, if_pos h5, mb_gR hSQ.1 hSQ.2.1.1, mb_gI hCB.2.2.2.2.2.2.1.1, hCB.2.2.2.2.2.2.2.2.2.2.1]; rfl
    · rw [mb_sI hM.1.o, if_neg h0, if_neg h1, if_neg h2, if_neg h3, if_neg h4, if_pos h5, mb_gI (w := (u2 w.1 33 0 0, w.2)) hM.1.o]
      dsimp only
      rw [k 2 (by omega), hM.2.2.2.1.1]; rfl
  refine Op_read0 hC hM (r := -1) ?_ ?_
  · rw [if_neg h0, if_neg h1, if_neg h2, if_neg h3, if_neg h4, if_neg h5]; rfl
  · rw [mb_sI hM.1.o, if_neg h0, if_neg h1, if_neg h2, if_neg h3, if_neg h4, if_neg h5]; rfl
theorem CB_tx {tx' : List Nat} (h : CB w hs tx ns) {I' : Nat → Nat → Int32} (gi : ∀ x, x ≠ 1 → x ≠ 2 → I' x = w.1 x) (ht : TXT (I', w.2) tx') : CB (I', w.2) hs tx' ns ∧ frC w (I', w.2) := by
  obtain ⟨h1, h2, ⟨k1, k2, k3, k4, k5, k6, k7, k8⟩, h4, h5, ⟨k, h6, h6'⟩, h7, h8, h9, h10, h11⟩ := h
  refine ⟨⟨h1, h2, ⟨k1, k2, k3.kept (fun j hj => gi _ (by omega) (by omega)), k4, k5, ?_, k7, k8⟩, h4.kept (fun j hj => gi _ (by omega) (by omega)), h5, ⟨k, h6, by show I' 0 7 = _; rw [gi 0 (by omega) (by omega)]; exact h6'⟩, h7, h8, h9, ?_, ht⟩, ⟨fun x p q => ⟨gi x (by omega) (by omega), rfl⟩, [], by show w.2.2.2 = w.2.2.2 ++ []; rw [List.append_nil]⟩⟩
  · show WL (I' 22) (I' 23) _; rw [gi 22 (by omega) (by omega), gi 23 (by omega) (by omega)]; exact k6
  · intro p hp
    obtain ⟨q1, q2, q3⟩ := h10 p hp
    exact ⟨q1, q2, by show I' (p + 4) 0 = 0; rw [gi _ (by omega) (by omega)]; exact q3⟩
theorem CI_tx {tx' : List Nat} (h : CI w hs hi im tx ns) {I' : Nat → Nat → Int32} (gi : ∀ x, x ≠ 1 → x ≠ 2 → I' x = w.1 x) (ht : TXT (I', w.2) tx') (hl : tx'.length ≤ 150) (hc : ∀ c ∈ tx', c < 256) : CI (I', w.2) hs hi im tx' ns ∧ frC w (I', w.2) := by
  obtain ⟨hCB, hO, hH, hIm⟩ := CI_CB h
  have h9 := hCB.2.2.2.2.2.2.2.2.1
  obtain ⟨c1, c2⟩ := CB_tx hCB gi ht
  exact ⟨CB_CI c1 ⟨hO.1, hO.2.1, hO.2.2.1, hO.2.2.2.1, hl, hc⟩ (HIS_fr hH h9 rfl (gi 19 (by omega) (by omega)) (fun x hx => gi x (by omega) (by omega))) (IMG_fr hIm h9 rfl (fun x hx => gi x (by omega) (by omega))), c2⟩
theorem op_clear : Op (m_X7_clear 0) (m_X8_clear 33) := by
  intro w hs hi im tx ns hC hM
  have hSQ := hC.2.2.1.1
  obtain ⟨hCB, hO, hH, hIm⟩ := CI_CB hC
  obtain ⟨o1, ⟨r0, r2, r3⟩, s2, hO3, hW10⟩ := hCB.2.2.2.2.2.2.1
  have ht := hCB.2.2.2.2.2.2.2.2.2.2.1
  obtain ⟨c, fr⟩ := CI_tx (tx' := []) hC (I' := u2 w.1 1 1 0) (fun x a b => u2_row a) ⟨show u2 w.1 1 1 0 1 1 = 0 from u2_eq _ _ _ _, fun i c hc => by simp at hc⟩ (by simp) (by simp)
  refine Op_mk hM (r := nI tx.length) (w1 := (u2 w.1 1 1 0, w.2)) ?_ c fr (Rm.same rfl rfl) (fun m => ?_)
  · unfold m_X7_clear
    rw [mb_gR hSQ.1 hSQ.2.1.1, mb_gI o1, ht, mb_gR hSQ.1 hSQ.2.1.1, mb_sI o1]
    rfl
  · obtain ⟨h1, h2, h3, h4, h5, h6, h7⟩ := m
    generalize u2 w.1 1 1 0 = I at *
    generalize w.2 = z at *
    refine ⟨(u2 (u2 I 33 0 0) 33 2 0, z), ?_, ⟨h1, ?_, h3.kept ?_ ?_ (fun j a b => ?_), ⟨?_, fun i c hc => by simp at hc⟩, ?_, ?_, ?_⟩, rfl, fun x hx => ⟨?_, rfl⟩⟩
    · unfold m_X8_clear
      rw [mb_sI (w := (I, z)) h1.o, mb_gI (w := (u2 I 33 0 0, z)) h1.o]
      have e2 : u2 I 33 0 0 33 2 = nI tx.length := by rw [u2_ne (Or.inr (by omega))]; exact h4.1
      simp only [e2]
      rw [mb_sI (w := (u2 I 33 0 0, z)) h1.o]
      rfl
    · show RR (u2 (u2 I 33 0 0) 33 2 0 35) hs
      rw [u2_row (by omega), u2_row (by omega)]; exact h2
    · show u2 (u2 I 33 0 0) 33 2 0 33 15 = I 33 15
      rw [u2_ne (Or.inr (by omega)), u2_ne (Or.inr (by omega))]
    · show u2 (u2 I 33 0 0) 33 2 0 33 17 = I 33 17
      rw [u2_ne (Or.inr (by omega)), u2_ne (Or.inr (by omega))]
    · show u2 (u2 I 33 0 0) 33 2 0 _ = I _
      rw [u2_row (by omega), u2_row (by omega)]
    · show u2 (u2 I 33 0 0) 33 2 0 33 2 = 0
      exact u2_eq _ _ _ _
    · show u2 (u2 I 33 0 0) 33 2 0 33 11 = _
      rw [u2_ne (Or.inr (by omega)), u2_ne (Or.inr (by omega))]; exact h5
    · show ∀ (j : Nat) (h : HS), hi[j]? = some h → RR (fun k => u2 (u2 I 33 0 0) 33 2 0 37 (178 * j + k)) h
      rw [u2_row (by omega), u2_row (by omega)]; exact h6
    · show ∀ i, i < 2 → (im i = none ∧ u2 (u2 I 33 0 0) 33 2 0 38 i = 0) ∨ ∃ h, im i = some h ∧ u2 (u2 I 33 0 0) 33 2 0 38 i = 1 ∧ RR (fun k => u2 (u2 I 33 0 0) 33 2 0 39 (178 * i + k)) h
      rw [u2_row (by omega), u2_row (by omega), u2_row (by omega), u2_row (by omega)]; exact h7
    · show u2 (u2 I 33 0 0) 33 2 0 x = I x
      rw [u2_row (by omega), u2_row (by omega)]
theorem op_type (x : Int32) : Op (m_X7_type 0 x) (m_X8_type 33 x) := by
  intro w hs hi im tx ns hC hM
  have hSQ := hC.2.2.1.1
  obtain ⟨hCB, hO, hH, hIm⟩ := CI_CB hC
  obtain ⟨o1, ⟨r0, r2, r3⟩, s2, hO3, hW10⟩ := hCB.2.2.2.2.2.2.1
  obtain ⟨ht, ht2⟩ := hCB.2.2.2.2.2.2.2.2.2.2
  have h150 := hO.2.2.2.2.1
  have hr2 : u2 w.1 33 0 0 33 2 = nI tx.length := by rw [u2_ne (Or.inr (by omega))]; exact hM.2.2.2.1.1
  have hbad : ¬ (0 ≤ x.toInt ∧ x.toInt ≤ 255) → m_X7_type 0 x w = some (-1, w) → ∃ (r : Int32) (w1 w2 : Wd) (hs' : HS) (hi' : List HS) (im' : Nat → Option HS) (tx' : List Nat) (ns' : List (List Nat)), m_X7_type 0 x w = some (r, w1) ∧ m_X8_type 33 x w1 = some (r, w2) ∧ CI w2 hs' hi' im' tx' ns' ∧ MI w2 hs' hi' im' tx' ns' ∧ Rm w w2 ∧ wS w1 = wS w2 := fun hb e => by
    refine Op_read0 hC hM (r := -1) e ?_
    unfold m_X8_type
    rw [mb_sI hM.1.o, mb_call (in_ok _ _ _ _), Int32.toInt_toInt64, show (0 : Int64).toInt = 0 by decide, show (255 : Int64).toInt = 255 by decide, decide_eq_false hb, if_pos (show bI false = 0 from rfl)]
    rfl
  by_cases hx : x < 0
  · refine hbad (fun hh => ?_) ?_
    · have := Int32.lt_iff_toInt_lt.mp hx
      rw [show (0 : Int32).toInt = 0 by decide] at this
      omega
    · unfold m_X7_type; rw [if_pos hx]; rfl
  obtain ⟨c, hn, rfl⟩ := i32_nn hx
  by_cases hc : c ≤ 255
  · by_cases hl : tx.length < 150
    · obtain ⟨cc, fr⟩ := CI_tx (tx' := tx ++ [c]) hC (I' := u2 (u2 w.1 2 tx.length (nI c)) 1 1 (nI (tx.length + 1))) (fun x a b => by rw [u2_row a, u2_row b]) ⟨by show u2 (u2 w.1 2 tx.length (nI c)) 1 1 (nI (tx.length + 1)) 1 1 = _; rw [u2_eq, List.length_append]; rfl, fun i d hd => by
        show u2 (u2 w.1 2 tx.length (nI c)) 1 1 (nI (tx.length + 1)) 2 i = nI d
        rw [u2_row (by omega)]
        rcases app_get hd with hd | ⟨rfl, rfl⟩
        · rw [u2_ne (Or.inr (by have := (List.getElem?_eq_some_iff.mp hd).1; omega))]; exact ht2 i d hd
        · rw [u2_eq]⟩ (by simp; omega) (fun d hd => by
        rcases List.mem_append.mp hd with hd | hd
        · exact hO.2.2.2.2.2 d hd
        · rw [List.mem_singleton.mp hd]; omega)
      refine Op_mk hM (r := nI (tx.length + 1)) (w1 := (u2 (u2 w.1 2 tx.length (nI c)) 1 1 (nI (tx.length + 1)), w.2)) ?_ cc fr (Rm.same rfl rfl) (fun m => ?_)
      · have hap : m_X5_append 1 (nI c) w = some (1, (u2 (u2 w.1 2 tx.length (nI c)) 1 1 (nI (tx.length + 1)), w.2)) := by
          unfold m_X5_append
          rw [mb_gI o1, ht, if_pos (show nI tx.length < 150 from nI_lt (b := 150) hl (by omega)), mb_gR o1 r0, mb_gI o1, ht, mb_tI s2 (show tx.length < 150 by omega) (by omega), mb_gI (w := (u2 w.1 2 tx.length (nI c), w.2)) o1]
          rw [show (u2 w.1 2 tx.length (nI c), w.2).1 1 1 = nI tx.length from (by show u2 w.1 2 tx.length (nI c) 1 1 = _; rw [u2_row (by omega)]; exact ht), nI_1, mb_sI (w := (u2 w.1 2 tx.length (nI c), w.2)) o1]
          rfl
        unfold m_X7_type
        rw [if_neg hx, if_pos (show nI c ≤ 255 from nI_le (b := 255) hc (by omega)), mb_gR hSQ.1 hSQ.2.1.1, mb_vc o1, mb_call hap, if_neg (show ¬ (1 : Int32) = 0 by decide), mb_gR (w := (u2 (u2 w.1 2 tx.length (nI c)) 1 1 (nI (tx.length + 1)), w.2)) hSQ.1 hSQ.2.1.1, mb_gI (w := (u2 (u2 w.1 2 tx.length (nI c)) 1 1 (nI (tx.length + 1)), w.2)) o1]
        show some (u2 (u2 w.1 2 tx.length (nI c)) 1 1 (nI (tx.length + 1)) 1 1, _) = _
        rw [u2_eq]
      · obtain ⟨h1, h2, h3, h4, h5, h6, h7⟩ := m
        generalize u2 (u2 w.1 2 tx.length (nI c)) 1 1 (nI (tx.length + 1)) = I at *
        generalize w.2 = z at *
        have hr2' : u2 I 33 0 0 33 2 = nI tx.length := by rw [u2_ne (Or.inr (by omega))]; exact h4.1
        generalize hK : u2 (u2 (u2 I 33 0 0) 34 tx.length (nI c)) 33 2 (nI (tx.length + 1)) = K
        have kx : ∀ x, x ≠ 33 → x ≠ 34 → K x = I x := fun x a b => by rw [← hK, u2_row a, u2_row b, u2_row a]
        have kk : ∀ k, k ≠ 0 → k ≠ 2 → K 33 k = I 33 k := fun k a b => by rw [← hK, u2_ne (Or.inr b), u2_row (by omega), u2_ne (Or.inr a)]
        refine ⟨(K, z), ?_, ⟨h1, ?_, h3.kept (kk 15 (by omega) (by omega)) (kk 17 (by omega) (by omega)) (fun j a b => kx _ (by omega) (by omega)), ⟨?_, fun i d hd => ?_⟩, ?_, ?_, ?_⟩, rfl, fun x hx' => ⟨kx x (by omega) (by omega), rfl⟩⟩
        · unfold m_X8_type
          rw [mb_sI (w := (I, z)) h1.o, mb_call (in_ok _ _ _ _), Int32.toInt_toInt64, nI_toInt (by omega), show (0 : Int64).toInt = 0 by decide, show (255 : Int64).toInt = 255 by decide, decide_eq_true (by omega), if_neg (show ¬ bI true = 0 by decide), mb_gI (w := (u2 I 33 0 0, z)) h1.o]
          simp only [hr2']
          rw [if_neg (show ¬ nI tx.length = 150 from fun e => by have := (nI_eq (b := 150) (by omega) (by omega)).mp e; omega), mb_gR (w := (u2 I 33 0 0, z)) h1.o h1.rText, mb_gI (w := (u2 I 33 0 0, z)) h1.o]
          simp only [hr2']
          rw [mb_tI (w := (u2 I 33 0 0, z)) h1.sText (show tx.length < 150 by omega) (by omega)]
          dsimp only
          have hr3 : u2 (u2 I 33 0 0) (33 + 1) tx.length (nI c) 33 2 = nI tx.length := by rw [u2_row (by omega)]; exact hr2'
          rw [mb_gI (w := (u2 (u2 I 33 0 0) (33 + 1) tx.length (nI c), z)) h1.o]
          simp only [hr3]
          rw [nI_1, mb_sI (w := (u2 (u2 I 33 0 0) (33 + 1) tx.length (nI c), z)) h1.o]
          dsimp only
          rw [show u2 (u2 (u2 I 33 0 0) (33 + 1) tx.length (nI c)) 33 2 (nI (tx.length + 1)) = K from hK, mb_gI (w := (K, z)) h1.o]
          show some (K 33 2, (K, z)) = _
          rw [← hK, u2_eq]
        · show RR (K 35) hs
          rw [kx 35 (by omega) (by omega)]; exact h2
        · show K 33 2 = _
          rw [← hK, u2_eq, List.length_append]; rfl
        · show K 34 i = nI d
          rw [← hK, u2_row (by omega)]
          rcases app_get hd with hd | ⟨rfl, rfl⟩
          · rw [u2_ne (Or.inr (by have := (List.getElem?_eq_some_iff.mp hd).1; omega)), u2_row (by omega)]; exact h4.2 i d hd
          · rw [u2_eq]
        · show K 33 11 = _
          rw [kk 11 (by omega) (by omega)]; exact h5
        · show ∀ (j : Nat) (h : HS), hi[j]? = some h → RR (fun k => K 37 (178 * j + k)) h
          rw [kx 37 (by omega) (by omega)]; exact h6
        · show ∀ i, i < 2 → (im i = none ∧ K 38 i = 0) ∨ ∃ h, im i = some h ∧ K 38 i = 1 ∧ RR (fun k => K 39 (178 * i + k)) h
          rw [kx 38 (by omega) (by omega), kx 39 (by omega) (by omega)]; exact h7
    · have h150' : tx.length = 150 := by omega
      refine Op_read0 hC hM (r := -3) ?_ ?_
      · have hap : m_X5_append 1 (nI c) w = some (0, w) := by
          unfold m_X5_append
          rw [mb_gI o1, ht, if_neg (show ¬ nI tx.length < 150 by rw [h150']; decide)]
          rfl
        unfold m_X7_type
        rw [if_neg hx, if_pos (show nI c ≤ 255 from nI_le (b := 255) hc (by omega)), mb_gR hSQ.1 hSQ.2.1.1, mb_vc o1, mb_call hap, if_pos rfl]
        rfl
      · unfold m_X8_type
        rw [mb_sI hM.1.o, mb_call (in_ok _ _ _ _), Int32.toInt_toInt64, nI_toInt (by omega), show (0 : Int64).toInt = 0 by decide, show (255 : Int64).toInt = 255 by decide, decide_eq_true (by omega), if_neg (show ¬ bI true = 0 by decide), mb_gI (w := (u2 w.1 33 0 0, w.2)) hM.1.o]
        simp only [hr2]
        rw [if_pos (show nI tx.length = 150 by rw [h150']; rfl)]
        rfl
  · refine hbad (fun hh => ?_) ?_
    · rw [nI_toInt (by omega)] at hh; omega
    · unfold m_X7_type
      rw [if_neg hx, if_neg (show ¬ nI c ≤ 255 from nI_ge (a := 255) (by omega) (by omega))]; rfl
end OPS
