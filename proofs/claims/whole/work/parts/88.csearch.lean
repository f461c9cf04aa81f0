/-! ===== shortest(), more(), many(): the class's ===== -/
def shAns (o : Option (List Nat)) (y : Int32) : Int32 := match o with
  | none => -9
  | some u => if y = -1 then nI u.length else match lAt u.reverse y with
    | none => -9
    | some c => nI (97 + c)
def ShA (hs : HS) (x y r : Int32) : Prop := match qAt hs x with
  | none => r = -1
  | some (_, Q) => if -1 ≤ y then ∃ o, BR (accQ Q) o ∧ r = shAns o y else r = -1
def MoA (hs : HS) (x r : Int32) : Prop := match qAt hs x with
  | none => r = -1
  | some (_, Q) => ∃ o, BR (fun t => accQ Q (t ++ hs.2.reverse)) o ∧ r = resN o
def maAns (hs : HS) (x y : Int32) : Int64 := match qAt hs x with
  | none => -1
  | some (_, Q) => if y < 0 then -1 else if y ≤ 12 then lN (cS y.toNatClampNeg (accQ Q)) else -1
theorem BR_cong {L L' : List Nat → Bool} (h : ∀ u, ok8 u → L u = L' u) {o : Option (List Nat)} (hb : BR L o) : BR L' o := by
  cases o with
  | none => exact fun u hu hl => by rw [← h u hu]; exact hb u hu hl
  | some t =>
    obtain ⟨a, b, c, d⟩ := hb
    exact ⟨a, b, by rw [← h t a]; exact c, fun u hu hL => d u hu (by rw [h u hu]; exact hL)⟩
theorem ShA_one {hs : HS} {x y r r' : Int32} (h : ShA hs x y r) (h' : ShA hs x y r') : r = r' := by
  unfold ShA at h h'
  cases e : qAt hs x with
  | none => rw [e] at h h'; exact h.trans h'.symm
  | some p =>
    rw [e] at h h'
    by_cases hy : -1 ≤ y
    · dsimp only at h h'
      rw [if_pos hy] at h h'
      obtain ⟨o, a, rfl⟩ := h
      obtain ⟨o', a', rfl⟩ := h'
      rw [BR_same (fun _ _ => rfl) a a']
    · dsimp only at h h'
      rw [if_neg hy] at h h'
      exact h.trans h'.symm
theorem MoA_one {hs : HS} {x r r' : Int32} (h : MoA hs x r) (h' : MoA hs x r') : r = r' := by
  unfold MoA at h h'
  cases e : qAt hs x with
  | none => rw [e] at h h'; exact h.trans h'.symm
  | some p =>
    rw [e] at h h'
    obtain ⟨o, a, rfl⟩ := h
    obtain ⟨o', a', rfl⟩ := h'
    rw [BR_same (fun _ _ => rfl) a a']
theorem CI_okQ {w : Wd} {hs : HS} {hi : List HS} {im : Nat → Option HS} {tx : List Nat} {ns : List (List Nat)} (h : CI w hs hi im tx ns) {q : Nat} {Q : List Pt} (hq : hs.1[q]? = some Q) : okQ Q := by
  have hm := List.mem_of_getElem? hq
  have ho := h.2.1.1
  exact ⟨(ho.1.2.2.1 Q hm).1, (ho.1.2.2.1 Q hm).2, ho.2.2 Q hm⟩
section CSE
variable {w : Wd} {hs : HS} {hi : List HS} {im : Nat → Option HS} {tx : List Nat} {ns : List (List Nat)}
theorem searchAt_ok (h : CI w hs hi im tx ns) {q : Nat} {Q : List Pt} (hq : hs.1[q]? = some Q) {p : Nat} (hp : w.2.2.1 0 8 = some p) : ∃ I' ns1, m_X7_searchFor_J22 0 (nI q) p w = some (p, (I', w.2)) ∧ PRE p I' Q ns1 ∧ ∀ x, (x < p ∨ p + 11 < x) → I' x = w.1 x := by
  obtain ⟨p48, hSO, hp4⟩ := h.2.2.2.2.2.2.2.2.2.1 p hp
  obtain ⟨k1, k2, k3, -⟩ := h.2.2.1
  obtain ⟨o, ⟨-, f1, -⟩, hho, -⟩ := id k1
  obtain ⟨I', ns1, e, hP, hF⟩ := prepare_ok hSO p48 hho k3 k2 hq (CI_okQ h hq).2.2 hp4
  refine ⟨I', ns1, ?_, hP, hF⟩
  unfold m_X7_searchFor_J22
  rw [mb_gR o f1, mb_vc hSO.1, mb_call e]
  rfl
/-- changes within the Search -/
theorem frK_at (h : SLT w.2) {p : Nat} (p48 : 48 ≤ p) (hSO : SO w.2 p) {I' : Nat → Nat → Int32} {z' : Zd} (hI : ∀ x, (x < p ∨ p + 15 < x) → I' x = w.1 x) (hJ : ∀ x, (x < p ∨ p + 15 < x) → z'.1 x = w.2.1 x) (hR : ∀ x k, x ≠ p → z'.2.1 x k = w.2.2.1 x k) (hS : z'.2.2 = w.2.2.2) : frK w (I', z') := by
  refine ⟨fun x hx => ⟨hI x (by omega), hJ x (by omega)⟩, fun x k hx _ => hR x k (by omega), ⟨[], by show z'.2.2 = w.2.2.2 ++ []; rw [hS, List.append_nil]⟩, fun j q hj hq i hi => ?_⟩
  have hd := HO_SO (h.1 j q hj hq).2 hSO
  exact ⟨hI _ (by omega), funext fun k => hR _ k (by omega)⟩
theorem searchFor_ok (h : CI w hs hi im tx ns) {q : Nat} {Q : List Pt} (hq : hs.1[q]? = some Q) : ∃ p w' ns1, m_X7_searchFor 0 (nI q) w = some (p, w') ∧ CI w' hs hi im tx ns ∧ frC w w' ∧ Rm w w' ∧ w'.2.2.1 0 8 = some p ∧ PRE p w'.1 Q ns1 := by
  have hSQ := h.2.2.1.1
  cases h8 : w.2.2.1 0 8 with
  | some p =>
    obtain ⟨p48, hSO, hp4⟩ := h.2.2.2.2.2.2.2.2.2.1 p h8
    obtain ⟨I', ns1, e, hP, hF⟩ := searchAt_ok h hq h8
    have hk : frK w (I', w.2) := frK_at h.2.2.2.2.2.2.2.2.1 p48 hSO (fun x hx => hF x (by omega)) (fun _ _ => rfl) (fun _ _ _ => rfl) rfl
    have h40 : I' (p + 4) 0 = 0 := by
      have := hP.1.2.2.1 0 [] hP.1.1.zero
      exact this
    obtain ⟨hC, hf⟩ := CI_frK h hk (fun p' hp' => by
      have : p' = p := Option.some.inj (hp'.symm.trans h8)
      subst this
      exact ⟨p48, hSO, h40⟩)
    refine ⟨p, (I', w.2), ns1, ?_, hC, hf, Rm.same rfl rfl, h8, hP⟩
    unfold m_X7_searchFor
    rw [mb_gQ hSQ.1, h8]
    exact e
  | none =>
    obtain ⟨w1, a1, a2, a3, a4, a5⟩ := searchNew_ok w
    have h48 := h.1
    generalize hw2 : ((w1.1, w1.2.1, u2 w1.2.2.1 0 8 (some (cnt w)), w1.2.2.2) : Wd) = w2
    have e2 : ∀ x, w2.1 x = w1.1 x ∧ w2.2.1 x = w1.2.1 x := fun x => by rw [← hw2]; exact ⟨rfl, rfl⟩
    have r2 : ∀ x k, ¬ (x = 0 ∧ k = 8) → w2.2.2.1 x k = w1.2.2.1 x k := fun x k hx => by rw [← hw2]; exact u2_ne (by omega)
    have r8 : w2.2.2.1 0 8 = some (cnt w) := by rw [← hw2]; exact u2_eq w1.2.2.1 0 8 (some (cnt w))
    have sE : wS w2 = wS w ++ shS := by rw [← hw2]; exact a3
    have hSO2 : SO w2.2 (cnt w) := SO_pre a1 (l := []) (fun x p q => funext fun k => r2 x k (by omega)) (by rw [List.append_nil, ← hw2])
    have hk : frK w w2 := by
      refine ⟨fun x hx => ⟨(e2 x).1.trans (a4 x (by omega)).1, (e2 x).2.trans (a4 x (by omega)).2.1⟩, fun x k hx hk => (r2 x k hk).trans (by rw [(a4 x (by omega)).2.2]), ⟨shS, sE⟩, fun j p hj hp i hi => ?_⟩
      have hlt : p + i < cnt w := by
        obtain ⟨v, e1, -⟩ := HO_sh (h.2.2.2.2.2.2.2.2.1.1 j p hj hp).2 hi
        exact (List.getElem?_eq_some_iff.mp e1).1
      have := (h.2.2.2.2.2.2.2.2.1.1 j p hj hp).1
      exact ⟨(e2 _).1.trans (a4 _ hlt).1, funext fun k => (r2 _ k (by omega)).trans (by rw [(a4 _ hlt).2.2])⟩
    obtain ⟨hC2, hf2⟩ := CI_frK h hk (fun p' hp' => by
      have : p' = cnt w := Option.some.inj (hp'.symm.trans r8)
      subst this
      exact ⟨h48, hSO2, by rw [(e2 _).1]; exact a2⟩)
    obtain ⟨I', ns1, e, hP, hF⟩ := searchAt_ok hC2 hq r8
    have hk3 : frK w2 (I', w2.2) := frK_at hC2.2.2.2.2.2.2.2.2.1 h48 hSO2 (fun x hx => hF x (by omega)) (fun _ _ => rfl) (fun _ _ _ => rfl) rfl
    have h40 : I' (cnt w + 4) 0 = 0 := hP.1.2.2.1 0 [] hP.1.1.zero
    obtain ⟨hC, hf⟩ := CI_frK hC2 hk3 (fun p' hp' => by
      have : p' = cnt w := Option.some.inj (hp'.symm.trans r8)
      subst this
      exact ⟨h48, hSO2, h40⟩)
    refine ⟨cnt w, (I', w2.2), ns1, ?_, hC, hf2.trans hf, Rm.search sE h8 (by show w2.2.2.1 0 8 ≠ none; rw [r8]; simp), r8, hP⟩
    unfold m_X7_searchFor
    rw [mb_gQ hSQ.1, h8]
    dsimp only
    rw [a5, mb_sR (by rw [a3]; exact pre_get hSQ.1), hw2]
    exact e
theorem Rm.then {w w1 w2 : Wd} (h : Rm w w1) (h2 : wS w2 = wS w1) (h8 : w2.2.2.1 0 8 = w1.2.2.1 0 8) : Rm w w2 := by
  unfold Rm potS potC slt cnt at *
  rw [h2, h8]
  exact h
/-- a Search's own change keeps all -/
theorem CI_at {p : Nat} (h : CI w hs hi im tx ns) (h8 : w.2.2.1 0 8 = some p) {I' : Nat → Nat → Int32} {z' : Zd} (hI : ∀ x, (x < p ∨ p + 15 < x) → I' x = w.1 x) (h4 : I' (p + 4) 0 = 0) (hJ : ∀ x, (x < p ∨ p + 15 < x) → z'.1 x = w.2.1 x) (hR : ∀ x k, x ≠ p → z'.2.1 x k = w.2.2.1 x k) (hS : z'.2.2 = w.2.2.2) (hSO' : SO z' p) : CI (I', z') hs hi im tx ns ∧ frC w (I', z') := by
  obtain ⟨p48, hSO, hp4⟩ := h.2.2.2.2.2.2.2.2.2.1 p h8
  refine CI_frK h (frK_at h.2.2.2.2.2.2.2.2.1 p48 hSO hI hJ hR hS) (fun p' hp' => ?_)
  have e0 : z'.2.1 0 8 = some p := (hR 0 8 (by omega)).trans h8
  have : p' = p := Option.some.inj (hp'.symm.trans e0)
  subst this
  exact ⟨p48, hSO', h4⟩
theorem FrS_in {p : Nat} {I I' : Nat → Nat → Int32} (h : FrS p I I') : ∀ x, (x < p ∨ p + 15 < x) → I' x = I x := fun x hx => h.2 x (by omega) (by omega) (by omega)
theorem cshortest_ok (h : CI w hs hi im tx ns) (x y : Int32) : ∃ r w', m_X7_shortest 0 x y w = some (r, w') ∧ ShA hs x y r ∧ CI w' hs hi im tx ns ∧ frC w w' ∧ Rm w w' := by
  have hSQ := h.2.2.1.1
  have hCK : CK w.1 w.2 (Wo hs) hs := h.2.2.1
  have hself : w = (w.1, w.2) := rfl
  unfold m_X7_shortest ShA
  rw [mb_vc hSQ.1, mb_call (cisQuery_ok hCK x)]
  rcases qAt_cases hs x with ⟨e, hx⟩ | ⟨q, Q, hQ, hn, rfl, e⟩
  · rw [e, if_pos (show bI (none : Option (Nat × List Pt)).isSome = 0 from rfl)]
    exact ⟨-1, w, rfl, rfl, h, frC.refl w, Rm.same rfl rfl⟩
  rw [e, if_neg (show ¬ bI (some (q, Q)).isSome = 0 from (by decide : ¬ bI true = 0))]
  dsimp only
  by_cases hy : -1 ≤ y
  · rw [if_pos hy]
    obtain ⟨p, w1, ns1, e1, hC1, hf1, hr1, h81, hP1⟩ := searchFor_ok h hQ
    obtain ⟨p48, hSO, hp4⟩ := hC1.2.2.2.2.2.2.2.2.2.1 p h81
    have hQo := CI_okQ h hQ
    have hsys := csys_ok hSO hP1 hQo
    obtain ⟨I', o, hFr, hFo, e2⟩ := fewest_ok hSO hsys (sgC_nil hP1.1.1) (I := w1.1) ⟨fun _ _ _ => rfl, fun _ _ _ => rfl⟩
    have hBR : BR (accQ Q) o := by
      cases o with
      | none => exact BR_cong (fun u _ => cacc_ok hQo u) hFo
      | some u => exact BR_cong (fun u _ => cacc_ok hQo u) hFo.1
    obtain ⟨hC2, hf2⟩ := CI_at hC1 h81 (I' := I') (z' := w1.2) (FrS_in hFr) (by rw [hFr.2 _ (by omega) (by omega) (by omega)]; exact hp4) (fun _ _ => rfl) (fun _ _ _ => rfl) rfl hSO
    have hrm : Rm w (I', w1.2) := hr1.then rfl rfl
    have hz1 : (wS w1)[0]? = some (6, nf 6) := hC1.2.2.1.1.1
    rw [mb_vc hSQ.1, mb_call e1, mb_vc hSO.1, show m_X4_fewestFrom p 0 = m_X4_fewestFrom p (nI 0) from rfl, mb_call e2]
    by_cases hy1 : y = -1
    · rw [if_pos hy1]
      refine ⟨resN o, (I', w1.2), rfl, ?_, hC2, hf1.trans hf2, hrm⟩
      rw [if_pos hy]
      refine ⟨o, hBR, ?_⟩
      cases o with
      | none => rfl
      | some u => show _ = (if y = -1 then nI u.length else _); rw [if_pos hy1]; rfl
    · rw [if_neg hy1]
      cases o with
      | none =>
        rw [show resN none = -9 from rfl, if_neg (show ¬ (0 : Int32) ≤ -9 by decide)]
        refine ⟨-9, (I', w1.2), rfl, ?_, hC2, hf1.trans hf2, hrm⟩
        rw [if_pos hy]
        exact ⟨none, hBR, rfl⟩
      | some u =>
        have hu60 := hBR.2.1
        rw [show resN (some u) = nI u.length from rfl, if_pos (nI_pos' (by omega))]
        obtain ⟨k, hk, rfl⟩ := i32_nn (m1_cases hy hy1)
        have hgoal : ∀ r, r = shAns (some u) (nI k) → (if -1 ≤ nI k then ∃ o, BR (accQ Q) o ∧ r = shAns o (nI k) else r = -1) := fun r hr => by rw [if_pos hy]; exact ⟨some u, hBR, hr⟩
        have hans : shAns (some u) (nI k) = match lAt u.reverse (nI k) with
          | none => -9
          | some c => nI (97 + c) := by
          show (if nI k = -1 then _ else _) = _
          rw [if_neg hy1]
        have hlat : lAt u.reverse (nI k) = u.reverse[k]? := by unfold lAt; rw [if_neg (nI_pos hk), nI_clamp hk]
        by_cases hku : u.length ≤ k
        · rw [if_pos (nI_le hku hk)]
          refine ⟨-9, (I', w1.2), rfl, hgoal _ ?_, hC2, hf1.trans hf2, hrm⟩
          rw [hans, hlat, List.getElem?_eq_none (by simp; omega)]
        · rw [if_neg (nI_ge (by omega) (by omega)), mb_vc (w := (I', w1.2)) hSO.1, mb_call (letterOfRow_ok hSO hsys hFo (by omega))]
          refine ⟨_, (I', w1.2), rfl, hgoal _ ?_, hC2, hf1.trans hf2, hrm⟩
          rw [hans, hlat, List.getElem?_reverse (by omega), List.getD_eq_getElem?_getD, List.getElem?_eq_getElem (show u.length - 1 - k < u.length by omega)]
          show nI (u[u.length - 1 - k]) + nI 97 = nI (97 + u[u.length - 1 - k])
          rw [nI_add, Nat.add_comm]
  · rw [if_neg hy]
    refine ⟨-1, w, rfl, ?_, h, frC.refl w, Rm.same rfl rfl⟩
    rw [if_neg hy]
theorem Sys_shift {σ : List Nat → Option Nat} (h : Sys σ) {rl : List Nat} (h8 : ok8 rl) : Sys (fun t => σ (t ++ rl)) := by
  refine ⟨fun t u c ht hu hc e => ?_, fun t c e => h.2 (t ++ rl) c e⟩
  exact h.1 (t ++ rl) (u ++ rl) c (fun d hd => (List.mem_append.mp hd).elim (ht d) (h8 d)) (fun d hd => (List.mem_append.mp hd).elim (hu d) (h8 d)) hc e
theorem ok8_app {t rl : List Nat} (ht : ok8 t) (h8 : ok8 rl) : ok8 (t ++ rl) := fun d hd => (List.mem_append.mp hd).elim (ht d) (h8 d)
theorem CSys_shift {p N : Nat} {I0 : Nat → Nat → Int32} {σ : List Nat → Option Nat} {dn : Nat → Bool} (h : CSys p I0 σ dn N) {rl : List Nat} (h8 : ok8 rl) : CSys p I0 (fun t => σ (t ++ rl)) dn N := by
  obtain ⟨a, b, c, d, e, f⟩ := h
  exact ⟨a, b, Sys_shift c h8, fun t s ht hs => d (t ++ rl) s (ok8_app ht h8) hs, fun z I hz hI t s cc ht hs hc => e z I hz hI (t ++ rl) s cc (ok8_app ht h8) hs hc, f⟩
theorem ok8_rev {ls : List Nat} (h : ∀ c ∈ ls, c < 8) : ok8 ls.reverse := fun c hc => h c (List.mem_reverse.mp hc)
theorem take_rev {ls : List Nat} {i c : Nat} (h : ls[i]? = some c) : (ls.take (i + 1)).reverse = c :: (ls.take i).reverse := by
  rw [take_snoc h]; simp
theorem alv_app {Q : List Pt} {rl : List Nat} (h : alv Q rl = false) : ∀ t, alv Q (t ++ rl) = false
  | [] => h
  | c :: t => by
    show (alv Q (t ++ rl) && _) = false
    rw [alv_app h t]; rfl
theorem stateBehind_ok {z : Zd} {p N : Nat} {I I0 : Nat → Nat → Int32} {σ : List Nat → Option Nat} {dn : Nat → Bool} (hz : SO z p) (hC : CSys p I0 σ dn N) (hI : SameS p I0 I) (ho : HO z 12) {hs : HS} (hR : HR I 12 hs) (hB : HB hs) {s0 : Nat} (h0 : σ [] = some 0) : m_X4_stateBehind p 12 (I, z) = some (encO (σ hs.2.reverse), (I, z)) := by
  obtain ⟨hN, hN0, hS, hb, hstep, hmat⟩ := id hC
  have h40 := hB.2.1
  obtain ⟨o1, ⟨-, -, -, -, -, t7⟩, -, -, -, -, -, u6⟩ := id ho
  have hdead : ∀ n i, i + n = hs.2.length → σ (hs.2.take i).reverse = none → σ hs.2.reverse = none := by
    intro n
    induction n with
    | zero => intro i hi h; rw [List.take_of_length_le (by omega)] at h; exact h
    | succ n ih =>
      intro i hi h
      have hc := List.getElem?_eq_getElem (show i < hs.2.length by omega)
      refine ih (i + 1) (by omega) ?_
      rw [take_rev hc]
      exact hS.2 _ _ h
  have hgen : ∀ n i, i + n = hs.2.length → ∀ f, n < f → lp (fun k (s1 : Int32 × Int32) => m_X4_stateBehind_B4 p 12 k s1.1 s1.2) f (encO (σ (hs.2.take i).reverse), nI i) (I, z) = some (encO (σ hs.2.reverse), (I, z)) := by
    intro n
    induction n with
    | zero =>
      intro i hi f hf
      obtain ⟨g, rfl⟩ : ∃ g, f = g + 1 := ⟨f - 1, by omega⟩
      rw [lp_s]
      unfold m_X4_stateBehind_B4
      rw [mb_gI o1]
      simp only [hR.2.1]
      rw [if_pos (nI_le (by omega) (by omega)), List.take_of_length_le (by omega)]
      rfl
    | succ n ih =>
      intro i hi f hf
      obtain ⟨g, rfl⟩ : ∃ g, f = g + 1 := ⟨f - 1, by omega⟩
      have hil : i < hs.2.length := by omega
      have hc := List.getElem?_eq_getElem hil
      have hc8 := hB.2.2.2 _ (List.getElem_mem hil)
      generalize hs.2[i] = c at hc hc8
      rw [lp_s]
      have ih := ih (i + 1) (by omega) g (by omega)
      generalize lp (fun k (s1 : Int32 × Int32) => m_X4_stateBehind_B4 p 12 k s1.1 s1.2) g = kk at ih
      show m_X4_stateBehind_B4 p 12 kk (encO (σ (hs.2.take i).reverse)) (nI i) (I, z) = _
      unfold m_X4_stateBehind_B4
      rw [mb_gI o1]
      simp only [hR.2.1]
      rw [if_neg (nI_ge hil (by omega))]
      have h8 : ok8 (hs.2.take i).reverse := ok8_rev (fun c hc => hB.2.2.2 c (List.mem_of_mem_take hc))
      cases hs' : σ (hs.2.take i).reverse with
      | none =>
        rw [show encO none = -1 from rfl, if_pos rfl, hdead (n + 1) i hi hs']
        rfl
      | some s =>
        have := hb _ s h8 hs'
        rw [show encO (some s) = nI s from rfl, if_neg (nI_nm1 (by omega)), mb_gR o1 t7, mb_aI u6 (show i < 40 by omega) (by omega)]
        simp only [hR.2.2.2 i c hc]
        rw [mb_vc hz.1, mb_call (hstep z I hz hI _ s c h8 hs' hc8), nI_1, ← take_rev hc]
        exact ih
  unfold m_X4_stateBehind
  have := hgen hs.2.length 0 (by omega) FU (by unfold FU; omega)
  rw [show (hs.2.take 0).reverse = [] from rfl, h0] at this
  exact this
theorem cmore_ok (h : CI w hs hi im tx ns) (x : Int32) : ∃ r w', m_X7_more 0 x w = some (r, w') ∧ MoA hs x r ∧ CI w' hs hi im tx ns ∧ frC w w' ∧ Rm w w' := by
  have hSQ := h.2.2.1.1
  have hCK : CK w.1 w.2 (Wo hs) hs := h.2.2.1
  unfold m_X7_more MoA
  rw [mb_vc hSQ.1, mb_call (cisQuery_ok hCK x)]
  rcases qAt_cases hs x with ⟨e, hx⟩ | ⟨q, Q, hQ, hn, rfl, e⟩
  · rw [e, if_pos (show bI (none : Option (Nat × List Pt)).isSome = 0 from rfl)]
    exact ⟨-1, w, rfl, rfl, h, frC.refl w, Rm.same rfl rfl⟩
  rw [e, if_neg (show ¬ bI (some (q, Q)).isSome = 0 from (by decide : ¬ bI true = 0))]
  obtain ⟨p, w1, ns1, e1, hC1, hf1, hr1, h81, hP1⟩ := searchFor_ok h hQ
  obtain ⟨p48, hSO, hp4⟩ := hC1.2.2.2.2.2.2.2.2.2.1 p h81
  have hQo := CI_okQ h hQ
  have hsys := csys_ok hSO hP1 hQo
  obtain ⟨c1, c2, c3, -⟩ := hC1.2.2.1
  have hsb := stateBehind_ok (s0 := 0) hSO hsys (I := w1.1) ⟨fun _ _ _ => rfl, fun _ _ _ => rfl⟩ c1.2.2.1 c3 c2 (sgC_nil hP1.1.1)
  have hrl : ok8 hs.2.reverse := ok8_rev c2.2.2.2
  rw [mb_vc hSQ.1, mb_call e1, mb_gR (w := w1) c1.1 c1.2.1.2.1, mb_vc (w := w1) hSO.1, mb_call hsb, mb_vc (w := (w1.1, w1.2)) hSO.1]
  cases hst : sgC Q ns1 hs.2.reverse with
  | none =>
    refine ⟨-9, w1, rfl, ⟨none, fun u hu hl => ?_, rfl⟩, hC1, hf1, hr1⟩
    have ha : alv Q hs.2.reverse = false := by
      cases hh : alv Q hs.2.reverse
      · rfl
      · unfold sgC at hst; rw [hh, if_pos rfl] at hst; cases hst
    show accQ Q (u ++ hs.2.reverse) = false
    unfold accQ
    rw [alv_app ha u]; rfl
  | some s0 =>
    obtain ⟨I', o, hFr, hFo, e2⟩ := fewest_ok hSO (CSys_shift hsys hrl) (s0 := s0) hst (I := w1.1) ⟨fun _ _ _ => rfl, fun _ _ _ => rfl⟩
    have hac : ∀ u, acc (fun t => sgC Q ns1 (t ++ hs.2.reverse)) (dnC Q) u = accQ Q (u ++ hs.2.reverse) := fun u => cacc_ok (ns := ns1) hQo (u ++ hs.2.reverse)
    have hBR : BR (fun t => accQ Q (t ++ hs.2.reverse)) o := by
      cases o with
      | none => exact BR_cong (fun u _ => hac u) hFo
      | some u => exact BR_cong (fun u _ => hac u) hFo.1
    obtain ⟨hC2, hf2⟩ := CI_at hC1 h81 (I' := I') (z' := w1.2) (FrS_in hFr) (by rw [hFr.2 _ (by omega) (by omega) (by omega)]; exact hp4) (fun _ _ => rfl) (fun _ _ _ => rfl) rfl hSO
    rw [show encO (some s0) = nI s0 from rfl, mb_call e2]
    exact ⟨resN o, (I', w1.2), rfl, ⟨o, hBR, rfl⟩, hC2, hf1.trans hf2, hr1.then rfl rfl⟩
theorem cmany_ok (h : CI w hs hi im tx ns) (x y : Int32) : ∃ w', m_X7_many 0 x y w = some (maAns hs x y, w') ∧ CI w' hs hi im tx ns ∧ frC w w' ∧ Rm w w' := by
  have hSQ := h.2.2.1.1
  have hCK : CK w.1 w.2 (Wo hs) hs := h.2.2.1
  unfold m_X7_many maAns m_X7_many_J18
  rw [mb_vc hSQ.1, mb_call (cisQuery_ok hCK x)]
  rcases qAt_cases hs x with ⟨e, hx⟩ | ⟨q, Q, hQ, hn, rfl, e⟩
  · rw [e, if_pos (show bI (none : Option (Nat × List Pt)).isSome = 0 from rfl)]
    exact ⟨w, rfl, h, frC.refl w, Rm.same rfl rfl⟩
  rw [e, if_neg (show ¬ bI (some (q, Q)).isSome = 0 from (by decide : ¬ bI true = 0))]
  dsimp only
  by_cases hy0 : y < 0
  · rw [if_pos hy0, if_pos hy0]
    exact ⟨w, rfl, h, frC.refl w, Rm.same rfl rfl⟩
  rw [if_neg hy0, if_neg hy0]
  by_cases hy12 : y ≤ 12
  · rw [if_pos hy12, if_pos hy12]
    obtain ⟨n, hn2, rfl⟩ := i32_nn hy0
    have hn12 : n ≤ 12 := (nI_leI (b := 12) hn2 (by omega)).mp hy12
    rw [nI_clamp hn2]
    obtain ⟨p, w1, ns1, e1, hC1, hf1, hr1, h81, hP1⟩ := searchFor_ok h hQ
    obtain ⟨p48, hSO, hp4⟩ := hC1.2.2.2.2.2.2.2.2.2.1 p h81
    have hQo := CI_okQ h hQ
    have hsys := csys_ok hSO hP1 hQo
    obtain ⟨z', e2, hSO', hFJ⟩ := rowsOf_ok hSO hsys (I := w1.1) ⟨fun _ _ _ => rfl, fun _ _ _ => rfl⟩ (sgC_nil hP1.1.1) hn12
    obtain ⟨hC2, hf2⟩ := CI_at hC1 h81 (I' := w1.1) (z' := z') (fun _ _ => rfl) hp4 (fun x hx => hFJ.1 x (by omega) (by omega)) (fun x k hx => hFJ.2.1 x k (Or.inl hx)) hFJ.2.2 hSO'
    rw [mb_vc hSQ.1, mb_call e1, mb_vc hSO.1, mb_call e2, cS_cong (fun t _ _ => cacc_ok (ns := ns1) hQo t)]
    exact ⟨(w1.1, z'), rfl, hC2, hf1.trans hf2, hr1.then hFJ.2.2 (hFJ.2.1 0 8 (Or.inl (by omega)))⟩
  · rw [if_neg hy12, if_neg hy12]
    exact ⟨w, rfl, h, frC.refl w, Rm.same rfl rfl⟩
end CSE
