/-! ===== what is held: queries and letters; how the class has them ===== -/
abbrev Pt : Type := Nat × List Nat × List Nat × Nat
abbrev HS : Type := List (List Pt) × List Nat
/-- a word as the class packs it -/
def pkA : Nat → List Nat → Nat
  | _, [] => 0
  | 0, _ :: _ => 0
  | n + 1, c :: u => (c + 1) * 16 ^ n + pkA n u
def pk (u : List Nat) : Nat := pkA 6 u
def pkI (u : List Nat) : Int32 := nI (pk u)
def HO (z : Zd) (h : Nat) : Prop := z.2.2[h]? = some (1, nf 1) ∧ (z.2.1 h 2 = some (h + 1) ∧ z.2.1 h 3 = some (h + 2) ∧ z.2.1 h 4 = some (h + 3) ∧ z.2.1 h 5 = some (h + 4) ∧ z.2.1 h 6 = some (h + 5) ∧ z.2.1 h 7 = some (h + 6)) ∧
  z.2.2[h + 1]? = some (100, 8) ∧ z.2.2[h + 2]? = some (100, 32) ∧ z.2.2[h + 3]? = some (100, 32) ∧ z.2.2[h + 4]? = some (100, 32) ∧ z.2.2[h + 5]? = some (100, 32) ∧ z.2.2[h + 6]? = some (100, 40)
def HR (I : Nat → Nat → Int32) (h : Nat) (hs : HS) : Prop := I h 0 = nI hs.1.length ∧ I h 1 = nI hs.2.length ∧
  (∀ (q : Nat) (Q : List Pt), hs.1[q]? = some Q → I (h + 1) q = nI Q.length ∧ ∀ (k : Nat) (P : Pt), Q[k]? = some P → I (h + 2) (4 * q + k) = nI P.1 ∧ I (h + 3) (4 * q + k) = pkI P.2.1 ∧ I (h + 4) (4 * q + k) = pkI P.2.2.1 ∧ I (h + 5) (4 * q + k) = nI P.2.2.2) ∧
  ∀ (i c : Nat), hs.2[i]? = some c → I (h + 6) i = nI c
theorem HR.kept {I I' : Nat → Nat → Int32} {h : Nat} {hs : HS} (hr : HR I h hs) (e : ∀ j, j ≤ 6 → I' (h + j) = I (h + j)) : HR I' h hs := by
  have e0 : I' h = I h := e 0 (by omega)
  obtain ⟨h1, h2, h3, h4⟩ := hr
  refine ⟨by rw [e0]; exact h1, by rw [e0]; exact h2, fun q Q hq => ?_, fun i c hi => by rw [e 6 (by omega)]; exact h4 i c hi⟩
  rw [e 1 (by omega), e 2 (by omega), e 3 (by omega), e 4 (by omega), e 5 (by omega)]
  exact h3 q Q hq
/-- sizes within the document's limits -/
def okW (u : List Nat) : Prop := 1 ≤ u.length ∧ u.length ≤ 6 ∧ ∀ c ∈ u, c < 8
def okP (P : Pt) : Prop := P.1 ≤ 2 ∧ okW P.2.1 ∧ (P.1 = 2 → okW P.2.2.1 ∧ 1 ≤ P.2.2.2 ∧ P.2.2.2 ≤ 9) ∧ (P.1 ≠ 2 → P.2.2.1 = [] ∧ P.2.2.2 = 0)
def HB (hs : HS) : Prop := hs.1.length ≤ 8 ∧ hs.2.length ≤ 40 ∧ (∀ Q ∈ hs.1, Q.length ≤ 4 ∧ ∀ P ∈ Q, okP P) ∧ (∀ c ∈ hs.2, c < 8)
/-- the words of a part, of a query, of all: in the order in which they are met -/
def pws (P : Pt) : List (List Nat) := if P.1 = 2 then [P.2.1, P.2.2.1] else [P.2.1]
def qws (Q : List Pt) : List (List Nat) := Q.flatMap pws
def aws (qs : List (List Pt)) : List (List Nat) := qs.flatMap qws
def gat (L : List Int32) (us : List (List Nat)) : List Int32 := us.foldl (fun L u => wins L (pkI u)) L
theorem gat_nil (L : List Int32) : gat L [] = L := rfl
theorem gat_cons (L : List Int32) (u : List Nat) (us : List (List Nat)) : gat L (u :: us) = gat (wins L (pkI u)) us := rfl
theorem gat_app (L : List Int32) (us vs : List (List Nat)) : gat L (us ++ vs) = gat (gat L us) vs := List.foldl_append
theorem gat_srt {L : List Int32} (hs : Srt L) (us : List (List Nat)) : Srt (gat L us) := by
  induction us generalizing L with
  | nil => exact hs
  | cons u us ih => exact ih (wins_srt hs _)
theorem wins_len_le (L : List Int32) (x : Int32) : L.length ≤ (wins L x).length := by
  by_cases h : x ∈ L
  · unfold wins; rw [if_pos h]; exact Nat.le_refl _
  · rw [wins_len h]; omega
theorem gat_len_le (L : List Int32) (us : List (List Nat)) : L.length ≤ (gat L us).length := by
  induction us generalizing L with
  | nil => exact Nat.le_refl _
  | cons u us ih => exact Nat.le_trans (wins_len_le L _) (ih _)
theorem place_ok (h q k : Nat) (w : Wd) : m_X1_place h (nI q) (nI k) w = some (nI (4 * q + k), w) := by
  unfold m_X1_place
  show some (nI q * nI 4 + nI k, w) = _
  rw [nI_mul, nI_add, Nat.mul_comm]
theorem room_of {L : List Int32} {u : List Nat} {us : List (List Nat)} {n : Nat} (h : (gat L (u :: us)).length ≤ n) : pkI u ∈ L ∨ L.length < n := by
  by_cases hm : pkI u ∈ L
  · exact Or.inl hm
  · right
    have h1 := gat_len_le (wins L (pkI u)) us
    rw [wins_len hm] at h1
    rw [gat_cons] at h
    omega
theorem flat_take {α β : Type} (f : α → List β) (l : List α) {i : Nat} {x : α} (h : l[i]? = some x) : (l.take (i + 1)).flatMap f = (l.take i).flatMap f ++ f x := by
  rw [List.take_add_one, h]
  simp
theorem flat_le {α : Type} (f : α → List (List Nat)) (l : List α) (L : List Int32) (i : Nat) : (gat L ((l.take i).flatMap f)).length ≤ (gat L (l.flatMap f)).length := by
  have e : l.flatMap f = (l.take i).flatMap f ++ (l.drop i).flatMap f := by rw [← List.flatMap_append, List.take_append_drop]
  rw [e, gat_app]
  exact gat_len_le _ _
theorem putWords_ok {z : Zd} {I : Nat → Nat → Int32} {p a n h : Nat} {L : List Int32} {hs : HS} {q : Nat} {Q : List Pt} (hz : WO z p a n) (ho : HO z h) (hL : WL (I p) (I a) L) (hsr : Srt L) (hn : L.length ≤ n) (hr : HR I h hs) (hB : HB hs) (hq : hs.1[q]? = some Q) (hd : ∀ j, j ≤ 6 → p ≠ h + j ∧ a ≠ h + j) (hroom : (gat L (qws Q)).length ≤ n) :
    ∃ I', m_X6_putWordsOf p h (nI q) (I, z) = some ((), (I', z)) ∧ WL (I' p) (I' a) (gat L (qws Q)) ∧ ∀ x, x ≠ p → x ≠ a → I' x = I x := by
  obtain ⟨o1, ⟨r2, r3, r4, r5, r6, r7⟩, s1, s2, s3, s4, s5, s6⟩ := ho
  have hq8 : q < 8 := by have := (List.getElem?_eq_some_iff.mp hq).1; have := hB.1; omega
  have hQ4 : Q.length ≤ 4 := (hB.2.2.1 Q (List.mem_of_getElem? hq)).1
  have hkeep : ∀ I' : Nat → Nat → Int32, (∀ x, x ≠ p → x ≠ a → I' x = I x) → ∀ j, j ≤ 6 → I' (h + j) = I (h + j) := fun I' hI j hj => hI _ (Ne.symm (hd j hj).1) (Ne.symm (hd j hj).2)
  have hstep : ∀ i, i < Q.length → ∀ s w, (s = nI i ∧ ∃ I', w = (I', z) ∧ WL (I' p) (I' a) (gat L (qws (Q.take i))) ∧ ∀ x, x ≠ p → x ≠ a → I' x = I x) → ∃ s' w', (s' = nI (i + 1) ∧ ∃ I', w' = (I', z) ∧ WL (I' p) (I' a) (gat L (qws (Q.take (i + 1)))) ∧ ∀ x, x ≠ p → x ≠ a → I' x = I x) ∧ ∀ k : Int32 → Mo Unit, m_X6_putWordsOf_B2 p h (nI q) k s w = k s' w' := by
    intro i hi s w hP
    obtain ⟨rfl, I1, rfl, hW, hI⟩ := hP
    have hr' := hr.kept (hkeep I1 hI)
    have hP := List.getElem?_eq_getElem hi
    generalize Q[i] = P at hP
    obtain ⟨t1, t2, t3, t4⟩ := (hr'.2.2.1 q Q hq).2 i P hP
    have hqk : 4 * q + i < 32 := by omega
    have hfl := flat_take pws Q hP
    have hle := flat_le pws Q L (i + 1)
    have hle2 : (gat L (qws (Q.take (i + 1)))).length ≤ n := Nat.le_trans hle hroom
    have hsr1 := gat_srt hsr (qws (Q.take i))
    unfold qws at hle2 hfl hW hsr1
    rw [hfl, gat_app] at hle2
    have hlen1 : (gat L (List.flatMap pws (Q.take i))).length ≤ n := Nat.le_trans (gat_len_le _ _) hle2
    have hroom1 : pkI P.2.1 ∈ gat L (List.flatMap pws (Q.take i)) ∨ (gat L (List.flatMap pws (Q.take i))).length < n := by
      unfold pws at hle2
      by_cases h2 : P.1 = 2
      · rw [if_pos h2] at hle2; exact room_of hle2
      · rw [if_neg h2] at hle2; exact room_of hle2
    obtain ⟨I2, e2, hW2, hI2⟩ := put_ok hz hW hsr1 hlen1 (pkI P.2.1) hroom1
    have hI2' : ∀ x, x ≠ p → x ≠ a → I2 x = I x := fun x h1 h2 => (hI2 x h1 h2).trans (hI x h1 h2)
    have hr2 := hr.kept (hkeep I2 hI2')
    obtain ⟨t1', t2', t3', t4'⟩ := (hr2.2.2.1 q Q hq).2 i P hP
    have step : ∀ k : Int32 → Mo Unit, m_X6_putWordsOf_B2 p h (nI q) k (nI i) (I1, z) = (if (nI P.1) = 2 then (mb (vc 5 p (m_X6_put p (pkI P.2.2.1))) fun _ => m_X6_putWordsOf_J55 p h (nI q) (nI i) k) else m_X6_putWordsOf_J55 p h (nI q) (nI i) k) (I2, z) := by
      intro k
      unfold m_X6_putWordsOf_B2
      rw [mb_gR o1 r2, mb_aI s1 hq8 (by omega)]
      simp only [(hr'.2.2.1 q Q hq).1]
      rw [if_neg (nI_ge hi (by omega)), mb_vc o1, mb_call (place_ok h q i _), mb_gR o1 r4, mb_aI s3 hqk (by omega)]
      simp only [t2]
      rw [mb_vc hz.1, mb_call e2, mb_gR o1 r3, mb_aI s2 hqk (by omega)]
      simp only [t1']
      by_cases h2 : nI P.1 = 2
      · rw [if_pos h2, if_pos h2, mb_gR o1 r5, mb_aI s4 hqk (by omega)]
        simp only [t3']
      · rw [if_neg h2, if_neg h2]

    have hP1 : P.1 ≤ 2 := ((hB.2.2.1 Q (List.mem_of_getElem? hq)).2 P (List.mem_of_getElem? hP)).1
    have h22 : nI P.1 = 2 ↔ P.1 = 2 := nI_eq (b := 2) (by omega) (by omega)
    by_cases h2 : P.1 = 2
    · unfold pws at hle2 hfl
      rw [if_pos h2] at hle2 hfl
      rw [gat_cons] at hle2
      have hlen2 : (gat L (List.flatMap pws (Q.take i))).length ≤ n := hlen1
      obtain ⟨I3, e3, hW3, hI3⟩ := put_ok hz hW2 (wins_srt hsr1 _) (Nat.le_trans (gat_len_le _ _) hle2) (pkI P.2.2.1) (room_of hle2)
      refine ⟨nI (i + 1), (I3, z), ⟨rfl, I3, rfl, ?_, fun x h1 h2 => (hI3 x h1 h2).trans (hI2' x h1 h2)⟩, fun k => ?_⟩
      · unfold qws pws
        rw [hfl, gat_app]
        exact hW3
      · rw [step, if_pos (h22.mpr h2), mb_vc hz.1, mb_call e3]
        unfold m_X6_putWordsOf_J55
        rw [nI_1]
    · unfold pws at hfl
      rw [if_neg h2] at hfl
      refine ⟨nI (i + 1), (I2, z), ⟨rfl, I2, rfl, ?_, hI2'⟩, fun k => ?_⟩
      · unfold qws pws
        rw [hfl, gat_app]
        exact hW2
      · rw [step, if_neg (fun h => h2 (h22.mp h))]
        unfold m_X6_putWordsOf_J55
        rw [nI_1]
  unfold m_X6_putWordsOf
  obtain ⟨s', w', k, ⟨hs', I', hw, hW, hI⟩, e⟩ := lp_FUi (F := fun k s => m_X6_putWordsOf_B2 p h (nI q) k s) (fun i s w => s = nI i ∧ ∃ I', w = (I', z) ∧ WL (I' p) (I' a) (gat L (qws (Q.take i))) ∧ ∀ x, x ≠ p → x ≠ a → I' x = I x) Q.length (by omega) hstep (s := 0) (w := (I, z)) ⟨rfl, I, rfl, hL, fun _ _ _ => rfl⟩
  rw [e]
  subst hs'; subst hw
  refine ⟨I', ?_, by rw [List.take_length] at hW; exact hW, hI⟩
  have hr' := hr.kept (hkeep I' hI)
  show m_X6_putWordsOf_B2 p h (nI q) k (nI Q.length) (I', z) = _
  unfold m_X6_putWordsOf_B2
  rw [mb_gR o1 r2, mb_aI s1 hq8 (by omega)]
  simp only [(hr'.2.2.1 q Q hq).1]
  rw [if_pos (nI_le (Nat.le_refl _) (by omega))]
  rfl
theorem WL.zero {f g : Nat → Int32} (h : f 1 = 0) : WL f g [] := ⟨h, fun j x h => by simp at h⟩
theorem gatherOne_ok {z : Zd} {I : Nat → Nat → Int32} {p a n h : Nat} {hs : HS} {q : Nat} {Q : List Pt} (hz : WO z p a n) (ho : HO z h) (hr : HR I h hs) (hB : HB hs) (hq : hs.1[q]? = some Q) (hd : ∀ j, j ≤ 6 → p ≠ h + j ∧ a ≠ h + j) (hroom : (gat [] (qws Q)).length ≤ n) :
    ∃ I', m_X6_gatherOne p h (nI q) (I, z) = some ((), (I', z)) ∧ WL (I' p) (I' a) (gat [] (qws Q)) ∧ ∀ x, x ≠ p → x ≠ a → I' x = I x := by
  have hI1 : ∀ x, x ≠ p → x ≠ a → u2 I p 1 0 x = I x := fun x h1 _ => u2_row h1
  have hr1 := hr.kept (I' := u2 I p 1 0) (fun j hj => hI1 _ (Ne.symm (hd j hj).1) (Ne.symm (hd j hj).2))
  obtain ⟨I', e, hW, hI⟩ := putWords_ok (L := []) (I := u2 I p 1 0) hz ho (WL.zero (u2_eq I p 1 0)) List.Pairwise.nil (Nat.zero_le n) hr1 hB hq hd hroom
  refine ⟨I', ?_, hW, fun x h1 h2 => (hI x h1 h2).trans (hI1 x h1 h2)⟩
  unfold m_X6_gatherOne
  rw [mb_sI hz.1, mb_vc hz.1, mb_call e]
  rfl
theorem gatherAll_ok {z : Zd} {I : Nat → Nat → Int32} {p a n h : Nat} {hs : HS} (hz : WO z p a n) (ho : HO z h) (hr : HR I h hs) (hB : HB hs) (hd : ∀ j, j ≤ 6 → p ≠ h + j ∧ a ≠ h + j) (hroom : (gat [] (aws hs.1)).length ≤ n) :
    ∃ I', m_X6_gatherAll p h (I, z) = some ((), (I', z)) ∧ WL (I' p) (I' a) (gat [] (aws hs.1)) ∧ ∀ x, x ≠ p → x ≠ a → I' x = I x := by
  have h8 := hB.1
  have hkeep : ∀ I' : Nat → Nat → Int32, (∀ x, x ≠ p → x ≠ a → I' x = I x) → ∀ j, j ≤ 6 → I' (h + j) = I (h + j) := fun I' hI j hj => hI _ (Ne.symm (hd j hj).1) (Ne.symm (hd j hj).2)
  have hstep : ∀ i, i < hs.1.length → ∀ s w, (s = nI i ∧ ∃ I', w = (I', z) ∧ WL (I' p) (I' a) (gat [] (aws (hs.1.take i))) ∧ ∀ x, x ≠ p → x ≠ a → I' x = I x) → ∃ s' w', (s' = nI (i + 1) ∧ ∃ I', w' = (I', z) ∧ WL (I' p) (I' a) (gat [] (aws (hs.1.take (i + 1)))) ∧ ∀ x, x ≠ p → x ≠ a → I' x = I x) ∧ ∀ k : Int32 → Mo Unit, m_X6_gatherAll_B7 p h k s w = k s' w' := by
    intro i hi s w hP
    obtain ⟨rfl, I1, rfl, hW, hI⟩ := hP
    have hr' := hr.kept (hkeep I1 hI)
    have hQ := List.getElem?_eq_getElem hi
    generalize hs.1[i] = Q at hQ
    have hfl := flat_take qws hs.1 hQ
    have hle2 : (gat [] (aws (hs.1.take (i + 1)))).length ≤ n := Nat.le_trans (flat_le qws hs.1 [] (i + 1)) hroom
    unfold aws at hle2 hW
    rw [hfl, gat_app] at hle2
    obtain ⟨I2, e2, hW2, hI2⟩ := putWords_ok (I := I1) hz ho hW (gat_srt List.Pairwise.nil _) (Nat.le_trans (gat_len_le _ _) hle2) hr' hB hQ hd hle2
    refine ⟨nI (i + 1), (I2, z), ⟨rfl, I2, rfl, ?_, fun x h1 h2 => (hI2 x h1 h2).trans (hI x h1 h2)⟩, fun k => ?_⟩
    · unfold aws
      rw [hfl, gat_app]
      exact hW2
    · unfold m_X6_gatherAll_B7
      rw [mb_gI ho.1]
      simp only [hr'.1]
      rw [if_neg (nI_ge hi (by omega)), mb_vc hz.1, mb_call e2, nI_1]
  have hI1 : ∀ x, x ≠ p → x ≠ a → u2 I p 1 0 x = I x := fun x h1 _ => u2_row h1
  unfold m_X6_gatherAll
  rw [mb_sI hz.1]
  obtain ⟨s', w', k, ⟨hs', I', hw, hW, hI⟩, e⟩ := lp_FUi (F := fun k s => m_X6_gatherAll_B7 p h k s) (fun i s w => s = nI i ∧ ∃ I', w = (I', z) ∧ WL (I' p) (I' a) (gat [] (aws (hs.1.take i))) ∧ ∀ x, x ≠ p → x ≠ a → I' x = I x) hs.1.length (by omega) hstep (s := 0) (w := (u2 I p 1 0, z)) ⟨rfl, _, rfl, WL.zero (u2_eq I p 1 0), hI1⟩
  rw [e]
  subst hs'; subst hw
  refine ⟨I', ?_, by rw [List.take_length] at hW; exact hW, hI⟩
  have hr' := hr.kept (hkeep I' hI)
  unfold m_X6_gatherAll_B7
  rw [mb_gI ho.1]
  simp only [hr'.1]
  rw [if_pos (nI_le (Nat.le_refl _) (by omega))]
  rfl
