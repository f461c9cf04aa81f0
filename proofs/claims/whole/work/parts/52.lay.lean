/-! ===== a loop that has another one's rest inside ===== -/
theorem lp_fam {κ σ α : Type} {F : κ → (σ → Mo α) → σ → Mo α} (s : Nat → σ) (P : Nat → Wd → Prop) (n : Nat) (hs : ∀ i, i < n → ∀ w, P i w → ∃ w', P (i + 1) w' ∧ ∀ (c : κ) (k : σ → Mo α), F c k (s i) w = k (s (i + 1)) w') {w0 : Wd} (h0 : P 0 w0) : ∃ w', P n w' ∧ ∀ (c : κ) (f : Nat), lp (F c) (f + n) (s 0) w0 = lp (F c) f (s n) w' := by
  have hall : ∀ m, m ≤ n → ∃ w', P m w' ∧ ∀ (c : κ) (f : Nat), lp (F c) (f + m) (s 0) w0 = lp (F c) f (s m) w' := by
    intro m
    induction m with
    | zero => intro _; exact ⟨w0, h0, fun _ _ => rfl⟩
    | succ m ih =>
      intro hm
      obtain ⟨w1, h1, e1⟩ := ih (by omega)
      obtain ⟨w2, h2, e2⟩ := hs m (by omega) w1 h1
      exact ⟨w2, h2, fun c f => by rw [show f + (m + 1) = (f + 1) + m by omega, e1, lp_s, e2]⟩
  exact hall n (Nat.le_refl n)
theorem lp_famU {κ σ α : Type} {F : κ → (σ → Mo α) → σ → Mo α} (s : Nat → σ) (P : Nat → Wd → Prop) (n : Nat) (hn : n < 100000) (hs : ∀ i, i < n → ∀ w, P i w → ∃ w', P (i + 1) w' ∧ ∀ (c : κ) (k : σ → Mo α), F c k (s i) w = k (s (i + 1)) w') {w0 : Wd} (h0 : P 0 w0) : ∃ w', P n w' ∧ ∀ c : κ, ∃ k, lp (F c) FU (s 0) w0 = F c k (s n) w' := by
  obtain ⟨w', h1, e⟩ := lp_fam s P n hs h0
  refine ⟨w', h1, fun c => ⟨lp (F c) (FU - n - 1), ?_⟩⟩
  have hf : FU = (FU - n - 1 + 1) + n := by unfold FU; omega
  rw [hf, e, lp_s, Nat.add_sub_cancel, Nat.add_sub_cancel]
/-! ===== how the reference has queries and letters: a row ===== -/
def RR (f : Nat → Int32) (hs : HS) : Prop := f 0 = nI hs.1.length ∧ f 1 = nI hs.2.length ∧ (∀ (i c : Nat), hs.2[i]? = some c → f (2 + i) = nI c) ∧
  ∀ (q : Nat) (Q : List Pt), hs.1[q]? = some Q → f (42 + 17 * q) = nI Q.length ∧ ∀ (k : Nat) (P : Pt), Q[k]? = some P → f (43 + 17 * q + 4 * k) = nI P.1 ∧ f (44 + 17 * q + 4 * k) = rcI P.2.1 ∧ f (45 + 17 * q + 4 * k) = rcI P.2.2.1 ∧ f (46 + 17 * q + 4 * k) = nI P.2.2.2
theorem parts_ok {w : Wd} {r q : Nat} (hs : (wS w)[r]? = some (100, 178)) (hq : q < 8) : m_X8_parts r (nI q) w = some (w.1 r (42 + 17 * q), w) := by
  unfold m_X8_parts
  rw [show (42 : Int32) + 17 * nI q = nI (42 + 17 * q) by rw [show (17 : Int32) = nI 17 from rfl, show (42 : Int32) = nI 42 from rfl, pk_mul, nI_add], mb_aI hs (by omega) (by omega)]
  rfl
theorem of_ok {w : Wd} {r q k t : Nat} (hs : (wS w)[r]? = some (100, 178)) (hq : q < 8) (hk : k < 4) (ht : t < 4) : m_X8_of r (nI q) (nI k) (nI t) w = some (w.1 r (43 + t + 17 * q + 4 * k), w) := by
  unfold m_X8_of
  rw [show (42 : Int32) + 17 * nI q + 1 + 4 * nI k + nI t = nI (43 + t + 17 * q + 4 * k) by
    rw [show (17 : Int32) = nI 17 from rfl, show (42 : Int32) = nI 42 from rfl, show (4 : Int32) = nI 4 from rfl, show (1 : Int32) = nI 1 from rfl, pk_mul, pk_mul, nI_add, nI_add, nI_add, nI_add]
    congr 1
    omega, mb_aI hs (by omega) (by omega)]
  rfl
theorem of0 {w : Wd} {r q k : Nat} (hs : (wS w)[r]? = some (100, 178)) (hq : q < 8) (hk : k < 4) : m_X8_of r (nI q) (nI k) 0 w = some (w.1 r (43 + 17 * q + 4 * k), w) := of_ok (t := 0) hs hq hk (by omega)
theorem of1 {w : Wd} {r q k : Nat} (hs : (wS w)[r]? = some (100, 178)) (hq : q < 8) (hk : k < 4) : m_X8_of r (nI q) (nI k) 1 w = some (w.1 r (44 + 17 * q + 4 * k), w) := of_ok (t := 1) hs hq hk (by omega)
theorem of2 {w : Wd} {r q k : Nat} (hs : (wS w)[r]? = some (100, 178)) (hq : q < 8) (hk : k < 4) : m_X8_of r (nI q) (nI k) 2 w = some (w.1 r (45 + 17 * q + 4 * k), w) := of_ok (t := 2) hs hq hk (by omega)
theorem of3 {w : Wd} {r q k : Nat} (hs : (wS w)[r]? = some (100, 178)) (hq : q < 8) (hk : k < 4) : m_X8_of r (nI q) (nI k) 3 w = some (w.1 r (46 + 17 * q + 4 * k), w) := of_ok (t := 3) hs hq hk (by omega)
theorem gatW_app (W us vs : List (List Nat)) : gatW W (us ++ vs) = gatW (gatW W us) vs := List.foldl_append
theorem gatW_len {W : List (List Nat)} (us : List (List Nat)) : (gatW W us).length = (gat (W.map pkI) us).length := by rw [← gatW_map, List.length_map]
theorem winsW_le (W : List (List Nat)) (u : List Nat) : (winsW W u).length ≤ W.length + 1 := by
  have h := congrArg List.length (winsW_map W u)
  rw [List.length_map] at h
  rw [h]
  by_cases hm : pkI u ∈ W.map pkI
  · unfold wins; rw [if_pos hm, List.length_map]; omega
  · rw [wins_len hm, List.length_map]; omega
theorem HB.words {hs : HS} (hB : HB hs) {q : Nat} {Q : List Pt} (hq : hs.1[q]? = some Q) : ∀ P ∈ Q, ∀ u ∈ pws P, okW u := by
  intro P hP u hu
  obtain ⟨h1, h2, h3, -⟩ := (hB.2.2.1 Q (List.mem_of_getElem? hq)).2 P hP
  unfold pws at hu
  by_cases h : P.1 = 2
  · rw [if_pos h] at hu
    rcases List.mem_cons.mp hu with rfl | hu
    · exact h2
    · rw [List.mem_singleton.mp hu]; exact (h3 h).1
  · rw [if_neg h] at hu
    rw [List.mem_singleton.mp hu]; exact h2
/-- the words of one query come in -/
theorem layQ_ok {z : Zd} {m r : Nat} (hM : MO z m) (hrs : z.2.2[r]? = some (100, 178)) (hrm : r ≠ m ∧ r ≠ m + 7) {I : Nat → Nat → Int32} {W : List (List Nat)} {hs : HS} {q : Nat} {Q : List Pt} (hB : HB hs) (hR : RR (I r) hs) (hq : hs.1[q]? = some Q) (hW : RW I m W) (hok : okL W) (hlen : (gatW W (qws Q)).length ≤ 16) :
    ∃ I', RW I' m (gatW W (qws Q)) ∧ (∀ x, x ≠ m → x ≠ m + 7 → I' x = I x) ∧ (∀ k, k ≠ 15 → I' m k = I m k) ∧ ∀ k7 : Int32 → Mo Unit, lp (fun k s => m_X8_layWords_B16 m r (nI q) k7 k s) FU 0 (I, z) = k7 (nI (q + 1)) (I', z) := by
  have hq8 : q < 8 := by have := (List.getElem?_eq_some_iff.mp hq).1; have := hB.1; omega
  have hQ4 : Q.length ≤ 4 := (hB.2.2.1 Q (List.mem_of_getElem? hq)).1
  have hwq := hB.words hq
  have hw : ∀ i, ∀ u ∈ qws (Q.take i), okW u := by
    intro i u hu
    obtain ⟨P, hP, hu⟩ := List.mem_flatMap.mp hu
    exact hwq P (List.mem_of_mem_take hP) u hu
  have hmono : ∀ i, (gatW W (qws (Q.take i))).length ≤ 16 := by
    intro i
    rw [gatW_len]
    rw [gatW_len] at hlen
    exact Nat.le_trans (flat_le pws Q _ i) hlen
  obtain ⟨w', ⟨I', rfl, hRW, F1, F2⟩, e⟩ := lp_famU (F := fun (k7 : Int32 → Mo Unit) k s => m_X8_layWords_B16 m r (nI q) k7 k s) (fun i => nI i) (fun i w => ∃ I', w = (I', z) ∧ RW I' m (gatW W (qws (Q.take i))) ∧ (∀ x, x ≠ m → x ≠ m + 7 → I' x = I x) ∧ ∀ k, k ≠ 15 → I' m k = I m k) Q.length (by omega) (by
    intro i hi w hP
    obtain ⟨I1, rfl, h1, F1, F2⟩ := hP
    have hP := List.getElem?_eq_getElem hi
    generalize Q[i] = P at hP
    have hR1 : RR (I1 r) hs := by rw [F1 r hrm.1 hrm.2]; exact hR
    obtain ⟨t1, t2, t3, t4⟩ := (hR1.2.2.2 q Q hq).2 i P hP
    have hPm := List.mem_of_getElem? hP
    have hPok := (hB.2.2.1 Q (List.mem_of_getElem? hq)).2 P hPm
    have hfl := flat_take pws Q hP
    have hok1 := hok.gat (hw i)
    have hl1 := hmono i
    obtain ⟨I2, e2, R2, G1, G2⟩ := addWord_ok hM h1 hok1 (by omega) hPok.2.1
    have hR2 : RR (I2 r) hs := by rw [G1 r hrm.1 hrm.2]; exact hR1
    obtain ⟨t1', t2', t3', t4'⟩ := (hR2.2.2.2 q Q hq).2 i P hP
    have h22 : nI P.1 = 2 ↔ P.1 = 2 := nI_eq (b := 2) (by have := hPok.1; omega) (by omega)
    have step : ∀ k7 k : Int32 → Mo Unit, m_X8_layWords_B16 m r (nI q) k7 k (nI i) (I1, z) = (if nI P.1 = 2 then mb (vc 7 m (m_X8_addWord m (rcI P.2.2.1))) (fun _ => m_X8_layWords_J58 m r (nI q) (nI i) k7 k) else m_X8_layWords_J58 m r (nI q) (nI i) k7 k) (I2, z) := by
      intro k7 k
      unfold m_X8_layWords_B16
      rw [mb_call (parts_ok hrs hq8)]
      simp only [(hR1.2.2.2 q Q hq).1]
      rw [if_neg (nI_ge hi (by omega)), mb_call (of1 (k := i) hrs hq8 (by omega))]
      simp only [t2]
      rw [mb_vc hM.o, mb_call e2, mb_call (of0 (k := i) hrs hq8 (by omega))]
      simp only [t1']
      by_cases h : nI P.1 = 2
      · rw [if_pos h, if_pos h, mb_call (of2 (k := i) hrs hq8 (by omega))]
        simp only [t3']
      · rw [if_neg h, if_neg h]
    by_cases h2 : P.1 = 2
    · have hl2 := winsW_le (gatW W (qws (Q.take i))) P.2.1
      obtain ⟨I3, e3, R3, K1, K2⟩ := addWord_ok hM R2 (hok1.wins hPok.2.1) (by omega) (hPok.2.2.1 h2).1
      refine ⟨(I3, z), ⟨I3, rfl, ?_, fun x a b => (K1 x a b).trans ((G1 x a b).trans (F1 x a b)), fun k hk => (K2 k hk).trans ((G2 k hk).trans (F2 k hk))⟩, fun k7 k => ?_⟩
      · unfold qws at R3 ⊢
        rw [hfl, gatW_app]
        unfold pws
        rw [if_pos h2]
        exact R3
      · rw [step, if_pos (h22.mpr h2), mb_vc hM.o, mb_call e3]
        unfold m_X8_layWords_J58
        rw [nI_1]
    · refine ⟨(I2, z), ⟨I2, rfl, ?_, fun x a b => (G1 x a b).trans (F1 x a b), fun k hk => (G2 k hk).trans (F2 k hk)⟩, fun k7 k => ?_⟩
      · unfold qws at R2 ⊢
        rw [hfl, gatW_app]
        unfold pws
        rw [if_neg h2]
        exact R2
      · rw [step, if_neg (fun h => h2 (h22.mp h))]
        unfold m_X8_layWords_J58
        rw [nI_1]) (w0 := (I, z)) ⟨I, rfl, hW, fun _ _ _ => rfl, fun _ _ => rfl⟩
  rw [List.take_length] at hRW
  refine ⟨I', hRW, F1, F2, fun k7 => ?_⟩
  obtain ⟨k, ek⟩ := e k7
  show lp _ FU (nI 0) (I, z) = _
  rw [ek]
  have hR1 : RR (I' r) hs := by rw [F1 r hrm.1 hrm.2]; exact hR
  unfold m_X8_layWords_B16
  rw [mb_call (parts_ok hrs hq8)]
  simp only [(hR1.2.2.2 q Q hq).1]
  rw [if_pos (nI_le (Nat.le_refl _) (by omega)), nI_1]
theorem layWords_ok {z : Zd} {m r : Nat} (hM : MO z m) (hrs : z.2.2[r]? = some (100, 178)) (hrm : r ≠ m ∧ r ≠ m + 7) {I : Nat → Nat → Int32} {hs : HS} (hB : HB hs) (hR : RR (I r) hs) (hlen : (gatW [] (aws hs.1)).length ≤ 16) :
    ∃ I', m_X8_layWords m r (I, z) = some ((), (I', z)) ∧ RW I' m (gatW [] (aws hs.1)) ∧ (∀ x, x ≠ m → x ≠ m + 7 → I' x = I x) ∧ ∀ k, k ≠ 15 → I' m k = I m k := by
  have h8 := hB.1
  have hw : ∀ i, ∀ u ∈ aws (hs.1.take i), okW u := by
    intro i u hu
    obtain ⟨Q, hQ, hu⟩ := List.mem_flatMap.mp hu
    obtain ⟨P, hP, hu⟩ := List.mem_flatMap.mp hu
    obtain ⟨q, hq⟩ := List.getElem?_of_mem (List.mem_of_mem_take hQ)
    exact hB.words hq P hP u hu
  have hok0 : okL [] := ⟨fun u hu => by simp at hu, List.Pairwise.nil⟩
  unfold m_X8_layWords
  rw [mb_sI hM.o]
  obtain ⟨w', ⟨I', rfl, hRW, F1, F2⟩, e⟩ := lp_famU (F := fun (_ : Unit) k s => m_X8_layWords_B7 m r k s) (fun i => nI i) (fun i w => ∃ I', w = (I', z) ∧ RW I' m (gatW [] (aws (hs.1.take i))) ∧ (∀ x, x ≠ m → x ≠ m + 7 → I' x = I x) ∧ ∀ k, k ≠ 15 → I' m k = I m k) hs.1.length (by omega) (by
    intro i hi w hP
    obtain ⟨I1, rfl, h1, F1, F2⟩ := hP
    have hQ := List.getElem?_eq_getElem hi
    generalize hs.1[i] = Q at hQ
    have hR1 : RR (I1 r) hs := by rw [F1 r hrm.1 hrm.2]; exact hR
    have hfl := flat_take qws hs.1 hQ
    have hlen1 : (gatW [] (aws (hs.1.take (i + 1)))).length ≤ 16 := by
      rw [gatW_len]
      rw [gatW_len] at hlen
      exact Nat.le_trans (flat_le qws hs.1 _ (i + 1)) hlen
    unfold aws at hlen1
    rw [hfl, gatW_app] at hlen1
    obtain ⟨I2, R2, G1, G2, e2⟩ := layQ_ok hM hrs hrm hB hR1 hQ h1 (hok0.gat (hw i)) hlen1
    refine ⟨(I2, z), ⟨I2, rfl, ?_, fun x a b => (G1 x a b).trans (F1 x a b), fun k hk => (G2 k hk).trans (F2 k hk)⟩, fun _ k => ?_⟩
    · unfold aws at R2 ⊢
      rw [hfl, gatW_app]
      exact R2
    · unfold m_X8_layWords_B7
      rw [show (0 : Int32) = nI 0 from rfl, mb_aI hrs (by omega) (by omega)]
      simp only [hR1.1]
      rw [if_neg (nI_ge hi (by omega))]
      exact e2 k) (w0 := (u2 I m 15 0, z)) ⟨_, rfl, ⟨u2_eq I m 15 0, fun j u h => by simp [gatW, aws] at h⟩, fun x a b => u2_row a, fun k hk => u2_ne (Or.inr hk)⟩
  rw [List.take_length] at hRW
  refine ⟨I', ?_, hRW, F1, F2⟩
  obtain ⟨k, ek⟩ := e ()
  show lp _ FU (nI 0) _ = _
  rw [ek]
  have hR1 : RR (I' r) hs := by rw [F1 r hrm.1 hrm.2]; exact hR
  unfold m_X8_layWords_B7
  rw [show (0 : Int32) = nI 0 from rfl, mb_aI hrs (by omega) (by omega)]
  simp only [hR1.1]
  rw [if_pos (nI_le (Nat.le_refl _) (by omega))]
  rfl
