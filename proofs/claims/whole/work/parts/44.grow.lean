/-! ===== the class's automaton, first half: all beginnings of words, level by level ===== -/
theorem fill_ok {z : Zd} {I : Nat → Nat → Int32} {p n : Nat} (h : z.2.2[p]? = some (100, n)) (hn : n < 100000) (v : Int32) : m_J7_fill_53178 p v (I, z) = some ((), (uA I p (fun j => if j < n then v else I p j), z)) := by
  unfold m_J7_fill_53178
  rw [mb_aL h]
  have key := lp_FU (F := fun k s => m_J7_fill_53178_B5 p v (nI n) k s) (fun i => nI i) (fun i => (uA I p (fun j => if j < i then v else I p j), z)) (X := some ((), (uA I p (fun j => if j < n then v else I p j), z))) n hn (fun i hi k => ?_) (fun k => ?_)
  · rw [show (uA I p (fun j => if j < 0 then v else I p j)) = I by rw [show (fun j => if j < 0 then v else I p j) = I p from funext fun j => if_neg (by omega)]; exact uA_self I p] at key
    exact key
  · show m_J7_fill_53178_B5 p v (nI n) k (nI i) _ = _
    unfold m_J7_fill_53178_B5
    rw [if_neg (nI_ge hi (by omega)), mb_tI h hi (by omega), nI_1]
    simp only [u2_uA2]
    congr 2
    congr 1
    funext j
    unfold va_up
    dsimp only
    by_cases hj : j = i
    · rw [if_pos hj, if_pos (by omega)]
    · rw [if_neg hj]
      by_cases h2 : j < i
      · rw [if_pos h2, if_pos (by omega)]
      · rw [if_neg h2, if_neg (by omega)]
  · show m_J7_fill_53178_B5 p v (nI n) k (nI n) _ = _
    unfold m_J7_fill_53178_B5
    rw [if_pos (nI_le (Nat.le_refl n) (by omega))]
    rfl
/-- an Automaton object at p for at most nw words -/
def AO (z : Zd) (p nw : Nat) : Prop := z.2.2[p]? = some (0, nf 0) ∧ (z.2.1 p 1 = some (p + 1) ∧ z.2.1 p 2 = some (p + 2) ∧ z.2.1 p 3 = some (p + 3) ∧ z.2.1 p 4 = some (p + 4) ∧ z.2.1 p 5 = some (p + 5) ∧ z.2.1 p 6 = some (p + 6) ∧ z.2.1 p 7 = some (p + 7)) ∧
  (z.2.2[p + 1]? = some (100, 1 + nw * 6) ∧ z.2.2[p + 2]? = some (100, 1 + nw * 6) ∧ z.2.2[p + 3]? = some (100, 1 + nw * 6) ∧ z.2.2[p + 4]? = some (100, 1 + nw * 6) ∧ z.2.2[p + 5]? = some (100, 1 + nw * 6) ∧ z.2.2[p + 6]? = some (100, (1 + nw * 6) * 8) ∧ z.2.2[p + 7]? = some (100, nw)) ∧ nw ≤ 16
/-- the nodes ns lie in the rows, each with its size, last letter, the node without that, and the nodes that follow it -/
def TR (I : Nat → Nat → Int32) (p m : Nat) (ns : List (List Nat)) : Prop := I p 0 = nI ns.length ∧ ns.length ≤ m ∧ ns.Nodup ∧
  (∀ (j : Nat) (u : List Nat), ns[j]? = some u → I (p + 1) j = nI u.length) ∧
  (∀ (j : Nat) (u : List Nat) (c : Nat), ns[j]? = some (u ++ [c]) → I (p + 2) j = nI c ∧ ∃ k, ns[k]? = some u ∧ I (p + 3) j = nI k) ∧
  (∀ (j : Nat) (u : List Nat) (c : Nat), ns[j]? = some u → c < 8 → (∃ k, ns[k]? = some (u ++ [c]) ∧ I (p + 6) (8 * j + c) = nI k) ∨ ((u ++ [c]) ∉ ns ∧ I (p + 6) (8 * j + c) = 0)) ∧
  (∀ k, 8 * ns.length ≤ k → k < m * 8 → I (p + 6) k = 0)
theorem nodup_idx {α : Type} {l : List α} (h : l.Nodup) {i j : Nat} {x : α} (hi : l[i]? = some x) (hj : l[j]? = some x) : i = j := by
  obtain ⟨h1, h2⟩ := List.getElem?_eq_some_iff.mp hi
  obtain ⟨h3, h4⟩ := List.getElem?_eq_some_iff.mp hj
  rcases Nat.lt_trichotomy i j with hlt | heq | hgt
  · exact absurd (h2.trans h4.symm) (List.pairwise_iff_getElem.mp h i j h1 h3 hlt)
  · exact heq
  · exact absurd (h4.trans h2.symm) (List.pairwise_iff_getElem.mp h j i h3 h1 hgt)
theorem app_get {α : Type} {l : List α} {x y : α} {j : Nat} (h : (l ++ [x])[j]? = some y) : l[j]? = some y ∨ (j = l.length ∧ y = x) := by
  by_cases hj : j < l.length
  · rw [List.getElem?_append_left hj] at h; exact Or.inl h
  · rw [List.getElem?_append_right (by omega)] at h
    have h1 : j - l.length < 1 := (List.getElem?_eq_some_iff.mp h).1
    rw [show j - l.length = 0 by omega] at h
    exact Or.inr ⟨by omega, (Option.some.inj h).symm⟩
theorem get_app {α : Type} {l : List α} {x y : α} {j : Nat} (h : l[j]? = some y) : (l ++ [x])[j]? = some y := by
  rw [List.getElem?_append_left (List.getElem?_eq_some_iff.mp h).1]; exact h
theorem snoc_inj {u v : List Nat} {c d : Nat} (h : u ++ [c] = v ++ [d]) : u = v ∧ c = d := by
  have := List.append_inj' h rfl
  exact ⟨this.1, by simpa using this.2⟩
theorem addNode_ok {z : Zd} {I : Nat → Nat → Int32} {p nw : Nat} {ns : List (List Nat)} (hz : AO z p nw) (hT : TR I p (1 + nw * 6) ns) {v : List Nat} {j c : Nat} (hv : ns[j]? = some v) (hc : c < 8) (hnew : (v ++ [c]) ∉ ns) (hno : ∀ d, (v ++ [c] ++ [d]) ∉ ns) (hroom : ns.length < 1 + nw * 6) :
    ∃ I', m_X0_addNode p (nI j) (nI c) (nI (v.length + 1)) (I, z) = some ((), (I', z)) ∧ TR I' p (1 + nw * 6) (ns ++ [v ++ [c]]) ∧ (∀ x, x ≠ p → x ≠ p + 1 → x ≠ p + 2 → x ≠ p + 3 → x ≠ p + 6 → I' x = I x) := by
  obtain ⟨z0, ⟨r1, r2, r3, r4, r5, r6, r7⟩, ⟨s1, s2, s3, s4, s5, s6, s7⟩, hw⟩ := hz
  obtain ⟨t1, t2, t3, t4, t5, t6, t7⟩ := hT
  have hj := (List.getElem?_eq_some_iff.mp hv).1
  have hN : 1 + nw * 6 ≤ 97 := by omega
  have he : ∃ I', m_X0_addNode p (nI j) (nI c) (nI (v.length + 1)) (I, z) = some ((), (I', z)) ∧ I' = u2 (u2 (u2 (u2 (u2 I (p + 1) ns.length (nI (v.length + 1))) (p + 2) ns.length (nI c)) (p + 3) ns.length (nI j)) (p + 6) (8 * j + c) (nI ns.length)) p 0 (nI (ns.length + 1)) := by
    refine ⟨_, ?_, rfl⟩
    unfold m_X0_addNode
    rw [mb_gI z0, mb_gR z0 r1, mb_aL s1]
    simp only [t1]
    rw [if_pos (nI_lt hroom (by omega)), mb_gR z0 r1, mb_gI z0]
    simp only [t1]
    rw [mb_tI s1 hroom (by omega), mb_gR z0 r2, mb_gI z0]
    simp only [u2_row (show p ≠ p + 1 by omega), t1]
    rw [mb_tI s2 hroom (by omega), mb_gR z0 r3, mb_gI z0]
    simp only [u2_row (show p ≠ p + 1 by omega), u2_row (show p ≠ p + 2 by omega), t1]
    rw [mb_tI s3 hroom (by omega), mb_gR z0 r6, mb_gI z0]
    simp only [u2_row (show p ≠ p + 1 by omega), u2_row (show p ≠ p + 2 by omega), u2_row (show p ≠ p + 3 by omega), t1]
    rw [show nI j * 8 + nI c = nI (8 * j + c) by rw [show (8 : Int32) = nI 8 from rfl, pk_mul, nI_add, Nat.mul_comm]]
    rw [mb_tI s6 (show 8 * j + c < (1 + nw * 6) * 8 by omega) (by omega), mb_gI z0]
    simp only [u2_row (show p ≠ p + 1 by omega), u2_row (show p ≠ p + 2 by omega), u2_row (show p ≠ p + 3 by omega), u2_row (show p ≠ p + 6 by omega), t1]
    rw [mb_sI z0, nI_1]
    rfl
  obtain ⟨I', e, hI'⟩ := he
  have row1 : I' (p + 1) = va_up (I (p + 1)) ns.length (nI (v.length + 1)) := by
    rw [hI', u2_row (by omega), u2_row (by omega), u2_row (by omega), u2_row (by omega), u2_uA, uA_eq]
  have row2 : I' (p + 2) = va_up (I (p + 2)) ns.length (nI c) := by
    rw [hI', u2_row (by omega), u2_row (by omega), u2_row (by omega), u2_uA, uA_eq, u2_row (by omega)]
  have row3 : I' (p + 3) = va_up (I (p + 3)) ns.length (nI j) := by
    rw [hI', u2_row (by omega), u2_row (by omega), u2_uA, uA_eq, u2_row (by omega), u2_row (by omega)]
  have row6 : I' (p + 6) = va_up (I (p + 6)) (8 * j + c) (nI ns.length) := by
    rw [hI', u2_row (by omega), u2_uA, uA_eq, u2_row (by omega), u2_row (by omega), u2_row (by omega)]
  refine ⟨I', e, ⟨?_, ?_, ?_, ?_, ?_, ?_, ?_⟩, ?_⟩
  · rw [hI', u2_eq]; simp
  · simp; omega
  · exact List.nodup_append.mpr ⟨t3, by simp, fun a ha b hb => by rw [List.mem_singleton.mp hb]; rintro rfl; exact hnew ha⟩
  · intro i u hi
    rw [row1]
    unfold va_up
    rcases app_get hi with hi | ⟨rfl, rfl⟩
    · rw [if_neg (by have := (List.getElem?_eq_some_iff.mp hi).1; omega)]; exact t4 i u hi
    · rw [if_pos rfl]; simp
  · intro i u d hi
    rw [row2, row3]
    unfold va_up
    rcases app_get hi with hi | ⟨rfl, hu⟩
    · have hl := (List.getElem?_eq_some_iff.mp hi).1
      rw [if_neg (by omega), if_neg (by omega)]
      obtain ⟨g1, k, g2, g3⟩ := t5 i u d hi
      exact ⟨g1, k, get_app g2, g3⟩
    · obtain ⟨rfl, rfl⟩ := snoc_inj hu
      rw [if_pos rfl, if_pos rfl]
      exact ⟨rfl, j, get_app hv, rfl⟩
  · intro i u d hi hd
    rw [row6]
    unfold va_up
    rcases app_get hi with hg | ⟨rfl, rfl⟩
    · have hl := (List.getElem?_eq_some_iff.mp hg).1
      by_cases hk : 8 * i + d = 8 * j + c
      · rw [if_pos hk]
        have h1 : i = j := by omega
        have h2 : d = c := by omega
        subst h1; subst h2
        have huv : u = v := Option.some.inj (hg.symm.trans hv)
        subst huv
        exact Or.inl ⟨ns.length, by simp, rfl⟩
      · rw [if_neg hk]
        rcases t6 i u d hg hd with ⟨k, g1, g2⟩ | ⟨g1, g2⟩
        · exact Or.inl ⟨k, get_app g1, g2⟩
        · refine Or.inr ⟨fun hm => ?_, g2⟩
          rcases List.mem_append.mp hm with hm | hm
          · exact g1 hm
          · obtain ⟨e1, e2⟩ := snoc_inj (List.mem_singleton.mp hm)
            rw [e1] at hg
            exact hk (by rw [nodup_idx t3 hg hv, e2])
    · rw [if_neg (by omega)]
      refine Or.inr ⟨fun hm => ?_, t7 _ (by omega) (by omega)⟩
      rcases List.mem_append.mp hm with hm | hm
      · exact hno d hm
      · have := congrArg List.length (List.mem_singleton.mp hm)
        simp at this
  · intro k h1 h2
    simp at h1
    rw [row6]
    unfold va_up
    rw [if_neg (by omega)]
    exact t7 k (by omega) h2
  · intro x h0 h1 h2 h3 h6
    rw [hI', u2_row h0, u2_row h6, u2_row h3, u2_row h2, u2_row h1]
