/-! ===== new objects: Held, Search ===== -/
def FA (w0 : Wd) (p : Nat) (w : Wd) (l : List (Nat × Nat)) (rs : List (Nat × Nat × Nat)) : Prop := cnt w0 = p ∧ wS w = wS w0 ++ l ∧ (∀ x, x < p → w.1 x = w0.1 x ∧ w.2.1 x = w0.2.1 x ∧ w.2.2.1 x = w0.2.2.1 x) ∧ (∀ a k, a < l.length → ¬ (a = 3 ∧ k = 0) → w.1 (p + a) k = 0) ∧ (∀ e ∈ rs, e.1 < l.length ∧ w.2.2.1 (p + e.1) e.2.1 = some (p + e.2.2))
theorem FA_cnt {w0 w : Wd} {p : Nat} {l : List (Nat × Nat)} {rs : List (Nat × Nat × Nat)} (h : FA w0 p w l rs) : cnt w = p + l.length := by
  have h1 := h.1
  unfold cnt at *
  rw [h.2.1, List.length_append, h1]
theorem FA_get {w0 w : Wd} {p : Nat} {l : List (Nat × Nat)} {rs : List (Nat × Nat × Nat)} (h : FA w0 p w l rs) {a : Nat} {q : Nat × Nat} (ha : l[a]? = some q) : (wS w)[p + a]? = some q := by
  have h1 := h.1
  unfold cnt at h1
  rw [h.2.1, List.getElem?_append_right (by omega), ← ha]
  congr 1
  omega
theorem FA_start (w0 : Wd) : FA w0 (cnt w0) w0 [] [] := ⟨rfl, by simp, fun _ _ => ⟨rfl, rfl, rfl⟩, fun a k h => absurd h (by simp), by simp⟩
theorem FA_new {w0 w : Wd} {p : Nat} {l : List (Nat × Nat)} {rs : List (Nat × Nat × Nat)} (h : FA w0 p w l rs) (q : Nat × Nat) : FA w0 p (wNew w q) (l ++ [q]) rs := by
  have hc := (FA_cnt h)
  obtain ⟨h1, h2, h3, h4, h5⟩ := h
  refine ⟨h1, ?_, fun x hx => ?_, fun a k ha hk => ?_, fun e he => ?_⟩
  · show w.2.2.2 ++ [q] = _
    rw [show w.2.2.2 = wS w from rfl, h2, List.append_assoc]
  · show uA w.1 (cnt w) (fun _ => 0) x = _ ∧ uA w.2.1 (cnt w) (fun _ => 0) x = _ ∧ uA w.2.2.1 (cnt w) (fun _ => none) x = _
    rw [uA_ne (by omega), uA_ne (by omega), uA_ne (by omega)]
    exact h3 x hx
  · show uA w.1 (cnt w) (fun _ => 0) (p + a) k = 0
    by_cases e : a = l.length
    · rw [show p + a = cnt w by omega, uA_eq]
    · rw [uA_ne (by omega)]
      exact h4 a k (by simp at ha; omega) hk
  · obtain ⟨a, b⟩ := h5 e he
    refine ⟨by simp; omega, ?_⟩
    show uA w.2.2.1 (cnt w) (fun _ => none) (p + e.1) e.2.1 = _
    rw [uA_ne (by omega)]
    exact b
theorem st_newA {w0 w : Wd} {p : Nat} {l : List (Nat × Nat)} {rs : List (Nat × Nat × Nat)} (h : FA w0 p w l rs) {kd : Nat} {n : Int32} (k b : Nat) (hn : n = nI k) (hk : k ≤ 60000) (hb : l.length = b) : ∃ w', FA w0 p w' (l ++ [(kd, k)]) rs ∧ ∀ {β : Type} (f : Nat → Mo β), mb (nA kd n) f w = f (p + b) w' := by
  refine ⟨_, FA_new h (kd, k), fun f => ?_⟩
  rw [hn, mb_nA hk, (FA_cnt h), hb]
theorem st_newO {w0 w : Wd} {p : Nat} {l : List (Nat × Nat)} {rs : List (Nat × Nat × Nat)} (h : FA w0 p w l rs) {ci : Nat} (b : Nat) (hb : l.length = b) : ∃ w', FA w0 p w' (l ++ [(ci, nf ci)]) rs ∧ ∀ {β : Type} (f : Nat → Mo β), mb (nO ci) f w = f (p + b) w' := by
  refine ⟨_, FA_new h (ci, nf ci), fun f => ?_⟩
  rw [mb_nO, (FA_cnt h), hb]
theorem st_put {w0 w : Wd} {p : Nat} {l : List (Nat × Nat)} {rs : List (Nat × Nat × Nat)} (h : FA w0 p w l rs) {ci : Nat} (a k b : Nat) (ha : l[a]? = some (ci, nf ci)) (hr : ∀ e ∈ rs, ¬ (e.1 = a ∧ e.2.1 = k)) : ∃ w', FA w0 p w' l ((a, k, b) :: rs) ∧ ∀ {β : Type} (f : Unit → Mo β), mb (sR ci k (p + a) (p + b)) f w = f () w' := by
  have hg := FA_get h ha
  obtain ⟨h1, h2, h3, h4, h5⟩ := h
  refine ⟨(w.1, w.2.1, u2 w.2.2.1 (p + a) k (some (p + b)), w.2.2.2), ⟨h1, h2, fun x hx => ?_, h4, fun e he => ?_⟩, fun f => mb_sR hg⟩
  · show w.1 x = _ ∧ w.2.1 x = _ ∧ u2 w.2.2.1 (p + a) k (some (p + b)) x = _
    rw [u2_row (by omega)]
    exact h3 x hx
  · rcases List.mem_cons.mp he with rfl | he
    · exact ⟨(List.getElem?_eq_some_iff.mp ha).1, u2_eq _ _ _ _⟩
    · obtain ⟨c, d⟩ := h5 e he
      refine ⟨c, ?_⟩
      show u2 w.2.2.1 (p + a) k (some (p + b)) (p + e.1) e.2.1 = _
      have := hr e he
      rw [u2_ne (by omega)]
      exact d
theorem st_int {w0 w : Wd} {p : Nat} {l : List (Nat × Nat)} {rs : List (Nat × Nat × Nat)} (h : FA w0 p w l rs) {v : Int32} (ha : l[3]? = some (0, nf 0)) : ∃ w', FA w0 p w' l rs ∧ ∀ {β : Type} (f : Unit → Mo β), mb (sI 0 0 (p + 3) v) f w = f () w' := by
  have hg := FA_get h ha
  obtain ⟨h1, h2, h3, h4, h5⟩ := h
  refine ⟨(u2 w.1 (p + 3) 0 v, w.2), ⟨h1, h2, fun x hx => ?_, fun a k ha hk => ?_, h5⟩, fun f => mb_sI hg⟩
  · show u2 w.1 (p + 3) 0 v x = _ ∧ _ ∧ _
    rw [u2_row (by omega)]
    exact h3 x hx
  · show u2 w.1 (p + 3) 0 v (p + a) k = 0
    rw [u2_ne (by omega)]
    exact h4 a k ha hk
def shH : List (Nat × Nat) := [(1, nf 1), (100, 8), (100, 32), (100, 32), (100, 32), (100, 32), (100, 40)]
theorem FA_held {w0 w : Wd} {p : Nat} {rs : List (Nat × Nat × Nat)} (h : FA w0 p w shH rs) (hr : rs = [(0, 7, 6), (0, 6, 5), (0, 5, 4), (0, 4, 3), (0, 3, 2), (0, 2, 1)]) : HO w.2 p := by
  subst hr
  have g := h.2.2.2.2
  refine ⟨FA_get h (a := 0) rfl, ⟨(g (0, 2, 1) (by simp)).2, (g (0, 3, 2) (by simp)).2, (g (0, 4, 3) (by simp)).2, (g (0, 5, 4) (by simp)).2, (g (0, 6, 5) (by simp)).2, (g (0, 7, 6) (by simp)).2⟩, FA_get h (a := 1) rfl, FA_get h (a := 2) rfl, FA_get h (a := 3) rfl, FA_get h (a := 4) rfl, FA_get h (a := 5) rfl, FA_get h (a := 6) rfl⟩
theorem heldNew_ok (w0 : Wd) : ∃ w, HO w.2 (cnt w0) ∧ wS w = wS w0 ++ shH ∧ (∀ x, x < cnt w0 → w.1 x = w0.1 x ∧ w.2.1 x = w0.2.1 x ∧ w.2.2.1 x = w0.2.2.1 x) ∧ ∀ {β : Type} (f : Nat → Mo β), mb (nO 1) (fun p => mb (m_X1_init p) fun _ => f p) w0 = f (cnt w0) w := by
  have F := FA_start w0
  generalize hp : cnt w0 = p at F ⊢
  obtain ⟨w1, F1, e1⟩ := st_newO F (ci := 1) 0 rfl
  obtain ⟨w2, F2, e2⟩ := st_newA F1 (kd := 100) (n := 8) 8 1 rfl (by omega) rfl
  obtain ⟨w3, F3, e3⟩ := st_put F2 (ci := 1) 0 2 1 rfl (by simp)
  obtain ⟨w4, F4, e4⟩ := st_newA F3 (kd := 100) (n := 32) 32 2 rfl (by omega) rfl
  obtain ⟨w5, F5, e5⟩ := st_put F4 (ci := 1) 0 3 2 rfl (by simp)
  obtain ⟨w6, F6, e6⟩ := st_newA F5 (kd := 100) (n := 32) 32 3 rfl (by omega) rfl
  obtain ⟨w7, F7, e7⟩ := st_put F6 (ci := 1) 0 4 3 rfl (by simp)
  obtain ⟨w8, F8, e8⟩ := st_newA F7 (kd := 100) (n := 32) 32 4 rfl (by omega) rfl
  obtain ⟨w9, F9, e9⟩ := st_put F8 (ci := 1) 0 5 4 rfl (by simp)
  obtain ⟨w10, F10, e10⟩ := st_newA F9 (kd := 100) (n := 32) 32 5 rfl (by omega) rfl
  obtain ⟨w11, F11, e11⟩ := st_put F10 (ci := 1) 0 6 5 rfl (by simp)
  obtain ⟨w12, F12, e12⟩ := st_newA F11 (kd := 100) (n := 40) 40 6 rfl (by omega) rfl
  obtain ⟨w13, F13, e13⟩ := st_put F12 (ci := 1) 0 7 6 rfl (by simp)
  refine ⟨w13, FA_held F13 rfl, F13.2.1, F13.2.2.1, fun f => ?_⟩
  rw [e1]
  refine mb_call (r := ()) ?_
  unfold m_X1_init
  simp only [Nat.add_zero] at e3 e5 e7 e9 e11 e13 ⊢
  rw [e2, e3, e4, e5, e6, e7, e8, e9, e10, e11, e12, e13]
  rfl
def shS : List (Nat × Nat) := [(3, nf 3), (5, nf 5), (100, 5), (0, nf 0), (100, 31), (100, 31), (100, 31), (100, 31), (100, 31), (100, 248), (100, 5), (100, 31), (100, 3968), (100, 3968), (101, 3968), (101, 3968)]
theorem searchNew_ok (w0 : Wd) : ∃ w, SO w.2 (cnt w0) ∧ w.1 (cnt w0 + 4) 0 = 0 ∧ wS w = wS w0 ++ shS ∧ (∀ x, x < cnt w0 → w.1 x = w0.1 x ∧ w.2.1 x = w0.2.1 x ∧ w.2.2.1 x = w0.2.2.1 x) ∧ ∀ {β : Type} (f : Nat → Mo β), mb (nO 3) (fun p => mb (m_X4_init p) fun _ => f p) w0 = f (cnt w0) w := by
  have F := FA_start w0
  generalize hp : cnt w0 = p at F ⊢
  obtain ⟨w1, F1, e1⟩ := st_newO F (ci := 3) 0 rfl
  obtain ⟨w2, F2, e2⟩ := st_newO F1 (ci := 5) 1 rfl
  obtain ⟨w3, F3, e3⟩ := st_newA F2 (kd := 100) (n := 5) 5 2 rfl (by omega) rfl
  obtain ⟨w4, F4, e4⟩ := st_put F3 (ci := 5) 1 0 2 rfl (by simp)
  obtain ⟨w5, F5, e5⟩ := st_put F4 (ci := 3) 0 0 1 rfl (by simp)
  obtain ⟨w6, F6, e6⟩ := st_newO F5 (ci := 0) 3 rfl
  obtain ⟨w7, F7, e7⟩ := st_int F6 (v := 1) rfl
  obtain ⟨w8, F8, e8⟩ := st_newA F7 (kd := 100) (n := 1 + 5 * 6) 31 4 rfl (by omega) rfl
  obtain ⟨w9, F9, e9⟩ := st_put F8 (ci := 0) 3 1 4 rfl (by simp)
  obtain ⟨w10, F10, e10⟩ := st_newA F9 (kd := 100) (n := 1 + 5 * 6) 31 5 rfl (by omega) rfl
  obtain ⟨w11, F11, e11⟩ := st_put F10 (ci := 0) 3 2 5 rfl (by simp)
  obtain ⟨w12, F12, e12⟩ := st_newA F11 (kd := 100) (n := 1 + 5 * 6) 31 6 rfl (by omega) rfl
  obtain ⟨w13, F13, e13⟩ := st_put F12 (ci := 0) 3 3 6 rfl (by simp)
  obtain ⟨w14, F14, e14⟩ := st_newA F13 (kd := 100) (n := 1 + 5 * 6) 31 7 rfl (by omega) rfl
  obtain ⟨w15, F15, e15⟩ := st_put F14 (ci := 0) 3 4 7 rfl (by simp)
  obtain ⟨w16, F16, e16⟩ := st_newA F15 (kd := 100) (n := 1 + 5 * 6) 31 8 rfl (by omega) rfl
  obtain ⟨w17, F17, e17⟩ := st_put F16 (ci := 0) 3 5 8 rfl (by simp)
  obtain ⟨w18, F18, e18⟩ := st_newA F17 (kd := 100) (n := (1 + 5 * 6) * 8) 248 9 rfl (by omega) rfl
  obtain ⟨w19, F19, e19⟩ := st_put F18 (ci := 0) 3 6 9 rfl (by simp)
  obtain ⟨w20, F20, e20⟩ := st_newA F19 (kd := 100) (n := 5) 5 10 rfl (by omega) rfl
  obtain ⟨w21, F21, e21⟩ := st_put F20 (ci := 0) 3 7 10 rfl (by simp)
  obtain ⟨w22, F22, e22⟩ := st_put F21 (ci := 3) 0 1 3 rfl (by simp)
  obtain ⟨w23, F23, e23⟩ := st_newA F22 (kd := 100) (n := 31) 31 11 rfl (by omega) rfl
  obtain ⟨w24, F24, e24⟩ := st_put F23 (ci := 3) 0 2 11 rfl (by simp)
  obtain ⟨w25, F25, e25⟩ := st_newA F24 (kd := 100) (n := 3968) 3968 12 rfl (by omega) rfl
  obtain ⟨w26, F26, e26⟩ := st_put F25 (ci := 3) 0 3 12 rfl (by simp)
  obtain ⟨w27, F27, e27⟩ := st_newA F26 (kd := 100) (n := 3968) 3968 13 rfl (by omega) rfl
  obtain ⟨w28, F28, e28⟩ := st_put F27 (ci := 3) 0 4 13 rfl (by simp)
  obtain ⟨w29, F29, e29⟩ := st_newA F28 (kd := 101) (n := 3968) 3968 14 rfl (by omega) rfl
  obtain ⟨w30, F30, e30⟩ := st_put F29 (ci := 3) 0 5 14 rfl (by simp)
  obtain ⟨w31, F31, e31⟩ := st_newA F30 (kd := 101) (n := 3968) 3968 15 rfl (by omega) rfl
  obtain ⟨w32, F32, e32⟩ := st_put F31 (ci := 3) 0 6 15 rfl (by simp)
  have g := F32.2.2.2.2
  refine ⟨w32, ⟨FA_get F32 (a := 0) rfl, ⟨(g (0, 0, 1) (by simp)).2, (g (0, 1, 3) (by simp)).2, (g (0, 2, 11) (by simp)).2, (g (0, 3, 12) (by simp)).2, (g (0, 4, 13) (by simp)).2⟩, ⟨FA_get F32 (a := 1) rfl, (g (1, 0, 2) (by simp)).2, FA_get F32 (a := 2) rfl, by omega, by omega⟩, ⟨FA_get F32 (a := 3) rfl, ⟨(g (3, 1, 4) (by simp)).2, (g (3, 2, 5) (by simp)).2, (g (3, 3, 6) (by simp)).2, (g (3, 4, 7) (by simp)).2, (g (3, 5, 8) (by simp)).2, (g (3, 6, 9) (by simp)).2, (g (3, 7, 10) (by simp)).2⟩, ⟨FA_get F32 (a := 4) rfl, FA_get F32 (a := 5) rfl, FA_get F32 (a := 6) rfl, FA_get F32 (a := 7) rfl, FA_get F32 (a := 8) rfl, FA_get F32 (a := 9) rfl, FA_get F32 (a := 10) rfl⟩, by omega⟩, ⟨FA_get F32 (a := 11) rfl, FA_get F32 (a := 12) rfl, FA_get F32 (a := 13) rfl, FA_get F32 (a := 14) rfl, FA_get F32 (a := 15) rfl⟩, Or.inl ⟨(g (0, 5, 14) (by simp)).2, (g (0, 6, 15) (by simp)).2⟩⟩, F32.2.2.2.1 4 0 (by simp) (by omega), F32.2.1, F32.2.2.1, fun f => ?_⟩
  rw [e1]
  refine mb_call (r := ()) ?_
  simp only [Nat.add_zero] at e5 e22 e24 e26 e28 e30 e32 ⊢
  unfold m_X4_init
  rw [e2, mb_call (show m_X6_init (p + 1) 5 w2 = some ((), w4) by unfold m_X6_init; rw [e3, e4]; rfl), e5, e6]
  rw [mb_call (show m_X0_init (p + 3) 5 w6 = some ((), w21) by unfold m_X0_init; rw [e7, mb_mp, e8, e9, e10, e11, e12, e13, e14, e15, e16, e17, e18, e19, e20, e21]; rfl)]
  rw [e22, e23, e24, e25, e26, e27, e28, e29, e30, e31, e32]
  rfl
