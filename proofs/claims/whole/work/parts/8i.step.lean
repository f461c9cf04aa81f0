/-! ===== the reference's step() ===== -/
def btI (tx : List Nat) (k : Nat) : Int32 := match tx[k]? with
  | none => -1
  | some c => nI c
def RT (z : Zd) (I : Nat → Nat → Int32) (tx : List Nat) : Prop := MO z 33 ∧ I 33 2 = nI tx.length ∧ (∀ (i c : Nat), tx[i]? = some c → I 34 i = nI c) ∧ tx.length ≤ 150 ∧ ∀ c ∈ tx, c < 256
theorem knd1 (c : Nat) : knd c = 1 ↔ 97 ≤ c ∧ c ≤ 122 := by
  unfold knd
  by_cases h : 97 ≤ c ∧ c ≤ 122
  · rw [if_pos h]; exact ⟨fun _ => h, fun _ => rfl⟩
  · rw [if_neg h]
    refine ⟨fun e => ?_, fun e => absurd e h⟩
    split at e
    · omega
    · split at e <;> omega
theorem knd2 (c : Nat) : knd c = 2 ↔ 48 ≤ c ∧ c ≤ 57 := by
  unfold knd
  by_cases h1 : 97 ≤ c ∧ c ≤ 122
  · rw [if_pos h1]; exact ⟨fun e => by omega, fun e => by omega⟩
  · rw [if_neg h1]
    by_cases h : 48 ≤ c ∧ c ≤ 57
    · rw [if_pos h]; exact ⟨fun _ => h, fun _ => rfl⟩
    · rw [if_neg h]
      refine ⟨fun e => ?_, fun e => absurd e h⟩
      split at e <;> omega
section ST
variable {z : Zd} {I : Nat → Nat → Int32} {tx : List Nat}
theorem byteAt_ok (h : RT z I tx) {k : Nat} (hk : k ≤ 150) : m_X8_byteAt 33 (nI k) (I, z) = some (btI tx k, (I, z)) := by
  obtain ⟨hM, t1, t2, t3, t4⟩ := h
  unfold m_X8_byteAt btI
  rw [mb_gI (w := (I, z)) hM.o]
  simp only [t1]
  by_cases hkl : tx.length ≤ k
  · rw [if_pos (nI_le hkl (by omega)), List.getElem?_eq_none hkl]; rfl
  · have hc := List.getElem?_eq_getElem (show k < tx.length by omega)
    rw [if_neg (nI_ge (by omega) (by omega)), mb_gR (w := (I, z)) hM.o hM.rText, mb_aI (w := (I, z)) hM.sText (show k < 150 by omega) (by omega)]
    show some (I 34 k, (I, z)) = _
    rw [t2 k _ hc, hc]
theorem inL_ok (ht : ∀ c ∈ tx, c < 256) (k : Nat) (w : Wd) : m_X8_in (btI tx k).toInt64 97 122 w = some (bI (decide ((tx[k]?).map knd = some 1)), w) ∧ m_X8_in (btI tx k).toInt64 48 57 w = some (bI (decide ((tx[k]?).map knd = some 2)), w) := by
  rw [in_ok, in_ok, Int32.toInt_toInt64, show (97 : Int64).toInt = 97 by decide, show (122 : Int64).toInt = 122 by decide, show (48 : Int64).toInt = 48 by decide, show (57 : Int64).toInt = 57 by decide]
  unfold btI
  cases hc : tx[k]? with
  | none =>
    dsimp only
    rw [show (-1 : Int32).toInt = -1 by decide]
    exact ⟨rfl, rfl⟩
  | some c =>
    have h256 := ht c (List.mem_of_getElem? hc)
    dsimp only
    rw [nI_toInt (by omega)]
    have e1 : decide (97 ≤ (c : Int) ∧ (c : Int) ≤ 122) = decide (Option.map knd (some c) = some 1) := by
      rw [Bool.eq_iff_iff, decide_eq_true_iff, decide_eq_true_iff]
      constructor
      · intro hh; exact congrArg some ((knd1 c).mpr (by omega))
      · intro hh; have := (knd1 c).mp (Option.some.inj hh); omega
    have e2 : decide (48 ≤ (c : Int) ∧ (c : Int) ≤ 57) = decide (Option.map knd (some c) = some 2) := by
      rw [Bool.eq_iff_iff, decide_eq_true_iff, decide_eq_true_iff]
      constructor
      · intro hh; exact congrArg some ((knd2 c).mpr (by omega))
      · intro hh; have := (knd2 c).mp (Option.some.inj hh); omega
    rw [e1, e2]
    exact ⟨rfl, rfl⟩
theorem RT.kept {I' : Nat → Nat → Int32} (h : RT z I tx) (h2 : I' 33 2 = I 33 2) (h34 : I' 34 = I 34) : RT z I' tx := by
  obtain ⟨hM, t1, t2, t3, t4⟩ := h
  exact ⟨hM, h2.trans t1, by rw [h34]; exact t2, t3, t4⟩
/-- what a step leaves in token and value -/
def StV (tx : List Nat) (p : Nat) (J : Nat → Nat → Int32) : Prop := ∃ tok v : Nat, J 33 5 = nI tok ∧ tok ≤ 4 ∧ (tkK tx p ≠ 2 → tok = tkK tx p) ∧ (tkK tx p = 1 → J 33 6 = btI tx (tkB tx p)) ∧ (tkK tx p = 2 → (tok = 2 ∨ tok = 4) ∧ J 33 6 = nI v ∧ v < 2000 ∧ ((tok = 2 ∧ 1 ≤ v ∧ v ≤ 9) ↔ (tkE tx p = tkB tx p + 1 ∧ tx[tkB tx p]? ≠ some 48)) ∧ (tkE tx p = tkB tx p + 1 → ∃ c, tx[tkB tx p]? = some c ∧ c = v + 48))
theorem step_ok (h : RT z I tx) {p : Nat} (hp : I 33 3 = nI p) (hpl : p ≤ tx.length) : ∃ I', m_X8_step 33 (I, z) = some ((), (I', z)) ∧ I' 33 3 = nI (tkE tx p) ∧ I' 33 4 = nI (tkB tx p) ∧ I' 33 7 = nI (tkE tx p - tkB tx p) ∧ StV tx p I' ∧ (∀ k, (k < 3 ∨ 7 < k) → I' 33 k = I 33 k) ∧ ∀ x, x ≠ 33 → I' x = I x := by
  obtain ⟨hM, t1, t2, t3, t4⟩ := id h
  obtain ⟨s1, s2', s3⟩ := skp_ok tx p
  have sl := skp_le tx hpl
  have hend := tkE_le tx hpl
  obtain ⟨s, x, k, ⟨J, rfl, j3, jk, jx⟩, e⟩ := lp_FUi (F := fun k (s : Unit) => m_X8_step_B0 33 k) (fun i s x => ∃ J, x = (J, z) ∧ J 33 3 = nI (p + i) ∧ (∀ k, k ≠ 3 → J 33 k = I 33 k) ∧ ∀ x, x ≠ 33 → J x = I x) (skp tx p - p) (by omega) (by
    intro i hi s x hP
    obtain ⟨J, rfl, j3, jk, jx⟩ := hP
    have hc := s2' (p + i) (by omega) (by omega)
    have hl := (List.getElem?_eq_some_iff.mp hc).1
    have hRT : RT z J tx := h.kept (jk 2 (by omega)) (jx 34 (by omega))
    refine ⟨(), (u2 J 33 3 (nI (p + i + 1)), z), ⟨_, rfl, u2_eq _ _ _ _, fun k hk => by rw [u2_ne (Or.inr hk)]; exact jk k hk, fun x hx => by rw [u2_row hx]; exact jx x hx⟩, fun k => ?_⟩
    unfold m_X8_step_B0
    rw [mb_gI (w := (J, z)) hM.o]
    simp only [j3]
    rw [mb_vc (w := (J, z)) hM.o, mb_call (byteAt_ok hRT (by omega)), if_pos (show btI tx (p + i) = 32 by unfold btI; rw [hc]; rfl), mb_gI (w := (J, z)) hM.o]
    simp only [j3]
    rw [nI_1, mb_sI (w := (J, z)) hM.o]) (s := ()) (w := (I, z)) ⟨I, rfl, hp, fun _ _ => rfl, fun _ _ => rfl⟩
  rw [show p + (skp tx p - p) = skp tx p by omega] at j3
  have hb0 : tkB tx p = skp tx p := rfl
  have hRT : RT z J tx := h.kept (jk 2 (by omega)) (jx 34 (by omega))
  generalize hJ1 : u2 (u2 J 33 4 (nI (skp tx p))) 33 6 (btI tx (skp tx p)) = J1
  have a3 : J1 33 3 = nI (skp tx p) := by rw [← hJ1, u2_ne (Or.inr (by omega)), u2_ne (Or.inr (by omega))]; exact j3
  have a4 : J1 33 4 = nI (skp tx p) := by rw [← hJ1, u2_ne (Or.inr (by omega)), u2_eq]
  have a6 : J1 33 6 = btI tx (skp tx p) := by rw [← hJ1, u2_eq]
  have ak : ∀ k, (k < 3 ∨ 7 < k) → J1 33 k = I 33 k := fun k b => by rw [← hJ1, u2_ne (Or.inr (by omega)), u2_ne (Or.inr (by omega)), jk k (by omega)]
  have ax : ∀ x, x ≠ 33 → J1 x = I x := fun x hx => by rw [← hJ1, u2_row hx, u2_row hx, jx x hx]
  have hRT1 : RT z J1 tx := h.kept (ak 2 (by omega)) (ax 34 (by omega))
  have hne32 : ¬ btI tx (skp tx p) = 32 := by
    unfold btI
    cases hc : tx[skp tx p]? with
    | none => dsimp only; decide
    | some c =>
      have h256 := t4 c (List.mem_of_getElem? hc)
      dsimp only
      exact fun e2 => s3 (by rw [hc, (nI_eq (b := 32) (by omega) (by omega)).mp e2])
  have hgo : m_X8_step 33 (I, z) = (mb (m_X8_in (btI tx (skp tx p)).toInt64 97 122) fun c6 =>
      if c6 = 0 then mb (m_X8_in (btI tx (skp tx p)).toInt64 48 57) fun c7 =>
        if c7 = 0 then (if 0 ≤ btI tx (skp tx p) then (if btI tx (skp tx p) = 59 then m_X8_step_J254 33 (btI tx (skp tx p)) 3 33 else m_X8_step_J254 33 (btI tx (skp tx p)) 4 33) else m_X8_step_J254 33 (btI tx (skp tx p)) 0 33)
        else mb (sI 7 5 33 2) fun _ => mb (sI 7 6 33 0) fun _ => lp (fun k (s : Unit) => m_X8_step_B125 33 (btI tx (skp tx p)) k) FU ()
      else mb (sI 7 5 33 1) fun _ => lp (fun k (s : Unit) => m_X8_step_B67 33 k) FU ()) (J1, z) := by
    unfold m_X8_step
    refine Eq.trans e ?_
    have j3' : u2 J 33 4 (nI (skp tx p)) 33 3 = nI (skp tx p) := by rw [u2_ne (Or.inr (by omega))]; exact j3
    have hRT4 : RT z (u2 J 33 4 (nI (skp tx p))) tx := h.kept (by rw [u2_ne (Or.inr (by omega))]; exact jk 2 (by omega)) (by rw [u2_row (by omega)]; exact jx 34 (by omega))
    unfold m_X8_step_B0
    rw [mb_gI (w := (J, z)) hM.o]
    simp only [j3]
    rw [mb_vc (w := (J, z)) hM.o, mb_call (byteAt_ok hRT (by omega)), if_neg hne32, mb_gI (w := (J, z)) hM.o]
    simp only [j3]
    rw [mb_sI (w := (J, z)) hM.o, mb_gI (w := (u2 J 33 4 (nI (skp tx p)), z)) hM.o]
    simp only [j3']
    rw [mb_vc (w := (u2 J 33 4 (nI (skp tx p)), z)) hM.o, mb_call (byteAt_ok hRT4 (by omega)), mb_sI (w := (u2 J 33 4 (nI (skp tx p)), z)) hM.o]
    dsimp only
    rw [hJ1]
  rw [hgo, mb_call (inL_ok t4 _ _).1]
  have h275 : ∀ (K : Nat → Nat → Int32) (E : Nat), K 33 3 = nI E → K 33 4 = nI (skp tx p) → skp tx p ≤ E → m_X8_step_J275 33 (K, z) = some ((), (u2 K 33 7 (nI (E - skp tx p)), z)) := by
    intro K E k3 k4 hle
    unfold m_X8_step_J275
    rw [mb_gI (w := (K, z)) hM.o]
    simp only [k3]
    rw [mb_gI (w := (K, z)) hM.o]
    simp only [k4]
    rw [nI_sub hle, mb_sI (w := (K, z)) hM.o]
    rfl
  by_cases hk1 : (tx[skp tx p]?).map knd = some 1
  · rw [decide_eq_true hk1, if_neg (show ¬ bI true = 0 by decide), mb_sI (w := (J1, z)) hM.o]
    cases hc : tx[skp tx p]? with
    | none => rw [hc] at hk1; cases hk1
    | some c =>
      rw [hc] at hk1
      have hkc : knd c = 1 := Option.some.inj hk1
      have hl := (List.getElem?_eq_some_iff.mp hc).1
      have hE0 : tkE tx p = run tx 1 (skp tx p + 1) := by unfold tkE; rw [hc]; dsimp only; rw [if_pos (Or.inl hkc), hkc]
      have hK0 : tkK tx p = 1 := by unfold tkK; rw [hc]; exact hkc
      obtain ⟨q1, q2, q3⟩ := run_ok tx 1 (skp tx p + 1)
      have q4 := run_le tx 1 (show skp tx p + 1 ≤ tx.length by omega)
      rw [← hE0] at q1 q2 q3 q4
      generalize hE : tkE tx p = E at *
      obtain ⟨s', x', k', ⟨K, rfl, k3, kk, kx⟩, e'⟩ := lp_FUi (F := fun k (s : Unit) => m_X8_step_B67 33 k) (fun i s x => ∃ K, x = (K, z) ∧ K 33 3 = nI (skp tx p + i) ∧ (∀ k, k ≠ 3 → K 33 k = u2 J1 33 5 1 33 k) ∧ ∀ x, x ≠ 33 → K x = I x) (E - skp tx p) (by omega) (by
        intro i hi s x hP
        obtain ⟨K, rfl, k3, kk, kx⟩ := hP
        have hr : (tx[skp tx p + i]?).map knd = some 1 := by
          by_cases hi0 : i = 0
          · rw [hi0, Nat.add_zero, hc]; exact congrArg some hkc
          · exact q2 _ (by omega) (by omega)
        have hRTK : RT z K tx := h.kept (by rw [kk 2 (by omega), u2_ne (Or.inr (by omega))]; exact ak 2 (by omega)) (kx 34 (by omega))
        refine ⟨(), (u2 K 33 3 (nI (skp tx p + i + 1)), z), ⟨_, rfl, u2_eq _ _ _ _, fun k hk => by rw [u2_ne (Or.inr hk)]; exact kk k hk, fun x hx => by rw [u2_row hx]; exact kx x hx⟩, fun k => ?_⟩
        unfold m_X8_step_B67
        rw [mb_gI (w := (K, z)) hM.o]
        simp only [k3]
        rw [mb_vc (w := (K, z)) hM.o, mb_call (byteAt_ok hRTK (by omega)), mb_call (inL_ok t4 _ _).1, decide_eq_true hr, if_neg (show ¬ bI true = 0 by decide), mb_gI (w := (K, z)) hM.o]
        simp only [k3]
        rw [nI_1, mb_sI (w := (K, z)) hM.o]) (s := ()) (w := (u2 J1 33 5 1, z)) ⟨_, rfl, by rw [u2_ne (Or.inr (by omega))]; exact a3, fun _ _ => rfl, fun x hx => by rw [u2_row hx]; exact ax x hx⟩
      rw [show skp tx p + (E - skp tx p) = E by omega] at k3
      have hRTK : RT z K tx := h.kept (by rw [kk 2 (by omega), u2_ne (Or.inr (by omega))]; exact ak 2 (by omega)) (kx 34 (by omega))
      have k4 : K 33 4 = nI (skp tx p) := by rw [kk 4 (by omega), u2_ne (Or.inr (by omega))]; exact a4
      refine ⟨u2 K 33 7 (nI (E - skp tx p)), ?_, by rw [u2_ne (Or.inr (by omega))]; exact k3, by rw [u2_ne (Or.inr (by omega))]; exact k4, u2_eq _ _ _ _, ⟨1, 0, ?_, by omega, fun _ => hK0.symm, fun _ => ?_, fun h2 => by omega⟩, ?_, ?_⟩
      · refine Eq.trans e' ?_
        unfold m_X8_step_B67
        rw [mb_gI (w := (K, z)) hM.o]
        simp only [k3]
        rw [mb_vc (w := (K, z)) hM.o, mb_call (byteAt_ok hRTK (by omega)), mb_call (inL_ok t4 _ _).1, decide_eq_false q3, if_pos (show bI false = 0 from rfl)]
        exact h275 K E k3 k4 (by omega)
      · rw [u2_ne (Or.inr (by omega)), kk 5 (by omega), u2_eq]; rfl
      · rw [u2_ne (Or.inr (by omega)), kk 6 (by omega), u2_ne (Or.inr (by omega))]; exact a6
      · intro k hk; rw [u2_ne (Or.inr (by omega)), kk k (by omega), u2_ne (Or.inr (by omega)), ak k hk]
      · intro x hx; rw [u2_row hx, kx x hx]
  rw [decide_eq_false hk1, if_pos (show bI false = 0 from rfl), mb_call (inL_ok t4 _ _).2]
  by_cases hk2 : (tx[skp tx p]?).map knd = some 2
  · rw [decide_eq_true hk2, if_neg (show ¬ bI true = 0 by decide), mb_sI (w := (J1, z)) hM.o, mb_sI (w := (u2 J1 33 5 2, z)) hM.o]
    dsimp only
    cases hc : tx[skp tx p]? with
    | none => rw [hc] at hk2; cases hk2
    | some c =>
      rw [hc] at hk2
      have hkc : knd c = 2 := Option.some.inj hk2
      have hcd : 48 ≤ c ∧ c ≤ 57 := by
        unfold knd at hkc
        split at hkc
        · cases hkc
        · split at hkc
          · assumption
          · split at hkc <;> cases hkc
      have hl := (List.getElem?_eq_some_iff.mp hc).1
      have hE0 : tkE tx p = run tx 2 (skp tx p + 1) := by unfold tkE; rw [hc]; dsimp only; rw [if_pos (Or.inr hkc), hkc]
      have hK0 : tkK tx p = 2 := by unfold tkK; rw [hc]; exact hkc
      obtain ⟨q1, q2, q3⟩ := run_ok tx 2 (skp tx p + 1)
      have q4 := run_le tx 2 (show skp tx p + 1 ≤ tx.length by omega)
      rw [← hE0] at q1 q2 q3 q4
      generalize hE : tkE tx p = E at *
      have hbt : btI tx (skp tx p) = nI c := by unfold btI; rw [hc]
      obtain ⟨s', x', k', ⟨K, v, rfl, k3, k6, v1, v2, v3, kk, kx⟩, e'⟩ := lp_FUi (F := fun k (s : Unit) => m_X8_step_B125 33 (btI tx (skp tx p)) k) (fun i s x => ∃ K v, x = (K, z) ∧ K 33 3 = nI (skp tx p + i) ∧ K 33 6 = nI v ∧ v ≤ 999 ∧ (i = 0 → v = 0) ∧ ((i = 1 → v + 48 = c) ∧ (2 ≤ i → c ≠ 48 → 10 ≤ v)) ∧ (∀ k, k ≠ 3 → k ≠ 6 → K 33 k = u2 J1 33 5 2 33 k) ∧ ∀ x, x ≠ 33 → K x = I x) (E - skp tx p) (by omega) (by
        intro i hi s x hP
        obtain ⟨K, v, rfl, k3, k6, v1, v2, ⟨v3, v4⟩, kk, kx⟩ := hP
        have hr : (tx[skp tx p + i]?).map knd = some 2 := by
          by_cases hi0 : i = 0
          · rw [hi0, Nat.add_zero, hc]; exact congrArg some hkc
          · exact q2 _ (by omega) (by omega)
        have hRTK : RT z K tx := h.kept (by rw [kk 2 (by omega) (by omega), u2_ne (Or.inr (by omega))]; exact ak 2 (by omega)) (kx 34 (by omega))
        cases hd : tx[skp tx p + i]? with
        | none => rw [hd] at hr; cases hr
        | some d =>
          rw [hd] at hr
          have hkd : knd d = 2 := Option.some.inj hr
          have hdd : 48 ≤ d ∧ d ≤ 57 := by
            unfold knd at hkd
            split at hkd
            · cases hkd
            · split at hkd
              · assumption
              · split at hkd <;> cases hkd
          have hbd : btI tx (skp tx p + i) = nI d := by unfold btI; rw [hd]
          have hr' : (tx[skp tx p + i]?).map knd = some 2 := by rw [hd]; exact hr
          have hfin : ∀ nv : Nat, nv ≤ 999 → (i + 1 = 1 → nv + 48 = c) → (2 ≤ i + 1 → c ≠ 48 → 10 ≤ nv) → (∀ k : Unit → Mo Unit, m_X8_step_B125 33 (btI tx (skp tx p)) k (K, z) = m_X8_step_J182 33 (btI tx (skp tx p)) (nI nv) 33 k (K, z)) → ∃ s' w', (∃ K v, w' = (K, z) ∧ K 33 3 = nI (skp tx p + (i + 1)) ∧ K 33 6 = nI v ∧ v ≤ 999 ∧ (i + 1 = 0 → v = 0) ∧ ((i + 1 = 1 → v + 48 = c) ∧ (2 ≤ i + 1 → c ≠ 48 → 10 ≤ v)) ∧ (∀ k, k ≠ 3 → k ≠ 6 → K 33 k = u2 J1 33 5 2 33 k) ∧ ∀ x, x ≠ 33 → K x = I x) ∧ ∀ k : Unit → Mo Unit, m_X8_step_B125 33 (btI tx (skp tx p)) k (K, z) = k s' w' := by
            intro nv n1 n2 n3 hrun
            refine ⟨(), (u2 (u2 K 33 6 (nI nv)) 33 3 (nI (skp tx p + i + 1)), z), ⟨_, nv, rfl, u2_eq _ _ _ _, by rw [u2_ne (Or.inr (by omega)), u2_eq], n1, fun h0 => by omega, ⟨n2, n3⟩, fun k a b => by rw [u2_ne (Or.inr a), u2_ne (Or.inr b)]; exact kk k a b, fun x hx => by rw [u2_row hx, u2_row hx]; exact kx x hx⟩, fun k => ?_⟩
            have k3' : u2 K 33 6 (nI nv) 33 3 = nI (skp tx p + i) := by rw [u2_ne (Or.inr (by omega))]; exact k3
            rw [hrun k]
            unfold m_X8_step_J182
            rw [mb_sI (w := (K, z)) hM.o, mb_gI (w := (u2 K 33 6 (nI nv), z)) hM.o]
            simp only [k3']
            rw [nI_1, mb_sI (w := (u2 K 33 6 (nI nv), z)) hM.o]
          have hpre : ∀ k : Unit → Mo Unit, m_X8_step_B125 33 (btI tx (skp tx p)) k (K, z) = (if nI v ≤ 99 then mb (gI 7 6 33) fun value18 => mb (gI 7 3 33) fun cursor19 => mb (vc 7 33 (m_X8_byteAt 33 cursor19)) fun c20 => m_X8_step_J182 33 (btI tx (skp tx p)) (10 * value18 + c20 - 48) 33 k else mb (gI 7 6 33) fun value22 => m_X8_step_J182 33 (btI tx (skp tx p)) value22 33 k) (K, z) := by
            intro k
            unfold m_X8_step_B125
            rw [mb_gI (w := (K, z)) hM.o]
            simp only [k3]
            rw [mb_vc (w := (K, z)) hM.o, mb_call (byteAt_ok hRTK (by omega)), mb_call (inL_ok t4 _ _).2, decide_eq_true hr', if_neg (show ¬ bI true = 0 by decide), mb_gI (w := (K, z)) hM.o]
            simp only [k6]
          by_cases hv99 : v ≤ 99
          · refine hfin (10 * v + d - 48) (by omega) (fun h1 => ?_) (fun h2 hc48 => ?_) (fun k => ?_)
            · have hi0 : i = 0 := by omega
              have hdc : d = c := by
                subst hi0
                rw [Nat.add_zero] at hd
                exact Option.some.inj (hd.symm.trans hc)
              rw [v2 hi0]; omega
            · by_cases hi1 : i = 1
              · have := v3 hi1; omega
              · have := v4 (by omega) hc48; omega
            · rw [hpre k, if_pos (show nI v ≤ 99 from nI_le (b := 99) hv99 (by omega)), mb_gI (w := (K, z)) hM.o]
              simp only [k6]
              rw [mb_gI (w := (K, z)) hM.o]
              simp only [k3]
              rw [mb_vc (w := (K, z)) hM.o, mb_call (byteAt_ok hRTK (by omega)), hbd, show (10 : Int32) * nI v + nI d - 48 = nI (10 * v + d - 48) by
                rw [show (10 : Int32) = nI 10 from rfl, pk_mul, nI_add, show (48 : Int32) = nI 48 from rfl, nI_sub (by omega)]]
          · refine hfin v v1 (fun h1 => by have := v2 (by omega); omega) (fun _ _ => by omega) (fun k => ?_)
            rw [hpre k, if_neg (show ¬ nI v ≤ 99 from nI_ge (a := 99) (by omega) (by omega)), mb_gI (w := (K, z)) hM.o]
            simp only [k6]) (s := ()) (w := (u2 (u2 J1 33 5 2) 33 6 0, z)) ⟨_, 0, rfl, by rw [u2_ne (Or.inr (by omega)), u2_ne (Or.inr (by omega))]; exact a3, u2_eq _ _ _ _, by omega, fun _ => rfl, ⟨fun h1 => by omega, fun h2 => by omega⟩, fun k a b => u2_ne (Or.inr b), fun x hx => by rw [u2_row hx, u2_row hx]; exact ax x hx⟩
      obtain ⟨v3, v4⟩ := v3
      rw [show skp tx p + (E - skp tx p) = E by omega] at k3
      have hRTK : RT z K tx := h.kept (by rw [kk 2 (by omega) (by omega), u2_ne (Or.inr (by omega))]; exact ak 2 (by omega)) (kx 34 (by omega))
      have k4 : K 33 4 = nI (skp tx p) := by rw [kk 4 (by omega) (by omega), u2_ne (Or.inr (by omega))]; exact a4
      have k5 : K 33 5 = nI 2 := by rw [kk 5 (by omega) (by omega), u2_eq]; rfl
      have hpost : m_X8_step_B125 33 (btI tx (skp tx p)) k' (K, z) = (if 99 < v ∨ (c = 48 ∧ skp tx p + 1 < E) then m_X8_step_J226 33 else m_X8_step_J275 33) (K, z) := by
        unfold m_X8_step_B125
        rw [mb_gI (w := (K, z)) hM.o]
        simp only [k3]
        rw [mb_vc (w := (K, z)) hM.o, mb_call (byteAt_ok hRTK (by omega)), mb_call (inL_ok t4 _ _).2, decide_eq_false q3, if_pos (show bI false = 0 from rfl), mb_gI (w := (K, z)) hM.o]
        simp only [k6]
        by_cases hv99 : 99 < v
        · rw [if_pos (show (99 : Int32) < nI v from nI_lt (a := 99) hv99 (by omega)), if_pos (Or.inl hv99)]
        · rw [if_neg (show ¬ (99 : Int32) < nI v from nI_nlt (a := 99) (by omega) (by omega)), hbt]
          by_cases hc48 : c = 48
          · rw [if_pos (show nI c = 48 by rw [hc48]; rfl), mb_gI (w := (K, z)) hM.o]
            simp only [k3]
            rw [mb_gI (w := (K, z)) hM.o]
            simp only [k4]
            rw [nI_1]
            by_cases hlt : skp tx p + 1 < E
            · rw [if_neg (nI_ge hlt (by omega)), if_pos (Or.inr ⟨hc48, hlt⟩)]
            · rw [if_pos (nI_le (by omega) (by omega)), if_neg (by omega)]
          · rw [if_neg (show ¬ nI c = 48 from fun e2 => hc48 ((nI_eq (b := 48) (by omega) (by omega)).mp e2)), if_neg (by omega)]
      by_cases hbad : 99 < v ∨ (c = 48 ∧ skp tx p + 1 < E)
      · refine ⟨u2 (u2 K 33 5 4) 33 7 (nI (E - skp tx p)), ?_, ?_, ?_, u2_eq _ _ _ _, ⟨4, v, ?_, by omega, fun h2 => by omega, fun h2 => by omega, fun _ => ⟨Or.inr rfl, ?_, by omega, ?_, fun he => ?_⟩⟩, ?_, ?_⟩
        · refine Eq.trans e' ?_
          rw [hpost, if_pos hbad]
          unfold m_X8_step_J226
          rw [mb_sI (w := (K, z)) hM.o]
          exact h275 (u2 K 33 5 4) E (by rw [u2_ne (Or.inr (by omega))]; exact k3) (by rw [u2_ne (Or.inr (by omega))]; exact k4) (by omega)
        · rw [u2_ne (Or.inr (by omega)), u2_ne (Or.inr (by omega))]; exact k3
        · rw [u2_ne (Or.inr (by omega)), u2_ne (Or.inr (by omega))]; exact k4
        · rw [u2_ne (Or.inr (by omega)), u2_eq]; rfl
        · rw [u2_ne (Or.inr (by omega)), u2_ne (Or.inr (by omega))]; exact k6
        · constructor
          · rintro ⟨h4, -⟩; omega
          · rintro ⟨he, hne⟩
            rw [hb0] at he hne
            rw [hc] at hne
            have := v3 (by omega)
            exfalso
            rcases hbad with hb | hb
            · omega
            · omega
        · rw [hb0]; exact ⟨c, hc, by have := v3 (by rw [hb0] at he; omega); omega⟩
        · intro k hk; rw [u2_ne (Or.inr (by omega)), u2_ne (Or.inr (by omega)), kk k (by omega) (by omega), u2_ne (Or.inr (by omega)), ak k hk]
        · intro x hx; rw [u2_row hx, u2_row hx, kx x hx]
      · refine ⟨u2 K 33 7 (nI (E - skp tx p)), ?_, ?_, ?_, u2_eq _ _ _ _, ⟨2, v, ?_, by omega, fun h2 => by omega, fun h2 => by omega, fun _ => ⟨Or.inl rfl, ?_, by omega, ?_, fun he => ?_⟩⟩, ?_, ?_⟩
        · refine Eq.trans e' ?_
          rw [hpost, if_neg hbad]
          exact h275 K E k3 k4 (by omega)
        · rw [u2_ne (Or.inr (by omega))]; exact k3
        · rw [u2_ne (Or.inr (by omega))]; exact k4
        · rw [u2_ne (Or.inr (by omega))]; exact k5
        · rw [u2_ne (Or.inr (by omega))]; exact k6
        · rw [hb0, hc]
          constructor
          · rintro ⟨-, hv1, hv9⟩
            refine ⟨?_, ?_⟩
            · refine Classical.byContradiction fun hne => ?_
              by_cases hc48 : c = 48
              · exact hbad (Or.inr ⟨hc48, by omega⟩)
              · have := v4 (by omega) hc48; omega
            · intro e2
              have hc48 := Option.some.inj e2
              by_cases hE1 : E = skp tx p + 1
              · have := v3 (by omega); omega
              · exact hbad (Or.inr ⟨hc48, by omega⟩)
          · rintro ⟨he, hne⟩
            have h3 := v3 (by omega)
            have : c ≠ 48 := fun e2 => hne (by rw [e2])
            exact ⟨rfl, by omega, by omega⟩
        · rw [hb0]; exact ⟨c, hc, by have := v3 (by rw [hb0] at he; omega); omega⟩
        · intro k hk; rw [u2_ne (Or.inr (by omega)), kk k (by omega) (by omega), u2_ne (Or.inr (by omega)), ak k hk]
        · intro x hx; rw [u2_row hx, kx x hx]
  rw [decide_eq_false hk2, if_pos (show bI false = 0 from rfl)]
  have h254 : ∀ tk' : Nat, tk' ≤ 4 → tk' = tkK tx p → m_X8_step_J254 33 (btI tx (skp tx p)) (nI tk') 33 (J1, z) = some ((), (u2 (u2 (u2 J1 33 5 (nI tk')) 33 3 (nI (tkE tx p))) 33 7 (nI (tkE tx p - skp tx p)), z)) := by
    intro tk' ht' htk
    have a3' : u2 J1 33 5 (nI tk') 33 3 = nI (skp tx p) := by rw [u2_ne (Or.inr (by omega))]; exact a3
    unfold m_X8_step_J254
    rw [mb_sI (w := (J1, z)) hM.o, mb_gI (w := (u2 J1 33 5 (nI tk'), z)) hM.o]
    simp only [a3']
    have h271 : ∀ a : Nat, skp tx p + a = tkE tx p → m_X8_step_J271 33 (nI a) (nI (skp tx p)) 33 (u2 J1 33 5 (nI tk'), z) = some ((), (u2 (u2 (u2 J1 33 5 (nI tk')) 33 3 (nI (tkE tx p))) 33 7 (nI (tkE tx p - skp tx p)), z)) := by
      intro a ha
      unfold m_X8_step_J271
      rw [nI_add, ha, mb_sI (w := (u2 J1 33 5 (nI tk'), z)) hM.o]
      exact h275 (u2 (u2 J1 33 5 (nI tk')) 33 3 (nI (tkE tx p))) (tkE tx p) (u2_eq _ _ _ _) (by rw [u2_ne (Or.inr (by omega)), u2_ne (Or.inr (by omega))]; exact a4) (by omega)
    cases hc : tx[skp tx p]? with
    | none =>
      have hb : btI tx (skp tx p) = -1 := by unfold btI; rw [hc]
      rw [hb, if_neg (show ¬ (0 : Int32) ≤ -1 by decide)]
      exact h271 0 (by unfold tkE; rw [hc]; rfl)
    | some c =>
      have h256 := t4 c (List.mem_of_getElem? hc)
      have hb : btI tx (skp tx p) = nI c := by unfold btI; rw [hc]
      rw [hc] at hk1 hk2
      rw [hb, if_pos (nI_pos' (by omega))]
      refine h271 1 ?_
      unfold tkE; rw [hc]; dsimp only
      rw [if_neg]
      rintro (h1 | h1)
      · exact hk1 (congrArg some h1)
      · exact hk2 (congrArg some h1)
  have hres : ∀ tk' : Nat, tk' ≤ 4 → tk' = tkK tx p → m_X8_step_J254 33 (btI tx (skp tx p)) (nI tk') 33 (J1, z) = some ((), (u2 (u2 (u2 J1 33 5 (nI tk')) 33 3 (nI (tkE tx p))) 33 7 (nI (tkE tx p - skp tx p)), z)) → ∃ I', m_X8_step_J254 33 (btI tx (skp tx p)) (nI tk') 33 (J1, z) = some ((), (I', z)) ∧ I' 33 3 = nI (tkE tx p) ∧ I' 33 4 = nI (tkB tx p) ∧ I' 33 7 = nI (tkE tx p - tkB tx p) ∧ StV tx p I' ∧ (∀ k, (k < 3 ∨ 7 < k) → I' 33 k = I 33 k) ∧ ∀ x, x ≠ 33 → I' x = I x := by
    intro tk' ht' htk hrun
    have hn1 : tkK tx p ≠ 1 := by
      unfold tkK
      cases hc : tx[skp tx p]? with
      | none => dsimp only; omega
      | some c => rw [hc] at hk1; exact fun e2 => hk1 (congrArg some e2)
    have hn2 : tkK tx p ≠ 2 := by
      unfold tkK
      cases hc : tx[skp tx p]? with
      | none => dsimp only; omega
      | some c => rw [hc] at hk2; exact fun e2 => hk2 (congrArg some e2)
    refine ⟨_, hrun, ?_, ?_, u2_eq _ _ _ _, ⟨tk', 0, ?_, ht', fun _ => htk, fun h1 => absurd h1 hn1, fun h2 => absurd h2 hn2⟩, ?_, ?_⟩
    · rw [u2_ne (Or.inr (by omega)), u2_eq]
    · rw [u2_ne (Or.inr (by omega)), u2_ne (Or.inr (by omega)), u2_ne (Or.inr (by omega))]; exact a4
    · rw [u2_ne (Or.inr (by omega)), u2_ne (Or.inr (by omega)), u2_eq]
    · intro k hk; rw [u2_ne (Or.inr (by omega)), u2_ne (Or.inr (by omega)), u2_ne (Or.inr (by omega)), ak k hk]
    · intro x hx; rw [u2_row hx, u2_row hx, u2_row hx, ax x hx]
  cases hc : tx[skp tx p]? with
  | none =>
    have hb : btI tx (skp tx p) = -1 := by unfold btI; rw [hc]
    have hK : (0 : Nat) = tkK tx p := by unfold tkK; rw [hc]
    rw [if_neg (show ¬ 0 ≤ btI tx (skp tx p) by rw [hb]; decide)]
    exact hres 0 (by omega) hK (h254 0 (by omega) hK)
  | some c =>
    have h256 := t4 c (List.mem_of_getElem? hc)
    have hb : btI tx (skp tx p) = nI c := by unfold btI; rw [hc]
    rw [hc] at hk1 hk2
    rw [if_pos (show 0 ≤ btI tx (skp tx p) by rw [hb]; exact nI_pos' (by omega))]
    have hkd : knd c = if c = 59 then 3 else 4 := by
      have h1 : knd c ≠ 1 := fun e2 => hk1 (congrArg some e2)
      have h2 : knd c ≠ 2 := fun e2 => hk2 (congrArg some e2)
      unfold knd at h1 h2 ⊢
      split at h1
      · exact absurd rfl h1
      · rename_i hA
        rw [if_neg hA] at h2
        split at h2
        · exact absurd rfl h2
        · rename_i hB
          rw [if_neg hA, if_neg hB]
    by_cases h59 : c = 59
    · have hK : (3 : Nat) = tkK tx p := by unfold tkK; rw [hc]; dsimp only; rw [hkd, if_pos h59]
      rw [if_pos (show btI tx (skp tx p) = 59 by rw [hb, h59]; rfl)]
      exact hres 3 (by omega) hK (h254 3 (by omega) hK)
    · have hK : (4 : Nat) = tkK tx p := by unfold tkK; rw [hc]; dsimp only; rw [hkd, if_neg h59]
      rw [if_neg (show ¬ btI tx (skp tx p) = 59 by rw [hb]; exact fun e2 => h59 ((nI_eq (b := 59) (by omega) (by omega)).mp e2))]
      exact hres 4 (by omega) hK (h254 4 (by omega) hK)
end ST
