/-! ===== tokens: pure; the class's advance(), the reference's step() ===== -/
def skpF (tx : List Nat) : Nat → Nat → Nat
  | 0, i => i
  | n + 1, i => if tx[i]? = some 32 then skpF tx n (i + 1) else i
def knd (c : Nat) : Nat := if 97 ≤ c ∧ c ≤ 122 then 1 else if 48 ≤ c ∧ c ≤ 57 then 2 else if c = 59 then 3 else 4
def runF (tx : List Nat) (k : Nat) : Nat → Nat → Nat
  | 0, i => i
  | n + 1, i => if (tx[i]?).map knd = some k then runF tx k n (i + 1) else i
def skp (tx : List Nat) (i : Nat) : Nat := skpF tx (tx.length - i) i
def run (tx : List Nat) (k i : Nat) : Nat := runF tx k (tx.length - i) i
theorem skpF_ok (tx : List Nat) : ∀ n i, tx.length ≤ i + n → i ≤ skpF tx n i ∧ (∀ j, i ≤ j → j < skpF tx n i → tx[j]? = some 32) ∧ tx[skpF tx n i]? ≠ some 32
  | 0, i, h => ⟨Nat.le_refl _, fun j a b => by unfold skpF at b; omega, by unfold skpF; rw [List.getElem?_eq_none (by omega)]; simp⟩
  | n + 1, i, h => by
    unfold skpF
    by_cases h1 : tx[i]? = some 32
    · rw [if_pos h1]
      obtain ⟨a, b, c⟩ := skpF_ok tx n (i + 1) (by omega)
      refine ⟨by omega, fun j p q => ?_, c⟩
      by_cases hj : j = i
      · rw [hj]; exact h1
      · exact b j (by omega) q
    · rw [if_neg h1]
      exact ⟨Nat.le_refl _, fun j p q => by omega, h1⟩
theorem skp_ok (tx : List Nat) (i : Nat) : i ≤ skp tx i ∧ (∀ j, i ≤ j → j < skp tx i → tx[j]? = some 32) ∧ tx[skp tx i]? ≠ some 32 := skpF_ok tx _ i (by omega)
theorem skp_le (tx : List Nat) {i : Nat} (h : i ≤ tx.length) : skp tx i ≤ tx.length := by
  obtain ⟨a, b, c⟩ := skp_ok tx i
  refine Classical.byContradiction fun hx => ?_
  have := (List.getElem?_eq_some_iff.mp (b (skp tx i - 1) (by omega) (by omega))).1
  omega
theorem runF_ok (tx : List Nat) (k : Nat) : ∀ n i, tx.length ≤ i + n → i ≤ runF tx k n i ∧ (∀ j, i ≤ j → j < runF tx k n i → (tx[j]?).map knd = some k) ∧ (tx[runF tx k n i]?).map knd ≠ some k
  | 0, i, h => ⟨Nat.le_refl _, fun j a b => by unfold runF at b; omega, by unfold runF; rw [List.getElem?_eq_none (by omega)]; simp⟩
  | n + 1, i, h => by
    unfold runF
    by_cases h1 : (tx[i]?).map knd = some k
    · rw [if_pos h1]
      obtain ⟨a, b, c⟩ := runF_ok tx k n (i + 1) (by omega)
      refine ⟨by omega, fun j p q => ?_, c⟩
      by_cases hj : j = i
      · rw [hj]; exact h1
      · exact b j (by omega) q
    · rw [if_neg h1]
      exact ⟨Nat.le_refl _, fun j p q => by omega, h1⟩
theorem run_ok (tx : List Nat) (k i : Nat) : i ≤ run tx k i ∧ (∀ j, i ≤ j → j < run tx k i → (tx[j]?).map knd = some k) ∧ (tx[run tx k i]?).map knd ≠ some k := runF_ok tx k _ i (by omega)
theorem run_le (tx : List Nat) (k : Nat) {i : Nat} (h : i ≤ tx.length) : run tx k i ≤ tx.length := by
  obtain ⟨a, b, c⟩ := run_ok tx k i
  refine Classical.byContradiction fun hx => ?_
  have := b (run tx k i - 1) (by omega) (by omega)
  rw [List.getElem?_eq_none (by omega)] at this
  cases this
def tkB (tx : List Nat) (p : Nat) : Nat := skp tx p
def tkK (tx : List Nat) (p : Nat) : Nat := match tx[skp tx p]? with
  | none => 0
  | some c => knd c
def tkE (tx : List Nat) (p : Nat) : Nat := match tx[skp tx p]? with
  | none => skp tx p
  | some c => if knd c = 1 ∨ knd c = 2 then run tx (knd c) (skp tx p + 1) else skp tx p + 1
theorem knd_le (c : Nat) : 1 ≤ knd c ∧ knd c ≤ 4 := by
  unfold knd
  split
  · omega
  · split
    · omega
    · split <;> omega
theorem tkE_le (tx : List Nat) {p : Nat} (h : p ≤ tx.length) : tkE tx p ≤ tx.length ∧ tkB tx p ≤ tkE tx p ∧ p ≤ tkB tx p ∧ (tkK tx p ≠ 0 → tkB tx p < tkE tx p) ∧ (tkK tx p = 0 ↔ tkB tx p = tx.length) := by
  have h1 := skp_le tx h
  have h2 := (skp_ok tx p).1
  unfold tkE tkK tkB
  cases hc : tx[skp tx p]? with
  | none =>
    have := List.getElem?_eq_none_iff.mp hc
    exact ⟨h1, Nat.le_refl _, h2, fun hh => absurd rfl hh, by constructor <;> intro <;> first | omega | rfl⟩
  | some c =>
    have hl := (List.getElem?_eq_some_iff.mp hc).1
    have hk := knd_le c
    dsimp only
    by_cases hkk : knd c = 1 ∨ knd c = 2
    · rw [if_pos hkk]
      have h3 := (run_ok tx (knd c) (skp tx p + 1)).1
      have h4 := run_le tx (knd c) (show skp tx p + 1 ≤ tx.length by omega)
      exact ⟨h4, by omega, h2, fun _ => by omega, by constructor <;> intro <;> omega⟩
    · rw [if_neg hkk]
      exact ⟨by omega, by omega, h2, fun _ => by omega, by constructor <;> intro <;> omega⟩
theorem kindOf_ok {c : Nat} (hc : c < 256) (w : Wd) : m_X5_kindOf (nI c) w = some (nI (knd c), w) := by
  have d : ∀ c, c < 256 → m_X5_kindOf (nI c) = mp (nI (knd c)) := by
    intro c hc
    have l97 : (nI c < 97) ↔ c < 97 := nI_ltI (b := 97) (by omega) (by omega)
    have l122 : (122 < nI c) ↔ 122 < c := nI_ltI (a := 122) (by omega) (by omega)
    have l48 : (nI c < 48) ↔ c < 48 := nI_ltI (b := 48) (by omega) (by omega)
    have l57 : (57 < nI c) ↔ 57 < c := nI_ltI (a := 57) (by omega) (by omega)
    have l59 : (nI c = 59) ↔ c = 59 := nI_eq (b := 59) (by omega) (by omega)
    have h28 : m_X5_kindOf_J28 (nI c) = mp (nI (if c = 59 then 3 else 4)) := by
      unfold m_X5_kindOf_J28
      by_cases h : c = 59
      · rw [if_pos (l59.mpr h), if_pos h]; rfl
      · rw [if_neg (fun e => h (l59.mp e)), if_neg h]; rfl
    have h14 : m_X5_kindOf_J14 (nI c) = mp (nI (if 48 ≤ c ∧ c ≤ 57 then 2 else if c = 59 then 3 else 4)) := by
      unfold m_X5_kindOf_J14
      by_cases h1 : c < 48
      · rw [if_pos (l48.mpr h1), h28, if_neg (show ¬ (48 ≤ c ∧ c ≤ 57) by omega)]
      · rw [if_neg (fun e => h1 (l48.mp e))]
        by_cases h2 : 57 < c
        · rw [if_pos (l57.mpr h2), h28, if_neg (show ¬ (48 ≤ c ∧ c ≤ 57) by omega)]
        · rw [if_neg (fun e => h2 (l57.mp e)), if_pos (by omega)]; rfl
    unfold m_X5_kindOf knd
    by_cases h1 : c < 97
    · rw [if_pos (l97.mpr h1), h14, if_neg (show ¬ (97 ≤ c ∧ c ≤ 122) by omega)]
    · rw [if_neg (fun e => h1 (l97.mp e))]
      by_cases h2 : 122 < c
      · rw [if_pos (l122.mpr h2), h14, if_neg (show ¬ (97 ≤ c ∧ c ≤ 122) by omega)]
      · rw [if_neg (fun e => h2 (l122.mp e)), if_pos (by omega)]; rfl
  rw [d c hc]; rfl
section TK
variable {z : Zd} {I : Nat → Nat → Int32} {tx : List Nat}
/-- the class's text -/
def CT (z : Zd) (I : Nat → Nat → Int32) (tx : List Nat) : Prop := z.2.2[1]? = some (4, nf 4) ∧ z.2.1 1 0 = some 2 ∧ z.2.2[2]? = some (100, 150) ∧ I 1 1 = nI tx.length ∧ (∀ (i c : Nat), tx[i]? = some c → I 2 i = nI c) ∧ tx.length ≤ 150 ∧ ∀ c ∈ tx, c < 256
theorem advance_ok (h : CT z I tx) {p : Nat} (hp : I 1 5 = nI p) (hpl : p ≤ tx.length) : ∃ I', m_X5_advance 1 (I, z) = some ((), (I', z)) ∧ I' 1 4 = nI (tkB tx p) ∧ I' 1 5 = nI (tkE tx p) ∧ I' 1 6 = nI (tkK tx p) ∧ (∀ k, k ≠ 4 → k ≠ 5 → k ≠ 6 → I' 1 k = I 1 k) ∧ ∀ x, x ≠ 1 → I' x = I x := by
  obtain ⟨o, r, s2, t1, t2, t3, t4⟩ := h
  obtain ⟨s1, s2', s3⟩ := skp_ok tx p
  have sl := skp_le tx hpl
  obtain ⟨s, x, k, ⟨J, rfl, j4, jk, jx⟩, e⟩ := lp_FUi (F := fun k (s : Unit) => m_X5_advance_B8 1 k) (fun i s x => ∃ J, x = (J, z) ∧ J 1 4 = nI (p + i) ∧ (∀ k, k ≠ 4 → J 1 k = I 1 k) ∧ ∀ x, x ≠ 1 → J x = I x) (skp tx p - p) (by omega) (by
    intro i hi s x hP
    obtain ⟨J, rfl, j4, jk, jx⟩ := hP
    have hc := s2' (p + i) (by omega) (by omega)
    have hl := (List.getElem?_eq_some_iff.mp hc).1
    have hb : J 2 (p + i) = nI 32 := by rw [jx 2 (by omega)]; exact t2 _ 32 hc
    have j1 : J 1 1 = nI tx.length := by rw [jk 1 (by omega)]; exact t1
    refine ⟨(), (u2 J 1 4 (nI (p + i + 1)), z), ⟨_, rfl, u2_eq _ _ _ _, fun k hk => by rw [u2_ne (Or.inr hk)]; exact jk k hk, fun x hx => by rw [u2_row hx]; exact jx x hx⟩, fun k => ?_⟩
    unfold m_X5_advance_B8
    rw [mb_gI (w := (J, z)) o, mb_gI (w := (J, z)) o]
    simp only [j4, j1]
    rw [if_neg (nI_ge hl (by omega)), mb_gR (w := (J, z)) o r, mb_gI (w := (J, z)) o]
    simp only [j4]
    rw [mb_aI (w := (J, z)) s2 (show p + i < 150 by omega) (by omega)]
    simp only [hb]
    rw [if_pos (show nI 32 = 32 from rfl), mb_gI (w := (J, z)) o]
    simp only [j4]
    rw [nI_1, mb_sI (w := (J, z)) o]) (s := ()) (w := (u2 I 1 4 (nI p), z)) ⟨_, rfl, u2_eq _ _ _ _, fun k hk => u2_ne (Or.inr hk), fun x hx => u2_row hx⟩
  rw [show p + (skp tx p - p) = skp tx p by omega] at j4
  have j1 : J 1 1 = nI tx.length := by rw [jk 1 (by omega)]; exact t1
  generalize hJ1 : u2 J 1 5 (nI (skp tx p)) = J1
  have a4 : J1 1 4 = nI (skp tx p) := by rw [← hJ1, u2_ne (Or.inr (by omega))]; exact j4
  have a1 : J1 1 1 = nI tx.length := by rw [← hJ1, u2_ne (Or.inr (by omega))]; exact j1
  have a5 : J1 1 5 = nI (skp tx p) := by rw [← hJ1, u2_eq]
  have ak : ∀ k, k ≠ 4 → k ≠ 5 → J1 1 k = I 1 k := fun k b c => by rw [← hJ1, u2_ne (Or.inr c), jk k b]
  have ax : ∀ x, x ≠ 1 → J1 x = I x := fun x hx => by rw [← hJ1, u2_row hx, jx x hx]
  have hgo : ∀ I', m_X5_advance_J46 1 (J, z) = some ((), (I', z)) → m_X5_advance 1 (I, z) = some ((), (I', z)) := by
    intro I' hI'
    unfold m_X5_advance
    rw [mb_gI (w := (I, z)) o]
    simp only [hp]
    rw [mb_sI (w := (I, z)) o]
    refine Eq.trans e ?_
    unfold m_X5_advance_B8
    rw [mb_gI (w := (J, z)) o, mb_gI (w := (J, z)) o]
    simp only [j4, j1]
    by_cases hend : tx.length ≤ skp tx p
    · rw [if_pos (nI_le hend (by omega))]; exact hI'
    · rw [if_neg (nI_ge (by omega) (by omega)), mb_gR (w := (J, z)) o r, mb_gI (w := (J, z)) o]
      simp only [j4]
      rw [mb_aI (w := (J, z)) s2 (show skp tx p < 150 by omega) (by omega)]
      have hc := List.getElem?_eq_getElem (show skp tx p < tx.length by omega)
      have hb := t2 _ _ hc
      have hbj : J 2 (skp tx p) = nI (tx[skp tx p]'(by omega)) := by rw [jx 2 (by omega)]; exact hb
      have hne : tx[skp tx p]'(by omega) ≠ 32 := fun e2 => s3 (by rw [hc, e2])
      have h256 := t4 _ (List.getElem_mem (show skp tx p < tx.length by omega))
      rw [if_neg (show ¬ J 2 (skp tx p) = 32 from fun e2 => hne ((nI_eq (b := 32) (by omega) (by omega)).mp (hbj.symm.trans e2)))]
      exact hI'
  have hst : m_X5_advance_J46 1 (J, z) = (if nI (skp tx p) < nI tx.length then
      mb (gR 4 0 1) fun bytes7 => mb (gI 4 4 1) fun begin8 => mb (aI bytes7 begin8) fun x9 => mb (m_X5_kindOf x9) fun c10 => mb (sI 4 6 1 c10) fun _ => mb (gI 4 5 1) fun end11 => mb (sI 4 5 1 (end11 + 1)) fun _ => lp (fun k (s : Unit) => m_X5_advance_B97 1 k) FU ()
      else mb (sI 4 6 1 0) fun _ => mp ()) (J1, z) := by
    unfold m_X5_advance_J46
    rw [mb_gI (w := (J, z)) o]
    simp only [j4]
    rw [mb_sI (w := (J, z)) o]
    dsimp only
    rw [hJ1, mb_gI (w := (J1, z)) o, mb_gI (w := (J1, z)) o]
    simp only [a4, a1]
  unfold tkE tkK tkB
  by_cases hend : tx.length ≤ skp tx p
  · rw [List.getElem?_eq_none hend]
    refine ⟨u2 J1 1 6 0, hgo _ ?_, ?_, ?_, ?_, ?_, ?_⟩
    · rw [hst, if_neg (nI_nlt hend (by omega)), mb_sI (w := (J1, z)) o]; rfl
    · rw [u2_ne (Or.inr (by omega))]; exact a4
    · rw [u2_ne (Or.inr (by omega))]; exact a5
    · rw [u2_eq]; rfl
    · intro k b c d; rw [u2_ne (Or.inr d)]; exact ak k b c
    · intro x hx; rw [u2_row hx]; exact ax x hx
  · have hlt : skp tx p < tx.length := by omega
    have hc := List.getElem?_eq_getElem hlt
    have h256 := t4 _ (List.getElem_mem hlt)
    generalize tx[skp tx p] = c at hc h256
    have hk4 := knd_le c
    rw [hc]
    dsimp only
    generalize hJ2 : u2 (u2 J1 1 6 (nI (knd c))) 1 5 (nI (skp tx p + 1)) = J2
    have b4 : J2 1 4 = nI (skp tx p) := by rw [← hJ2, u2_ne (Or.inr (by omega)), u2_ne (Or.inr (by omega))]; exact a4
    have b5 : J2 1 5 = nI (skp tx p + 1) := by rw [← hJ2, u2_eq]
    have b6 : J2 1 6 = nI (knd c) := by rw [← hJ2, u2_ne (Or.inr (by omega)), u2_eq]
    have bk : ∀ k, k ≠ 4 → k ≠ 5 → k ≠ 6 → J2 1 k = I 1 k := fun k b c d => by rw [← hJ2, u2_ne (Or.inr c), u2_ne (Or.inr d), ak k b c]
    have bx : ∀ x, x ≠ 1 → J2 x = I x := fun x hx => by rw [← hJ2, u2_row hx, u2_row hx, ax x hx]
    have hst2 : m_X5_advance_J46 1 (J, z) = lp (fun k (s : Unit) => m_X5_advance_B97 1 k) FU () (J2, z) := by
      have hb : J1 2 (skp tx p) = nI c := by rw [ax 2 (by omega)]; exact t2 _ c hc
      have a5' : u2 J1 1 6 (nI (knd c)) 1 5 = nI (skp tx p) := by rw [u2_ne (Or.inr (by omega))]; exact a5
      rw [hst, if_pos (nI_lt hlt (by omega)), mb_gR (w := (J1, z)) o r, mb_gI (w := (J1, z)) o]
      simp only [a4]
      rw [mb_aI (w := (J1, z)) s2 (show skp tx p < 150 by omega) (by omega)]
      simp only [hb]
      rw [mb_call (kindOf_ok h256 _), mb_sI (w := (J1, z)) o, mb_gI (w := (u2 J1 1 6 (nI (knd c)), z)) o]
      simp only [a5']
      rw [nI_1, mb_sI (w := (u2 J1 1 6 (nI (knd c)), z)) o]
      dsimp only
      rw [hJ2]
    by_cases hkk : knd c = 1 ∨ knd c = 2
    · rw [if_pos hkk]
      obtain ⟨q1, q2, q3⟩ := run_ok tx (knd c) (skp tx p + 1)
      have q4 := run_le tx (knd c) (show skp tx p + 1 ≤ tx.length by omega)
      generalize hE : run tx (knd c) (skp tx p + 1) = E at *
      have hjj : ∀ (K : Nat → Nat → Int32) (i : Nat), i < tx.length → K 1 5 = nI i → K 1 6 = nI (knd c) → K 1 1 = nI tx.length → K 2 = I 2 → ∀ k : Unit → Mo Unit, m_X5_advance_B97 1 k (K, z) = (if (tx[i]?).map knd = some (knd c) then mb (sI 4 5 1 (nI (i + 1))) fun _ => k () else mp ()) (K, z) := by
        intro K i hi k5 k6 k1 kr k
        have hci := List.getElem?_eq_getElem hi
        have h2 := t4 _ (List.getElem_mem hi)
        generalize tx[i] = d at hci h2
        have hbi : K 2 i = nI d := by rw [kr]; exact t2 _ d hci
        have hkd := knd_le d
        have h124 : m_X5_advance_J124 1 k (K, z) = (if (tx[i]?).map knd = some (knd c) then mb (sI 4 5 1 (nI (i + 1))) fun _ => k () else mp ()) (K, z) := by
          unfold m_X5_advance_J124
          rw [mb_gR (w := (K, z)) o r, mb_gI (w := (K, z)) o]
          simp only [k5]
          rw [mb_aI (w := (K, z)) s2 (show i < 150 by omega) (by omega)]
          simp only [hbi]
          rw [mb_call (kindOf_ok h2 _), mb_gI (w := (K, z)) o]
          simp only [k6, hci]
          by_cases hdk : knd d = knd c
          · rw [if_pos (show nI (knd d) = nI (knd c) by rw [hdk]), if_pos (show Option.map knd (some d) = some (knd c) by rw [← hdk]; rfl), mb_gI (w := (K, z)) o]
            simp only [k5]
            rw [nI_1]
          · rw [if_neg (fun e2 => hdk ((nI_eq (by omega) (by omega)).mp e2)), if_neg (show ¬ Option.map knd (some d) = some (knd c) from fun e2 => hdk (Option.some.inj e2))]
        unfold m_X5_advance_B97
        rw [mb_gI (w := (K, z)) o, mb_gI (w := (K, z)) o]
        simp only [k5, k1]
        rw [if_neg (nI_ge hi (by omega)), mb_gI (w := (K, z)) o]
        simp only [k6]
        rcases hkk with h1 | h1
        · rw [if_pos (show nI (knd c) = 1 by rw [h1]; rfl)]; exact h124
        · rw [if_neg (show ¬ nI (knd c) = 1 by rw [h1]; decide), mb_gI (w := (K, z)) o]
          simp only [k6]
          rw [if_pos (show nI (knd c) = 2 by rw [h1]; rfl)]; exact h124
      obtain ⟨s', x', k', ⟨K, rfl, k5, kk, kx⟩, e'⟩ := lp_FUi (F := fun k (s : Unit) => m_X5_advance_B97 1 k) (fun i s x => ∃ K, x = (K, z) ∧ K 1 5 = nI (skp tx p + 1 + i) ∧ (∀ k, k ≠ 5 → K 1 k = J2 1 k) ∧ ∀ x, x ≠ 1 → K x = I x) (E - (skp tx p + 1)) (by omega) (by
        intro i hi s x hP
        obtain ⟨K, rfl, k5, kk, kx⟩ := hP
        have hr := q2 (skp tx p + 1 + i) (by omega) (by omega)
        refine ⟨(), (u2 K 1 5 (nI (skp tx p + 1 + i + 1)), z), ⟨_, rfl, u2_eq _ _ _ _, fun k hk => by rw [u2_ne (Or.inr hk)]; exact kk k hk, fun x hx => by rw [u2_row hx]; exact kx x hx⟩, fun k => ?_⟩
        rw [hjj K _ (by omega) k5 (by rw [kk 6 (by omega)]; exact b6) (by rw [kk 1 (by omega), bk 1 (by omega) (by omega) (by omega)]; exact t1) (kx 2 (by omega)), if_pos hr, mb_sI (w := (K, z)) o]) (s := ()) (w := (J2, z)) ⟨J2, rfl, b5, fun _ _ => rfl, bx⟩
      rw [show skp tx p + 1 + (E - (skp tx p + 1)) = E by omega] at k5
      have kk6 : K 1 6 = nI (knd c) := by rw [kk 6 (by omega)]; exact b6
      have kk1 : K 1 1 = nI tx.length := by rw [kk 1 (by omega), bk 1 (by omega) (by omega) (by omega)]; exact t1
      refine ⟨K, hgo _ ?_, by rw [kk 4 (by omega)]; exact b4, k5, kk6, fun k b c d => by rw [kk k c, bk k b c d], kx⟩
      rw [hst2]
      refine Eq.trans e' ?_
      by_cases hE2 : E < tx.length
      · rw [hjj K E hE2 k5 kk6 kk1 (kx 2 (by omega)), if_neg q3]; rfl
      · unfold m_X5_advance_B97
        rw [mb_gI (w := (K, z)) o, mb_gI (w := (K, z)) o]
        simp only [k5, kk1]
        rw [if_pos (nI_le (by omega) (by omega))]; rfl
    · rw [if_neg hkk]
      refine ⟨J2, hgo _ ?_, b4, b5, b6, bk, bx⟩
      have b1 : J2 1 1 = nI tx.length := by rw [bk 1 (by omega) (by omega) (by omega)]; exact t1
      rw [hst2, show FU = (FU - 1) + 1 by unfold FU; omega, lp_s]
      unfold m_X5_advance_B97
      rw [mb_gI (w := (J2, z)) o, mb_gI (w := (J2, z)) o]
      simp only [b5, b1]
      by_cases hE2 : tx.length ≤ skp tx p + 1
      · rw [if_pos (nI_le hE2 (by omega))]; rfl
      · rw [if_neg (nI_ge (by omega) (by omega)), mb_gI (w := (J2, z)) o]
        simp only [b6]
        rw [if_neg (show ¬ nI (knd c) = 1 from fun e2 => hkk (Or.inl ((nI_eq (b := 1) (by omega) (by omega)).mp e2))), mb_gI (w := (J2, z)) o]
        simp only [b6]
        rw [if_neg (show ¬ nI (knd c) = 2 from fun e2 => hkk (Or.inr ((nI_eq (b := 2) (by omega) (by omega)).mp e2)))]; rfl
end TK
