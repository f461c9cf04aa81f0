/-! ===== the reference's holds() and matches() ===== -/
def bI (b : Bool) : Int32 := if b then 1 else 0
theorem rZ_b (b : Bool) (w : Wd) : rZ (bI b) w = some (bI b, w) := by cases b <;> rfl
theorem bI_ne (b : Bool) : (bI b = 0) ↔ b = false := by cases b <;> decide
/-- v ends 1 to d letters before the letter number i -/
def nearI (ls v : List Nat) (i d : Nat) : Bool := (List.range d).any (fun e => decide (e + 1 ≤ i) && En ls v (i - (e + 1)))
def near (ls u v : List Nat) (r n : Nat) : Bool := (List.range n).any (fun i => En ls u i && nearI ls v i r)
/-- the part holds with the first n letters -/
def holdP (ls : List Nat) (P : Pt) (n : Nat) : Bool := if P.1 = 2 then near ls P.2.1 P.2.2.1 P.2.2.2 n else if P.1 = 0 then decide (0 < hct ls P.2.1 n) else decide (hct ls P.2.1 n = 0)
/-- the query matches with the first n letters -/
def mtch (ls : List Nat) (Q : List Pt) (n : Nat) : Bool := Q.all (fun P => holdP ls P n)
theorem nearI_succ (ls v : List Nat) (i d : Nat) : nearI ls v i (d + 1) = (nearI ls v i d || (decide (d + 1 ≤ i) && En ls v (i - (d + 1)))) := by
  unfold nearI; rw [List.range_succ, List.any_append]; simp
theorem near_succ (ls u v : List Nat) (r n : Nat) : near ls u v r (n + 1) = (near ls u v r n || (En ls u n && nearI ls v n r)) := by
  unfold near; rw [List.range_succ, List.any_append]; simp
theorem nearI_min (ls v : List Nat) (i d : Nat) : nearI ls v i (min d i) = nearI ls v i d := by
  by_cases h : d ≤ i
  · rw [Nat.min_eq_left h]
  · rw [Nat.min_eq_right (by omega)]
    obtain ⟨e, rfl⟩ : ∃ e, d = i + e := ⟨d - i, by omega⟩
    clear h
    induction e with
    | zero => rfl
    | succ e ih => rw [← Nat.add_assoc, nearI_succ, ← ih, show decide (i + e + 1 ≤ i) = false by simp; omega]; simp
section HR
variable {z : Zd} {m : Nat} {I : Nat → Nat → Int32} {W ns : List (List Nat)} {hs : HS}
theorem nearIn_ok (hM : MO z m) (hB : HB hs) (h16 : W.length ≤ 16) (hE : RE I m W hs.2 hs.2.length) {q p : Nat} {r : Nat} (hq : q < 8) (hp : p < 4) (hr : I (m + 2) (46 + 17 * q + 4 * p) = nI r) (hr9 : r ≤ 9) {j l : Nat} {u v : List Nat} (hu : W[j]? = some u) (hv : W[l]? = some v) {i : Nat} (hi : i < hs.2.length) (n : Nat) (b : Bool) (k90 : Int32 × Int32 → Mo Int32) :
    lp (fun k (s : Int32 × Int32) => m_X8_holds_B99 m (nI q) (nI p) (nI n) (nI j) (nI l) (nI i) k90 k s.1 s.2) FU (bI b, 1) (I, z) = k90 (bI (b || (En hs.2 u i && nearI hs.2 v i r)), nI (i + 1)) (I, z) := by
  have h40 := hB.2.1
  have hj := (List.getElem?_eq_some_iff.mp hu).1
  have hl := (List.getElem?_eq_some_iff.mp hv).1
  have hlt := fun t => eb_lt h16 (W := W) t
  by_cases he : En hs.2 u i = true
  · have key := lp_FU (F := fun k (s : Int32 × Int32) => m_X8_holds_B99 m (nI q) (nI p) (nI n) (nI j) (nI l) (nI i) k90 k s.1 s.2) (fun d => (bI (b || nearI hs.2 v i d), nI (d + 1))) (fun _ => (I, z)) (X := k90 (bI (b || nearI hs.2 v i (min r i)), nI (i + 1)) (I, z)) (min r i) (by omega) (fun d hd k => ?_) (fun k => ?_)
    · rw [he, Bool.true_and, ← nearI_min hs.2 v i r, ← key]
      show _ = lp _ FU (bI (b || false), nI (0 + 1)) (I, z)
      rw [Bool.or_false]
      rfl
    · show m_X8_holds_B99 m (nI q) (nI p) (nI n) (nI j) (nI l) (nI i) k90 k (bI (b || nearI hs.2 v i d)) (nI (d + 1)) (I, z) = _
      unfold m_X8_holds_B99
      rw [mb_gR hM.o hM.rNow, mb_call (of3 (w := (I, z)) hM.sNow hq hp)]
      simp only [hr]
      rw [if_neg (nI_nlt (by omega) (by omega)), if_neg (nI_nlt (by omega) (by omega)), mb_gR hM.o hM.rEnded, mb_aI hM.sEnded (show i < 40 by omega) (by omega)]
      simp only [hE i hi]
      rw [mb_call (has_ok (by have := hlt (hs.2.take (i + 1)); omega) (by omega) _), eb_bit hu, if_pos (show u.isSuffixOf (hs.2.take (i + 1)) = true from he), if_neg (show ¬ (1 : Int32) = 0 by decide)]
      rw [nearI_succ, show decide (d + 1 ≤ i) = true by simp; omega, Bool.true_and]
      cases hb : (b || nearI hs.2 v i d)
      · rw [if_pos (show bI false = 0 from rfl), mb_gR hM.o hM.rEnded, nI_sub (show d + 1 ≤ i by omega), mb_aI hM.sEnded (show i - (d + 1) < 40 by omega) (by omega)]
        simp only [hE (i - (d + 1)) (by omega)]
        rw [mb_call (has_ok (by have := hlt (hs.2.take (i - (d + 1) + 1)); omega) (by omega) _), eb_bit hv, ← Bool.or_assoc, hb, Bool.false_or]
        rw [show v.isSuffixOf (hs.2.take (i - (d + 1) + 1)) = En hs.2 v (i - (d + 1)) from rfl]
        cases hv2 : En hs.2 v (i - (d + 1))
        · rw [if_neg (show ¬ false = true by decide), if_pos rfl]
          unfold m_X8_holds_J164
          rw [nI_1]
          rfl
        · rw [if_pos rfl, if_neg (show ¬ (1 : Int32) = 0 by decide)]
          unfold m_X8_holds_J159 m_X8_holds_J164
          rw [nI_1]
          rfl
      · rw [if_neg (show ¬ bI true = 0 by decide), ← Bool.or_assoc, hb, Bool.true_or]
        unfold m_X8_holds_J159 m_X8_holds_J164
        rw [nI_1]
        rfl
    · show m_X8_holds_B99 m (nI q) (nI p) (nI n) (nI j) (nI l) (nI i) k90 k (bI (b || nearI hs.2 v i (min r i))) (nI (min r i + 1)) (I, z) = _
      unfold m_X8_holds_B99
      rw [mb_gR hM.o hM.rNow, mb_call (of3 (w := (I, z)) hM.sNow hq hp)]
      simp only [hr]
      by_cases h : r ≤ i
      · rw [if_pos (nI_lt (by omega) (by omega))]
        unfold m_X8_holds_J172
        rw [nI_1]
      · rw [if_neg (nI_nlt (by omega) (by omega)), if_pos (nI_lt (by omega) (by omega))]
        unfold m_X8_holds_J172
        rw [nI_1]
  · rw [show En hs.2 u i = false by simpa using he, Bool.false_and, Bool.or_false]
    rw [show FU = (FU - 1) + 1 by unfold FU; omega, lp_s]
    generalize lp (fun k (s : Int32 × Int32) => m_X8_holds_B99 m (nI q) (nI p) (nI n) (nI j) (nI l) (nI i) k90 k s.1 s.2) (FU - 1) = kk
    show m_X8_holds_B99 m (nI q) (nI p) (nI n) (nI j) (nI l) (nI i) k90 _ (bI b) (nI 1) (I, z) = _
    unfold m_X8_holds_B99
    rw [mb_gR hM.o hM.rNow, mb_call (of3 (w := (I, z)) hM.sNow hq hp)]
    simp only [hr]
    by_cases hr0 : nI r < nI 1
    · rw [if_pos hr0]; unfold m_X8_holds_J172; rw [nI_1]
    · rw [if_neg hr0]
      by_cases hi0 : nI i < nI 1
      · rw [if_pos hi0]; unfold m_X8_holds_J172; rw [nI_1]
      · rw [if_neg hi0, mb_gR hM.o hM.rEnded, mb_aI hM.sEnded (show i < 40 by omega) (by omega)]
        simp only [hE i hi]
        rw [mb_call (has_ok (by have := hlt (hs.2.take (i + 1)); omega) (by omega) _), eb_bit hu, if_neg (show ¬ u.isSuffixOf (hs.2.take (i + 1)) = true from he), if_pos rfl]
        unfold m_X8_holds_J172
        rw [nI_1]
theorem aws_mem {qs : List (List Pt)} {q p : Nat} {Q : List Pt} {P : Pt} (hQ : qs[q]? = some Q) (hP : Q[p]? = some P) {u : List Nat} (hu : u ∈ pws P) : u ∈ aws qs :=
  List.mem_flatMap.mpr ⟨Q, List.mem_of_getElem? hQ, List.mem_flatMap.mpr ⟨P, List.mem_of_getElem? hP, hu⟩⟩
theorem holds_ok (hM : MO z m) (hB : HB hs) (hR : RR (I (m + 2)) hs) (hX : RX I m W ns) (hE : RE I m W hs.2 hs.2.length) (hall : ∀ u ∈ aws hs.1, u ∈ W) {q p : Nat} {Q : List Pt} {P : Pt} (hQ : hs.1[q]? = some Q) (hP : Q[p]? = some P) {n : Nat} (hn : n ≤ hs.2.length) :
    m_X8_holds m (nI q) (nI p) (nI n) (I, z) = some (bI (holdP hs.2 P n), (I, z)) := by
  obtain ⟨hN, hW, h16, h97, hRW, -, -⟩ := hX
  have h40 := hB.2.1
  have hq8 : q < 8 := Nat.lt_of_lt_of_le (List.getElem?_eq_some_iff.mp hQ).1 hB.1
  obtain ⟨hQ4, hQP⟩ := hB.2.2.1 Q (List.mem_of_getElem? hQ)
  have hp4 : p < 4 := Nat.lt_of_lt_of_le (List.getElem?_eq_some_iff.mp hP).1 hQ4
  obtain ⟨o1, o2, o3, o4⟩ := hQP P (List.mem_of_getElem? hP)
  obtain ⟨-, rp⟩ := hR.2.2.2 q Q hQ
  obtain ⟨r0, r1, r2, r3⟩ := rp p P hP
  obtain ⟨j, hj⟩ := List.getElem?_of_mem (hall P.2.1 (aws_mem hQ hP (by unfold pws; split <;> simp)))
  unfold m_X8_holds
  rw [mb_gR hM.o hM.rNow, mb_call (of1 (w := (I, z)) hM.sNow hq8 hp4)]
  simp only [r1]
  rw [mb_vc hM.o, mb_call (numberOf_ok hM hW h16 hRW hj), mb_gR hM.o hM.rNow, mb_call (of0 (w := (I, z)) hM.sNow hq8 hp4)]
  simp only [r0]
  unfold holdP
  by_cases h2 : P.1 = 2
  · obtain ⟨p1, p2, p3⟩ := o3 h2
    obtain ⟨l, hl⟩ := List.getElem?_of_mem (hall P.2.2.1 (aws_mem hQ hP (by unfold pws; rw [if_pos h2]; simp)))
    rw [if_pos (show nI P.1 = 2 by rw [h2]; rfl), if_pos h2, mb_gR hM.o hM.rNow, mb_call (of2 (w := (I, z)) hM.sNow hq8 hp4)]
    simp only [r2]
    rw [mb_vc hM.o, mb_call (numberOf_ok hM hW h16 hRW hl)]
    have key := lp_FU (F := fun k (s : Int32 × Int32) => m_X8_holds_B90 m (nI q) (nI p) (nI n) (nI j) (nI l) k s.1 s.2) (fun i => (bI (near hs.2 P.2.1 P.2.2.1 P.2.2.2 i), nI i)) (fun _ => (I, z)) (X := some (bI (near hs.2 P.2.1 P.2.2.1 P.2.2.2 n), (I, z))) n (by omega) (fun i hi k => ?_) (fun k => ?_)
    · exact key
    · show m_X8_holds_B90 m (nI q) (nI p) (nI n) (nI j) (nI l) k (bI (near hs.2 P.2.1 P.2.2.1 P.2.2.2 i)) (nI i) (I, z) = _
      unfold m_X8_holds_B90
      rw [if_neg (nI_ge hi (by omega)), nearIn_ok hM hB h16 hE hq8 hp4 r3 p3 hj hl (by omega) n, near_succ]
    · show m_X8_holds_B90 m (nI q) (nI p) (nI n) (nI j) (nI l) k (bI (near hs.2 P.2.1 P.2.2.1 P.2.2.2 n)) (nI n) (I, z) = _
      unfold m_X8_holds_B90
      rw [if_pos (nI_le (Nat.le_refl _) (by omega)), rZ_b]
  · have hlt := hct_le hs.2 P.2.1 n
    rw [if_neg (show ¬ nI P.1 = 2 from fun h => h2 ((nI_eq (b := 2) (by omega) (by omega)).mp h)), if_neg h2]
    have h44 : ∀ s, m_X8_holds_J44 m (nI n) (nI j) (nI s) (I, z) = (if hct hs.2 P.2.1 n = 0 then m_X8_holds_J59 0 (nI s) else m_X8_holds_J59 1 (nI s)) (I, z) := by
      intro s
      unfold m_X8_holds_J44
      rw [mb_vc hM.o, mb_call (hits_ok hM h16 hE h40 hj hn)]
      by_cases h : hct hs.2 P.2.1 n = 0
      · rw [if_pos h, h, if_pos (show nI 0 ≤ 0 by decide)]
      · rw [if_neg h, if_neg (nI_nle (by omega) (by omega))]
    by_cases h0 : P.1 = 0
    · rw [if_pos (show nI P.1 = 0 by rw [h0]; rfl), if_pos h0, show (1 : Int32) = nI 1 from rfl, h44]
      by_cases h : hct hs.2 P.2.1 n = 0
      · rw [if_pos h, h]; rfl
      · rw [if_neg h, show decide (0 < hct hs.2 P.2.1 n) = true by simp; omega]; rfl
    · rw [if_neg (nI_ne0 (by omega) (by omega)), if_neg h0, show m_X8_holds_J44 m (nI n) (nI j) 0 = m_X8_holds_J44 m (nI n) (nI j) (nI 0) from rfl, h44]
      by_cases h : hct hs.2 P.2.1 n = 0
      · rw [if_pos h, h]; rfl
      · rw [if_neg h, show decide (hct hs.2 P.2.1 n = 0) = false by simp; omega]; rfl
theorem mtch_take (ls : List Nat) {Q : List Pt} {p : Nat} {P : Pt} (hP : Q[p]? = some P) (n : Nat) : mtch ls (Q.take (p + 1)) n = (mtch ls (Q.take p) n && holdP ls P n) := by
  obtain ⟨h1, h2⟩ := List.getElem?_eq_some_iff.mp hP
  unfold mtch
  rw [List.take_succ_eq_append_getElem h1, List.all_append, h2]
  simp
theorem matches_ok (hM : MO z m) (hB : HB hs) (hR : RR (I (m + 2)) hs) (hX : RX I m W ns) (hE : RE I m W hs.2 hs.2.length) (hall : ∀ u ∈ aws hs.1, u ∈ W) {q : Nat} {Q : List Pt} (hQ : hs.1[q]? = some Q) {n : Nat} (hn : n ≤ hs.2.length) :
    m_X8_matches m (nI q) (nI n) (I, z) = some (bI (mtch hs.2 Q n), (I, z)) := by
  have hq8 : q < 8 := Nat.lt_of_lt_of_le (List.getElem?_eq_some_iff.mp hQ).1 hB.1
  obtain ⟨hQ4, hQP⟩ := hB.2.2.1 Q (List.mem_of_getElem? hQ)
  obtain ⟨rl, -⟩ := hR.2.2.2 q Q hQ
  have key := lp_FU (F := fun k (s : Int32 × Int32) => m_X8_matches_B5 m (nI q) (nI n) k s.1 s.2) (fun i => (bI (mtch hs.2 (Q.take i) n), nI i)) (fun _ => (I, z)) (X := some (bI (mtch hs.2 Q n), (I, z))) Q.length (by omega) (fun i hi k => ?_) (fun k => ?_)
  · unfold m_X8_matches
    exact key
  · show m_X8_matches_B5 m (nI q) (nI n) k (bI (mtch hs.2 (Q.take i) n)) (nI i) (I, z) = _
    have hP := List.getElem?_eq_getElem hi
    generalize Q[i] = P at hP
    unfold m_X8_matches_B5
    rw [mb_gR hM.o hM.rNow, mb_call (parts_ok (w := (I, z)) hM.sNow hq8)]
    simp only [rl]
    rw [if_neg (nI_ge hi (by omega)), mtch_take hs.2 hP]
    cases hb : mtch hs.2 (Q.take i) n
    · rw [if_pos (show bI false = 0 from rfl)]
      unfold m_X8_matches_J37 m_X8_matches_J38
      rw [nI_1]
      rfl
    · rw [if_neg (show ¬ bI true = 0 by decide), mb_vc hM.o, mb_call (holds_ok hM hB hR hX hE hall hQ hP hn), Bool.true_and]
      cases holdP hs.2 P n
      · rw [if_pos (show bI false = 0 from rfl)]
        unfold m_X8_matches_J37 m_X8_matches_J38
        rw [nI_1]
        rfl
      · rw [if_neg (show ¬ bI true = 0 by decide)]
        unfold m_X8_matches_J38
        rw [nI_1]
        rfl
  · show m_X8_matches_B5 m (nI q) (nI n) k (bI (mtch hs.2 (Q.take Q.length) n)) (nI Q.length) (I, z) = _
    unfold m_X8_matches_B5
    rw [mb_gR hM.o hM.rNow, mb_call (parts_ok (w := (I, z)) hM.sNow hq8)]
    simp only [rl]
    rw [if_pos (nI_le (Nat.le_refl _) (by omega)), List.take_length, rZ_b]
end HR
