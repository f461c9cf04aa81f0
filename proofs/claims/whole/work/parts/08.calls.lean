/-! ===== rules: new cells, calls ===== -/
def NL (own : String) (idx ci : Nat) : Prop := ∃ (Cn : String) (T : u_T) (ty : Nat → FieldType), vwCl[ci]? = some (Cn, T, nf ci) ∧ (∀ w ∈ u_ws Cn T (nf ci), w ∈ TB) ∧ (∀ k, k < nf ci → parseFieldDescriptor (T k).2.2.1 = some (ty k)) ∧ (∀ k, k < nf ci → defaultValue (ty k) = if rk ci k = true then .null else .int 0) ∧ Cond.classLink own idx Cn ∈ TB ∧ Cond.instantiable Cn (nf ci) ∈ TB ∧ Cond.initialized Cn ∈ TB
def wordsOk (y : MethodName) (cc : ByteArray) (maxL : Nat) (rt : Option FieldType) (n : Nat) : Prop := Cond.code y cc maxL rt ∈ TB ∧ Cond.initialized y.cls ∈ TB ∧ (y.cls ≠ "java/lang/invoke/MethodHandle" ∧ y.cls ≠ "java/lang/invoke/VarHandle" ∧ (parseMethodDescriptor y.desc).map (fun d => d.parameters.length) = some n)
def VL (own : String) (idx ci : Nat) (y : MethodName) (cc : ByteArray) (maxL : Nat) (rt : Option FieldType) (n : Nat) : Prop := wordsOk y cc maxL rt n ∧ Cond.methodLink own idx y ∈ TB ∧ Cond.instanceMethod y ∈ TB ∧ Cond.selects y.cls y y ∈ TB ∧ ∃ q : vw_C, vwCl[ci]? = some q ∧ q.1 = y.cls
def SL (own : String) (idx : Nat) (y : MethodName) (cc : ByteArray) (maxL : Nat) (rt : Option FieldType) (n : Nat) : Prop := wordsOk y cc maxL rt n ∧ Cond.methodLink own idx y ∈ TB ∧ Cond.static y ∈ TB
def IL (own : String) (idx : Nat) (y : MethodName) (cc : ByteArray) (maxL : Nat) (n : Nat) : Prop := wordsOk y cc maxL none n ∧ Cond.methodLink own idx y ∈ TB ∧ Cond.instanceMethod y ∈ TB ∧ y.name = "<init>"
def SLN (own : String) (idx : Nat) (y : MethodName) (cc : ByteArray) (maxL : Nat) (rt : Option FieldType) (n : Nat) : Prop := wordsOk y cc maxL rt n ∧ (∃ host, Cond.methodLinkNest own idx y host ∈ NW) ∧ Cond.static y ∈ TB
def ILN (own : String) (idx : Nat) (y : MethodName) (cc : ByteArray) (maxL : Nat) (n : Nat) : Prop := wordsOk y cc maxL none n ∧ (∃ host, Cond.methodLinkNest own idx y host ∈ NW) ∧ Cond.instanceMethod y ∈ TB ∧ y.name = "<init>"
theorem tb_goodIn {y : MethodName} {cc : ByteArray} {maxL : Nat} {rt : Option FieldType} (h : Cond.code y cc maxL rt ∈ TB) : GoodIn TB (Cond.code y cc maxL rt :: TB) := by
  intro w hw
  rcases List.mem_cons.mp hw with rfl | hw
  · exact ⟨h, tb_good _ h⟩
  · exact ⟨hw, tb_good _ hw⟩
theorem run_on {X : CX} {w1 : Wd} {H : Heap} {locs : List Loc} {cells slots mc ms pc : Nat} {lsA : Array Slot} {st0 rest : List Value} {ro : Option Value} {a : Array Value} {Q : State → Prop} (hr : va_Run (xP X) (kL (xC X)) (xE X) (xR X) (xS X) (xM X) (xA X) (xB X) (xT X) (xO X) H locs cells slots mc ms (F0 (xM X) pc lsA st0) rest (Qo (xC X) ro w1 a) (fun q => kB (xC X) ≤ q))
    (hL : ∀ q ∈ locs, kB (xC X) ≤ q.base) (kk : ∀ (H1 : Heap) (locs1 : List Loc), Hld (xC X) w1 H1 → (∀ q : Nat, q < kB (xC X) → H1[q]? = H[q]?) → (∀ q ∈ locs1, kB (xC X) ≤ q.base) → WX X H1 locs1 (cells + mc) (slots + ms) Q (F0 (xM X) (pc + 3) lsA (ro.toList ++ rest))) : WX X H locs cells slots Q (F0 (xM X) pc lsA st0) := by
  intro T hT S
  obtain ⟨v, st₀, t, T', L, h0, S', hL2, e1, e2, ⟨hv, hH, hk⟩, stp⟩ := hr T hT S
  cases hv
  obtain ⟨t2, a1, b1⟩ := kk T'.heap (locs ++ L) (by rw [e1]; exact hH) (fun q hq => by rw [e1, hk q hq, h0]) (fun q hq => by
      rcases List.mem_append.mp hq with h | h
      · exact hL q h
      · exact hL2 q h) T' rfl S'
  exact ⟨t2, stp t2 a1, b1⟩
/-- behind a call, where the callee's computation has said what it does -/
theorem call_end {α β : Type} {C : KX} {D : MD} {Z : ZT α} {pc : Nat} {ls : List (Nat × Value)} {st st0 : List Value} {f : Mo β} {k : β → Mo α} {rv : β → Option Value} {Fc Lc maxL : Nat} {y : MethodName} {cc : ByteArray} {rt : Option FieldType} {As : List Value} (ga : Wd → Prop)
    (hI : Imp C y cc maxL rt Fc Lc rv As f) (hF : Fc + 1 ≤ dF D) (hL : 8 + (maxL + 11) + Lc ≤ dL D)
    (hrun : ∀ (w w1 : Wd) (r : β) (X : CX) (H : Heap) (locs : List Loc) (lsA : Array Slot) (cells slots : Nat), CGood X D → xC X = C → ga w → Stb X w H locs cells slots → lsA.size = dN D → Met (kL C) y (Cond.code y cc maxL rt :: TB) ({ frames := Fc, cells := cnt w1 - cnt w, slots := slt w1 - slt w, locals := Lc }) (va_Pc As (fun U => KK C U ∧ Hld C w U.heap)) (Qo C (rv r) w1) (cnt w1 - cnt w) (slt w1 - slt w) (fun q => kB C ≤ q) →
      Fc + 1 ≤ (xR X).frames → 8 + (maxL + 11) + Lc ≤ (xR X).locals → cells + (cnt w1 - cnt w) ≤ (xR X).cells ∧ slots + (slt w1 - slt w) ≤ (xR X).slots → va_Run (xP X) (kL (xC X)) (xE X) (xR X) (xS X) (xM X) (xA X) (xB X) (xT X) (xO X) H locs cells slots (cnt w1 - cnt w) (slt w1 - slt w) (F0 (xM X) pc lsA st0) st (Qo (xC X) (rv r) w1 As.toArray) (fun q => kB (xC X) ≤ q))
    (kk : ∀ r : β, Cmp C D Z (pc + 3) ls ((rv r).toList ++ st) (k r)) (w : Wd) (r : α) (w' : Wd) (hg : ga w) (hm : mb f k w = some (r, w')) : (cnt w ≤ cnt w' ∧ slt w ≤ slt w') ∧
    ∀ X : CX, CGood X D → xC X = C → Fit X w' → ∀ (H : Heap) (locs : List Loc) (lsA : Array Slot) (cells slots : Nat), Stb X w H locs cells slots → lv_has lsA (dN D) ls → WX X H locs cells slots (Z X r w') (F0 (xM X) pc lsA st0) := by
  unfold mb at hm
  cases hf : f w with
  | none => rw [hf] at hm; cases hm
  | some q =>
    obtain ⟨r1, w1⟩ := q
    rw [hf] at hm
    obtain ⟨m1, hMet⟩ := hI w r1 w1 hf
    obtain ⟨m2, h2⟩ := kk r1 w1 r w' hm
    refine ⟨by omega, fun X G hC hFit H locs lsA cells slots hS hl => ?_⟩
    have hfr : (xR X).frames = dF D := G.2.2.2.2.2.2.2.2.2.1
    have hlo : (xR X).locals = dL D := G.2.2.2.2.2.2.2.2.2.2.1
    obtain ⟨s1, s2, s3, s4, s5⟩ := id hS
    obtain ⟨f1, f2⟩ := id hFit
    have hroom : cells + (cnt w1 - cnt w) ≤ (xR X).cells ∧ slots + (slt w1 - slt w) ≤ (xR X).slots := by omega
    refine run_on (hrun w w1 r1 X H locs lsA cells slots G hC hg hS hl.1 hMet (by omega) (by omega) hroom) s3 fun H1 locs1 g1 g2 g3 => ?_
    subst hC
    exact h2 X G rfl hFit H1 locs1 lsA _ _ ⟨g1, fun q hq => by rw [g2 q hq]; exact s2 q hq, g3, by omega, by omega⟩ hl
theorem pre_blind {C : KX} {w : Wd} {As : List Value} : FrameBlind (va_Pc As (fun U => KK C U ∧ Hld C w U.heap)) := by
  intro a U g mk h
  exact ⟨h.1, h.2.1.calling g mk a, h.2.2⟩
section RulesC
variable {α β : Type} {C : KX} {D : MD} {Z : ZT α} {pc pc' : Nat} {ls : List (Nat × Value)} {st : List Value} {f : Mo β} {k : β → Mo α} {rv : β → Option Value} {Fc Lc maxL n idx : Nat} {y : MethodName} {cc : ByteArray} {rt : Option FieldType}
theorem C_callV {ci p : Nat} (As : List Value) (hV : VL (dO D) idx ci y cc maxL rt n) (hI : Imp C y cc maxL rt Fc Lc rv (.ref (kB C + p) :: As) f) (hd : decode (dC D) pc = .ok (.invokevirtual idx, 3)) (hp : pc + 3 = pc') (hn : As.length = n) {st0 : List Value} (hst : st0 = As.reverse ++ .ref (kB C + p) :: st) (hW : (st.map fun v => v.category).sum ≤ 8) (hF : Fc + 1 ≤ dF D) (hL : 8 + (maxL + 11) + Lc ≤ dL D)
    (kk : ∀ r : β, Cmp C D Z pc' ls ((rv r).toList ++ st) (k r)) : Cmp C D Z pc ls st0 (mb (vc ci p f) k) := by
  subst hp
  intro w r w' hm
  by_cases h0 : (wS w)[p]? = some (ci, nf ci)
  · have hm' : mb f k w = some (r, w') := by
      unfold mb vc at hm
      rw [if_pos h0] at hm
      exact hm
    refine call_end (fun w => (wS w)[p]? = some (ci, nf ci)) hI hF hL ?_ kk w r w' h0 hm'
    intro w w1 r X H locs lsA cells slots G hC hg hS hsz hM hf hlo hroom
    subst hC
    obtain ⟨⟨c1, c2, c3⟩, v1, v2, v3, q, q1, q2⟩ := hV
    have hts := G.2.2.2.2.2.2.1
    have hK := G.2.2.2.2.2.2.2.1
    refine va_runV (C := y.cls) (b := kB (xC X) + p) (As := As) (Ts := TB) (own := dO D) (n := n) ⟨G.1, G.2.1, G.2.2.2.2.1, G.2.2.2.2.2.1, hts⟩ hM ⟨callB_of n hts (tb_goodIn c1) rfl rfl rfl (hts _ c2) (hts _ v1) c3 ⟨hf, hlo⟩, hts _ v2, hts _ v3⟩ ⟨pre_blind, ?_, fun U hU hW => ⟨rfl, hK.warm hW, by rw [hU]; exact hS.1⟩⟩ rfl hn hsz hst (by show 2 * 0 + _ ≤ 8; omega) hd hroom
    have hci := cl_lt q1
    obtain ⟨cell, g1, g2, g3, -⟩ := (hat_o (by omega)).mp (hS.1.2 p _ hg)
    exact ⟨cell, g1, by rw [g3]; rfl, by rw [g2, ← q2]; exact (hK.1.1 ci q q1).2.1⟩
  · unfold mb vc at hm
    rw [if_neg h0] at hm
    cases hm
theorem C_callS (As : List Value) (hV : SL (dO D) idx y cc maxL rt n) (hI : Imp C y cc maxL rt Fc Lc rv As f) (hd : decode (dC D) pc = .ok (.invokestatic idx, 3)) (hp : pc + 3 = pc') (hn : As.length = n) {st0 : List Value} (hst : st0 = As.reverse ++ st) (hW : (st.map fun v => v.category).sum ≤ 8) (hF : Fc + 1 ≤ dF D) (hL : 8 + (maxL + 11) + Lc ≤ dL D)
    (kk : ∀ r : β, Cmp C D Z pc' ls ((rv r).toList ++ st) (k r)) : Cmp C D Z pc ls st0 (mb f k) := by
  subst hp
  intro w r w' hm
  refine call_end (fun _ => True) hI hF hL ?_ kk w r w' trivial hm
  intro w w1 r X H locs lsA cells slots G hC hg hS hsz hM hf hlo hroom
  subst hC
  obtain ⟨⟨c1, c2, c3⟩, v1, v2⟩ := hV
  have hts := G.2.2.2.2.2.2.1
  have hK := G.2.2.2.2.2.2.2.1
  exact va_runS (As := As) (Ts := TB) (own := dO D) (n := n) ⟨G.1, G.2.1, G.2.2.2.2.1, G.2.2.2.2.2.1, hts⟩ hM ⟨callB_of n hts (tb_goodIn c1) rfl rfl rfl (hts _ c2) (hts _ v1) c3 ⟨hf, hlo⟩, hts _ v2⟩ ⟨pre_blind, fun U hU hW => ⟨rfl, hK.warm hW, by rw [hU]; exact hS.1⟩⟩ rfl hn hsz hst (by show 2 * 0 + _ ≤ 8; omega) hd hroom
theorem C_callSN (As : List Value) (hV : SLN (dO D) idx y cc maxL rt n) (hI : Imp C y cc maxL rt Fc Lc rv As f) (hd : decode (dC D) pc = .ok (.invokestatic idx, 3)) (hp : pc + 3 = pc') (hn : As.length = n) {st0 : List Value} (hst : st0 = As.reverse ++ st) (hW : (st.map fun v => v.category).sum ≤ 8) (hF : Fc + 1 ≤ dF D) (hL : 8 + (maxL + 11) + Lc ≤ dL D)
    (kk : ∀ r : β, Cmp C D Z pc' ls ((rv r).toList ++ st) (k r)) : Cmp C D Z pc ls st0 (mb f k) := by
  subst hp
  intro w r w' hm
  refine call_end (fun _ => True) hI hF hL ?_ kk w r w' trivial hm
  intro w w1 r X H locs lsA cells slots G hC hg hS hsz hM hf hlo hroom
  subst hC
  obtain ⟨⟨c1, c2, c3⟩, ⟨host, v1⟩, v2⟩ := hV
  have hts := G.2.2.2.2.2.2.1
  have hK := G.2.2.2.2.2.2.2.1
  exact va_runSN (As := As) (Ts := TB) (own := dO D) (n := n) ⟨G.1, G.2.1, G.2.2.2.2.1, G.2.2.2.2.2.1, hts⟩ hM ⟨va_cnB n hts (tb_goodIn c1) rfl rfl rfl (hK.2.2 _ v1) (hts _ c2) c3 ⟨hf, hlo⟩, hts _ v2, trivial⟩ ⟨pre_blind, fun U hU hW => ⟨rfl, hK.warm hW, by rw [hU]; exact hS.1⟩⟩ rfl hn hsz hst (by show 2 * 0 + _ ≤ 8; omega) hd hroom
theorem C_callI {p : Nat} (As : List Value) (hV : IL (dO D) idx y cc maxL n) (hI : Imp C y cc maxL none Fc Lc rv (.ref (kB C + p) :: As) f) (hd : decode (dC D) pc = .ok (.invokespecial idx, 3)) (hp : pc + 3 = pc') (hn : As.length = n) {st0 : List Value} (hst : st0 = As.reverse ++ .ref (kB C + p) :: st) (hW : (st.map fun v => v.category).sum ≤ 8) (hF : Fc + 1 ≤ dF D) (hL : 8 + (maxL + 11) + Lc ≤ dL D)
    (kk : ∀ r : β, Cmp C D Z pc' ls ((rv r).toList ++ st) (k r)) : Cmp C D Z pc ls st0 (mb f k) := by
  subst hp
  intro w r w' hm
  refine call_end (fun _ => True) hI hF hL ?_ kk w r w' trivial hm
  intro w w1 r X H locs lsA cells slots G hC hg hS hsz hM hf hlo hroom
  subst hC
  obtain ⟨⟨c1, c2, c3⟩, v1, v2, v3⟩ := hV
  have hts := G.2.2.2.2.2.2.1
  have hK := G.2.2.2.2.2.2.2.1
  exact va_runI (b := kB (xC X) + p) (As := As) (Ts := TB) (own := dO D) (n := n) ⟨G.1, G.2.1, G.2.2.2.2.1, G.2.2.2.2.2.1, hts⟩ hM ⟨callB_of n hts (tb_goodIn c1) rfl rfl rfl (hts _ c2) (hts _ v1) c3 ⟨hf, hlo⟩, v3, hts _ v2⟩ ⟨pre_blind, fun U hU hW => ⟨rfl, hK.warm hW, by rw [hU]; exact hS.1⟩⟩ rfl hn hsz hst (by show 2 * 0 + _ ≤ 8; omega) hd hroom
theorem C_callIN {p : Nat} (As : List Value) (hV : ILN (dO D) idx y cc maxL n) (hI : Imp C y cc maxL none Fc Lc rv (.ref (kB C + p) :: As) f) (hd : decode (dC D) pc = .ok (.invokespecial idx, 3)) (hp : pc + 3 = pc') (hn : As.length = n) {st0 : List Value} (hst : st0 = As.reverse ++ .ref (kB C + p) :: st) (hW : (st.map fun v => v.category).sum ≤ 8) (hF : Fc + 1 ≤ dF D) (hL : 8 + (maxL + 11) + Lc ≤ dL D)
    (kk : ∀ r : β, Cmp C D Z pc' ls ((rv r).toList ++ st) (k r)) : Cmp C D Z pc ls st0 (mb f k) := by
  subst hp
  intro w r w' hm
  refine call_end (fun _ => True) hI hF hL ?_ kk w r w' trivial hm
  intro w w1 r X H locs lsA cells slots G hC hg hS hsz hM hf hlo hroom
  subst hC
  obtain ⟨⟨c1, c2, c3⟩, ⟨host, v1⟩, v2, v3⟩ := hV
  have hts := G.2.2.2.2.2.2.1
  have hK := G.2.2.2.2.2.2.2.1
  exact va_runIN (b := kB (xC X) + p) (As := As) (Ts := TB) (own := dO D) (n := n) ⟨G.1, G.2.1, G.2.2.2.2.1, G.2.2.2.2.2.1, hts⟩ hM ⟨va_cnB n hts (tb_goodIn c1) rfl rfl rfl (hK.2.2 _ v1) (hts _ c2) c3 ⟨hf, hlo⟩, v3, hts _ v2⟩ ⟨pre_blind, fun U hU hW => ⟨rfl, hK.warm hW, by rw [hU]; exact hS.1⟩⟩ rfl hn hsz hst (by show 2 * 0 + _ ≤ 8; omega) hd hroom
end RulesC
section RulesO
variable {α : Type} {C : KX} {D : MD} {Z : ZT α} {pc pc' : Nat} {ls : List (Nat × Value)} {st : List Value}
theorem C_new {idx ci : Nat} {f : Nat → Mo α} (hN : NL (dO D) idx ci) (hd : decode (dC D) pc = .ok (.new idx, 3)) (hp : pc + 3 = pc') (kk : ∀ p : Nat, Cmp C D Z pc' ls (.ref (kB C + p) :: st) (f p)) : Cmp C D Z pc ls st (mb (nO ci) f) := by
  subst hp
  intro w r w' hm
  have hm' : f (cnt w) (wNew w (ci, nf ci)) = some (r, w') := hm
  obtain ⟨h1, h2⟩ := kk _ _ r w' hm'
  have c1 := cnt_new w (ci, nf ci)
  have c2 := slt_new w (ci, nf ci)
  refine ⟨by omega, fun X G hC hF H locs lsA cells slots hS hl => ?_⟩
  subst hC
  obtain ⟨Cn, T, ty, hc, hin, hty, hdef, l1, l2, l3⟩ := hN
  have hci := cl_lt hc
  have hts := G.2.2.2.2.2.2.1
  have hK := G.2.2.2.2.2.2.2.1
  obtain ⟨fc, fs⟩ := fit_new hS hF h1
  have hKn := hK.1.1 ci _ hc
  refine W.newcK G.1 G.2.1 G.2.2.2.2.2.1 (hts _ l1) (hts _ l2) (hts _ l3) rfl hd fc fs hKn.2.1 hS.1.1 fun H1 kC hkC e1 z1 o1 => ?_
  refine h2 X G rfl hF H1 locs lsA _ _ (stb_new hS (by rw [z1, hS.1.1]) (fun a ha => o1 a (by rw [← hS.1.1]; exact ha)) ((hat_o (by omega)).mpr ?_)) hl
  refine (u_born ty hts hin hKn hkC e1 hty).to (fun j hj => ?_)
  show defaultValue (ty j) = fv (xC X) (wNew w (ci, nf ci)) (cnt w) ci j
  rw [hdef j hj]
  unfold fv wNew uA
  by_cases hr : rk ci j = true
  · simp [hr, rfv, va_rf]
  · simp [hr]
theorem C_newarr {kd : Nat} {atype : ArrayType} {n : Int32} {f : Nat → Mo α} (hk : (kd = 100 ∧ newarray.typeOf atype = .int) ∨ (kd = 101 ∧ newarray.typeOf atype = .long) ∨ (kd = 102 ∧ newarray.typeOf atype = .boolean)) (hw : Cond.arrayClass (newarray.typeOf atype) ∈ TB) (hd : decode (dC D) pc = .ok (.newarray atype, 2)) (hp : pc + 2 = pc') (kk : ∀ p : Nat, Cmp C D Z pc' ls (.ref (kB C + p) :: st) (f p)) : Cmp C D Z pc ls (.int n :: st) (mb (nA kd n) f) := by
  subst hp
  intro w r w' hm
  unfold mb nA at hm
  by_cases h0 : ¬ n < 0 ∧ n.toNatClampNeg ≤ 60000
  · rw [if_pos h0] at hm
    obtain ⟨h1, h2⟩ := kk _ _ r w' hm
    have c1 := cnt_new w (kd, n.toNatClampNeg)
    have c2 := slt_new w (kd, n.toNatClampNeg)
    refine ⟨by omega, fun X G hC hF H locs lsA cells slots hS hl => ?_⟩
    subst hC
    have hts := G.2.2.2.2.2.2.1
    have hK := G.2.2.2.2.2.2.2.1
    obtain ⟨fc, fs⟩ := fit_new hS hF h1
    have hbytes : n.toNatClampNeg * componentBytes (newarray.typeOf atype) ≤ 536870912 := by
      have h9 : componentBytes (newarray.typeOf atype) ≤ 8 := by rcases hk with ⟨-, e⟩ | ⟨-, e⟩ | ⟨-, e⟩ <;> rw [e] <;> decide
      exact Nat.le_trans (Nat.mul_le_mul h0.2 h9) (by decide)
    refine va_newaK G.1 G.2.1 (hts _ hw) rfl hd rfl h0.1 rfl hbytes fc fs hS.1.1 fun H1 cA e1 z1 o1 harr hcA => ?_
    refine h2 X G rfl hF H1 locs lsA _ _ (stb_new hS (by rw [z1, hS.1.1]) (fun a ha => o1 a (by rw [← hS.1.1]; exact ha)) ?_) hl
    rcases hk with ⟨rfl, e⟩ | ⟨rfl, e⟩ | ⟨rfl, e⟩
    · rw [e] at e1 hcA
      have hcc : cA = kI (xC X) := Option.some.inj (hcA.symm.trans ((hK.1.2 0 _ rfl).2))
      rw [hat_i, e1, hcc, vp_cell_i]
      congr 2
      funext j
      simp [wNew, uA, defaultValue]
    · rw [e] at e1 hcA
      have hcc : cA = kJ (xC X) := Option.some.inj (hcA.symm.trans ((hK.1.2 1 _ rfl).2))
      rw [hat_j, e1, hcc, vp_cell_l]
      congr 2
      funext j
      simp [wNew, uA, defaultValue]
    · rw [e] at e1 hcA
      have hcc : cA = kZ (xC X) := Option.some.inj (hcA.symm.trans ((hK.1.2 2 _ rfl).2))
      rw [hat_z, e1, hcc, vp_cell_i]
      congr 2
      funext j
      simp [wNew, uA, defaultValue]
  · rw [if_neg h0] at hm
    cases hm
theorem C_anew {idx : Nat} {n : Int32} {f : Nat → Mo α} (hw : Cond.classLink (dO D) idx RX1 ∈ TB) (hd : decode (dC D) pc = .ok (.anewarray idx, 3)) (hp : pc + 3 = pc') (kk : ∀ p : Nat, Cmp C D Z pc' ls (.ref (kB C + p) :: st) (f p)) : Cmp C D Z pc ls (.int n :: st) (mb (nA 103 n) f) := by
  subst hp
  intro w r w' hm
  unfold mb nA at hm
  by_cases h0 : ¬ n < 0 ∧ n.toNatClampNeg ≤ 60000
  · rw [if_pos h0] at hm
    obtain ⟨h1, h2⟩ := kk _ _ r w' hm
    have c1 := cnt_new w (103, n.toNatClampNeg)
    have c2 := slt_new w (103, n.toNatClampNeg)
    refine ⟨by omega, fun X G hC hF H locs lsA cells slots hS hl => ?_⟩
    subst hC
    have hts := G.2.2.2.2.2.2.1
    have hK := G.2.2.2.2.2.2.2.1
    obtain ⟨fc, fs⟩ := fit_new hS hF h1
    refine W.anew G.1 G.2.1 G.2.2.2.2.2.1 (hts _ hw) (va_AO.use hK.2.1) rfl hd rfl h0.1 (by omega) fc fs fun cA kA comp f1 f2 f3 f4 => ?_
    generalize hH1 : H.push ({ cls := cA, slots := Array.replicate n.toNatClampNeg .null, vm := .none } : Cell) = H1
    have z1 : H1.size = H.size + 1 := by rw [← hH1, Array.size_push]
    have e1 : H1[H.size]? = some (arrV cA n.toNatClampNeg (fun _ => .null)) := by rw [← hH1, Array.getElem?_push_size, ← arrV_new]
    have o1 : ∀ q : Nat, q < H.size → H1[q]? = H[q]? := fun q hq => by rw [← hH1, Array.getElem?_push, if_neg (Nat.ne_of_lt hq)]
    have hs := hS.1.1
    rw [hs] at e1 ⊢
    refine h2 X G rfl hF H1 locs lsA _ _ (stb_new hS z1 o1 ?_) hl
    obtain ⟨kA2, comp2, k1, k2, k3, k4⟩ := (hK.1.2 3 _ rfl).2
    have hcc : cA = kH (xC X) := Option.some.inj (f1.symm.trans k4)
    rw [hat_q, e1, hcc, vp_cell_q]
    congr 2
    funext j
    simp [wNew, uA, va_rf]
  · rw [if_neg h0] at hm
    cases hm
theorem C_objInit {idx p : Nat} {m : Mo α} (hw1 : Cond.methodLink (dO D) idx Lib.objectInit ∈ TB) (hw2 : Cond.instanceMethod Lib.objectInit ∈ TB) (hw3 : Cond.code Lib.objectInit ⟨#[0xb1]⟩ 1 none ∈ TB) (hd : decode (dC D) pc = .ok (.invokespecial idx, 3)) (hp : pc + 3 = pc') (hF : 1 ≤ dF D) (hL : (st.map fun v => v.category).sum + 12 ≤ dL D) (kk : Cmp C D Z pc' ls st m) : Cmp C D Z pc ls (.ref (kB C + p) :: st) m := by
  subst hp
  refine C_pure (fun X G H locs lsA cells slots Q hl kk => ?_) kk
  have hts := G.2.2.2.2.2.2.1
  have hfr : (xR X).frames = dF D := G.2.2.2.2.2.2.2.2.2.1
  have hlo : (xR X).locals = dL D := G.2.2.2.2.2.2.2.2.2.2.1
  exact W.objInit G.1 G.2.1 G.2.2.2.2.2.1 (hts _ hw1) (hts _ hw2) (hts _ hw3) rfl (hl.1.trans G.2.2.2.2.1.symm) rfl hd (by omega) (by show 2 * 0 + _ + 12 ≤ _; omega) (kk lsA hl)
theorem C_max {idx : Nat} {x y : Int32} {m : Mo α} (hw1 : Cond.methodLink (dO D) idx Lib.Math.max.name ∈ TB) (hw2 : Cond.static Lib.Math.max.name ∈ TB) (hw3 : Cond.initialized "java/lang/Math" ∈ TB) (hw4 : Cond.code Lib.Math.max.name Lib.Math.max.code 2 (some .int) ∈ TB) (hd : decode (dC D) pc = .ok (.invokestatic idx, 3)) (hp : pc + 3 = pc') (hF : 1 ≤ dF D) (hL : (st.map fun v => v.category).sum + 13 ≤ dL D) (kk : Cmp C D Z pc' ls (.int (if x < y then y else x) :: st) m) : Cmp C D Z pc ls (.int y :: .int x :: st) m := by
  subst hp
  intro w r w' hm
  obtain ⟨h1, h2⟩ := kk w r w' hm
  refine ⟨h1, fun X G hC hFit H locs lsA cells slots hS hl => ?_⟩
  have hts := G.2.2.2.2.2.2.1
  have hfr : (xR X).frames = dF D := G.2.2.2.2.2.2.2.2.2.1
  have hlo : (xR X).locals = dL D := G.2.2.2.2.2.2.2.2.2.2.1
  obtain ⟨s1, s2, s3, s4, s5⟩ := id hS
  obtain ⟨f1, f2⟩ := id hFit
  exact va_mmax G.1 G.2.1 (G.2.2.2.2.1.trans hl.1.symm) G.2.2.2.2.2.1 (hts _ hw1) (hts _ hw2) (hts _ hw3) (hts _ hw4) (by omega) (by omega) (by omega) (by omega) hd (h2 X G hC hFit H locs lsA cells slots hS hl)
theorem C_min {idx : Nat} {x y : Int32} {m : Mo α} (hw1 : Cond.methodLink (dO D) idx Lib.Math.min.name ∈ TB) (hw2 : Cond.static Lib.Math.min.name ∈ TB) (hw3 : Cond.initialized "java/lang/Math" ∈ TB) (hw4 : Cond.code Lib.Math.min.name Lib.Math.min.code 2 (some .int) ∈ TB) (hd : decode (dC D) pc = .ok (.invokestatic idx, 3)) (hp : pc + 3 = pc') (hF : 1 ≤ dF D) (hL : (st.map fun v => v.category).sum + 13 ≤ dL D) (kk : Cmp C D Z pc' ls (.int (if y < x then y else x) :: st) m) : Cmp C D Z pc ls (.int y :: .int x :: st) m := by
  subst hp
  intro w r w' hm
  obtain ⟨h1, h2⟩ := kk w r w' hm
  refine ⟨h1, fun X G hC hFit H locs lsA cells slots hS hl => ?_⟩
  have hts := G.2.2.2.2.2.2.1
  have hfr : (xR X).frames = dF D := G.2.2.2.2.2.2.2.2.2.1
  have hlo : (xR X).locals = dL D := G.2.2.2.2.2.2.2.2.2.2.1
  obtain ⟨s1, s2, s3, s4, s5⟩ := id hS
  obtain ⟨f1, f2⟩ := id hFit
  exact va_mmin G.1 G.2.1 (G.2.2.2.2.1.trans hl.1.symm) G.2.2.2.2.2.1 (hts _ hw1) (hts _ hw2) (hts _ hw3) (hts _ hw4) (by omega) (by omega) (by omega) (by omega) hd (h2 X G hC hFit H locs lsA cells slots hS hl)
end RulesO
