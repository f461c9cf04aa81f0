/-! THE CLAIM OUT OF ONE WALK OF THE LAW'S BODY. Your part is whole_start (and what it stands on); all else here is the same for every law, but numbers. -/
def R_law : String := "StandingQueriesLaw"
def lw_P (b : Addr) (xs : List Int32) (args : Array Value) (s : State) : Prop := args = #[.ref b] ∧ s.IntsAt b xs ∧ xs.length ≤ 2048 ∧ (Jvm.Cond.and given_1 narrow_1).before args s = true
def lw_Q (_ : Array Value) (s : State) (o : Outcome) (t : State) : Prop := o = .returned (some (.int 1)) ∧ Framed s o t [] 600000 7302250
def lw_Z (below : List Frame) (a : Array Value) (s : State) : State → Prop := fun t => ∃ o, t.status = .running ∧ Ended t below o ∧ lw_Q a s o t
/-- the law's own end, with 1 on the stack, nothing written that was there before, its room as the claim has it -/
theorem lw_ret {p : Program} {l : Launch} {e : Env} {s : State} {m : MethodId} {below : List Frame} {meth : Method} {c : Code} {b : Nat} (hx : p.tables.exec = Jvm.exec) (hb : c.code = code) (hr : meth.sig.returnType = ret) (hlocks : meth.locks = false) {pc : Nat} {H : Heap} {ls : Array Slot} (hdg : decode code pc = .ok (.ireturn, 1)) : W p l e room_1 s m #[Value.ref b] below meth c H [] 600000 7302250 (lw_Z below #[Value.ref b] s) (F0 m pc ls [.int 1]) := by
  intro T hT X
  obtain ⟨fs, hret, hrun, hended, hW, hframe⟩ := X.leave (v := some (.int 1)) (hlocks := hlocks) (fun h => by rw [hr] at h; cases h)
  have hmeth' : T.vm.method? m = some meth := X.method'
  refine ⟨T.setFrames fs, ?_, .returned (some (.int 1)), hrun, hended, rfl, ⟨_, rfl⟩, hW, hframe⟩
  jvm_step X.here [X.here.top, hx, hb, hdg, hmeth', hr, ret, narrow_b1]
  (try refine ⟨rfl, ?_⟩); (try refine ⟨rfl, ?_⟩)
  first | (intro acts; rw [hret _ acts rfl rfl rfl]) | rw [hret _ _ rfl rfl rfl]
  exact Steps.refl _
/-- what holds at the law's entry: the machine, the code, the tables' words (any of lw_tbl by 'hts w (by decide +kernel)'), the script of L ints xs at the cell b, what the Statement gives of the start (any of its parts by flat_of_before) -/
def lw_At (p : Program) (s : State) (m : MethodId) (meth : Method) (c : Code) (b L : Nat) (xs : Nat → Int32) : Prop :=
  p.tables.exec = Jvm.exec ∧ c.code = code ∧ meth.sig.returnType = ret ∧ c.maxLocals = 4 ∧ s.vm.findClass R_law = some m.cls ∧ (∀ w ∈ lw_tbl, w.before #[Value.ref b] s = true) ∧ va_X b L xs s s.heap ∧ b < s.heap.size ∧ meth.locks = false ∧ (Jvm.Cond.and given_1 narrow_1).before #[Value.ref b] s = true
-- ===== YOUR PART BEGINS =====

/-! ===== the law: its context, the script, its end ===== -/
def eL (b L : Nat) (xs : Nat → Int32) (X : CX) : Prop := va_X b L xs (xS X) (xS X).heap ∧ b < kB (xC X) ∧ kB (xC X) = (xS X).heap.size ∧ xR X = room_1 ∧ xA X = #[Value.ref b]
abbrev mdL (b L : Nat) (xs : Nat → Int32) (nm : String) : MD := (code, RL, 4, ret, nm, 9, 324, eL b L xs)
def ZL : ZT Int32 := fun X _ _ => lw_Z (xB X) (xA X) (xS X)
def hE (b L : Nat) (xs : Nat → Int32) (nm : String) : ∀ X, dE (mdL b L xs nm) X → va_X b L xs (xS X) (xS X).heap ∧ b < kB (xC X) := fun _ h => ⟨h.1, h.2.1⟩
section RulesL
variable {α : Type} {C : KX} {D : MD} {Z : ZT α} {pc pc' : Nat} {ls : List (Nat × Value)} {st : List Value} {m : Mo α} {b L : Nat} {xs : Nat → Int32}
theorem C_slen (hE : ∀ X, dE D X → va_X b L xs (xS X) (xS X).heap ∧ b < kB (xC X)) (hd : decode (dC D) pc = .ok (.arraylength, 1)) (hp : pc + 1 = pc') (kk : Cmp C D Z pc' ls (.int (Int32.ofNat L) :: st) m) : Cmp C D Z pc ls (.ref b :: st) m := by
  subst hp
  intro w r w' hm
  obtain ⟨h1, h2⟩ := kk w r w' hm
  refine ⟨h1, fun X G hC hF H locs lsA cells slots hS hl => ?_⟩
  obtain ⟨⟨scr, e1, e2, e3, e4, e5⟩, hb⟩ := hE X G.2.2.2.2.2.2.2.2.2.2.2
  refine W.alen (n := Int32.ofNat L) G.1 G.2.1 ((hS.2.1 b hb).trans e1) e2 (by rw [e4]) rfl rfl hd (h2 X G hC hF H locs lsA cells slots hS hl)
theorem C_sld {i : Int32} {f : Int32 → Mo α} (hE : ∀ X, dE D X → va_X b L xs (xS X) (xS X).heap ∧ b < kB (xC X)) (hd : decode (dC D) pc = .ok (.iaload, 1)) (hp : pc + 1 = pc') (kk : ∀ v : Int32, Cmp C D Z pc' ls (.int v :: st) (f v)) : Cmp C D Z pc ls (.int i :: .ref b :: st) (mb (sc xs L i) f) := by
  subst hp
  intro w r w' hm
  unfold mb sc at hm
  by_cases h0 : ¬ i < 0 ∧ i.toNatClampNeg < L
  · rw [if_pos h0] at hm
    obtain ⟨h1, h2⟩ := kk _ w r w' hm
    refine ⟨h1, fun X G hC hF H locs lsA cells slots hS hl => ?_⟩
    obtain ⟨⟨scr, e1, e2, e3, e4, e5⟩, hb⟩ := hE X G.2.2.2.2.2.2.2.2.2.2.2
    exact W.iald (v := .int (xs i.toNatClampNeg)) G.1 G.2.1 ((hS.2.1 b hb).trans e1) e2 e3 (by rw [e4]; exact nin h0) (e5 _ h0.2) rfl rfl hd (h2 X G hC hF H locs lsA cells slots hS hl)
  · rw [if_neg h0] at hm
    cases hm
end RulesL
theorem C_lawret (C : KX) (b L : Nat) (xs : Nat → Int32) (nm : String) {pc : Nat} {ls : List (Nat × Value)} (hd : decode code pc = .ok (.ireturn, 1)) : Cmp C (mdL b L xs nm) ZL pc ls [.int 1] (mp 1) := by
  intro w r w' hm
  cases hm
  refine ⟨⟨Nat.le_refl _, Nat.le_refl _⟩, fun X G hC hF H locs lsA cells slots hS hl => ?_⟩
  obtain ⟨h1, h2⟩ := fit_end hS hF
  obtain ⟨-, -, e3, e4, e5⟩ := G.2.2.2.2.2.2.2.2.2.2.2
  rw [e4] at h1 h2
  refine va_forget (fun q hq => by rw [← e3]; exact hS.2.2.1 q hq) ?_
  refine W.widen (k := 600000) (n := 7302250) h1 h2 ?_
  show W (xP X) (kL (xC X)) (xE X) (xR X) (xS X) (xM X) (xA X) (xB X) (xT X) (xO X) H [] 600000 7302250 (lw_Z (xB X) (xA X) (xS X)) _
  rw [e4, e5]
  exact lw_ret G.1 G.2.1 G.2.2.1 G.2.2.2.1 hd

set_option maxHeartbeats 4000000 in
set_option maxRecDepth 20000 in
theorem p_L_law_J666 (C : KX) (b L : Nat) (xs : Nat → Int32) (nm : String) (l1 : Nat) (l2 : Nat) (l3 : Int32) (k18 : Int32 → Mo Int32) (hk18 : ∀ s, Cmp C (mdL b L xs nm) ZL 18 [(0, .ref b), (1, .ref (kB C + l1)), (2, .ref (kB C + l2)), (3, .int s)] [] (k18 s)) : Cmp C (mdL b L xs nm) ZL 666 [(0, .ref b), (1, .ref (kB C + l1)), (2, .ref (kB C + l2)), (3, .int l3)] [] (m_L_law_J666 L xs l1 l2 l3 k18) := by
  unfold m_L_law_J666
  refine C_iinc (D := (mdL b L xs nm)) (pc' := 669) (j := 3) (v := (l3 + 4)) (ls' := [(3, .int (l3 + 4)), (0, .ref b), (1, .ref (kB C + l1)), (2, .ref (kB C + l2))]) dL_law_666 rfl rfl rfl (Nat.le_of_ble_eq_true rfl) rfl ?_
  refine C_goto (D := (mdL b L xs nm)) (pc' := 18) dL_law_669 (by decide) ?_
  exact C_sub [1, 2, 3, 0] rfl (hk18 ((l3 + 4)))
set_option maxHeartbeats 4000000 in
set_option maxRecDepth 20000 in
theorem p_L_law_B18 (C : KX) (b L : Nat) (xs : Nat → Int32) (nm : String) (l1 : Nat) (l2 : Nat)  (k18 : Int32 → Mo Int32) (hk18 : ∀ s, Cmp C (mdL b L xs nm) ZL 18 [(0, .ref b), (1, .ref (kB C + l1)), (2, .ref (kB C + l2)), (3, .int s)] [] (k18 s)) (l3 : Int32) : Cmp C (mdL b L xs nm) ZL 18 [(0, .ref b), (1, .ref (kB C + l1)), (2, .ref (kB C + l2)), (3, .int l3)] [] (m_L_law_B18 L xs l1 l2 k18 l3) := by
  unfold m_L_law_B18
  refine C_iload_n (D := (mdL b L xs nm)) (pc' := 19) (x := l3) dL_law_18 rfl 3 rfl ?_
  refine C_aload_n (D := (mdL b L xs nm)) (pc' := 20) (x := b) dL_law_19 rfl 0 rfl ?_
  refine C_slen (D := (mdL b L xs nm)) (pc' := 21) (L := L) (hE b L xs nm) dL_law_20 rfl ?_
  refine C_iconst (D := (mdL b L xs nm)) (pc' := 22) (v := 4) dL_law_21 rfl (by decide) ?_
  refine C_isub (D := (mdL b L xs nm)) (pc' := 23) dL_law_22 rfl ?_
  refine C_icmp_gt (D := (mdL b L xs nm)) (pc' := 26) (tgt := 672) dL_law_23 (by decide) rfl ?_ ?_
  · refine C_iconst (D := (mdL b L xs nm)) (pc' := 673) (v := 1) dL_law_672 rfl (by decide) ?_
    exact C_lawret C b L xs nm dL_law_673
  · refine C_aload_n (D := (mdL b L xs nm)) (pc' := 27) (x := b) dL_law_26 rfl 0 rfl ?_
    refine C_iload_n (D := (mdL b L xs nm)) (pc' := 28) (x := l3) dL_law_27 rfl 3 rfl ?_
    refine C_sld (D := (mdL b L xs nm)) (pc' := 29) (xs := xs) (L := L) (hE b L xs nm) dL_law_28 rfl (fun x3 => ?_)
    refine C_bipush (D := (mdL b L xs nm)) (pc' := 31) (v := 31) dL_law_29 rfl (by decide) ?_
    refine C_iand (D := (mdL b L xs nm)) (pc' := 32) dL_law_31 rfl ?_
    refine C_tcase (D := (mdL b L xs nm)) (c := 0) 0 (by decide) (tgt := 132) dL_law_32 (by decide) (by decide) rfl (by decide) ?_ (fun h0 => ?_)
    · refine C_aload_n (D := (mdL b L xs nm)) (pc' := 133) (x := kB C + l1) dL_law_132 rfl 1 rfl ?_
      refine C_aload_n (D := (mdL b L xs nm)) (pc' := 134) (x := b) dL_law_133 rfl 0 rfl ?_
      refine C_iload_n (D := (mdL b L xs nm)) (pc' := 135) (x := l3) dL_law_134 rfl 3 rfl ?_
      refine C_iconst (D := (mdL b L xs nm)) (pc' := 136) (v := 1) dL_law_135 rfl (by decide) ?_
      refine C_iadd (D := (mdL b L xs nm)) (pc' := 137) dL_law_136 rfl ?_
      refine C_sld (D := (mdL b L xs nm)) (pc' := 138) (xs := xs) (L := L) (hE b L xs nm) dL_law_137 rfl (fun x4 => ?_)
      refine C_callV (D := (mdL b L xs nm)) (pc' := 141) (p := l1) (st := []) [.int x4] v_L_13 (i_X7_type C l1 x4) dL_law_138 rfl rfl rfl (Nat.le_of_ble_eq_true rfl) (Nat.le_of_ble_eq_true rfl) (Nat.le_of_ble_eq_true rfl) (fun c5 => ?_)
      refine C_aload_n (D := (mdL b L xs nm)) (pc' := 142) (x := kB C + l2) dL_law_141 rfl 2 rfl ?_
      refine C_aload_n (D := (mdL b L xs nm)) (pc' := 143) (x := b) dL_law_142 rfl 0 rfl ?_
      refine C_iload_n (D := (mdL b L xs nm)) (pc' := 144) (x := l3) dL_law_143 rfl 3 rfl ?_
      refine C_iconst (D := (mdL b L xs nm)) (pc' := 145) (v := 1) dL_law_144 rfl (by decide) ?_
      refine C_iadd (D := (mdL b L xs nm)) (pc' := 146) dL_law_145 rfl ?_
      refine C_sld (D := (mdL b L xs nm)) (pc' := 147) (xs := xs) (L := L) (hE b L xs nm) dL_law_146 rfl (fun x6 => ?_)
      refine C_callV (D := (mdL b L xs nm)) (pc' := 150) (p := l2) (st := [.int c5]) [.int x6] v_L_17 (i_X8_type C l2 x6) dL_law_147 rfl rfl rfl (Nat.le_of_ble_eq_true rfl) (Nat.le_of_ble_eq_true rfl) (Nat.le_of_ble_eq_true rfl) (fun c7 => ?_)
      refine C_icmp_eq (D := (mdL b L xs nm)) (pc' := 153) (tgt := 666) dL_law_150 (by decide) rfl ?_ ?_
      · exact C_sub [0, 1, 2, 3] rfl (p_L_law_J666 C b L xs nm l1 l2 l3 k18 hk18)
      · refine C_iconst (D := (mdL b L xs nm)) (pc' := 154) (v := 0) dL_law_153 rfl (by decide) ?_
        exact C_mz
    refine C_tcase (D := (mdL b L xs nm)) (c := 1) 1 (by decide) (tgt := 155) dL_law_32 (by decide) (by decide) rfl (by decide) ?_ (fun h1 => ?_)
    · refine C_aload_n (D := (mdL b L xs nm)) (pc' := 156) (x := kB C + l1) dL_law_155 rfl 1 rfl ?_
      refine C_callV (D := (mdL b L xs nm)) (pc' := 159) (p := l1) (st := []) [] v_L_18 (i_X7_clear C l1) dL_law_156 rfl rfl rfl (Nat.le_of_ble_eq_true rfl) (Nat.le_of_ble_eq_true rfl) (Nat.le_of_ble_eq_true rfl) (fun c8 => ?_)
      refine C_aload_n (D := (mdL b L xs nm)) (pc' := 160) (x := kB C + l2) dL_law_159 rfl 2 rfl ?_
      refine C_callV (D := (mdL b L xs nm)) (pc' := 163) (p := l2) (st := [.int c8]) [] v_L_22 (i_X8_clear C l2) dL_law_160 rfl rfl rfl (Nat.le_of_ble_eq_true rfl) (Nat.le_of_ble_eq_true rfl) (Nat.le_of_ble_eq_true rfl) (fun c9 => ?_)
      refine C_icmp_eq (D := (mdL b L xs nm)) (pc' := 166) (tgt := 666) dL_law_163 (by decide) rfl ?_ ?_
      · exact C_sub [0, 1, 2, 3] rfl (p_L_law_J666 C b L xs nm l1 l2 l3 k18 hk18)
      · refine C_iconst (D := (mdL b L xs nm)) (pc' := 167) (v := 0) dL_law_166 rfl (by decide) ?_
        exact C_mz
    refine C_tcase (D := (mdL b L xs nm)) (c := 2) 2 (by decide) (tgt := 168) dL_law_32 (by decide) (by decide) rfl (by decide) ?_ (fun h2 => ?_)
    · refine C_aload_n (D := (mdL b L xs nm)) (pc' := 169) (x := kB C + l1) dL_law_168 rfl 1 rfl ?_
      refine C_callV (D := (mdL b L xs nm)) (pc' := 172) (p := l1) (st := []) [] v_L_23 (i_X7_adds C l1) dL_law_169 rfl rfl rfl (Nat.le_of_ble_eq_true rfl) (Nat.le_of_ble_eq_true rfl) (Nat.le_of_ble_eq_true rfl) (fun c10 => ?_)
      refine C_aload_n (D := (mdL b L xs nm)) (pc' := 173) (x := kB C + l2) dL_law_172 rfl 2 rfl ?_
      refine C_callV (D := (mdL b L xs nm)) (pc' := 176) (p := l2) (st := [.int c10]) [] v_L_26 (i_X8_adds C l2) dL_law_173 rfl rfl rfl (Nat.le_of_ble_eq_true rfl) (Nat.le_of_ble_eq_true rfl) (Nat.le_of_ble_eq_true rfl) (fun c11 => ?_)
      refine C_icmp_eq (D := (mdL b L xs nm)) (pc' := 179) (tgt := 666) dL_law_176 (by decide) rfl ?_ ?_
      · exact C_sub [0, 1, 2, 3] rfl (p_L_law_J666 C b L xs nm l1 l2 l3 k18 hk18)
      · refine C_iconst (D := (mdL b L xs nm)) (pc' := 180) (v := 0) dL_law_179 rfl (by decide) ?_
        exact C_mz
    refine C_tcase (D := (mdL b L xs nm)) (c := 3) 3 (by decide) (tgt := 181) dL_law_32 (by decide) (by decide) rfl (by decide) ?_ (fun h3 => ?_)
    · refine C_aload_n (D := (mdL b L xs nm)) (pc' := 182) (x := kB C + l1) dL_law_181 rfl 1 rfl ?_
      refine C_aload_n (D := (mdL b L xs nm)) (pc' := 183) (x := b) dL_law_182 rfl 0 rfl ?_
      refine C_iload_n (D := (mdL b L xs nm)) (pc' := 184) (x := l3) dL_law_183 rfl 3 rfl ?_
      refine C_iconst (D := (mdL b L xs nm)) (pc' := 185) (v := 1) dL_law_184 rfl (by decide) ?_
      refine C_iadd (D := (mdL b L xs nm)) (pc' := 186) dL_law_185 rfl ?_
      refine C_sld (D := (mdL b L xs nm)) (pc' := 187) (xs := xs) (L := L) (hE b L xs nm) dL_law_186 rfl (fun x12 => ?_)
      refine C_callV (D := (mdL b L xs nm)) (pc' := 190) (p := l1) (st := []) [.int x12] v_L_27 (i_X7_drops C l1 x12) dL_law_187 rfl rfl rfl (Nat.le_of_ble_eq_true rfl) (Nat.le_of_ble_eq_true rfl) (Nat.le_of_ble_eq_true rfl) (fun c13 => ?_)
      refine C_aload_n (D := (mdL b L xs nm)) (pc' := 191) (x := kB C + l2) dL_law_190 rfl 2 rfl ?_
      refine C_aload_n (D := (mdL b L xs nm)) (pc' := 192) (x := b) dL_law_191 rfl 0 rfl ?_
      refine C_iload_n (D := (mdL b L xs nm)) (pc' := 193) (x := l3) dL_law_192 rfl 3 rfl ?_
      refine C_iconst (D := (mdL b L xs nm)) (pc' := 194) (v := 1) dL_law_193 rfl (by decide) ?_
      refine C_iadd (D := (mdL b L xs nm)) (pc' := 195) dL_law_194 rfl ?_
      refine C_sld (D := (mdL b L xs nm)) (pc' := 196) (xs := xs) (L := L) (hE b L xs nm) dL_law_195 rfl (fun x14 => ?_)
      refine C_callV (D := (mdL b L xs nm)) (pc' := 199) (p := l2) (st := [.int c13]) [.int x14] v_L_30 (i_X8_drops C l2 x14) dL_law_196 rfl rfl rfl (Nat.le_of_ble_eq_true rfl) (Nat.le_of_ble_eq_true rfl) (Nat.le_of_ble_eq_true rfl) (fun c15 => ?_)
      refine C_icmp_eq (D := (mdL b L xs nm)) (pc' := 202) (tgt := 666) dL_law_199 (by decide) rfl ?_ ?_
      · exact C_sub [0, 1, 2, 3] rfl (p_L_law_J666 C b L xs nm l1 l2 l3 k18 hk18)
      · refine C_iconst (D := (mdL b L xs nm)) (pc' := 203) (v := 0) dL_law_202 rfl (by decide) ?_
        exact C_mz
    refine C_tcase (D := (mdL b L xs nm)) (c := 4) 4 (by decide) (tgt := 204) dL_law_32 (by decide) (by decide) rfl (by decide) ?_ (fun h4 => ?_)
    · refine C_aload_n (D := (mdL b L xs nm)) (pc' := 205) (x := kB C + l1) dL_law_204 rfl 1 rfl ?_
      refine C_aload_n (D := (mdL b L xs nm)) (pc' := 206) (x := b) dL_law_205 rfl 0 rfl ?_
      refine C_iload_n (D := (mdL b L xs nm)) (pc' := 207) (x := l3) dL_law_206 rfl 3 rfl ?_
      refine C_iconst (D := (mdL b L xs nm)) (pc' := 208) (v := 1) dL_law_207 rfl (by decide) ?_
      refine C_iadd (D := (mdL b L xs nm)) (pc' := 209) dL_law_208 rfl ?_
      refine C_sld (D := (mdL b L xs nm)) (pc' := 210) (xs := xs) (L := L) (hE b L xs nm) dL_law_209 rfl (fun x16 => ?_)
      refine C_callV (D := (mdL b L xs nm)) (pc' := 213) (p := l1) (st := []) [.int x16] v_L_31 (i_X7_feeds C l1 x16) dL_law_210 rfl rfl rfl (Nat.le_of_ble_eq_true rfl) (Nat.le_of_ble_eq_true rfl) (Nat.le_of_ble_eq_true rfl) (fun c17 => ?_)
      refine C_aload_n (D := (mdL b L xs nm)) (pc' := 214) (x := kB C + l2) dL_law_213 rfl 2 rfl ?_
      refine C_aload_n (D := (mdL b L xs nm)) (pc' := 215) (x := b) dL_law_214 rfl 0 rfl ?_
      refine C_iload_n (D := (mdL b L xs nm)) (pc' := 216) (x := l3) dL_law_215 rfl 3 rfl ?_
      refine C_iconst (D := (mdL b L xs nm)) (pc' := 217) (v := 1) dL_law_216 rfl (by decide) ?_
      refine C_iadd (D := (mdL b L xs nm)) (pc' := 218) dL_law_217 rfl ?_
      refine C_sld (D := (mdL b L xs nm)) (pc' := 219) (xs := xs) (L := L) (hE b L xs nm) dL_law_218 rfl (fun x18 => ?_)
      refine C_callV (D := (mdL b L xs nm)) (pc' := 222) (p := l2) (st := [.int c17]) [.int x18] v_L_34 (i_X8_feeds C l2 x18) dL_law_219 rfl rfl rfl (Nat.le_of_ble_eq_true rfl) (Nat.le_of_ble_eq_true rfl) (Nat.le_of_ble_eq_true rfl) (fun c19 => ?_)
      refine C_icmp_eq (D := (mdL b L xs nm)) (pc' := 225) (tgt := 666) dL_law_222 (by decide) rfl ?_ ?_
      · exact C_sub [0, 1, 2, 3] rfl (p_L_law_J666 C b L xs nm l1 l2 l3 k18 hk18)
      · refine C_iconst (D := (mdL b L xs nm)) (pc' := 226) (v := 0) dL_law_225 rfl (by decide) ?_
        exact C_mz
    refine C_tcase (D := (mdL b L xs nm)) (c := 5) 5 (by decide) (tgt := 227) dL_law_32 (by decide) (by decide) rfl (by decide) ?_ (fun h5 => ?_)
    · refine C_aload_n (D := (mdL b L xs nm)) (pc' := 228) (x := kB C + l1) dL_law_227 rfl 1 rfl ?_
      refine C_callV (D := (mdL b L xs nm)) (pc' := 231) (p := l1) (st := []) [] v_L_35 (i_X7_cuts C l1) dL_law_228 rfl rfl rfl (Nat.le_of_ble_eq_true rfl) (Nat.le_of_ble_eq_true rfl) (Nat.le_of_ble_eq_true rfl) (fun c20 => ?_)
      refine C_aload_n (D := (mdL b L xs nm)) (pc' := 232) (x := kB C + l2) dL_law_231 rfl 2 rfl ?_
      refine C_callV (D := (mdL b L xs nm)) (pc' := 235) (p := l2) (st := [.int c20]) [] v_L_38 (i_X8_cuts C l2) dL_law_232 rfl rfl rfl (Nat.le_of_ble_eq_true rfl) (Nat.le_of_ble_eq_true rfl) (Nat.le_of_ble_eq_true rfl) (fun c21 => ?_)
      refine C_icmp_eq (D := (mdL b L xs nm)) (pc' := 238) (tgt := 666) dL_law_235 (by decide) rfl ?_ ?_
      · exact C_sub [0, 1, 2, 3] rfl (p_L_law_J666 C b L xs nm l1 l2 l3 k18 hk18)
      · refine C_iconst (D := (mdL b L xs nm)) (pc' := 239) (v := 0) dL_law_238 rfl (by decide) ?_
        exact C_mz
    refine C_tcase (D := (mdL b L xs nm)) (c := 6) 6 (by decide) (tgt := 240) dL_law_32 (by decide) (by decide) rfl (by decide) ?_ (fun h6 => ?_)
    · refine C_aload_n (D := (mdL b L xs nm)) (pc' := 241) (x := kB C + l1) dL_law_240 rfl 1 rfl ?_
      refine C_callV (D := (mdL b L xs nm)) (pc' := 244) (p := l1) (st := []) [] v_L_39 (i_X7_undo C l1) dL_law_241 rfl rfl rfl (Nat.le_of_ble_eq_true rfl) (Nat.le_of_ble_eq_true rfl) (Nat.le_of_ble_eq_true rfl) (fun c22 => ?_)
      refine C_aload_n (D := (mdL b L xs nm)) (pc' := 245) (x := kB C + l2) dL_law_244 rfl 2 rfl ?_
      refine C_callV (D := (mdL b L xs nm)) (pc' := 248) (p := l2) (st := [.int c22]) [] v_L_42 (i_X8_undo C l2) dL_law_245 rfl rfl rfl (Nat.le_of_ble_eq_true rfl) (Nat.le_of_ble_eq_true rfl) (Nat.le_of_ble_eq_true rfl) (fun c23 => ?_)
      refine C_icmp_eq (D := (mdL b L xs nm)) (pc' := 251) (tgt := 666) dL_law_248 (by decide) rfl ?_ ?_
      · exact C_sub [0, 1, 2, 3] rfl (p_L_law_J666 C b L xs nm l1 l2 l3 k18 hk18)
      · refine C_iconst (D := (mdL b L xs nm)) (pc' := 252) (v := 0) dL_law_251 rfl (by decide) ?_
        exact C_mz
    refine C_tcase (D := (mdL b L xs nm)) (c := 7) 7 (by decide) (tgt := 253) dL_law_32 (by decide) (by decide) rfl (by decide) ?_ (fun h7 => ?_)
    · refine C_aload_n (D := (mdL b L xs nm)) (pc' := 254) (x := kB C + l1) dL_law_253 rfl 1 rfl ?_
      refine C_aload_n (D := (mdL b L xs nm)) (pc' := 255) (x := b) dL_law_254 rfl 0 rfl ?_
      refine C_iload_n (D := (mdL b L xs nm)) (pc' := 256) (x := l3) dL_law_255 rfl 3 rfl ?_
      refine C_iconst (D := (mdL b L xs nm)) (pc' := 257) (v := 1) dL_law_256 rfl (by decide) ?_
      refine C_iadd (D := (mdL b L xs nm)) (pc' := 258) dL_law_257 rfl ?_
      refine C_sld (D := (mdL b L xs nm)) (pc' := 259) (xs := xs) (L := L) (hE b L xs nm) dL_law_258 rfl (fun x24 => ?_)
      refine C_aload_n (D := (mdL b L xs nm)) (pc' := 260) (x := b) dL_law_259 rfl 0 rfl ?_
      refine C_iload_n (D := (mdL b L xs nm)) (pc' := 261) (x := l3) dL_law_260 rfl 3 rfl ?_
      refine C_iconst (D := (mdL b L xs nm)) (pc' := 262) (v := 2) dL_law_261 rfl (by decide) ?_
      refine C_iadd (D := (mdL b L xs nm)) (pc' := 263) dL_law_262 rfl ?_
      refine C_sld (D := (mdL b L xs nm)) (pc' := 264) (xs := xs) (L := L) (hE b L xs nm) dL_law_263 rfl (fun x25 => ?_)
      refine C_callV (D := (mdL b L xs nm)) (pc' := 267) (p := l1) (st := []) [.int x24, .int x25] v_L_43 (i_X7_query C l1 x24 x25) dL_law_264 rfl rfl rfl (Nat.le_of_ble_eq_true rfl) (Nat.le_of_ble_eq_true rfl) (Nat.le_of_ble_eq_true rfl) (fun c26 => ?_)
      refine C_aload_n (D := (mdL b L xs nm)) (pc' := 268) (x := kB C + l2) dL_law_267 rfl 2 rfl ?_
      refine C_aload_n (D := (mdL b L xs nm)) (pc' := 269) (x := b) dL_law_268 rfl 0 rfl ?_
      refine C_iload_n (D := (mdL b L xs nm)) (pc' := 270) (x := l3) dL_law_269 rfl 3 rfl ?_
      refine C_iconst (D := (mdL b L xs nm)) (pc' := 271) (v := 1) dL_law_270 rfl (by decide) ?_
      refine C_iadd (D := (mdL b L xs nm)) (pc' := 272) dL_law_271 rfl ?_
      refine C_sld (D := (mdL b L xs nm)) (pc' := 273) (xs := xs) (L := L) (hE b L xs nm) dL_law_272 rfl (fun x27 => ?_)
      refine C_aload_n (D := (mdL b L xs nm)) (pc' := 274) (x := b) dL_law_273 rfl 0 rfl ?_
      refine C_iload_n (D := (mdL b L xs nm)) (pc' := 275) (x := l3) dL_law_274 rfl 3 rfl ?_
      refine C_iconst (D := (mdL b L xs nm)) (pc' := 276) (v := 2) dL_law_275 rfl (by decide) ?_
      refine C_iadd (D := (mdL b L xs nm)) (pc' := 277) dL_law_276 rfl ?_
      refine C_sld (D := (mdL b L xs nm)) (pc' := 278) (xs := xs) (L := L) (hE b L xs nm) dL_law_277 rfl (fun x28 => ?_)
      refine C_callV (D := (mdL b L xs nm)) (pc' := 281) (p := l2) (st := [.int c26]) [.int x27, .int x28] v_L_47 (i_X8_query C l2 x27 x28) dL_law_278 rfl rfl rfl (Nat.le_of_ble_eq_true rfl) (Nat.le_of_ble_eq_true rfl) (Nat.le_of_ble_eq_true rfl) (fun c29 => ?_)
      refine C_icmp_eq (D := (mdL b L xs nm)) (pc' := 284) (tgt := 666) dL_law_281 (by decide) rfl ?_ ?_
      · exact C_sub [0, 1, 2, 3] rfl (p_L_law_J666 C b L xs nm l1 l2 l3 k18 hk18)
      · refine C_iconst (D := (mdL b L xs nm)) (pc' := 285) (v := 0) dL_law_284 rfl (by decide) ?_
        exact C_mz
    refine C_tcase (D := (mdL b L xs nm)) (c := 8) 8 (by decide) (tgt := 286) dL_law_32 (by decide) (by decide) rfl (by decide) ?_ (fun h8 => ?_)
    · refine C_aload_n (D := (mdL b L xs nm)) (pc' := 287) (x := kB C + l1) dL_law_286 rfl 1 rfl ?_
      refine C_aload_n (D := (mdL b L xs nm)) (pc' := 288) (x := b) dL_law_287 rfl 0 rfl ?_
      refine C_iload_n (D := (mdL b L xs nm)) (pc' := 289) (x := l3) dL_law_288 rfl 3 rfl ?_
      refine C_iconst (D := (mdL b L xs nm)) (pc' := 290) (v := 1) dL_law_289 rfl (by decide) ?_
      refine C_iadd (D := (mdL b L xs nm)) (pc' := 291) dL_law_290 rfl ?_
      refine C_sld (D := (mdL b L xs nm)) (pc' := 292) (xs := xs) (L := L) (hE b L xs nm) dL_law_291 rfl (fun x30 => ?_)
      refine C_aload_n (D := (mdL b L xs nm)) (pc' := 293) (x := b) dL_law_292 rfl 0 rfl ?_
      refine C_iload_n (D := (mdL b L xs nm)) (pc' := 294) (x := l3) dL_law_293 rfl 3 rfl ?_
      refine C_iconst (D := (mdL b L xs nm)) (pc' := 295) (v := 2) dL_law_294 rfl (by decide) ?_
      refine C_iadd (D := (mdL b L xs nm)) (pc' := 296) dL_law_295 rfl ?_
      refine C_sld (D := (mdL b L xs nm)) (pc' := 297) (xs := xs) (L := L) (hE b L xs nm) dL_law_296 rfl (fun x31 => ?_)
      refine C_aload_n (D := (mdL b L xs nm)) (pc' := 298) (x := b) dL_law_297 rfl 0 rfl ?_
      refine C_iload_n (D := (mdL b L xs nm)) (pc' := 299) (x := l3) dL_law_298 rfl 3 rfl ?_
      refine C_iconst (D := (mdL b L xs nm)) (pc' := 300) (v := 3) dL_law_299 rfl (by decide) ?_
      refine C_iadd (D := (mdL b L xs nm)) (pc' := 301) dL_law_300 rfl ?_
      refine C_sld (D := (mdL b L xs nm)) (pc' := 302) (xs := xs) (L := L) (hE b L xs nm) dL_law_301 rfl (fun x32 => ?_)
      refine C_callV (D := (mdL b L xs nm)) (pc' := 305) (p := l1) (st := []) [.int x30, .int x31, .int x32] v_L_48 (i_X7_part C l1 x30 x31 x32) dL_law_302 rfl rfl rfl (Nat.le_of_ble_eq_true rfl) (Nat.le_of_ble_eq_true rfl) (Nat.le_of_ble_eq_true rfl) (fun c33 => ?_)
      refine C_aload_n (D := (mdL b L xs nm)) (pc' := 306) (x := kB C + l2) dL_law_305 rfl 2 rfl ?_
      refine C_aload_n (D := (mdL b L xs nm)) (pc' := 307) (x := b) dL_law_306 rfl 0 rfl ?_
      refine C_iload_n (D := (mdL b L xs nm)) (pc' := 308) (x := l3) dL_law_307 rfl 3 rfl ?_
      refine C_iconst (D := (mdL b L xs nm)) (pc' := 309) (v := 1) dL_law_308 rfl (by decide) ?_
      refine C_iadd (D := (mdL b L xs nm)) (pc' := 310) dL_law_309 rfl ?_
      refine C_sld (D := (mdL b L xs nm)) (pc' := 311) (xs := xs) (L := L) (hE b L xs nm) dL_law_310 rfl (fun x34 => ?_)
      refine C_aload_n (D := (mdL b L xs nm)) (pc' := 312) (x := b) dL_law_311 rfl 0 rfl ?_
      refine C_iload_n (D := (mdL b L xs nm)) (pc' := 313) (x := l3) dL_law_312 rfl 3 rfl ?_
      refine C_iconst (D := (mdL b L xs nm)) (pc' := 314) (v := 2) dL_law_313 rfl (by decide) ?_
      refine C_iadd (D := (mdL b L xs nm)) (pc' := 315) dL_law_314 rfl ?_
      refine C_sld (D := (mdL b L xs nm)) (pc' := 316) (xs := xs) (L := L) (hE b L xs nm) dL_law_315 rfl (fun x35 => ?_)
      refine C_aload_n (D := (mdL b L xs nm)) (pc' := 317) (x := b) dL_law_316 rfl 0 rfl ?_
      refine C_iload_n (D := (mdL b L xs nm)) (pc' := 318) (x := l3) dL_law_317 rfl 3 rfl ?_
      refine C_iconst (D := (mdL b L xs nm)) (pc' := 319) (v := 3) dL_law_318 rfl (by decide) ?_
      refine C_iadd (D := (mdL b L xs nm)) (pc' := 320) dL_law_319 rfl ?_
      refine C_sld (D := (mdL b L xs nm)) (pc' := 321) (xs := xs) (L := L) (hE b L xs nm) dL_law_320 rfl (fun x36 => ?_)
      refine C_callV (D := (mdL b L xs nm)) (pc' := 324) (p := l2) (st := [.int c33]) [.int x34, .int x35, .int x36] v_L_52 (i_X8_part C l2 x34 x35 x36) dL_law_321 rfl rfl rfl (Nat.le_of_ble_eq_true rfl) (Nat.le_of_ble_eq_true rfl) (Nat.le_of_ble_eq_true rfl) (fun c37 => ?_)
      refine C_icmp_eq (D := (mdL b L xs nm)) (pc' := 327) (tgt := 666) dL_law_324 (by decide) rfl ?_ ?_
      · exact C_sub [0, 1, 2, 3] rfl (p_L_law_J666 C b L xs nm l1 l2 l3 k18 hk18)
      · refine C_iconst (D := (mdL b L xs nm)) (pc' := 328) (v := 0) dL_law_327 rfl (by decide) ?_
        exact C_mz
    refine C_tcase (D := (mdL b L xs nm)) (c := 9) 9 (by decide) (tgt := 329) dL_law_32 (by decide) (by decide) rfl (by decide) ?_ (fun h9 => ?_)
    · refine C_aload_n (D := (mdL b L xs nm)) (pc' := 330) (x := kB C + l1) dL_law_329 rfl 1 rfl ?_
      refine C_aload_n (D := (mdL b L xs nm)) (pc' := 331) (x := b) dL_law_330 rfl 0 rfl ?_
      refine C_iload_n (D := (mdL b L xs nm)) (pc' := 332) (x := l3) dL_law_331 rfl 3 rfl ?_
      refine C_iconst (D := (mdL b L xs nm)) (pc' := 333) (v := 1) dL_law_332 rfl (by decide) ?_
      refine C_iadd (D := (mdL b L xs nm)) (pc' := 334) dL_law_333 rfl ?_
      refine C_sld (D := (mdL b L xs nm)) (pc' := 335) (xs := xs) (L := L) (hE b L xs nm) dL_law_334 rfl (fun x38 => ?_)
      refine C_aload_n (D := (mdL b L xs nm)) (pc' := 336) (x := b) dL_law_335 rfl 0 rfl ?_
      refine C_iload_n (D := (mdL b L xs nm)) (pc' := 337) (x := l3) dL_law_336 rfl 3 rfl ?_
      refine C_iconst (D := (mdL b L xs nm)) (pc' := 338) (v := 2) dL_law_337 rfl (by decide) ?_
      refine C_iadd (D := (mdL b L xs nm)) (pc' := 339) dL_law_338 rfl ?_
      refine C_sld (D := (mdL b L xs nm)) (pc' := 340) (xs := xs) (L := L) (hE b L xs nm) dL_law_339 rfl (fun x39 => ?_)
      refine C_callV (D := (mdL b L xs nm)) (pc' := 343) (p := l1) (st := []) [.int x38, .int x39] v_L_53 (i_X7_shortest C l1 x38 x39) dL_law_340 rfl rfl rfl (Nat.le_of_ble_eq_true rfl) (Nat.le_of_ble_eq_true rfl) (Nat.le_of_ble_eq_true rfl) (fun c40 => ?_)
      refine C_aload_n (D := (mdL b L xs nm)) (pc' := 344) (x := kB C + l2) dL_law_343 rfl 2 rfl ?_
      refine C_aload_n (D := (mdL b L xs nm)) (pc' := 345) (x := b) dL_law_344 rfl 0 rfl ?_
      refine C_iload_n (D := (mdL b L xs nm)) (pc' := 346) (x := l3) dL_law_345 rfl 3 rfl ?_
      refine C_iconst (D := (mdL b L xs nm)) (pc' := 347) (v := 1) dL_law_346 rfl (by decide) ?_
      refine C_iadd (D := (mdL b L xs nm)) (pc' := 348) dL_law_347 rfl ?_
      refine C_sld (D := (mdL b L xs nm)) (pc' := 349) (xs := xs) (L := L) (hE b L xs nm) dL_law_348 rfl (fun x41 => ?_)
      refine C_aload_n (D := (mdL b L xs nm)) (pc' := 350) (x := b) dL_law_349 rfl 0 rfl ?_
      refine C_iload_n (D := (mdL b L xs nm)) (pc' := 351) (x := l3) dL_law_350 rfl 3 rfl ?_
      refine C_iconst (D := (mdL b L xs nm)) (pc' := 352) (v := 2) dL_law_351 rfl (by decide) ?_
      refine C_iadd (D := (mdL b L xs nm)) (pc' := 353) dL_law_352 rfl ?_
      refine C_sld (D := (mdL b L xs nm)) (pc' := 354) (xs := xs) (L := L) (hE b L xs nm) dL_law_353 rfl (fun x42 => ?_)
      refine C_callV (D := (mdL b L xs nm)) (pc' := 357) (p := l2) (st := [.int c40]) [.int x41, .int x42] v_L_56 (i_X8_shortest C l2 x41 x42) dL_law_354 rfl rfl rfl (Nat.le_of_ble_eq_true rfl) (Nat.le_of_ble_eq_true rfl) (Nat.le_of_ble_eq_true rfl) (fun c43 => ?_)
      refine C_icmp_eq (D := (mdL b L xs nm)) (pc' := 360) (tgt := 666) dL_law_357 (by decide) rfl ?_ ?_
      · exact C_sub [0, 1, 2, 3] rfl (p_L_law_J666 C b L xs nm l1 l2 l3 k18 hk18)
      · refine C_iconst (D := (mdL b L xs nm)) (pc' := 361) (v := 0) dL_law_360 rfl (by decide) ?_
        exact C_mz
    refine C_tcase (D := (mdL b L xs nm)) (c := 10) 10 (by decide) (tgt := 362) dL_law_32 (by decide) (by decide) rfl (by decide) ?_ (fun h10 => ?_)
    · refine C_aload_n (D := (mdL b L xs nm)) (pc' := 363) (x := kB C + l1) dL_law_362 rfl 1 rfl ?_
      refine C_aload_n (D := (mdL b L xs nm)) (pc' := 364) (x := b) dL_law_363 rfl 0 rfl ?_
      refine C_iload_n (D := (mdL b L xs nm)) (pc' := 365) (x := l3) dL_law_364 rfl 3 rfl ?_
      refine C_iconst (D := (mdL b L xs nm)) (pc' := 366) (v := 1) dL_law_365 rfl (by decide) ?_
      refine C_iadd (D := (mdL b L xs nm)) (pc' := 367) dL_law_366 rfl ?_
      refine C_sld (D := (mdL b L xs nm)) (pc' := 368) (xs := xs) (L := L) (hE b L xs nm) dL_law_367 rfl (fun x44 => ?_)
      refine C_callV (D := (mdL b L xs nm)) (pc' := 371) (p := l1) (st := []) [.int x44] v_L_57 (i_X7_more C l1 x44) dL_law_368 rfl rfl rfl (Nat.le_of_ble_eq_true rfl) (Nat.le_of_ble_eq_true rfl) (Nat.le_of_ble_eq_true rfl) (fun c45 => ?_)
      refine C_aload_n (D := (mdL b L xs nm)) (pc' := 372) (x := kB C + l2) dL_law_371 rfl 2 rfl ?_
      refine C_aload_n (D := (mdL b L xs nm)) (pc' := 373) (x := b) dL_law_372 rfl 0 rfl ?_
      refine C_iload_n (D := (mdL b L xs nm)) (pc' := 374) (x := l3) dL_law_373 rfl 3 rfl ?_
      refine C_iconst (D := (mdL b L xs nm)) (pc' := 375) (v := 1) dL_law_374 rfl (by decide) ?_
      refine C_iadd (D := (mdL b L xs nm)) (pc' := 376) dL_law_375 rfl ?_
      refine C_sld (D := (mdL b L xs nm)) (pc' := 377) (xs := xs) (L := L) (hE b L xs nm) dL_law_376 rfl (fun x46 => ?_)
      refine C_callV (D := (mdL b L xs nm)) (pc' := 380) (p := l2) (st := [.int c45]) [.int x46] v_L_60 (i_X8_more C l2 x46) dL_law_377 rfl rfl rfl (Nat.le_of_ble_eq_true rfl) (Nat.le_of_ble_eq_true rfl) (Nat.le_of_ble_eq_true rfl) (fun c47 => ?_)
      refine C_icmp_eq (D := (mdL b L xs nm)) (pc' := 383) (tgt := 666) dL_law_380 (by decide) rfl ?_ ?_
      · exact C_sub [0, 1, 2, 3] rfl (p_L_law_J666 C b L xs nm l1 l2 l3 k18 hk18)
      · refine C_iconst (D := (mdL b L xs nm)) (pc' := 384) (v := 0) dL_law_383 rfl (by decide) ?_
        exact C_mz
    refine C_tcase (D := (mdL b L xs nm)) (c := 11) 11 (by decide) (tgt := 385) dL_law_32 (by decide) (by decide) rfl (by decide) ?_ (fun h11 => ?_)
    · refine C_aload_n (D := (mdL b L xs nm)) (pc' := 386) (x := kB C + l1) dL_law_385 rfl 1 rfl ?_
      refine C_aload_n (D := (mdL b L xs nm)) (pc' := 387) (x := b) dL_law_386 rfl 0 rfl ?_
      refine C_iload_n (D := (mdL b L xs nm)) (pc' := 388) (x := l3) dL_law_387 rfl 3 rfl ?_
      refine C_iconst (D := (mdL b L xs nm)) (pc' := 389) (v := 1) dL_law_388 rfl (by decide) ?_
      refine C_iadd (D := (mdL b L xs nm)) (pc' := 390) dL_law_389 rfl ?_
      refine C_sld (D := (mdL b L xs nm)) (pc' := 391) (xs := xs) (L := L) (hE b L xs nm) dL_law_390 rfl (fun x48 => ?_)
      refine C_aload_n (D := (mdL b L xs nm)) (pc' := 392) (x := b) dL_law_391 rfl 0 rfl ?_
      refine C_iload_n (D := (mdL b L xs nm)) (pc' := 393) (x := l3) dL_law_392 rfl 3 rfl ?_
      refine C_iconst (D := (mdL b L xs nm)) (pc' := 394) (v := 2) dL_law_393 rfl (by decide) ?_
      refine C_iadd (D := (mdL b L xs nm)) (pc' := 395) dL_law_394 rfl ?_
      refine C_sld (D := (mdL b L xs nm)) (pc' := 396) (xs := xs) (L := L) (hE b L xs nm) dL_law_395 rfl (fun x49 => ?_)
      refine C_callV (D := (mdL b L xs nm)) (pc' := 399) (p := l1) (st := []) [.int x48, .int x49] v_L_61 (i_X7_many C l1 x48 x49) dL_law_396 rfl rfl rfl (Nat.le_of_ble_eq_true rfl) (Nat.le_of_ble_eq_true rfl) (Nat.le_of_ble_eq_true rfl) (fun c50 => ?_)
      refine C_aload_n (D := (mdL b L xs nm)) (pc' := 400) (x := kB C + l2) dL_law_399 rfl 2 rfl ?_
      refine C_aload_n (D := (mdL b L xs nm)) (pc' := 401) (x := b) dL_law_400 rfl 0 rfl ?_
      refine C_iload_n (D := (mdL b L xs nm)) (pc' := 402) (x := l3) dL_law_401 rfl 3 rfl ?_
      refine C_iconst (D := (mdL b L xs nm)) (pc' := 403) (v := 1) dL_law_402 rfl (by decide) ?_
      refine C_iadd (D := (mdL b L xs nm)) (pc' := 404) dL_law_403 rfl ?_
      refine C_sld (D := (mdL b L xs nm)) (pc' := 405) (xs := xs) (L := L) (hE b L xs nm) dL_law_404 rfl (fun x51 => ?_)
      refine C_aload_n (D := (mdL b L xs nm)) (pc' := 406) (x := b) dL_law_405 rfl 0 rfl ?_
      refine C_iload_n (D := (mdL b L xs nm)) (pc' := 407) (x := l3) dL_law_406 rfl 3 rfl ?_
      refine C_iconst (D := (mdL b L xs nm)) (pc' := 408) (v := 2) dL_law_407 rfl (by decide) ?_
      refine C_iadd (D := (mdL b L xs nm)) (pc' := 409) dL_law_408 rfl ?_
      refine C_sld (D := (mdL b L xs nm)) (pc' := 410) (xs := xs) (L := L) (hE b L xs nm) dL_law_409 rfl (fun x52 => ?_)
      refine C_callV (D := (mdL b L xs nm)) (pc' := 413) (p := l2) (st := [.long c50]) [.int x51, .int x52] v_L_65 (i_X8_many C l2 x51 x52) dL_law_410 rfl rfl rfl (Nat.le_of_ble_eq_true rfl) (Nat.le_of_ble_eq_true rfl) (Nat.le_of_ble_eq_true rfl) (fun c53 => ?_)
      refine C_lcmp (D := (mdL b L xs nm)) (pc' := 414) dL_law_413 rfl ?_
      refine C_if_eq (D := (mdL b L xs nm)) (pc' := 417) (tgt := 666) dL_law_414 (by decide) rfl ?_ ?_
      · exact C_sub [0, 1, 2, 3] rfl (p_L_law_J666 C b L xs nm l1 l2 l3 k18 hk18)
      · refine C_iconst (D := (mdL b L xs nm)) (pc' := 418) (v := 0) dL_law_417 rfl (by decide) ?_
        exact C_mz
    refine C_tcase (D := (mdL b L xs nm)) (c := 12) 12 (by decide) (tgt := 419) dL_law_32 (by decide) (by decide) rfl (by decide) ?_ (fun h12 => ?_)
    · refine C_aload_n (D := (mdL b L xs nm)) (pc' := 420) (x := kB C + l1) dL_law_419 rfl 1 rfl ?_
      refine C_aload_n (D := (mdL b L xs nm)) (pc' := 421) (x := b) dL_law_420 rfl 0 rfl ?_
      refine C_iload_n (D := (mdL b L xs nm)) (pc' := 422) (x := l3) dL_law_421 rfl 3 rfl ?_
      refine C_iconst (D := (mdL b L xs nm)) (pc' := 423) (v := 1) dL_law_422 rfl (by decide) ?_
      refine C_iadd (D := (mdL b L xs nm)) (pc' := 424) dL_law_423 rfl ?_
      refine C_sld (D := (mdL b L xs nm)) (pc' := 425) (xs := xs) (L := L) (hE b L xs nm) dL_law_424 rfl (fun x54 => ?_)
      refine C_aload_n (D := (mdL b L xs nm)) (pc' := 426) (x := b) dL_law_425 rfl 0 rfl ?_
      refine C_iload_n (D := (mdL b L xs nm)) (pc' := 427) (x := l3) dL_law_426 rfl 3 rfl ?_
      refine C_iconst (D := (mdL b L xs nm)) (pc' := 428) (v := 2) dL_law_427 rfl (by decide) ?_
      refine C_iadd (D := (mdL b L xs nm)) (pc' := 429) dL_law_428 rfl ?_
      refine C_sld (D := (mdL b L xs nm)) (pc' := 430) (xs := xs) (L := L) (hE b L xs nm) dL_law_429 rfl (fun x55 => ?_)
      refine C_callV (D := (mdL b L xs nm)) (pc' := 433) (p := l1) (st := []) [.int x54, .int x55] v_L_66 (i_X7_word C l1 x54 x55) dL_law_430 rfl rfl rfl (Nat.le_of_ble_eq_true rfl) (Nat.le_of_ble_eq_true rfl) (Nat.le_of_ble_eq_true rfl) (fun c56 => ?_)
      refine C_aload_n (D := (mdL b L xs nm)) (pc' := 434) (x := kB C + l2) dL_law_433 rfl 2 rfl ?_
      refine C_aload_n (D := (mdL b L xs nm)) (pc' := 435) (x := b) dL_law_434 rfl 0 rfl ?_
      refine C_iload_n (D := (mdL b L xs nm)) (pc' := 436) (x := l3) dL_law_435 rfl 3 rfl ?_
      refine C_iconst (D := (mdL b L xs nm)) (pc' := 437) (v := 1) dL_law_436 rfl (by decide) ?_
      refine C_iadd (D := (mdL b L xs nm)) (pc' := 438) dL_law_437 rfl ?_
      refine C_sld (D := (mdL b L xs nm)) (pc' := 439) (xs := xs) (L := L) (hE b L xs nm) dL_law_438 rfl (fun x57 => ?_)
      refine C_aload_n (D := (mdL b L xs nm)) (pc' := 440) (x := b) dL_law_439 rfl 0 rfl ?_
      refine C_iload_n (D := (mdL b L xs nm)) (pc' := 441) (x := l3) dL_law_440 rfl 3 rfl ?_
      refine C_iconst (D := (mdL b L xs nm)) (pc' := 442) (v := 2) dL_law_441 rfl (by decide) ?_
      refine C_iadd (D := (mdL b L xs nm)) (pc' := 443) dL_law_442 rfl ?_
      refine C_sld (D := (mdL b L xs nm)) (pc' := 444) (xs := xs) (L := L) (hE b L xs nm) dL_law_443 rfl (fun x58 => ?_)
      refine C_callV (D := (mdL b L xs nm)) (pc' := 447) (p := l2) (st := [.int c56]) [.int x57, .int x58] v_L_69 (i_X8_word C l2 x57 x58) dL_law_444 rfl rfl rfl (Nat.le_of_ble_eq_true rfl) (Nat.le_of_ble_eq_true rfl) (Nat.le_of_ble_eq_true rfl) (fun c59 => ?_)
      refine C_icmp_eq (D := (mdL b L xs nm)) (pc' := 450) (tgt := 666) dL_law_447 (by decide) rfl ?_ ?_
      · exact C_sub [0, 1, 2, 3] rfl (p_L_law_J666 C b L xs nm l1 l2 l3 k18 hk18)
      · refine C_iconst (D := (mdL b L xs nm)) (pc' := 451) (v := 0) dL_law_450 rfl (by decide) ?_
        exact C_mz
    refine C_tcase (D := (mdL b L xs nm)) (c := 13) 13 (by decide) (tgt := 452) dL_law_32 (by decide) (by decide) rfl (by decide) ?_ (fun h13 => ?_)
    · refine C_aload_n (D := (mdL b L xs nm)) (pc' := 453) (x := kB C + l1) dL_law_452 rfl 1 rfl ?_
      refine C_aload_n (D := (mdL b L xs nm)) (pc' := 454) (x := b) dL_law_453 rfl 0 rfl ?_
      refine C_iload_n (D := (mdL b L xs nm)) (pc' := 455) (x := l3) dL_law_454 rfl 3 rfl ?_
      refine C_iconst (D := (mdL b L xs nm)) (pc' := 456) (v := 1) dL_law_455 rfl (by decide) ?_
      refine C_iadd (D := (mdL b L xs nm)) (pc' := 457) dL_law_456 rfl ?_
      refine C_sld (D := (mdL b L xs nm)) (pc' := 458) (xs := xs) (L := L) (hE b L xs nm) dL_law_457 rfl (fun x60 => ?_)
      refine C_aload_n (D := (mdL b L xs nm)) (pc' := 459) (x := b) dL_law_458 rfl 0 rfl ?_
      refine C_iload_n (D := (mdL b L xs nm)) (pc' := 460) (x := l3) dL_law_459 rfl 3 rfl ?_
      refine C_iconst (D := (mdL b L xs nm)) (pc' := 461) (v := 2) dL_law_460 rfl (by decide) ?_
      refine C_iadd (D := (mdL b L xs nm)) (pc' := 462) dL_law_461 rfl ?_
      refine C_sld (D := (mdL b L xs nm)) (pc' := 463) (xs := xs) (L := L) (hE b L xs nm) dL_law_462 rfl (fun x61 => ?_)
      refine C_callV (D := (mdL b L xs nm)) (pc' := 466) (p := l1) (st := []) [.int x60, .int x61] v_L_70 (i_X7_hit C l1 x60 x61) dL_law_463 rfl rfl rfl (Nat.le_of_ble_eq_true rfl) (Nat.le_of_ble_eq_true rfl) (Nat.le_of_ble_eq_true rfl) (fun c62 => ?_)
      refine C_aload_n (D := (mdL b L xs nm)) (pc' := 467) (x := kB C + l2) dL_law_466 rfl 2 rfl ?_
      refine C_aload_n (D := (mdL b L xs nm)) (pc' := 468) (x := b) dL_law_467 rfl 0 rfl ?_
      refine C_iload_n (D := (mdL b L xs nm)) (pc' := 469) (x := l3) dL_law_468 rfl 3 rfl ?_
      refine C_iconst (D := (mdL b L xs nm)) (pc' := 470) (v := 1) dL_law_469 rfl (by decide) ?_
      refine C_iadd (D := (mdL b L xs nm)) (pc' := 471) dL_law_470 rfl ?_
      refine C_sld (D := (mdL b L xs nm)) (pc' := 472) (xs := xs) (L := L) (hE b L xs nm) dL_law_471 rfl (fun x63 => ?_)
      refine C_aload_n (D := (mdL b L xs nm)) (pc' := 473) (x := b) dL_law_472 rfl 0 rfl ?_
      refine C_iload_n (D := (mdL b L xs nm)) (pc' := 474) (x := l3) dL_law_473 rfl 3 rfl ?_
      refine C_iconst (D := (mdL b L xs nm)) (pc' := 475) (v := 2) dL_law_474 rfl (by decide) ?_
      refine C_iadd (D := (mdL b L xs nm)) (pc' := 476) dL_law_475 rfl ?_
      refine C_sld (D := (mdL b L xs nm)) (pc' := 477) (xs := xs) (L := L) (hE b L xs nm) dL_law_476 rfl (fun x64 => ?_)
      refine C_callV (D := (mdL b L xs nm)) (pc' := 480) (p := l2) (st := [.int c62]) [.int x63, .int x64] v_L_73 (i_X8_hit C l2 x63 x64) dL_law_477 rfl rfl rfl (Nat.le_of_ble_eq_true rfl) (Nat.le_of_ble_eq_true rfl) (Nat.le_of_ble_eq_true rfl) (fun c65 => ?_)
      refine C_icmp_eq (D := (mdL b L xs nm)) (pc' := 483) (tgt := 666) dL_law_480 (by decide) rfl ?_ ?_
      · exact C_sub [0, 1, 2, 3] rfl (p_L_law_J666 C b L xs nm l1 l2 l3 k18 hk18)
      · refine C_iconst (D := (mdL b L xs nm)) (pc' := 484) (v := 0) dL_law_483 rfl (by decide) ?_
        exact C_mz
    refine C_tcase (D := (mdL b L xs nm)) (c := 14) 14 (by decide) (tgt := 485) dL_law_32 (by decide) (by decide) rfl (by decide) ?_ (fun h14 => ?_)
    · refine C_aload_n (D := (mdL b L xs nm)) (pc' := 486) (x := kB C + l1) dL_law_485 rfl 1 rfl ?_
      refine C_aload_n (D := (mdL b L xs nm)) (pc' := 487) (x := b) dL_law_486 rfl 0 rfl ?_
      refine C_iload_n (D := (mdL b L xs nm)) (pc' := 488) (x := l3) dL_law_487 rfl 3 rfl ?_
      refine C_iconst (D := (mdL b L xs nm)) (pc' := 489) (v := 1) dL_law_488 rfl (by decide) ?_
      refine C_iadd (D := (mdL b L xs nm)) (pc' := 490) dL_law_489 rfl ?_
      refine C_sld (D := (mdL b L xs nm)) (pc' := 491) (xs := xs) (L := L) (hE b L xs nm) dL_law_490 rfl (fun x66 => ?_)
      refine C_aload_n (D := (mdL b L xs nm)) (pc' := 492) (x := b) dL_law_491 rfl 0 rfl ?_
      refine C_iload_n (D := (mdL b L xs nm)) (pc' := 493) (x := l3) dL_law_492 rfl 3 rfl ?_
      refine C_iconst (D := (mdL b L xs nm)) (pc' := 494) (v := 2) dL_law_493 rfl (by decide) ?_
      refine C_iadd (D := (mdL b L xs nm)) (pc' := 495) dL_law_494 rfl ?_
      refine C_sld (D := (mdL b L xs nm)) (pc' := 496) (xs := xs) (L := L) (hE b L xs nm) dL_law_495 rfl (fun x67 => ?_)
      refine C_callV (D := (mdL b L xs nm)) (pc' := 499) (p := l1) (st := []) [.int x66, .int x67] v_L_74 (i_X7_node C l1 x66 x67) dL_law_496 rfl rfl rfl (Nat.le_of_ble_eq_true rfl) (Nat.le_of_ble_eq_true rfl) (Nat.le_of_ble_eq_true rfl) (fun c68 => ?_)
      refine C_aload_n (D := (mdL b L xs nm)) (pc' := 500) (x := kB C + l2) dL_law_499 rfl 2 rfl ?_
      refine C_aload_n (D := (mdL b L xs nm)) (pc' := 501) (x := b) dL_law_500 rfl 0 rfl ?_
      refine C_iload_n (D := (mdL b L xs nm)) (pc' := 502) (x := l3) dL_law_501 rfl 3 rfl ?_
      refine C_iconst (D := (mdL b L xs nm)) (pc' := 503) (v := 1) dL_law_502 rfl (by decide) ?_
      refine C_iadd (D := (mdL b L xs nm)) (pc' := 504) dL_law_503 rfl ?_
      refine C_sld (D := (mdL b L xs nm)) (pc' := 505) (xs := xs) (L := L) (hE b L xs nm) dL_law_504 rfl (fun x69 => ?_)
      refine C_aload_n (D := (mdL b L xs nm)) (pc' := 506) (x := b) dL_law_505 rfl 0 rfl ?_
      refine C_iload_n (D := (mdL b L xs nm)) (pc' := 507) (x := l3) dL_law_506 rfl 3 rfl ?_
      refine C_iconst (D := (mdL b L xs nm)) (pc' := 508) (v := 2) dL_law_507 rfl (by decide) ?_
      refine C_iadd (D := (mdL b L xs nm)) (pc' := 509) dL_law_508 rfl ?_
      refine C_sld (D := (mdL b L xs nm)) (pc' := 510) (xs := xs) (L := L) (hE b L xs nm) dL_law_509 rfl (fun x70 => ?_)
      refine C_callV (D := (mdL b L xs nm)) (pc' := 513) (p := l2) (st := [.int c68]) [.int x69, .int x70] v_L_77 (i_X8_node C l2 x69 x70) dL_law_510 rfl rfl rfl (Nat.le_of_ble_eq_true rfl) (Nat.le_of_ble_eq_true rfl) (Nat.le_of_ble_eq_true rfl) (fun c71 => ?_)
      refine C_icmp_eq (D := (mdL b L xs nm)) (pc' := 516) (tgt := 666) dL_law_513 (by decide) rfl ?_ ?_
      · exact C_sub [0, 1, 2, 3] rfl (p_L_law_J666 C b L xs nm l1 l2 l3 k18 hk18)
      · refine C_iconst (D := (mdL b L xs nm)) (pc' := 517) (v := 0) dL_law_516 rfl (by decide) ?_
        exact C_mz
    refine C_tcase (D := (mdL b L xs nm)) (c := 15) 15 (by decide) (tgt := 518) dL_law_32 (by decide) (by decide) rfl (by decide) ?_ (fun h15 => ?_)
    · refine C_aload_n (D := (mdL b L xs nm)) (pc' := 519) (x := kB C + l1) dL_law_518 rfl 1 rfl ?_
      refine C_aload_n (D := (mdL b L xs nm)) (pc' := 520) (x := b) dL_law_519 rfl 0 rfl ?_
      refine C_iload_n (D := (mdL b L xs nm)) (pc' := 521) (x := l3) dL_law_520 rfl 3 rfl ?_
      refine C_iconst (D := (mdL b L xs nm)) (pc' := 522) (v := 1) dL_law_521 rfl (by decide) ?_
      refine C_iadd (D := (mdL b L xs nm)) (pc' := 523) dL_law_522 rfl ?_
      refine C_sld (D := (mdL b L xs nm)) (pc' := 524) (xs := xs) (L := L) (hE b L xs nm) dL_law_523 rfl (fun x72 => ?_)
      refine C_aload_n (D := (mdL b L xs nm)) (pc' := 525) (x := b) dL_law_524 rfl 0 rfl ?_
      refine C_iload_n (D := (mdL b L xs nm)) (pc' := 526) (x := l3) dL_law_525 rfl 3 rfl ?_
      refine C_iconst (D := (mdL b L xs nm)) (pc' := 527) (v := 2) dL_law_526 rfl (by decide) ?_
      refine C_iadd (D := (mdL b L xs nm)) (pc' := 528) dL_law_527 rfl ?_
      refine C_sld (D := (mdL b L xs nm)) (pc' := 529) (xs := xs) (L := L) (hE b L xs nm) dL_law_528 rfl (fun x73 => ?_)
      refine C_callV (D := (mdL b L xs nm)) (pc' := 532) (p := l1) (st := []) [.int x72, .int x73] v_L_78 (i_X7_next C l1 x72 x73) dL_law_529 rfl rfl rfl (Nat.le_of_ble_eq_true rfl) (Nat.le_of_ble_eq_true rfl) (Nat.le_of_ble_eq_true rfl) (fun c74 => ?_)
      refine C_aload_n (D := (mdL b L xs nm)) (pc' := 533) (x := kB C + l2) dL_law_532 rfl 2 rfl ?_
      refine C_aload_n (D := (mdL b L xs nm)) (pc' := 534) (x := b) dL_law_533 rfl 0 rfl ?_
      refine C_iload_n (D := (mdL b L xs nm)) (pc' := 535) (x := l3) dL_law_534 rfl 3 rfl ?_
      refine C_iconst (D := (mdL b L xs nm)) (pc' := 536) (v := 1) dL_law_535 rfl (by decide) ?_
      refine C_iadd (D := (mdL b L xs nm)) (pc' := 537) dL_law_536 rfl ?_
      refine C_sld (D := (mdL b L xs nm)) (pc' := 538) (xs := xs) (L := L) (hE b L xs nm) dL_law_537 rfl (fun x75 => ?_)
      refine C_aload_n (D := (mdL b L xs nm)) (pc' := 539) (x := b) dL_law_538 rfl 0 rfl ?_
      refine C_iload_n (D := (mdL b L xs nm)) (pc' := 540) (x := l3) dL_law_539 rfl 3 rfl ?_
      refine C_iconst (D := (mdL b L xs nm)) (pc' := 541) (v := 2) dL_law_540 rfl (by decide) ?_
      refine C_iadd (D := (mdL b L xs nm)) (pc' := 542) dL_law_541 rfl ?_
      refine C_sld (D := (mdL b L xs nm)) (pc' := 543) (xs := xs) (L := L) (hE b L xs nm) dL_law_542 rfl (fun x76 => ?_)
      refine C_callV (D := (mdL b L xs nm)) (pc' := 546) (p := l2) (st := [.int c74]) [.int x75, .int x76] v_L_81 (i_X8_next C l2 x75 x76) dL_law_543 rfl rfl rfl (Nat.le_of_ble_eq_true rfl) (Nat.le_of_ble_eq_true rfl) (Nat.le_of_ble_eq_true rfl) (fun c77 => ?_)
      refine C_icmp_eq (D := (mdL b L xs nm)) (pc' := 549) (tgt := 666) dL_law_546 (by decide) rfl ?_ ?_
      · exact C_sub [0, 1, 2, 3] rfl (p_L_law_J666 C b L xs nm l1 l2 l3 k18 hk18)
      · refine C_iconst (D := (mdL b L xs nm)) (pc' := 550) (v := 0) dL_law_549 rfl (by decide) ?_
        exact C_mz
    refine C_tcase (D := (mdL b L xs nm)) (c := 16) 16 (by decide) (tgt := 551) dL_law_32 (by decide) (by decide) rfl (by decide) ?_ (fun h16 => ?_)
    · refine C_aload_n (D := (mdL b L xs nm)) (pc' := 552) (x := kB C + l1) dL_law_551 rfl 1 rfl ?_
      refine C_aload_n (D := (mdL b L xs nm)) (pc' := 553) (x := b) dL_law_552 rfl 0 rfl ?_
      refine C_iload_n (D := (mdL b L xs nm)) (pc' := 554) (x := l3) dL_law_553 rfl 3 rfl ?_
      refine C_iconst (D := (mdL b L xs nm)) (pc' := 555) (v := 1) dL_law_554 rfl (by decide) ?_
      refine C_iadd (D := (mdL b L xs nm)) (pc' := 556) dL_law_555 rfl ?_
      refine C_sld (D := (mdL b L xs nm)) (pc' := 557) (xs := xs) (L := L) (hE b L xs nm) dL_law_556 rfl (fun x78 => ?_)
      refine C_callV (D := (mdL b L xs nm)) (pc' := 560) (p := l1) (st := []) [.int x78] v_L_82 (i_X7_letter C l1 x78) dL_law_557 rfl rfl rfl (Nat.le_of_ble_eq_true rfl) (Nat.le_of_ble_eq_true rfl) (Nat.le_of_ble_eq_true rfl) (fun c79 => ?_)
      refine C_aload_n (D := (mdL b L xs nm)) (pc' := 561) (x := kB C + l2) dL_law_560 rfl 2 rfl ?_
      refine C_aload_n (D := (mdL b L xs nm)) (pc' := 562) (x := b) dL_law_561 rfl 0 rfl ?_
      refine C_iload_n (D := (mdL b L xs nm)) (pc' := 563) (x := l3) dL_law_562 rfl 3 rfl ?_
      refine C_iconst (D := (mdL b L xs nm)) (pc' := 564) (v := 1) dL_law_563 rfl (by decide) ?_
      refine C_iadd (D := (mdL b L xs nm)) (pc' := 565) dL_law_564 rfl ?_
      refine C_sld (D := (mdL b L xs nm)) (pc' := 566) (xs := xs) (L := L) (hE b L xs nm) dL_law_565 rfl (fun x80 => ?_)
      refine C_callV (D := (mdL b L xs nm)) (pc' := 569) (p := l2) (st := [.int c79]) [.int x80] v_L_85 (i_X8_letter C l2 x80) dL_law_566 rfl rfl rfl (Nat.le_of_ble_eq_true rfl) (Nat.le_of_ble_eq_true rfl) (Nat.le_of_ble_eq_true rfl) (fun c81 => ?_)
      refine C_icmp_eq (D := (mdL b L xs nm)) (pc' := 572) (tgt := 666) dL_law_569 (by decide) rfl ?_ ?_
      · exact C_sub [0, 1, 2, 3] rfl (p_L_law_J666 C b L xs nm l1 l2 l3 k18 hk18)
      · refine C_iconst (D := (mdL b L xs nm)) (pc' := 573) (v := 0) dL_law_572 rfl (by decide) ?_
        exact C_mz
    refine C_tcase (D := (mdL b L xs nm)) (c := 17) 17 (by decide) (tgt := 574) dL_law_32 (by decide) (by decide) rfl (by decide) ?_ (fun h17 => ?_)
    · refine C_aload_n (D := (mdL b L xs nm)) (pc' := 575) (x := kB C + l1) dL_law_574 rfl 1 rfl ?_
      refine C_aload_n (D := (mdL b L xs nm)) (pc' := 576) (x := b) dL_law_575 rfl 0 rfl ?_
      refine C_iload_n (D := (mdL b L xs nm)) (pc' := 577) (x := l3) dL_law_576 rfl 3 rfl ?_
      refine C_iconst (D := (mdL b L xs nm)) (pc' := 578) (v := 1) dL_law_577 rfl (by decide) ?_
      refine C_iadd (D := (mdL b L xs nm)) (pc' := 579) dL_law_578 rfl ?_
      refine C_sld (D := (mdL b L xs nm)) (pc' := 580) (xs := xs) (L := L) (hE b L xs nm) dL_law_579 rfl (fun x82 => ?_)
      refine C_callV (D := (mdL b L xs nm)) (pc' := 583) (p := l1) (st := []) [.int x82] v_L_86 (i_X7_now C l1 x82) dL_law_580 rfl rfl rfl (Nat.le_of_ble_eq_true rfl) (Nat.le_of_ble_eq_true rfl) (Nat.le_of_ble_eq_true rfl) (fun c83 => ?_)
      refine C_aload_n (D := (mdL b L xs nm)) (pc' := 584) (x := kB C + l2) dL_law_583 rfl 2 rfl ?_
      refine C_aload_n (D := (mdL b L xs nm)) (pc' := 585) (x := b) dL_law_584 rfl 0 rfl ?_
      refine C_iload_n (D := (mdL b L xs nm)) (pc' := 586) (x := l3) dL_law_585 rfl 3 rfl ?_
      refine C_iconst (D := (mdL b L xs nm)) (pc' := 587) (v := 1) dL_law_586 rfl (by decide) ?_
      refine C_iadd (D := (mdL b L xs nm)) (pc' := 588) dL_law_587 rfl ?_
      refine C_sld (D := (mdL b L xs nm)) (pc' := 589) (xs := xs) (L := L) (hE b L xs nm) dL_law_588 rfl (fun x84 => ?_)
      refine C_callV (D := (mdL b L xs nm)) (pc' := 592) (p := l2) (st := [.int c83]) [.int x84] v_L_89 (i_X8_now C l2 x84) dL_law_589 rfl rfl rfl (Nat.le_of_ble_eq_true rfl) (Nat.le_of_ble_eq_true rfl) (Nat.le_of_ble_eq_true rfl) (fun c85 => ?_)
      refine C_icmp_eq (D := (mdL b L xs nm)) (pc' := 595) (tgt := 666) dL_law_592 (by decide) rfl ?_ ?_
      · exact C_sub [0, 1, 2, 3] rfl (p_L_law_J666 C b L xs nm l1 l2 l3 k18 hk18)
      · refine C_iconst (D := (mdL b L xs nm)) (pc' := 596) (v := 0) dL_law_595 rfl (by decide) ?_
        exact C_mz
    refine C_tcase (D := (mdL b L xs nm)) (c := 18) 18 (by decide) (tgt := 597) dL_law_32 (by decide) (by decide) rfl (by decide) ?_ (fun h18 => ?_)
    · refine C_aload_n (D := (mdL b L xs nm)) (pc' := 598) (x := kB C + l1) dL_law_597 rfl 1 rfl ?_
      refine C_aload_n (D := (mdL b L xs nm)) (pc' := 599) (x := b) dL_law_598 rfl 0 rfl ?_
      refine C_iload_n (D := (mdL b L xs nm)) (pc' := 600) (x := l3) dL_law_599 rfl 3 rfl ?_
      refine C_iconst (D := (mdL b L xs nm)) (pc' := 601) (v := 1) dL_law_600 rfl (by decide) ?_
      refine C_iadd (D := (mdL b L xs nm)) (pc' := 602) dL_law_601 rfl ?_
      refine C_sld (D := (mdL b L xs nm)) (pc' := 603) (xs := xs) (L := L) (hE b L xs nm) dL_law_602 rfl (fun x86 => ?_)
      refine C_callV (D := (mdL b L xs nm)) (pc' := 606) (p := l1) (st := []) [.int x86] v_L_90 (i_X7_keep C l1 x86) dL_law_603 rfl rfl rfl (Nat.le_of_ble_eq_true rfl) (Nat.le_of_ble_eq_true rfl) (Nat.le_of_ble_eq_true rfl) (fun c87 => ?_)
      refine C_aload_n (D := (mdL b L xs nm)) (pc' := 607) (x := kB C + l2) dL_law_606 rfl 2 rfl ?_
      refine C_aload_n (D := (mdL b L xs nm)) (pc' := 608) (x := b) dL_law_607 rfl 0 rfl ?_
      refine C_iload_n (D := (mdL b L xs nm)) (pc' := 609) (x := l3) dL_law_608 rfl 3 rfl ?_
      refine C_iconst (D := (mdL b L xs nm)) (pc' := 610) (v := 1) dL_law_609 rfl (by decide) ?_
      refine C_iadd (D := (mdL b L xs nm)) (pc' := 611) dL_law_610 rfl ?_
      refine C_sld (D := (mdL b L xs nm)) (pc' := 612) (xs := xs) (L := L) (hE b L xs nm) dL_law_611 rfl (fun x88 => ?_)
      refine C_callV (D := (mdL b L xs nm)) (pc' := 615) (p := l2) (st := [.int c87]) [.int x88] v_L_93 (i_X8_keep C l2 x88) dL_law_612 rfl rfl rfl (Nat.le_of_ble_eq_true rfl) (Nat.le_of_ble_eq_true rfl) (Nat.le_of_ble_eq_true rfl) (fun c89 => ?_)
      refine C_icmp_eq (D := (mdL b L xs nm)) (pc' := 618) (tgt := 666) dL_law_615 (by decide) rfl ?_ ?_
      · exact C_sub [0, 1, 2, 3] rfl (p_L_law_J666 C b L xs nm l1 l2 l3 k18 hk18)
      · refine C_iconst (D := (mdL b L xs nm)) (pc' := 619) (v := 0) dL_law_618 rfl (by decide) ?_
        exact C_mz
    refine C_tcase (D := (mdL b L xs nm)) (c := 19) 19 (by decide) (tgt := 620) dL_law_32 (by decide) (by decide) rfl (by decide) ?_ (fun h19 => ?_)
    · refine C_aload_n (D := (mdL b L xs nm)) (pc' := 621) (x := kB C + l1) dL_law_620 rfl 1 rfl ?_
      refine C_aload_n (D := (mdL b L xs nm)) (pc' := 622) (x := b) dL_law_621 rfl 0 rfl ?_
      refine C_iload_n (D := (mdL b L xs nm)) (pc' := 623) (x := l3) dL_law_622 rfl 3 rfl ?_
      refine C_iconst (D := (mdL b L xs nm)) (pc' := 624) (v := 1) dL_law_623 rfl (by decide) ?_
      refine C_iadd (D := (mdL b L xs nm)) (pc' := 625) dL_law_624 rfl ?_
      refine C_sld (D := (mdL b L xs nm)) (pc' := 626) (xs := xs) (L := L) (hE b L xs nm) dL_law_625 rfl (fun x90 => ?_)
      refine C_callV (D := (mdL b L xs nm)) (pc' := 629) (p := l1) (st := []) [.int x90] v_L_94 (i_X7_back C l1 x90) dL_law_626 rfl rfl rfl (Nat.le_of_ble_eq_true rfl) (Nat.le_of_ble_eq_true rfl) (Nat.le_of_ble_eq_true rfl) (fun c91 => ?_)
      refine C_aload_n (D := (mdL b L xs nm)) (pc' := 630) (x := kB C + l2) dL_law_629 rfl 2 rfl ?_
      refine C_aload_n (D := (mdL b L xs nm)) (pc' := 631) (x := b) dL_law_630 rfl 0 rfl ?_
      refine C_iload_n (D := (mdL b L xs nm)) (pc' := 632) (x := l3) dL_law_631 rfl 3 rfl ?_
      refine C_iconst (D := (mdL b L xs nm)) (pc' := 633) (v := 1) dL_law_632 rfl (by decide) ?_
      refine C_iadd (D := (mdL b L xs nm)) (pc' := 634) dL_law_633 rfl ?_
      refine C_sld (D := (mdL b L xs nm)) (pc' := 635) (xs := xs) (L := L) (hE b L xs nm) dL_law_634 rfl (fun x92 => ?_)
      refine C_callV (D := (mdL b L xs nm)) (pc' := 638) (p := l2) (st := [.int c91]) [.int x92] v_L_97 (i_X8_back C l2 x92) dL_law_635 rfl rfl rfl (Nat.le_of_ble_eq_true rfl) (Nat.le_of_ble_eq_true rfl) (Nat.le_of_ble_eq_true rfl) (fun c93 => ?_)
      refine C_icmp_eq (D := (mdL b L xs nm)) (pc' := 641) (tgt := 666) dL_law_638 (by decide) rfl ?_ ?_
      · exact C_sub [0, 1, 2, 3] rfl (p_L_law_J666 C b L xs nm l1 l2 l3 k18 hk18)
      · refine C_iconst (D := (mdL b L xs nm)) (pc' := 642) (v := 0) dL_law_641 rfl (by decide) ?_
        exact C_mz
    refine C_tcase (D := (mdL b L xs nm)) (c := 20) 20 (by decide) (tgt := 643) dL_law_32 (by decide) (by decide) rfl (by decide) ?_ (fun h20 => ?_)
    · refine C_aload_n (D := (mdL b L xs nm)) (pc' := 644) (x := kB C + l1) dL_law_643 rfl 1 rfl ?_
      refine C_aload_n (D := (mdL b L xs nm)) (pc' := 645) (x := b) dL_law_644 rfl 0 rfl ?_
      refine C_iload_n (D := (mdL b L xs nm)) (pc' := 646) (x := l3) dL_law_645 rfl 3 rfl ?_
      refine C_iconst (D := (mdL b L xs nm)) (pc' := 647) (v := 1) dL_law_646 rfl (by decide) ?_
      refine C_iadd (D := (mdL b L xs nm)) (pc' := 648) dL_law_647 rfl ?_
      refine C_sld (D := (mdL b L xs nm)) (pc' := 649) (xs := xs) (L := L) (hE b L xs nm) dL_law_648 rfl (fun x94 => ?_)
      refine C_callV (D := (mdL b L xs nm)) (pc' := 652) (p := l1) (st := []) [.int x94] v_L_98 (i_X7_count C l1 x94) dL_law_649 rfl rfl rfl (Nat.le_of_ble_eq_true rfl) (Nat.le_of_ble_eq_true rfl) (Nat.le_of_ble_eq_true rfl) (fun c95 => ?_)
      refine C_aload_n (D := (mdL b L xs nm)) (pc' := 653) (x := kB C + l2) dL_law_652 rfl 2 rfl ?_
      refine C_aload_n (D := (mdL b L xs nm)) (pc' := 654) (x := b) dL_law_653 rfl 0 rfl ?_
      refine C_iload_n (D := (mdL b L xs nm)) (pc' := 655) (x := l3) dL_law_654 rfl 3 rfl ?_
      refine C_iconst (D := (mdL b L xs nm)) (pc' := 656) (v := 1) dL_law_655 rfl (by decide) ?_
      refine C_iadd (D := (mdL b L xs nm)) (pc' := 657) dL_law_656 rfl ?_
      refine C_sld (D := (mdL b L xs nm)) (pc' := 658) (xs := xs) (L := L) (hE b L xs nm) dL_law_657 rfl (fun x96 => ?_)
      refine C_callV (D := (mdL b L xs nm)) (pc' := 661) (p := l2) (st := [.int c95]) [.int x96] v_L_101 (i_X8_count C l2 x96) dL_law_658 rfl rfl rfl (Nat.le_of_ble_eq_true rfl) (Nat.le_of_ble_eq_true rfl) (Nat.le_of_ble_eq_true rfl) (fun c97 => ?_)
      refine C_icmp_eq (D := (mdL b L xs nm)) (pc' := 664) (tgt := 666) dL_law_661 (by decide) rfl ?_ ?_
      · exact C_sub [0, 1, 2, 3] rfl (p_L_law_J666 C b L xs nm l1 l2 l3 k18 hk18)
      · refine C_iconst (D := (mdL b L xs nm)) (pc' := 665) (v := 0) dL_law_664 rfl (by decide) ?_
        exact C_mz
    refine C_tdef (D := (mdL b L xs nm)) (tgt := 666) dL_law_32 (by omega) (by decide) ?_
    exact C_sub [0, 1, 2, 3] rfl (p_L_law_J666 C b L xs nm l1 l2 l3 k18 hk18)
set_option maxHeartbeats 4000000 in
set_option maxRecDepth 20000 in
theorem i_L_law (C : KX) (b L : Nat) (xs : Nat → Int32) (nm : String) : Cmp C (mdL b L xs nm) ZL 0 [(0, .ref b)] [] (m_L_law L xs) := by
  unfold m_L_law
  refine C_new (D := (mdL b L xs nm)) (pc' := 3) n_L_7 dL_law_0 rfl (fun p1 => ?_)
  refine C_dup (D := (mdL b L xs nm)) (pc' := 4) dL_law_3 rfl rfl ?_
  refine C_callI (D := (mdL b L xs nm)) (pc' := 7) (p := p1) (st := [.ref (kB C + p1)]) [] i_L_9 (i_X7_init C p1) dL_law_4 rfl rfl rfl (Nat.le_of_ble_eq_true rfl) (Nat.le_of_ble_eq_true rfl) (Nat.le_of_ble_eq_true rfl) (fun _ => ?_)
  refine C_astore_n (D := (mdL b L xs nm)) (pc' := 8) (ls' := [(1, .ref (kB C + p1)), (0, .ref b)]) dL_law_7 rfl rfl (Nat.le_of_ble_eq_true rfl) rfl ?_
  refine C_new (D := (mdL b L xs nm)) (pc' := 11) n_L_10 dL_law_8 rfl (fun p2 => ?_)
  refine C_dup (D := (mdL b L xs nm)) (pc' := 12) dL_law_11 rfl rfl ?_
  refine C_callI (D := (mdL b L xs nm)) (pc' := 15) (p := p2) (st := [.ref (kB C + p2)]) [] i_L_12 (i_X8_init C p2) dL_law_12 rfl rfl rfl (Nat.le_of_ble_eq_true rfl) (Nat.le_of_ble_eq_true rfl) (Nat.le_of_ble_eq_true rfl) (fun _ => ?_)
  refine C_astore_n (D := (mdL b L xs nm)) (pc' := 16) (ls' := [(2, .ref (kB C + p2)), (1, .ref (kB C + p1)), (0, .ref b)]) dL_law_15 rfl rfl (Nat.le_of_ble_eq_true rfl) rfl ?_
  refine C_iconst (D := (mdL b L xs nm)) (pc' := 17) (v := 0) dL_law_16 rfl (by decide) ?_
  refine C_istore_n (D := (mdL b L xs nm)) (pc' := 18) (ls' := [(3, .int 0), (2, .ref (kB C + p2)), (1, .ref (kB C + p1)), (0, .ref b)]) dL_law_17 rfl rfl (Nat.le_of_ble_eq_true rfl) rfl ?_
  exact C_sub [3, 2, 1, 0] rfl (C_loop (fun s => [(0, .ref b), (1, .ref (kB C + p1)), (2, .ref (kB C + p2)), (3, .int s)]) (fun k hk s => p_L_law_B18 C b L xs nm p1 p2  k hk s) FU 0)
