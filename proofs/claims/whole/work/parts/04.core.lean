/-! ===== the words that every method has; the context; the judgement 'Cmp': the bytecode from here on does what a computation over the abstract memory says ===== -/
def TB : List Cond := lw_tbl.filter goodWord
theorem tb_mem {w : Cond} (i : Nat) (h : lw_tbl[i]? = some w) (hg : goodWord w = true) : w ∈ TB := List.mem_filter.mpr ⟨List.mem_of_getElem? h, hg⟩
theorem tb_good : ∀ w ∈ TB, (w.onTables && w.keeps) = true ∨ ∃ ty, w = .arrayClass ty := fun _ h => good_of_word (List.mem_filter.mp h).2
def isNest : Cond → Bool
  | .methodLinkNest .. => true
  | _ => false
def NW : List Cond := lw_tbl.filter isNest
theorem nw_mem {w : Cond} (i : Nat) (h : lw_tbl[i]? = some w) (hg : isNest w = true) : w ∈ NW := List.mem_filter.mpr ⟨List.mem_of_getElem? h, hg⟩
/-- the launch, the classes' numbers and slots, the classes of int[], long[], boolean[], Held[], the first address -/
abbrev KX : Type := Launch × va_G × ClassId × ClassId × ClassId × ClassId × Nat
abbrev kL (C : KX) : Launch := C.1
abbrev kD (C : KX) : va_G := C.2.1
abbrev kI (C : KX) : ClassId := C.2.2.1
abbrev kJ (C : KX) : ClassId := C.2.2.2.1
abbrev kZ (C : KX) : ClassId := C.2.2.2.2.1
abbrev kH (C : KX) : ClassId := C.2.2.2.2.2.1
abbrev kB (C : KX) : Nat := C.2.2.2.2.2.2
def kT (C : KX) : List (ClassId × FieldType) := [(kI C, .int), (kJ C, .long), (kZ C, .boolean), (kH C, .object RX1)]
def KK (C : KX) (U : State) : Prop := va_K (kD C) vwCl (kT C) U ∧ va_AO RX1 U ∧ ∀ w ∈ NW, va_Nw w U
theorem KK.warm {C : KX} {s U : State} (hW : s.WarmedH U.vm) (h : KK C s) : KK C U := by
  refine ⟨va_K.moved hW.alike h.1, va_AO.moved hW.alike h.2.1, fun w hw => ?_⟩
  have h1 := h.2.2 w hw
  have h2 := (List.mem_filter.mp hw).2
  revert h1 h2
  cases w <;> intro h1 h2 <;> first | exact va_Nw.warmM hW h1 | (simp [isNest] at h2)
theorem KK.calling {C : KX} {U : State} (g : JFrame) (mk : MethodId) (a : Array Value) (h : KK C U) : KK C (U.calling g mk a) := by
  refine ⟨va_K.moved (u := U) (U := U.calling g mk a) (Vm.Alike.refl U.vm) h.1, va_AO.moved (u := U) (U := U.calling g mk a) (Vm.Alike.refl U.vm) h.2.1, fun w hw => ?_⟩
  have h1 := h.2.2 w hw
  have h2 := (List.mem_filter.mp hw).2
  revert h1 h2
  cases w <;> intro h1 h2 <;> first | exact va_Nw.same (u := U) (U := U.calling g mk a) rfl rfl h1 | (simp [isNest] at h2)
def rfv (b : Nat) (r : Option Nat) : Value := va_rf (r.map (fun q => b + q))
def fv (C : KX) (w : Wd) (p ci k : Nat) : Value := if rk ci k = true then rfv (kB C) (w.2.2.1 p k) else .int (w.1 p k)
def Hat (C : KX) (w : Wd) (p : Nat) (q : Nat × Nat) (H : Heap) : Prop :=
  if q.1 = 100 then H[kB C + p]? = some (vp_cell (kI C) (q.2, .inl (w.1 p)))
  else if q.1 = 101 then H[kB C + p]? = some (vp_cell (kJ C) (q.2, .inr (.inl (w.2.1 p))))
  else if q.1 = 102 then H[kB C + p]? = some (vp_cell (kZ C) (q.2, .inl (w.1 p)))
  else if q.1 = 103 then H[kB C + p]? = some (vp_cell (kH C) (q.2, .inr (.inr (.inr (.inr (fun k => (w.2.2.1 p k).map (fun q => kB C + q)))))))
  else t_OB (kB C + p) ((kD C).1 q.1) q.2 ((kD C).2 q.1) H (fun k => fv C w p q.1 k)
def Hld (C : KX) (w : Wd) (H : Heap) : Prop := H.size = kB C + cnt w ∧ ∀ (p : Nat) (q : Nat × Nat), (wS w)[p]? = some q → Hat C w p q H
theorem Hat.kept {C : KX} {w w' : Wd} {p : Nat} {q : Nat × Nat} {H H1 : Heap} (h : Hat C w p q H) (hq : H1[kB C + p]? = H[kB C + p]?) (e1 : w'.1 p = w.1 p) (e2 : w'.2.1 p = w.2.1 p) (e3 : w'.2.2.1 p = w.2.2.1 p) : Hat C w' p q H1 := by
  unfold Hat at h ⊢
  by_cases c1 : q.1 = 100
  · rw [if_pos c1] at h ⊢; rw [hq, e1]; exact h
  · rw [if_neg c1] at h ⊢
    by_cases c2 : q.1 = 101
    · rw [if_pos c2] at h ⊢; rw [hq, e2]; exact h
    · rw [if_neg c2] at h ⊢
      by_cases c3 : q.1 = 102
      · rw [if_pos c3] at h ⊢; rw [hq, e1]; exact h
      · rw [if_neg c3] at h ⊢
        by_cases c4 : q.1 = 103
        · rw [if_pos c4] at h ⊢; rw [hq, e3]; exact h
        · rw [if_neg c4] at h ⊢
          refine (h.kept hq).to (fun k _ => ?_)
          unfold fv
          rw [e1, e3]
theorem Hld.lt {C : KX} {w : Wd} {H : Heap} (h : Hld C w H) {p : Nat} {q : Nat × Nat} (hp : (wS w)[p]? = some q) : kB C + p < H.size := by
  rw [h.1]
  have := (List.getElem?_eq_some_iff.mp hp).1
  unfold cnt
  omega
/-- one cell is written -/
theorem Hld.set {C : KX} {w w' : Wd} {H H1 : Heap} (h : Hld C w H) {p : Nat} {q : Nat × Nat} (hp : (wS w)[p]? = some q) (hS : wS w' = wS w) (hz : H1.size = H.size) (ho : ∀ a, a ≠ kB C + p → H1[a]? = H[a]?)
    (e1 : ∀ x, x ≠ p → w'.1 x = w.1 x) (e2 : ∀ x, x ≠ p → w'.2.1 x = w.2.1 x) (e3 : ∀ x, x ≠ p → w'.2.2.1 x = w.2.2.1 x) (hn : Hat C w' p q H1) : Hld C w' H1 := by
  refine ⟨by rw [hz, h.1]; unfold cnt; rw [hS], fun x y hx => ?_⟩
  rw [hS] at hx
  by_cases hxp : x = p
  · subst hxp
    cases hx.symm.trans hp
    exact hn
  · exact (h.2 x y hx).kept (ho _ (by omega)) (e1 x hxp) (e2 x hxp) (e3 x hxp)
/-- one cell comes -/
theorem Hld.push {C : KX} {w : Wd} {H H1 : Heap} {q : Nat × Nat} (h : Hld C w H) (hz : H1.size = H.size + 1) (ho : ∀ a, a < H.size → H1[a]? = H[a]?) (hn : Hat C (wNew w q) (cnt w) q H1) : Hld C (wNew w q) H1 := by
  refine ⟨?_, fun x y hx => ?_⟩
  · rw [hz, h.1]; unfold cnt wNew wS; simp; omega
  · have hx' : (wS w ++ [q])[x]? = some y := hx
    by_cases hl : x < (wS w).length
    · rw [List.getElem?_append_left hl] at hx'
      have hne : x ≠ cnt w := by unfold cnt; omega
      refine (h.2 x y hx').kept (ho _ (h.lt hx')) ?_ ?_ ?_
      · funext j; simp [wNew, uA, hne]
      · funext j; simp [wNew, uA, hne]
      · funext j; simp [wNew, uA, hne]
    · rw [List.getElem?_append_right (by omega)] at hx'
      have hz1 : x - (wS w).length < 1 := (List.getElem?_eq_some_iff.mp hx').1
      have hxe : x = cnt w := by unfold cnt; omega
      subst hxe
      rw [show cnt w - (wS w).length = 0 by unfold cnt; omega] at hx'
      cases hx'
      exact hn
/-- context, machine, environment, room, entry state, method, arguments, what lies below, the method's data and code, cells and slots at the entry -/
abbrev CX : Type := KX × Program × Env × Room × State × MethodId × Array Value × List Frame × Method × Code × Nat × Nat
abbrev xC (X : CX) : KX := X.1
abbrev xP (X : CX) : Program := X.2.1
abbrev xE (X : CX) : Env := X.2.2.1
abbrev xR (X : CX) : Room := X.2.2.2.1
abbrev xS (X : CX) : State := X.2.2.2.2.1
abbrev xM (X : CX) : MethodId := X.2.2.2.2.2.1
abbrev xA (X : CX) : Array Value := X.2.2.2.2.2.2.1
abbrev xB (X : CX) : List Frame := X.2.2.2.2.2.2.2.1
abbrev xT (X : CX) : Method := X.2.2.2.2.2.2.2.2.1
abbrev xO (X : CX) : Code := X.2.2.2.2.2.2.2.2.2.1
abbrev x0 (X : CX) : Nat := X.2.2.2.2.2.2.2.2.2.2.1
abbrev x1 (X : CX) : Nat := X.2.2.2.2.2.2.2.2.2.2.2
abbrev WX (X : CX) (H : Heap) (locs : List Loc) (cells slots : Nat) (Q : State → Prop) (g : JFrame) : Prop := W (xP X) (kL (xC X)) (xE X) (xR X) (xS X) (xM X) (xA X) (xB X) (xT X) (xO X) H locs cells slots Q g
def Stb (X : CX) (w : Wd) (H : Heap) (locs : List Loc) (cells slots : Nat) : Prop := Hld (xC X) w H ∧ (∀ q : Nat, q < kB (xC X) → H[q]? = (xS X).heap[q]?) ∧ (∀ q ∈ locs, kB (xC X) ≤ q.base) ∧ x0 X + cells = cnt w ∧ x1 X + slots = slt w
def Fit (X : CX) (w : Wd) : Prop := cnt w ≤ x0 X + (xR X).cells ∧ slt w ≤ x1 X + (xR X).slots
/-- a method: its code, class, locals, what it returns, its name, the frames and words below it -/
abbrev MD : Type := ByteArray × String × Nat × Option FieldType × String × Nat × Nat × (CX → Prop)
abbrev dC (D : MD) : ByteArray := D.1
abbrev dO (D : MD) : String := D.2.1
abbrev dN (D : MD) : Nat := D.2.2.1
abbrev dR (D : MD) : Option FieldType := D.2.2.2.1
abbrev dM (D : MD) : String := D.2.2.2.2.1
abbrev dF (D : MD) : Nat := D.2.2.2.2.2.1
abbrev dL (D : MD) : Nat := D.2.2.2.2.2.2.1
abbrev dE (D : MD) : CX → Prop := D.2.2.2.2.2.2.2
def eT (_ : CX) : Prop := True
def CGood (X : CX) (D : MD) : Prop :=
  (xP X).tables.exec = Jvm.exec ∧ (xO X).code = dC D ∧ (xT X).sig.returnType = dR D ∧ (xT X).locks = false ∧ (xO X).maxLocals = dN D ∧ (xS X).vm.findClass (dO D) = some (xM X).cls ∧ (∀ w ∈ TB, w.before (xA X) (xS X) = true) ∧ KK (xC X) (xS X) ∧ (xT X).name = dM D ∧ (xR X).frames = dF D ∧ (xR X).locals = dL D ∧ dE D X
abbrev ZT (α : Type) : Type := CX → α → Wd → State → Prop
def Cmp {α : Type} (C : KX) (D : MD) (Z : ZT α) (pc : Nat) (ls : List (Nat × Value)) (st : List Value) (m : Mo α) : Prop :=
  ∀ (w : Wd) (r : α) (w' : Wd), m w = some (r, w') → (cnt w ≤ cnt w' ∧ slt w ≤ slt w') ∧
    ∀ X : CX, CGood X D → xC X = C → Fit X w' → ∀ (H : Heap) (locs : List Loc) (lsA : Array Slot) (cells slots : Nat), Stb X w H locs cells slots → lv_has lsA (dN D) ls → WX X H locs cells slots (Z X r w') (F0 (xM X) pc lsA st)
def Qo (C : KX) (ro : Option Value) (w' : Wd) : Array Value → State → Outcome → State → Prop := fun _ st o t => o = .returned ro ∧ Hld C w' t.heap ∧ ∀ q : Nat, q < kB C → t.heap[q]? = st.heap[q]?
def QM {α : Type} (rv : α → Option Value) : ZT α := fun X r w' => MQ (xB X) (Qo (xC X) (rv r) w') (xA X) (xS X) (xR X).cells (xR X).slots (fun q => kB (xC X) ≤ q)
/-- the contract of a method: it does what a computation says, where that comes to an end -/
def Imp {α : Type} (C : KX) (y : MethodName) (cc : ByteArray) (maxL : Nat) (rt : Option FieldType) (F L : Nat) (rv : α → Option Value) (args : List Value) (f : Mo α) : Prop :=
  ∀ (w : Wd) (r : α) (w' : Wd), f w = some (r, w') → (cnt w ≤ cnt w' ∧ slt w ≤ slt w') ∧
    Met (kL C) y (Cond.code y cc maxL rt :: TB) ({ frames := F, cells := cnt w' - cnt w, slots := slt w' - slt w, locals := L }) (va_Pc args (fun U => KK C U ∧ Hld C w U.heap)) (Qo C (rv r) w') (cnt w' - cnt w) (slt w' - slt w) (fun q => kB C ≤ q)
theorem Imp.of {α : Type} {C : KX} {y : MethodName} {cc : ByteArray} {maxL : Nat} {rt : Option FieldType} {F L : Nat} {rv : α → Option Value} {args : List Value} {f : Mo α} (hy : plainName y.cls = true) (hla : (lg_sl args).length ≤ maxL) (ls : List (Nat × Value)) (hls : lv_args 0 args = ls)
    (body : Cmp C (cc, y.cls, maxL, rt, y.name, F, L, eT) (QM rv) 0 ls [] f) : Imp C y cc maxL rt F L rv args f := by
  intro w r w' hf
  obtain ⟨hmono, hbody⟩ := body w r w' hf
  refine ⟨hmono, ?_⟩
  refine Met.ofW (cc := cc) (maxL := maxL) (ret := rt) hy rfl ?_
  intro p e s m a below meth c s₁ B hml hv
  obtain ⟨rfl, hKK, hH⟩ := hv
  have hts := atoms_spec (ws := Cond.code y cc maxL rt :: TB) B.pre
  have hl := lv_entry args (n := maxL) hla
  rw [hls] at hl
  rw [lg_entry_eq]
  refine hbody (C, p, e, _, s, m, args.toArray, below, meth, c, cnt w, slt w) ⟨B.exec, B.bytes, B.returns, B.notSynchronized, hml, findClass_of_methodNamed B.named, fun w hw => hts w (List.mem_cons_of_mem _ hw), hKK, (name_of_methodNamed B.named B.method).1, rfl, rfl, trivial⟩ rfl ?_ s.heap [] _ 0 0 ⟨hH, fun _ _ => rfl, (fun _ h => absurd h List.not_mem_nil), rfl, rfl⟩ hl
  unfold Fit
  show cnt w' ≤ cnt w + (cnt w' - cnt w) ∧ slt w' ≤ slt w + (slt w' - slt w)
  omega
