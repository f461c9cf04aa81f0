/-! ===== rules: instructions that touch locals and the operand stack alone ===== -/
section RulesA
variable {α : Type} {C : KX} {D : MD} {Z : ZT α} {pc pc' : Nat} {ls ls' : List (Nat × Value)} {st st' : List Value} {m A B : Mo α}
theorem C_pure (h : ∀ X : CX, CGood X D → ∀ (H : Heap) (locs : List Loc) (lsA : Array Slot) (cells slots : Nat) (Q : State → Prop), lv_has lsA (dN D) ls → (∀ lsB : Array Slot, lv_has lsB (dN D) ls' → WX X H locs cells slots Q (F0 (xM X) pc' lsB st')) → WX X H locs cells slots Q (F0 (xM X) pc lsA st)) (k : Cmp C D Z pc' ls' st' m) : Cmp C D Z pc ls st m := by
  intro w r w' hm
  obtain ⟨h1, h2⟩ := k w r w' hm
  refine ⟨h1, fun X G hC hF H locs lsA cells slots hS hl => ?_⟩
  exact h X G H locs lsA cells slots _ hl (fun lsB hB => h2 X G hC hF H locs lsB cells slots hS hB)
theorem C_sub (ks : List Nat) (hs : lv_pick ls ks = ls') (k : Cmp C D Z pc ls' st m) : Cmp C D Z pc ls st m :=
  C_pure (fun X G H locs lsA cells slots Q hl kk => kk lsA (lv_sub hl ks hs)) k
theorem C_mz : Cmp C D Z pc ls st mz := by
  intro w r w' hm
  cases hm
theorem C_ite {c : Prop} [Decidable c] (kt : Cmp C D Z pc ls st A) (kf : Cmp C D Z pc ls st B) : Cmp C D Z pc ls st (if c then A else B) := by
  by_cases hc : c
  · rw [if_pos hc]; exact kt
  · rw [if_neg hc]; exact kf

theorem C_iconst {n : Int} {v : Int32} (hd : decode (dC D) pc = .ok (.iconst n, 1)) (hp : pc + 1 = pc') (hv : Int32.ofInt n = v) (k : Cmp C D Z pc' ls (.int v :: st) m) : Cmp C D Z pc ls (st) m := by
  subst hp
  exact C_pure (fun X G H locs lsA cells slots Q hl kk => lv_iconst G.1 G.2.1 hd hv (kk lsA hl)) k

theorem C_bipush {n : Int} {v : Int32} (hd : decode (dC D) pc = .ok (.bipush n, 2)) (hp : pc + 2 = pc') (hv : (Int8.ofInt n).toInt32 = v) (k : Cmp C D Z pc' ls (.int v :: st) m) : Cmp C D Z pc ls (st) m := by
  subst hp
  exact C_pure (fun X G H locs lsA cells slots Q hl kk => lv_bipush G.1 G.2.1 hd hv (kk lsA hl)) k

theorem C_sipush {n : Int} {v : Int32} (hd : decode (dC D) pc = .ok (.sipush n, 3)) (hp : pc + 3 = pc') (hv : (Int16.ofInt n).toInt32 = v) (k : Cmp C D Z pc' ls (.int v :: st) m) : Cmp C D Z pc ls (st) m := by
  subst hp
  exact C_pure (fun X G H locs lsA cells slots Q hl kk => lv_sipush G.1 G.2.1 hd hv (kk lsA hl)) k

theorem C_lconst {n : Fin 2} {v : Int64} (hd : decode (dC D) pc = .ok (.lconst n, 1)) (hp : pc + 1 = pc') (hv : Int64.ofNat (n : Nat) = v) (k : Cmp C D Z pc' ls (.long v :: st) m) : Cmp C D Z pc ls (st) m := by
  subst hp
  exact C_pure (fun X G H locs lsA cells slots Q hl kk => lv_lconst G.1 G.2.1 hd hv (kk lsA hl)) k

theorem C_ldc {idx : Nat} {v : Int32} (hw : Cond.constant (dO D) idx v ∈ TB) (hd : decode (dC D) pc = .ok (.ldc idx, 2)) (hp : pc + 2 = pc') (k : Cmp C D Z pc' ls (.int v :: st) m) : Cmp C D Z pc ls st m := by
  subst hp
  exact C_pure (fun X G H locs lsA cells slots Q hl kk => lv_ldc G.1 G.2.1 G.2.2.2.2.2.1 (G.2.2.2.2.2.2.1 _ hw) hd (kk lsA hl)) k
theorem C_ldc2 {idx : Nat} {v : Int64} (hw : Cond.constantLong (dO D) idx v ∈ TB) (hd : decode (dC D) pc = .ok (.ldc2_w idx, 3)) (hp : pc + 3 = pc') (k : Cmp C D Z pc' ls (.long v :: st) m) : Cmp C D Z pc ls st m := by
  subst hp
  exact C_pure (fun X G H locs lsA cells slots Q hl kk => lv_ldc2 G.1 G.2.1 G.2.2.2.2.2.1 (G.2.2.2.2.2.2.1 _ hw) hd (kk lsA hl)) k

theorem C_iload_n {k : Fin 4} {x : Int32} (hd : decode (dC D) pc = .ok (.iload_n k, 1)) (hp : pc + 1 = pc') (j : Nat) (hj : ls[j]? = some ((k : Nat), .int x)) (kk : Cmp C D Z pc' ls (.int x :: st) m) : Cmp C D Z pc ls st m := by
  subst hp
  exact C_pure (fun X G H locs lsA cells slots Q hl kk => lv_iload_n G.1 G.2.1 hd rfl (lv_at hl j hj) (kk lsA hl)) kk
theorem C_iload {i : Nat} {x : Int32} (hd : decode (dC D) pc = .ok (.iload i, 2)) (hp : pc + 2 = pc') (j : Nat) (hj : ls[j]? = some (i, .int x)) (kk : Cmp C D Z pc' ls (.int x :: st) m) : Cmp C D Z pc ls st m := by
  subst hp
  exact C_pure (fun X G H locs lsA cells slots Q hl kk => lv_iload G.1 G.2.1 hd (lv_at hl j hj) (kk lsA hl)) kk

theorem C_istore_n {k : Fin 4} {i : Nat} {x : Int32} (hd : decode (dC D) pc = .ok (.istore_n k, 1)) (hp : pc + 1 = pc') (hi : (k : Nat) = i) (hb : i < dN D) (hs : (i, Value.int x) :: ls.filter (fun q => !(q.1 == i) && !(q.1 + 1 == i && q.2.category == 2)) = ls') (kk : Cmp C D Z pc' ls' st m) : Cmp C D Z pc ls (.int x :: st) m := by
  subst hp
  exact C_pure (fun X G H locs lsA cells slots Q hl kk => lv_istore_n G.1 G.2.1 hd hi hl hb hs (fun lsB hB => kk lsB hB)) kk
theorem C_istore {i : Nat} {x : Int32} (hd : decode (dC D) pc = .ok (.istore i, 2)) (hp : pc + 2 = pc') (hb : i < dN D) (hs : (i, Value.int x) :: ls.filter (fun q => !(q.1 == i) && !(q.1 + 1 == i && q.2.category == 2)) = ls') (kk : Cmp C D Z pc' ls' st m) : Cmp C D Z pc ls (.int x :: st) m := by
  subst hp
  exact C_pure (fun X G H locs lsA cells slots Q hl kk => lv_istore G.1 G.2.1 hd hl hb hs (fun lsB hB => kk lsB hB)) kk

theorem C_lload_n {k : Fin 4} {x : Int64} (hd : decode (dC D) pc = .ok (.lload_n k, 1)) (hp : pc + 1 = pc') (j : Nat) (hj : ls[j]? = some ((k : Nat), .long x)) (kk : Cmp C D Z pc' ls (.long x :: st) m) : Cmp C D Z pc ls st m := by
  subst hp
  exact C_pure (fun X G H locs lsA cells slots Q hl kk => lv_lload_n G.1 G.2.1 hd rfl (lv_at hl j hj) (kk lsA hl)) kk
theorem C_lload {i : Nat} {x : Int64} (hd : decode (dC D) pc = .ok (.lload i, 2)) (hp : pc + 2 = pc') (j : Nat) (hj : ls[j]? = some (i, .long x)) (kk : Cmp C D Z pc' ls (.long x :: st) m) : Cmp C D Z pc ls st m := by
  subst hp
  exact C_pure (fun X G H locs lsA cells slots Q hl kk => lv_lload G.1 G.2.1 hd (lv_at hl j hj) (kk lsA hl)) kk

theorem C_lstore_n {k : Fin 4} {i : Nat} {x : Int64} (hd : decode (dC D) pc = .ok (.lstore_n k, 1)) (hp : pc + 1 = pc') (hi : (k : Nat) = i) (hb : i + 1 < dN D) (hs : (i, Value.long x) :: ls.filter (fun q => !(q.1 == i) && (!(q.1 == i + 1) && !(q.1 + 1 == i && q.2.category == 2))) = ls') (kk : Cmp C D Z pc' ls' st m) : Cmp C D Z pc ls (.long x :: st) m := by
  subst hp
  exact C_pure (fun X G H locs lsA cells slots Q hl kk => lv_lstore_n G.1 G.2.1 hd hi hl hb hs (fun lsB hB => kk lsB hB)) kk
theorem C_lstore {i : Nat} {x : Int64} (hd : decode (dC D) pc = .ok (.lstore i, 2)) (hp : pc + 2 = pc') (hb : i + 1 < dN D) (hs : (i, Value.long x) :: ls.filter (fun q => !(q.1 == i) && (!(q.1 == i + 1) && !(q.1 + 1 == i && q.2.category == 2))) = ls') (kk : Cmp C D Z pc' ls' st m) : Cmp C D Z pc ls (.long x :: st) m := by
  subst hp
  exact C_pure (fun X G H locs lsA cells slots Q hl kk => lv_lstore G.1 G.2.1 hd hl hb hs (fun lsB hB => kk lsB hB)) kk

theorem C_aload_n {k : Fin 4} {x : Nat} (hd : decode (dC D) pc = .ok (.aload_n k, 1)) (hp : pc + 1 = pc') (j : Nat) (hj : ls[j]? = some ((k : Nat), .ref x)) (kk : Cmp C D Z pc' ls (.ref x :: st) m) : Cmp C D Z pc ls st m := by
  subst hp
  exact C_pure (fun X G H locs lsA cells slots Q hl kk => lv_aload_n G.1 G.2.1 hd rfl (lv_at hl j hj) (kk lsA hl)) kk
theorem C_aload {i : Nat} {x : Nat} (hd : decode (dC D) pc = .ok (.aload i, 2)) (hp : pc + 2 = pc') (j : Nat) (hj : ls[j]? = some (i, .ref x)) (kk : Cmp C D Z pc' ls (.ref x :: st) m) : Cmp C D Z pc ls st m := by
  subst hp
  exact C_pure (fun X G H locs lsA cells slots Q hl kk => lv_aload G.1 G.2.1 hd (lv_at hl j hj) (kk lsA hl)) kk

theorem C_astore_n {k : Fin 4} {i : Nat} {x : Nat} (hd : decode (dC D) pc = .ok (.astore_n k, 1)) (hp : pc + 1 = pc') (hi : (k : Nat) = i) (hb : i < dN D) (hs : (i, Value.ref x) :: ls.filter (fun q => !(q.1 == i) && !(q.1 + 1 == i && q.2.category == 2)) = ls') (kk : Cmp C D Z pc' ls' st m) : Cmp C D Z pc ls (.ref x :: st) m := by
  subst hp
  exact C_pure (fun X G H locs lsA cells slots Q hl kk => lv_astore_n G.1 G.2.1 hd hi hl hb hs (fun lsB hB => kk lsB hB)) kk
theorem C_astore {i : Nat} {x : Nat} (hd : decode (dC D) pc = .ok (.astore i, 2)) (hp : pc + 2 = pc') (hb : i < dN D) (hs : (i, Value.ref x) :: ls.filter (fun q => !(q.1 == i) && !(q.1 + 1 == i && q.2.category == 2)) = ls') (kk : Cmp C D Z pc' ls' st m) : Cmp C D Z pc ls (.ref x :: st) m := by
  subst hp
  exact C_pure (fun X G H locs lsA cells slots Q hl kk => lv_astore G.1 G.2.1 hd hl hb hs (fun lsB hB => kk lsB hB)) kk

theorem C_aload_nN {k : Fin 4} (hd : decode (dC D) pc = .ok (.aload_n k, 1)) (hp : pc + 1 = pc') (j : Nat) (hj : ls[j]? = some ((k : Nat), .null)) (kk : Cmp C D Z pc' ls (.null :: st) m) : Cmp C D Z pc ls st m := by
  subst hp
  exact C_pure (fun X G H locs lsA cells slots Q hl kk => lv_aload_nN G.1 G.2.1 hd rfl (lv_at hl j hj) (kk lsA hl)) kk
theorem C_astore_nN {k : Fin 4} {i : Nat} (hd : decode (dC D) pc = .ok (.astore_n k, 1)) (hp : pc + 1 = pc') (hi : (k : Nat) = i) (hb : i < dN D) (hs : (i, Value.null) :: ls.filter (fun q => !(q.1 == i) && !(q.1 + 1 == i && q.2.category == 2)) = ls') (kk : Cmp C D Z pc' ls' st m) : Cmp C D Z pc ls (.null :: st) m := by
  subst hp
  exact C_pure (fun X G H locs lsA cells slots Q hl kk => lv_astore_nN G.1 G.2.1 hd hi hl hb hs (fun lsB hB => kk lsB hB)) kk
theorem C_iinc {i j : Nat} {n : Int} {x v : Int32} (hd : decode (dC D) pc = .ok (.iinc i n, 3)) (hp : pc + 3 = pc') (hj : ls[j]? = some (i, .int x)) (hv : x + Int32.ofInt n = v) (hb : i < dN D) (hs : (i, Value.int v) :: ls.filter (fun q => !(q.1 == i) && !(q.1 + 1 == i && q.2.category == 2)) = ls') (kk : Cmp C D Z pc' ls' st m) : Cmp C D Z pc ls st m := by
  subst hp
  exact C_pure (fun X G H locs lsA cells slots Q hl kk => lv_iinc G.1 G.2.1 hd hl hj hv hb hs (fun lsB hB => kk lsB hB)) kk

theorem C_iadd {x y : Int32} (hd : decode (dC D) pc = .ok (.iadd, 1)) (hp : pc + 1 = pc') (k : Cmp C D Z pc' ls (.int (x + y) :: st) m) : Cmp C D Z pc ls (.int y :: .int x :: st) m := by
  subst hp
  exact C_pure (fun X G H locs lsA cells slots Q hl kk => lv_iadd G.1 G.2.1 hd (kk lsA hl)) k

theorem C_isub {x y : Int32} (hd : decode (dC D) pc = .ok (.isub, 1)) (hp : pc + 1 = pc') (k : Cmp C D Z pc' ls (.int (x - y) :: st) m) : Cmp C D Z pc ls (.int y :: .int x :: st) m := by
  subst hp
  exact C_pure (fun X G H locs lsA cells slots Q hl kk => lv_isub G.1 G.2.1 hd (kk lsA hl)) k

theorem C_imul {x y : Int32} (hd : decode (dC D) pc = .ok (.imul, 1)) (hp : pc + 1 = pc') (k : Cmp C D Z pc' ls (.int (x * y) :: st) m) : Cmp C D Z pc ls (.int y :: .int x :: st) m := by
  subst hp
  exact C_pure (fun X G H locs lsA cells slots Q hl kk => lv_imul G.1 G.2.1 hd (kk lsA hl)) k

theorem C_iand {x y : Int32} (hd : decode (dC D) pc = .ok (.iand, 1)) (hp : pc + 1 = pc') (k : Cmp C D Z pc' ls (.int (x &&& y) :: st) m) : Cmp C D Z pc ls (.int y :: .int x :: st) m := by
  subst hp
  exact C_pure (fun X G H locs lsA cells slots Q hl kk => lv_iand G.1 G.2.1 hd (kk lsA hl)) k

theorem C_ior {x y : Int32} (hd : decode (dC D) pc = .ok (.ior, 1)) (hp : pc + 1 = pc') (k : Cmp C D Z pc' ls (.int (x ||| y) :: st) m) : Cmp C D Z pc ls (.int y :: .int x :: st) m := by
  subst hp
  exact C_pure (fun X G H locs lsA cells slots Q hl kk => lv_ior G.1 G.2.1 hd (kk lsA hl)) k

theorem C_ixor {x y : Int32} (hd : decode (dC D) pc = .ok (.ixor, 1)) (hp : pc + 1 = pc') (k : Cmp C D Z pc' ls (.int (x ^^^ y) :: st) m) : Cmp C D Z pc ls (.int y :: .int x :: st) m := by
  subst hp
  exact C_pure (fun X G H locs lsA cells slots Q hl kk => lv_ixor G.1 G.2.1 hd (kk lsA hl)) k

theorem C_ishl {x y : Int32} (hd : decode (dC D) pc = .ok (.ishl, 1)) (hp : pc + 1 = pc') (k : Cmp C D Z pc' ls (.int (x <<< (y &&& 31)) :: st) m) : Cmp C D Z pc ls (.int y :: .int x :: st) m := by
  subst hp
  exact C_pure (fun X G H locs lsA cells slots Q hl kk => lv_ishl G.1 G.2.1 hd (kk lsA hl)) k

theorem C_ishr {x y : Int32} (hd : decode (dC D) pc = .ok (.ishr, 1)) (hp : pc + 1 = pc') (k : Cmp C D Z pc' ls (.int (x >>> (y &&& 31)) :: st) m) : Cmp C D Z pc ls (.int y :: .int x :: st) m := by
  subst hp
  exact C_pure (fun X G H locs lsA cells slots Q hl kk => lv_ishr G.1 G.2.1 hd (kk lsA hl)) k

theorem C_idiv {x y : Int32} (hd : decode (dC D) pc = .ok (.idiv, 1)) (hp : pc + 1 = pc') (hne : ¬ y = 0) (k : Cmp C D Z pc' ls (.int (x / y) :: st) m) : Cmp C D Z pc ls (.int y :: .int x :: st) m := by
  subst hp
  exact C_pure (fun X G H locs lsA cells slots Q hl kk => lv_idiv G.1 G.2.1 hd hne (kk lsA hl)) k

theorem C_irem {x y : Int32} (hd : decode (dC D) pc = .ok (.irem, 1)) (hp : pc + 1 = pc') (hne : ¬ y = 0) (k : Cmp C D Z pc' ls (.int (x - x / y * y) :: st) m) : Cmp C D Z pc ls (.int y :: .int x :: st) m := by
  subst hp
  exact C_pure (fun X G H locs lsA cells slots Q hl kk => lv_irem G.1 G.2.1 hd hne (kk lsA hl)) k

theorem C_ladd {x y : Int64} (hd : decode (dC D) pc = .ok (.ladd, 1)) (hp : pc + 1 = pc') (k : Cmp C D Z pc' ls (.long (x + y) :: st) m) : Cmp C D Z pc ls (.long y :: .long x :: st) m := by
  subst hp
  exact C_pure (fun X G H locs lsA cells slots Q hl kk => lv_ladd G.1 G.2.1 hd (kk lsA hl)) k

theorem C_lsub {x y : Int64} (hd : decode (dC D) pc = .ok (.lsub, 1)) (hp : pc + 1 = pc') (k : Cmp C D Z pc' ls (.long (x - y) :: st) m) : Cmp C D Z pc ls (.long y :: .long x :: st) m := by
  subst hp
  exact C_pure (fun X G H locs lsA cells slots Q hl kk => lv_lsub G.1 G.2.1 hd (kk lsA hl)) k

theorem C_lmul {x y : Int64} (hd : decode (dC D) pc = .ok (.lmul, 1)) (hp : pc + 1 = pc') (k : Cmp C D Z pc' ls (.long (x * y) :: st) m) : Cmp C D Z pc ls (.long y :: .long x :: st) m := by
  subst hp
  exact C_pure (fun X G H locs lsA cells slots Q hl kk => lv_lmul G.1 G.2.1 hd (kk lsA hl)) k

theorem C_land {x y : Int64} (hd : decode (dC D) pc = .ok (.land, 1)) (hp : pc + 1 = pc') (k : Cmp C D Z pc' ls (.long (x &&& y) :: st) m) : Cmp C D Z pc ls (.long y :: .long x :: st) m := by
  subst hp
  exact C_pure (fun X G H locs lsA cells slots Q hl kk => lv_land G.1 G.2.1 hd (kk lsA hl)) k

theorem C_lor {x y : Int64} (hd : decode (dC D) pc = .ok (.lor, 1)) (hp : pc + 1 = pc') (k : Cmp C D Z pc' ls (.long (x ||| y) :: st) m) : Cmp C D Z pc ls (.long y :: .long x :: st) m := by
  subst hp
  exact C_pure (fun X G H locs lsA cells slots Q hl kk => lv_lor G.1 G.2.1 hd (kk lsA hl)) k

theorem C_ldiv {x y : Int64} (hd : decode (dC D) pc = .ok (.ldiv, 1)) (hp : pc + 1 = pc') (hne : ¬ y = 0) (k : Cmp C D Z pc' ls (.long (x / y) :: st) m) : Cmp C D Z pc ls (.long y :: .long x :: st) m := by
  subst hp
  exact C_pure (fun X G H locs lsA cells slots Q hl kk => lv_ldiv G.1 G.2.1 hd hne (kk lsA hl)) k

theorem C_lrem {x y : Int64} (hd : decode (dC D) pc = .ok (.lrem, 1)) (hp : pc + 1 = pc') (hne : ¬ y = 0) (k : Cmp C D Z pc' ls (.long (x - x / y * y) :: st) m) : Cmp C D Z pc ls (.long y :: .long x :: st) m := by
  subst hp
  exact C_pure (fun X G H locs lsA cells slots Q hl kk => lv_lrem G.1 G.2.1 hd hne (kk lsA hl)) k

theorem C_lshl {x : Int64} {y : Int32} (hd : decode (dC D) pc = .ok (.lshl, 1)) (hp : pc + 1 = pc') (k : Cmp C D Z pc' ls (.long (x <<< (y.toInt64 &&& 63)) :: st) m) : Cmp C D Z pc ls (.int y :: .long x :: st) m := by
  subst hp
  exact C_pure (fun X G H locs lsA cells slots Q hl kk => lv_lshl G.1 G.2.1 hd rfl (kk lsA hl)) k

theorem C_lshr {x : Int64} {y : Int32} (hd : decode (dC D) pc = .ok (.lshr, 1)) (hp : pc + 1 = pc') (k : Cmp C D Z pc' ls (.long (x >>> (y.toInt64 &&& 63)) :: st) m) : Cmp C D Z pc ls (.int y :: .long x :: st) m := by
  subst hp
  exact C_pure (fun X G H locs lsA cells slots Q hl kk => lv_lshr G.1 G.2.1 hd rfl (kk lsA hl)) k

theorem C_lushr {x : Int64} {y : Int32} (hd : decode (dC D) pc = .ok (.lushr, 1)) (hp : pc + 1 = pc') (k : Cmp C D Z pc' ls (.long ((x.toUInt64 >>> (y.toInt64.toUInt64 &&& Int64.toUInt64 63)).toInt64) :: st) m) : Cmp C D Z pc ls (.int y :: .long x :: st) m := by
  subst hp
  exact C_pure (fun X G H locs lsA cells slots Q hl kk => lv_lushr G.1 G.2.1 hd rfl (kk lsA hl)) k

theorem C_i2l {x : Int32} (hd : decode (dC D) pc = .ok (.i2l, 1)) (hp : pc + 1 = pc') (k : Cmp C D Z pc' ls (.long x.toInt64 :: st) m) : Cmp C D Z pc ls (.int x :: st) m := by
  subst hp
  exact C_pure (fun X G H locs lsA cells slots Q hl kk => lv_i2l G.1 G.2.1 hd rfl (kk lsA hl)) k

theorem C_l2i {x : Int64} (hd : decode (dC D) pc = .ok (.l2i, 1)) (hp : pc + 1 = pc') (k : Cmp C D Z pc' ls (.int x.toInt32 :: st) m) : Cmp C D Z pc ls (.long x :: st) m := by
  subst hp
  exact C_pure (fun X G H locs lsA cells slots Q hl kk => lv_l2i G.1 G.2.1 hd rfl (kk lsA hl)) k

theorem C_lcmp {x y : Int64} (hd : decode (dC D) pc = .ok (.lcmp, 1)) (hp : pc + 1 = pc') (k : Cmp C D Z pc' ls (.int (lg_cmp x y) :: st) m) : Cmp C D Z pc ls (.long y :: .long x :: st) m := by
  subst hp
  exact C_pure (fun X G H locs lsA cells slots Q hl kk => W.lcmp G.1 G.2.1 hd (kk lsA hl)) k

theorem C_dup {v : Value} (hd : decode (dC D) pc = .ok (.dup, 1)) (hp : pc + 1 = pc') (hv : v.category = 1) (k : Cmp C D Z pc' ls (v :: v :: st) m) : Cmp C D Z pc ls (v :: st) m := by
  subst hp
  exact C_pure (fun X G H locs lsA cells slots Q hl kk => lv_dup G.1 G.2.1 hd hv (kk lsA hl)) k

theorem C_pop {v : Value} (hd : decode (dC D) pc = .ok (.pop, 1)) (hp : pc + 1 = pc') (hv : v.category = 1) (k : Cmp C D Z pc' ls (st) m) : Cmp C D Z pc ls (v :: st) m := by
  subst hp
  exact C_pure (fun X G H locs lsA cells slots Q hl kk => lv_pop G.1 G.2.1 hd hv (kk lsA hl)) k

theorem C_dup2 {va vb : Value} (hd : decode (dC D) pc = .ok (.dup2, 1)) (hp : pc + 1 = pc') (hv : va.category = 1) (hw : vb.category = 1) (k : Cmp C D Z pc' ls (va :: vb :: va :: vb :: st) m) : Cmp C D Z pc ls (va :: vb :: st) m := by
  subst hp
  exact C_pure (fun X G H locs lsA cells slots Q hl kk => lv_dup2_11 G.1 G.2.1 hd hv hw (kk lsA hl)) k

theorem C_dup2L {va : Value} (hd : decode (dC D) pc = .ok (.dup2, 1)) (hp : pc + 1 = pc') (hv : va.category = 2) (k : Cmp C D Z pc' ls (va :: va :: st) m) : Cmp C D Z pc ls (va :: st) m := by
  subst hp
  exact C_pure (fun X G H locs lsA cells slots Q hl kk => lv_dup2_2 G.1 G.2.1 hd hv (kk lsA hl)) k

theorem C_goto {off : Int} (hd : decode (dC D) pc = .ok (.goto off, 3)) (ht : (pc : Int) + off = (pc' : Int)) (k : Cmp C D Z pc' ls st m) : Cmp C D Z pc ls st m :=
  C_pure (fun X G H locs lsA cells slots Q hl kk => lv_goto G.1 G.2.1 hd ht (kk lsA hl)) k
theorem C_ifnonnull {off : Int} {x : Nat} (hd : decode (dC D) pc = .ok (.ifnonnull off, 3)) (ht : (pc : Int) + off = (pc' : Int)) (k : Cmp C D Z pc' ls st m) : Cmp C D Z pc ls (.ref x :: st) m :=
  C_pure (fun X G H locs lsA cells slots Q hl kk => lv_ifnonnull G.1 G.2.1 hd ht (kk lsA hl)) k
theorem C_ifnonnullN {off : Int} (hd : decode (dC D) pc = .ok (.ifnonnull off, 3)) (hp : pc + 3 = pc') (k : Cmp C D Z pc' ls st m) : Cmp C D Z pc ls (.null :: st) m := by
  subst hp
  exact C_pure (fun X G H locs lsA cells slots Q hl kk => lv_ifnonnullN G.1 G.2.1 hd (kk lsA hl)) k

theorem C_icmp_eq {x y : Int32} {off : Int} {tgt : Nat} (hd : decode (dC D) pc = .ok (.if_icmp .eq off, 3)) (ht : (pc : Int) + off = (tgt : Int)) (hp : pc + 3 = pc') (kt : Cmp C D Z tgt ls st A) (kf : Cmp C D Z pc' ls st B) : Cmp C D Z pc ls (.int y :: .int x :: st) (if x = y then A else B) := by
  subst hp
  intro w r w' hm
  by_cases hc : x = y
  · rw [if_pos hc] at hm
    obtain ⟨h1, h2⟩ := kt w r w' hm
    refine ⟨h1, fun X G hC hF H locs lsA cells slots hS hl => ?_⟩
    exact lv_icmp_eq G.1 G.2.1 hd ht (fun h => h2 X G hC hF H locs lsA cells slots hS hl) (fun h => absurd hc h)
  · rw [if_neg hc] at hm
    obtain ⟨h1, h2⟩ := kf w r w' hm
    refine ⟨h1, fun X G hC hF H locs lsA cells slots hS hl => ?_⟩
    exact lv_icmp_eq G.1 G.2.1 hd ht (fun h => absurd h hc) (fun h => h2 X G hC hF H locs lsA cells slots hS hl)

theorem C_if_eq {x : Int32} {off : Int} {tgt : Nat} (hd : decode (dC D) pc = .ok (.ifCond .eq off, 3)) (ht : (pc : Int) + off = (tgt : Int)) (hp : pc + 3 = pc') (kt : Cmp C D Z tgt ls st A) (kf : Cmp C D Z pc' ls st B) : Cmp C D Z pc ls (.int x :: st) (if x = 0 then A else B) := by
  subst hp
  intro w r w' hm
  by_cases hc : x = 0
  · rw [if_pos hc] at hm
    obtain ⟨h1, h2⟩ := kt w r w' hm
    refine ⟨h1, fun X G hC hF H locs lsA cells slots hS hl => ?_⟩
    exact lv_if_eq G.1 G.2.1 hd ht (fun h => h2 X G hC hF H locs lsA cells slots hS hl) (fun h => absurd hc h)
  · rw [if_neg hc] at hm
    obtain ⟨h1, h2⟩ := kf w r w' hm
    refine ⟨h1, fun X G hC hF H locs lsA cells slots hS hl => ?_⟩
    exact lv_if_eq G.1 G.2.1 hd ht (fun h => absurd h hc) (fun h => h2 X G hC hF H locs lsA cells slots hS hl)

theorem C_icmp_ne {x y : Int32} {off : Int} {tgt : Nat} (hd : decode (dC D) pc = .ok (.if_icmp .ne off, 3)) (ht : (pc : Int) + off = (tgt : Int)) (hp : pc + 3 = pc') (kt : Cmp C D Z tgt ls st B) (kf : Cmp C D Z pc' ls st A) : Cmp C D Z pc ls (.int y :: .int x :: st) (if x = y then A else B) := by
  subst hp
  intro w r w' hm
  by_cases hc : x = y
  · rw [if_pos hc] at hm
    obtain ⟨h1, h2⟩ := kf w r w' hm
    refine ⟨h1, fun X G hC hF H locs lsA cells slots hS hl => ?_⟩
    exact lv_icmp_ne G.1 G.2.1 hd ht (fun h => absurd hc h) (fun h => h2 X G hC hF H locs lsA cells slots hS hl)
  · rw [if_neg hc] at hm
    obtain ⟨h1, h2⟩ := kt w r w' hm
    refine ⟨h1, fun X G hC hF H locs lsA cells slots hS hl => ?_⟩
    exact lv_icmp_ne G.1 G.2.1 hd ht (fun h => h2 X G hC hF H locs lsA cells slots hS hl) (fun h => absurd h hc)

theorem C_if_ne {x : Int32} {off : Int} {tgt : Nat} (hd : decode (dC D) pc = .ok (.ifCond .ne off, 3)) (ht : (pc : Int) + off = (tgt : Int)) (hp : pc + 3 = pc') (kt : Cmp C D Z tgt ls st B) (kf : Cmp C D Z pc' ls st A) : Cmp C D Z pc ls (.int x :: st) (if x = 0 then A else B) := by
  subst hp
  intro w r w' hm
  by_cases hc : x = 0
  · rw [if_pos hc] at hm
    obtain ⟨h1, h2⟩ := kf w r w' hm
    refine ⟨h1, fun X G hC hF H locs lsA cells slots hS hl => ?_⟩
    exact lv_if_ne G.1 G.2.1 hd ht (fun h => absurd hc h) (fun h => h2 X G hC hF H locs lsA cells slots hS hl)
  · rw [if_neg hc] at hm
    obtain ⟨h1, h2⟩ := kt w r w' hm
    refine ⟨h1, fun X G hC hF H locs lsA cells slots hS hl => ?_⟩
    exact lv_if_ne G.1 G.2.1 hd ht (fun h => h2 X G hC hF H locs lsA cells slots hS hl) (fun h => absurd h hc)

theorem C_icmp_lt {x y : Int32} {off : Int} {tgt : Nat} (hd : decode (dC D) pc = .ok (.if_icmp .lt off, 3)) (ht : (pc : Int) + off = (tgt : Int)) (hp : pc + 3 = pc') (kt : Cmp C D Z tgt ls st A) (kf : Cmp C D Z pc' ls st B) : Cmp C D Z pc ls (.int y :: .int x :: st) (if x < y then A else B) := by
  subst hp
  intro w r w' hm
  by_cases hc : x < y
  · rw [if_pos hc] at hm
    obtain ⟨h1, h2⟩ := kt w r w' hm
    refine ⟨h1, fun X G hC hF H locs lsA cells slots hS hl => ?_⟩
    exact lv_icmp_lt G.1 G.2.1 hd ht (fun h => h2 X G hC hF H locs lsA cells slots hS hl) (fun h => absurd hc h)
  · rw [if_neg hc] at hm
    obtain ⟨h1, h2⟩ := kf w r w' hm
    refine ⟨h1, fun X G hC hF H locs lsA cells slots hS hl => ?_⟩
    exact lv_icmp_lt G.1 G.2.1 hd ht (fun h => absurd h hc) (fun h => h2 X G hC hF H locs lsA cells slots hS hl)

theorem C_if_lt {x : Int32} {off : Int} {tgt : Nat} (hd : decode (dC D) pc = .ok (.ifCond .lt off, 3)) (ht : (pc : Int) + off = (tgt : Int)) (hp : pc + 3 = pc') (kt : Cmp C D Z tgt ls st A) (kf : Cmp C D Z pc' ls st B) : Cmp C D Z pc ls (.int x :: st) (if x < 0 then A else B) := by
  subst hp
  intro w r w' hm
  by_cases hc : x < 0
  · rw [if_pos hc] at hm
    obtain ⟨h1, h2⟩ := kt w r w' hm
    refine ⟨h1, fun X G hC hF H locs lsA cells slots hS hl => ?_⟩
    exact lv_if_lt G.1 G.2.1 hd ht (fun h => h2 X G hC hF H locs lsA cells slots hS hl) (fun h => absurd hc h)
  · rw [if_neg hc] at hm
    obtain ⟨h1, h2⟩ := kf w r w' hm
    refine ⟨h1, fun X G hC hF H locs lsA cells slots hS hl => ?_⟩
    exact lv_if_lt G.1 G.2.1 hd ht (fun h => absurd h hc) (fun h => h2 X G hC hF H locs lsA cells slots hS hl)

theorem C_icmp_ge {x y : Int32} {off : Int} {tgt : Nat} (hd : decode (dC D) pc = .ok (.if_icmp .ge off, 3)) (ht : (pc : Int) + off = (tgt : Int)) (hp : pc + 3 = pc') (kt : Cmp C D Z tgt ls st A) (kf : Cmp C D Z pc' ls st B) : Cmp C D Z pc ls (.int y :: .int x :: st) (if y ≤ x then A else B) := by
  subst hp
  intro w r w' hm
  by_cases hc : y ≤ x
  · rw [if_pos hc] at hm
    obtain ⟨h1, h2⟩ := kt w r w' hm
    refine ⟨h1, fun X G hC hF H locs lsA cells slots hS hl => ?_⟩
    exact lv_icmp_ge G.1 G.2.1 hd ht (fun h => h2 X G hC hF H locs lsA cells slots hS hl) (fun h => absurd hc h)
  · rw [if_neg hc] at hm
    obtain ⟨h1, h2⟩ := kf w r w' hm
    refine ⟨h1, fun X G hC hF H locs lsA cells slots hS hl => ?_⟩
    exact lv_icmp_ge G.1 G.2.1 hd ht (fun h => absurd h hc) (fun h => h2 X G hC hF H locs lsA cells slots hS hl)

theorem C_if_ge {x : Int32} {off : Int} {tgt : Nat} (hd : decode (dC D) pc = .ok (.ifCond .ge off, 3)) (ht : (pc : Int) + off = (tgt : Int)) (hp : pc + 3 = pc') (kt : Cmp C D Z tgt ls st A) (kf : Cmp C D Z pc' ls st B) : Cmp C D Z pc ls (.int x :: st) (if 0 ≤ x then A else B) := by
  subst hp
  intro w r w' hm
  by_cases hc : 0 ≤ x
  · rw [if_pos hc] at hm
    obtain ⟨h1, h2⟩ := kt w r w' hm
    refine ⟨h1, fun X G hC hF H locs lsA cells slots hS hl => ?_⟩
    exact lv_if_ge G.1 G.2.1 hd ht (fun h => h2 X G hC hF H locs lsA cells slots hS hl) (fun h => absurd hc h)
  · rw [if_neg hc] at hm
    obtain ⟨h1, h2⟩ := kf w r w' hm
    refine ⟨h1, fun X G hC hF H locs lsA cells slots hS hl => ?_⟩
    exact lv_if_ge G.1 G.2.1 hd ht (fun h => absurd h hc) (fun h => h2 X G hC hF H locs lsA cells slots hS hl)

theorem C_icmp_gt {x y : Int32} {off : Int} {tgt : Nat} (hd : decode (dC D) pc = .ok (.if_icmp .gt off, 3)) (ht : (pc : Int) + off = (tgt : Int)) (hp : pc + 3 = pc') (kt : Cmp C D Z tgt ls st A) (kf : Cmp C D Z pc' ls st B) : Cmp C D Z pc ls (.int y :: .int x :: st) (if y < x then A else B) := by
  subst hp
  intro w r w' hm
  by_cases hc : y < x
  · rw [if_pos hc] at hm
    obtain ⟨h1, h2⟩ := kt w r w' hm
    refine ⟨h1, fun X G hC hF H locs lsA cells slots hS hl => ?_⟩
    exact lv_icmp_gt G.1 G.2.1 hd ht (fun h => h2 X G hC hF H locs lsA cells slots hS hl) (fun h => absurd hc h)
  · rw [if_neg hc] at hm
    obtain ⟨h1, h2⟩ := kf w r w' hm
    refine ⟨h1, fun X G hC hF H locs lsA cells slots hS hl => ?_⟩
    exact lv_icmp_gt G.1 G.2.1 hd ht (fun h => absurd h hc) (fun h => h2 X G hC hF H locs lsA cells slots hS hl)

theorem C_if_gt {x : Int32} {off : Int} {tgt : Nat} (hd : decode (dC D) pc = .ok (.ifCond .gt off, 3)) (ht : (pc : Int) + off = (tgt : Int)) (hp : pc + 3 = pc') (kt : Cmp C D Z tgt ls st A) (kf : Cmp C D Z pc' ls st B) : Cmp C D Z pc ls (.int x :: st) (if 0 < x then A else B) := by
  subst hp
  intro w r w' hm
  by_cases hc : 0 < x
  · rw [if_pos hc] at hm
    obtain ⟨h1, h2⟩ := kt w r w' hm
    refine ⟨h1, fun X G hC hF H locs lsA cells slots hS hl => ?_⟩
    exact lv_if_gt G.1 G.2.1 hd ht (fun h => h2 X G hC hF H locs lsA cells slots hS hl) (fun h => absurd hc h)
  · rw [if_neg hc] at hm
    obtain ⟨h1, h2⟩ := kf w r w' hm
    refine ⟨h1, fun X G hC hF H locs lsA cells slots hS hl => ?_⟩
    exact lv_if_gt G.1 G.2.1 hd ht (fun h => absurd h hc) (fun h => h2 X G hC hF H locs lsA cells slots hS hl)

theorem C_icmp_le {x y : Int32} {off : Int} {tgt : Nat} (hd : decode (dC D) pc = .ok (.if_icmp .le off, 3)) (ht : (pc : Int) + off = (tgt : Int)) (hp : pc + 3 = pc') (kt : Cmp C D Z tgt ls st A) (kf : Cmp C D Z pc' ls st B) : Cmp C D Z pc ls (.int y :: .int x :: st) (if x ≤ y then A else B) := by
  subst hp
  intro w r w' hm
  by_cases hc : x ≤ y
  · rw [if_pos hc] at hm
    obtain ⟨h1, h2⟩ := kt w r w' hm
    refine ⟨h1, fun X G hC hF H locs lsA cells slots hS hl => ?_⟩
    exact lv_icmp_le G.1 G.2.1 hd ht (fun h => h2 X G hC hF H locs lsA cells slots hS hl) (fun h => absurd hc h)
  · rw [if_neg hc] at hm
    obtain ⟨h1, h2⟩ := kf w r w' hm
    refine ⟨h1, fun X G hC hF H locs lsA cells slots hS hl => ?_⟩
    exact lv_icmp_le G.1 G.2.1 hd ht (fun h => absurd h hc) (fun h => h2 X G hC hF H locs lsA cells slots hS hl)

theorem C_if_le {x : Int32} {off : Int} {tgt : Nat} (hd : decode (dC D) pc = .ok (.ifCond .le off, 3)) (ht : (pc : Int) + off = (tgt : Int)) (hp : pc + 3 = pc') (kt : Cmp C D Z tgt ls st A) (kf : Cmp C D Z pc' ls st B) : Cmp C D Z pc ls (.int x :: st) (if x ≤ 0 then A else B) := by
  subst hp
  intro w r w' hm
  by_cases hc : x ≤ 0
  · rw [if_pos hc] at hm
    obtain ⟨h1, h2⟩ := kt w r w' hm
    refine ⟨h1, fun X G hC hF H locs lsA cells slots hS hl => ?_⟩
    exact lv_if_le G.1 G.2.1 hd ht (fun h => h2 X G hC hF H locs lsA cells slots hS hl) (fun h => absurd hc h)
  · rw [if_neg hc] at hm
    obtain ⟨h1, h2⟩ := kf w r w' hm
    refine ⟨h1, fun X G hC hF H locs lsA cells slots hS hl => ?_⟩
    exact lv_if_le G.1 G.2.1 hd ht (fun h => absurd h hc) (fun h => h2 X G hC hF H locs lsA cells slots hS hl)

/-- one case of a table; the others know that it isn't that one -/
theorem C_tcase {x c : Int32} (ci : Int) (hci : c.toInt = ci) {dflt lo hi : Int} {offs : Array Int} {len : Nat} {off : Int} {tgt : Nat} (hd : decode (dC D) pc = .ok (.tableswitch dflt lo hi offs, len)) (h1 : ¬ ci < lo) (h2 : ¬ hi < ci) (ho : offs[(ci - lo).toNat]? = some off) (ht : (pc : Int) + off = (tgt : Int))
    (kt : Cmp C D Z tgt ls st A) (kf : ¬ x.toInt = ci → Cmp C D Z pc ls (.int x :: st) B) : Cmp C D Z pc ls (.int x :: st) (if x = c then A else B) := by
  by_cases hc : x = c
  · rw [if_pos hc]
    subst hc
    rw [← hci] at h1 h2 ho
    exact C_pure (fun X G H locs lsA cells slots Q hl kk => lv_tableIn G.1 G.2.1 hd h1 h2 ho ht (kk lsA hl)) kt
  · rw [if_neg hc]
    exact kf (fun h => hc (Int32.toInt_inj.mp (h.trans hci.symm)))
theorem C_tdef {x : Int32} {dflt lo hi : Int} {offs : Array Int} {len : Nat} {tgt : Nat} (hd : decode (dC D) pc = .ok (.tableswitch dflt lo hi offs, len)) (h : x.toInt < lo ∨ hi < x.toInt) (ht : (pc : Int) + dflt = (tgt : Int)) (kt : Cmp C D Z tgt ls st A) : Cmp C D Z pc ls (.int x :: st) A :=
  C_pure (fun X G H locs lsA cells slots Q hl kk => lv_tableOut G.1 G.2.1 hd h ht (kk lsA hl)) kt
theorem C_lcase {x c : Int32} (ci : Int) (hci : c.toInt = ci) {dflt : Int} {ps : Array (Int × Int)} {len : Nat} {off : Int} {tgt : Nat} (hd : decode (dC D) pc = .ok (.lookupswitch dflt ps, len)) (hs : (ps.toList.zip (ps.toList.drop 1)).all (fun (a, next) => a.1 < next.1) = true) (ho : Op.lookupswitch.offset ps.toList dflt ci = off) (ht : (pc : Int) + off = (tgt : Int))
    (kt : Cmp C D Z tgt ls st A) (kf : ¬ x.toInt = ci → Cmp C D Z pc ls (.int x :: st) B) : Cmp C D Z pc ls (.int x :: st) (if x = c then A else B) := by
  by_cases hc : x = c
  · rw [if_pos hc]
    subst hc
    rw [← hci] at ho
    exact C_pure (fun X G H locs lsA cells slots Q hl kk => lv_lookup G.1 G.2.1 hd hs ho ht (kk lsA hl)) kt
  · rw [if_neg hc]
    exact kf (fun h => hc (Int32.toInt_inj.mp (h.trans hci.symm)))
theorem C_ldef {x : Int32} {dflt : Int} {ps : Array (Int × Int)} {len : Nat} {tgt : Nat} (hd : decode (dC D) pc = .ok (.lookupswitch dflt ps, len)) (hs : (ps.toList.zip (ps.toList.drop 1)).all (fun (a, next) => a.1 < next.1) = true) (ho : Op.lookupswitch.offset ps.toList dflt x.toInt = dflt) (ht : (pc : Int) + dflt = (tgt : Int)) (kt : Cmp C D Z tgt ls st A) : Cmp C D Z pc ls (.int x :: st) A :=
  C_pure (fun X G H locs lsA cells slots Q hl kk => lv_lookup G.1 G.2.1 hd hs ho ht (kk lsA hl)) kt
end RulesA

section RulesR
variable {C : KX} {D : MD} {pc : Nat} {ls : List (Nat × Value)}
theorem fit_end {X : CX} {w : Wd} {H : Heap} {locs : List Loc} {cells slots : Nat} (hS : Stb X w H locs cells slots) (hF : Fit X w) : cells ≤ (xR X).cells ∧ slots ≤ (xR X).slots := by
  obtain ⟨-, -, -, h1, h2⟩ := hS
  obtain ⟨h3, h4⟩ := hF
  omega
def rvI (v : Int32) : Option Value := some (.int v)
def rvL (v : Int64) : Option Value := some (.long v)
def rvV (_ : Unit) : Option Value := none
def rvR (b : Nat) (p : Nat) : Option Value := some (.ref (b + p))
theorem C_iret {v : Int32} (hr : dR D = some .int) (hd : decode (dC D) pc = .ok (.ireturn, 1)) : Cmp C D (QM rvI) pc ls [.int v] (mp v) := by
  intro w r w' hm
  cases hm
  refine ⟨⟨Nat.le_refl _, Nat.le_refl _⟩, fun X G hC hF H locs lsA cells slots hS hl => ?_⟩
  obtain ⟨h1, h2⟩ := fit_end hS hF
  refine W.widen h1 h2 ?_
  exact W.iret G.1 G.2.1 (G.2.2.1.trans hr) (fun t ht _ => ⟨rfl, by rw [ht]; exact hS.1, fun q hq => by rw [ht]; exact hS.2.1 q hq⟩) hS.2.2.1 hd (hlocks := G.2.2.2.1)
theorem C_zret {v : Int32} (hr : dR D = some .boolean) (hd : decode (dC D) pc = .ok (.ireturn, 1)) : Cmp C D (QM rvI) pc ls [.int v] (rZ v) := by
  intro w r w' hm
  unfold rZ at hm
  by_cases hv : v = 0 ∨ v = 1
  · rw [if_pos hv] at hm
    cases hm
    refine ⟨⟨Nat.le_refl _, Nat.le_refl _⟩, fun X G hC hF H locs lsA cells slots hS hl => ?_⟩
    obtain ⟨h1, h2⟩ := fit_end hS hF
    refine W.widen h1 h2 ?_
    exact W.zret G.1 G.2.1 (G.2.2.1.trans hr) (by rcases hv with rfl | rfl <;> rfl) (fun t ht _ => ⟨rfl, by rw [ht]; exact hS.1, fun q hq => by rw [ht]; exact hS.2.1 q hq⟩) hS.2.2.1 hd (hlocks := G.2.2.2.1)
  · rw [if_neg hv] at hm
    cases hm
theorem C_lret {v : Int64} (hr : dR D = some .long) (hd : decode (dC D) pc = .ok (.lreturn, 1)) : Cmp C D (QM rvL) pc ls [.long v] (mp v) := by
  intro w r w' hm
  cases hm
  refine ⟨⟨Nat.le_refl _, Nat.le_refl _⟩, fun X G hC hF H locs lsA cells slots hS hl => ?_⟩
  obtain ⟨h1, h2⟩ := fit_end hS hF
  refine W.widen h1 h2 ?_
  exact W.lret G.1 G.2.1 (G.2.2.1.trans hr) (fun t ht _ => ⟨rfl, by rw [ht]; exact hS.1, fun q hq => by rw [ht]; exact hS.2.1 q hq⟩) hS.2.2.1 hd (hlocks := G.2.2.2.1)
theorem C_vret (hr : dR D = none) (hd : decode (dC D) pc = .ok (.return_, 1)) : Cmp C D (QM rvV) pc ls [] (mp ()) := by
  intro w r w' hm
  cases hm
  refine ⟨⟨Nat.le_refl _, Nat.le_refl _⟩, fun X G hC hF H locs lsA cells slots hS hl => ?_⟩
  obtain ⟨h1, h2⟩ := fit_end hS hF
  refine W.widen h1 h2 ?_
  exact W.vret G.1 G.2.1 (G.2.2.1.trans hr) (fun t ht _ => ⟨rfl, by rw [ht]; exact hS.1, fun q hq => by rw [ht]; exact hS.2.1 q hq⟩) hS.2.2.1 hd (hlocks := G.2.2.2.1)
theorem C_aret {v : Nat} {n : String} (hr : dR D = some (.object n)) (hd : decode (dC D) pc = .ok (.areturn, 1)) : Cmp C D (QM (rvR (kB C))) pc ls [.ref (kB C + v)] (mp v) := by
  intro w r w' hm
  cases hm
  refine ⟨⟨Nat.le_refl _, Nat.le_refl _⟩, fun X G hC hF H locs lsA cells slots hS hl => ?_⟩
  obtain ⟨h1, h2⟩ := fit_end hS hF
  refine W.widen h1 h2 ?_
  exact W.aret G.1 G.2.1 (G.2.2.1.trans hr) (Or.inl ⟨_, rfl⟩) (Or.inr ⟨_, rfl⟩) (fun t ht _ => ⟨rfl, by rw [ht]; exact hS.1, fun q hq => by rw [ht]; exact hS.2.1 q hq⟩) hS.2.2.1 hd (hlocks := G.2.2.2.1)
end RulesR
