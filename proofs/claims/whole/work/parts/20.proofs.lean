-- StandingQueries$Held.<init>()V
theorem dX1_init_0 : decode cX1_init 0 = .ok (.aload_n 0, 1) := by decide +kernel
theorem dX1_init_1 : decode cX1_init 1 = .ok (.invokespecial 3, 3) := by decide +kernel
theorem dX1_init_4 : decode cX1_init 4 = .ok (.aload_n 0, 1) := by decide +kernel
theorem dX1_init_5 : decode cX1_init 5 = .ok (.bipush 8, 2) := by decide +kernel
theorem dX1_init_7 : decode cX1_init 7 = .ok (.newarray .int, 2) := by decide +kernel
theorem dX1_init_9 : decode cX1_init 9 = .ok (.putfield 9, 3) := by decide +kernel
theorem dX1_init_12 : decode cX1_init 12 = .ok (.aload_n 0, 1) := by decide +kernel
theorem dX1_init_13 : decode cX1_init 13 = .ok (.bipush 32, 2) := by decide +kernel
theorem dX1_init_15 : decode cX1_init 15 = .ok (.newarray .int, 2) := by decide +kernel
theorem dX1_init_17 : decode cX1_init 17 = .ok (.putfield 15, 3) := by decide +kernel
theorem dX1_init_20 : decode cX1_init 20 = .ok (.aload_n 0, 1) := by decide +kernel
theorem dX1_init_21 : decode cX1_init 21 = .ok (.bipush 32, 2) := by decide +kernel
theorem dX1_init_23 : decode cX1_init 23 = .ok (.newarray .int, 2) := by decide +kernel
theorem dX1_init_25 : decode cX1_init 25 = .ok (.putfield 18, 3) := by decide +kernel
theorem dX1_init_28 : decode cX1_init 28 = .ok (.aload_n 0, 1) := by decide +kernel
theorem dX1_init_29 : decode cX1_init 29 = .ok (.bipush 32, 2) := by decide +kernel
theorem dX1_init_31 : decode cX1_init 31 = .ok (.newarray .int, 2) := by decide +kernel
theorem dX1_init_33 : decode cX1_init 33 = .ok (.putfield 21, 3) := by decide +kernel
theorem dX1_init_36 : decode cX1_init 36 = .ok (.aload_n 0, 1) := by decide +kernel
theorem dX1_init_37 : decode cX1_init 37 = .ok (.bipush 32, 2) := by decide +kernel
theorem dX1_init_39 : decode cX1_init 39 = .ok (.newarray .int, 2) := by decide +kernel
theorem dX1_init_41 : decode cX1_init 41 = .ok (.putfield 24, 3) := by decide +kernel
theorem dX1_init_44 : decode cX1_init 44 = .ok (.aload_n 0, 1) := by decide +kernel
theorem dX1_init_45 : decode cX1_init 45 = .ok (.bipush 40, 2) := by decide +kernel
theorem dX1_init_47 : decode cX1_init 47 = .ok (.newarray .int, 2) := by decide +kernel
theorem dX1_init_49 : decode cX1_init 49 = .ok (.putfield 27, 3) := by decide +kernel
theorem dX1_init_52 : decode cX1_init 52 = .ok (.return_, 1) := by decide +kernel
abbrev mdX1_init : MD := (cX1_init, RX1, 1, none, yX1_init.name, 1, 12, eT)
set_option maxHeartbeats 2000000 in
set_option maxRecDepth 20000 in
theorem i_X1_init (C : KX) (l0 : Nat) : Imp C yX1_init cX1_init 1 none 1 12 rvV [.ref (kB C + l0)] (m_X1_init l0) := by
  refine Imp.of (by decide) (Nat.le_of_ble_eq_true rfl) [(0, .ref (kB C + l0))] rfl ?_
  show Cmp C mdX1_init (QM rvV) 0 [(0, .ref (kB C + l0))] [] (m_X1_init l0)
  unfold m_X1_init
  refine C_aload_n (D := mdX1_init) (pc' := 1) (x := kB C + l0) dX1_init_0 rfl 0 rfl ?_
  refine C_objInit (D := mdX1_init) (pc' := 4) (p := l0) oi_X1_3 oi_i oi_c dX1_init_1 rfl (by decide) (Nat.le_of_ble_eq_true rfl) ?_
  refine C_aload_n (D := mdX1_init) (pc' := 5) (x := kB C + l0) dX1_init_4 rfl 0 rfl ?_
  refine C_bipush (D := mdX1_init) (pc' := 7) (v := 8) dX1_init_5 rfl (by decide) ?_
  refine C_newarr (D := mdX1_init) (pc' := 9) (kd := 100) (by decide) ac_int dX1_init_7 rfl (fun p1 => ?_)
  refine C_putR (D := mdX1_init) (pc' := 12) (p := l0) (q := p1) f_X1_9 (by first | exact Or.inl rfl | exact Or.inr ⟨rfl, rfl⟩) rfl dX1_init_9 rfl ?_
  refine C_aload_n (D := mdX1_init) (pc' := 13) (x := kB C + l0) dX1_init_12 rfl 0 rfl ?_
  refine C_bipush (D := mdX1_init) (pc' := 15) (v := 32) dX1_init_13 rfl (by decide) ?_
  refine C_newarr (D := mdX1_init) (pc' := 17) (kd := 100) (by decide) ac_int dX1_init_15 rfl (fun p2 => ?_)
  refine C_putR (D := mdX1_init) (pc' := 20) (p := l0) (q := p2) f_X1_15 (by first | exact Or.inl rfl | exact Or.inr ⟨rfl, rfl⟩) rfl dX1_init_17 rfl ?_
  refine C_aload_n (D := mdX1_init) (pc' := 21) (x := kB C + l0) dX1_init_20 rfl 0 rfl ?_
  refine C_bipush (D := mdX1_init) (pc' := 23) (v := 32) dX1_init_21 rfl (by decide) ?_
  refine C_newarr (D := mdX1_init) (pc' := 25) (kd := 100) (by decide) ac_int dX1_init_23 rfl (fun p3 => ?_)
  refine C_putR (D := mdX1_init) (pc' := 28) (p := l0) (q := p3) f_X1_18 (by first | exact Or.inl rfl | exact Or.inr ⟨rfl, rfl⟩) rfl dX1_init_25 rfl ?_
  refine C_aload_n (D := mdX1_init) (pc' := 29) (x := kB C + l0) dX1_init_28 rfl 0 rfl ?_
  refine C_bipush (D := mdX1_init) (pc' := 31) (v := 32) dX1_init_29 rfl (by decide) ?_
  refine C_newarr (D := mdX1_init) (pc' := 33) (kd := 100) (by decide) ac_int dX1_init_31 rfl (fun p4 => ?_)
  refine C_putR (D := mdX1_init) (pc' := 36) (p := l0) (q := p4) f_X1_21 (by first | exact Or.inl rfl | exact Or.inr ⟨rfl, rfl⟩) rfl dX1_init_33 rfl ?_
  refine C_aload_n (D := mdX1_init) (pc' := 37) (x := kB C + l0) dX1_init_36 rfl 0 rfl ?_
  refine C_bipush (D := mdX1_init) (pc' := 39) (v := 32) dX1_init_37 rfl (by decide) ?_
  refine C_newarr (D := mdX1_init) (pc' := 41) (kd := 100) (by decide) ac_int dX1_init_39 rfl (fun p5 => ?_)
  refine C_putR (D := mdX1_init) (pc' := 44) (p := l0) (q := p5) f_X1_24 (by first | exact Or.inl rfl | exact Or.inr ⟨rfl, rfl⟩) rfl dX1_init_41 rfl ?_
  refine C_aload_n (D := mdX1_init) (pc' := 45) (x := kB C + l0) dX1_init_44 rfl 0 rfl ?_
  refine C_bipush (D := mdX1_init) (pc' := 47) (v := 40) dX1_init_45 rfl (by decide) ?_
  refine C_newarr (D := mdX1_init) (pc' := 49) (kd := 100) (by decide) ac_int dX1_init_47 rfl (fun p6 => ?_)
  refine C_putR (D := mdX1_init) (pc' := 52) (p := l0) (q := p6) f_X1_27 (by first | exact Or.inl rfl | exact Or.inr ⟨rfl, rfl⟩) rfl dX1_init_49 rfl ?_
  exact C_vret rfl dX1_init_52

-- StandingQueries$Words.<init>(I)V
theorem dX6_init_0 : decode cX6_init 0 = .ok (.aload_n 0, 1) := by decide +kernel
theorem dX6_init_1 : decode cX6_init 1 = .ok (.invokespecial 3, 3) := by decide +kernel
theorem dX6_init_4 : decode cX6_init 4 = .ok (.aload_n 0, 1) := by decide +kernel
theorem dX6_init_5 : decode cX6_init 5 = .ok (.iload_n 1, 1) := by decide +kernel
theorem dX6_init_6 : decode cX6_init 6 = .ok (.newarray .int, 2) := by decide +kernel
theorem dX6_init_8 : decode cX6_init 8 = .ok (.putfield 9, 3) := by decide +kernel
theorem dX6_init_11 : decode cX6_init 11 = .ok (.return_, 1) := by decide +kernel
abbrev mdX6_init : MD := (cX6_init, RX6, 2, none, yX6_init.name, 1, 12, eT)
set_option maxHeartbeats 2000000 in
set_option maxRecDepth 20000 in
theorem i_X6_init (C : KX) (l0 : Nat) (l1 : Int32) : Imp C yX6_init cX6_init 2 none 1 12 rvV [.ref (kB C + l0), .int l1] (m_X6_init l0 l1) := by
  refine Imp.of (by decide) (Nat.le_of_ble_eq_true rfl) [(0, .ref (kB C + l0)), (1, .int l1)] rfl ?_
  show Cmp C mdX6_init (QM rvV) 0 [(0, .ref (kB C + l0)), (1, .int l1)] [] (m_X6_init l0 l1)
  unfold m_X6_init
  refine C_aload_n (D := mdX6_init) (pc' := 1) (x := kB C + l0) dX6_init_0 rfl 0 rfl ?_
  refine C_objInit (D := mdX6_init) (pc' := 4) (p := l0) oi_X6_3 oi_i oi_c dX6_init_1 rfl (by decide) (Nat.le_of_ble_eq_true rfl) ?_
  refine C_aload_n (D := mdX6_init) (pc' := 5) (x := kB C + l0) dX6_init_4 rfl 0 rfl ?_
  refine C_iload_n (D := mdX6_init) (pc' := 6) (x := l1) dX6_init_5 rfl 1 rfl ?_
  refine C_newarr (D := mdX6_init) (pc' := 8) (kd := 100) (by decide) ac_int dX6_init_6 rfl (fun p1 => ?_)
  refine C_putR (D := mdX6_init) (pc' := 11) (p := l0) (q := p1) f_X6_9 (by first | exact Or.inl rfl | exact Or.inr ⟨rfl, rfl⟩) rfl dX6_init_8 rfl ?_
  exact C_vret rfl dX6_init_11

-- StandingQueries$Text.<init>()V
theorem dX5_init_0 : decode cX5_init 0 = .ok (.aload_n 0, 1) := by decide +kernel
theorem dX5_init_1 : decode cX5_init 1 = .ok (.invokespecial 3, 3) := by decide +kernel
theorem dX5_init_4 : decode cX5_init 4 = .ok (.aload_n 0, 1) := by decide +kernel
theorem dX5_init_5 : decode cX5_init 5 = .ok (.sipush 150, 3) := by decide +kernel
theorem dX5_init_8 : decode cX5_init 8 = .ok (.newarray .int, 2) := by decide +kernel
theorem dX5_init_10 : decode cX5_init 10 = .ok (.putfield 9, 3) := by decide +kernel
theorem dX5_init_13 : decode cX5_init 13 = .ok (.aload_n 0, 1) := by decide +kernel
theorem dX5_init_14 : decode cX5_init 14 = .ok (.new 15, 3) := by decide +kernel
theorem dX5_init_17 : decode cX5_init 17 = .ok (.dup, 1) := by decide +kernel
theorem dX5_init_18 : decode cX5_init 18 = .ok (.invokespecial 17, 3) := by decide +kernel
theorem dX5_init_21 : decode cX5_init 21 = .ok (.putfield 18, 3) := by decide +kernel
theorem dX5_init_24 : decode cX5_init 24 = .ok (.aload_n 0, 1) := by decide +kernel
theorem dX5_init_25 : decode cX5_init 25 = .ok (.new 22, 3) := by decide +kernel
theorem dX5_init_28 : decode cX5_init 28 = .ok (.dup, 1) := by decide +kernel
theorem dX5_init_29 : decode cX5_init 29 = .ok (.bipush 16, 2) := by decide +kernel
theorem dX5_init_31 : decode cX5_init 31 = .ok (.invokespecial 24, 3) := by decide +kernel
theorem dX5_init_34 : decode cX5_init 34 = .ok (.putfield 27, 3) := by decide +kernel
theorem dX5_init_37 : decode cX5_init 37 = .ok (.return_, 1) := by decide +kernel
abbrev mdX5_init : MD := (cX5_init, RX5, 1, none, yX5_init.name, 2, 33, eT)
set_option maxHeartbeats 2000000 in
set_option maxRecDepth 20000 in
theorem i_X5_init (C : KX) (l0 : Nat) : Imp C yX5_init cX5_init 1 none 2 33 rvV [.ref (kB C + l0)] (m_X5_init l0) := by
  refine Imp.of (by decide) (Nat.le_of_ble_eq_true rfl) [(0, .ref (kB C + l0))] rfl ?_
  show Cmp C mdX5_init (QM rvV) 0 [(0, .ref (kB C + l0))] [] (m_X5_init l0)
  unfold m_X5_init
  refine C_aload_n (D := mdX5_init) (pc' := 1) (x := kB C + l0) dX5_init_0 rfl 0 rfl ?_
  refine C_objInit (D := mdX5_init) (pc' := 4) (p := l0) oi_X5_3 oi_i oi_c dX5_init_1 rfl (by decide) (Nat.le_of_ble_eq_true rfl) ?_
  refine C_aload_n (D := mdX5_init) (pc' := 5) (x := kB C + l0) dX5_init_4 rfl 0 rfl ?_
  refine C_sipush (D := mdX5_init) (pc' := 8) (v := 150) dX5_init_5 rfl (by decide) ?_
  refine C_newarr (D := mdX5_init) (pc' := 10) (kd := 100) (by decide) ac_int dX5_init_8 rfl (fun p1 => ?_)
  refine C_putR (D := mdX5_init) (pc' := 13) (p := l0) (q := p1) f_X5_9 (by first | exact Or.inl rfl | exact Or.inr ⟨rfl, rfl⟩) rfl dX5_init_10 rfl ?_
  refine C_aload_n (D := mdX5_init) (pc' := 14) (x := kB C + l0) dX5_init_13 rfl 0 rfl ?_
  refine C_new (D := mdX5_init) (pc' := 17) n_X5_15 dX5_init_14 rfl (fun p2 => ?_)
  refine C_dup (D := mdX5_init) (pc' := 18) dX5_init_17 rfl rfl ?_
  refine C_callIN (D := mdX5_init) (pc' := 21) (p := p2) (st := [.ref (kB C + p2), .ref (kB C + l0)]) [] i_X5_17 (i_X1_init C p2) dX5_init_18 rfl rfl rfl (Nat.le_of_ble_eq_true rfl) (by decide) (by decide) (fun _ => ?_)
  refine C_putR (D := mdX5_init) (pc' := 24) (p := l0) (q := p2) f_X5_18 (by first | exact Or.inl rfl | exact Or.inr ⟨rfl, rfl⟩) rfl dX5_init_21 rfl ?_
  refine C_aload_n (D := mdX5_init) (pc' := 25) (x := kB C + l0) dX5_init_24 rfl 0 rfl ?_
  refine C_new (D := mdX5_init) (pc' := 28) n_X5_22 dX5_init_25 rfl (fun p3 => ?_)
  refine C_dup (D := mdX5_init) (pc' := 29) dX5_init_28 rfl rfl ?_
  refine C_bipush (D := mdX5_init) (pc' := 31) (v := 16) dX5_init_29 rfl (by decide) ?_
  refine C_callI (D := mdX5_init) (pc' := 34) (p := p3) (st := [.ref (kB C + p3), .ref (kB C + l0)]) [.int 16] i_X5_24 (i_X6_init C p3 16) dX5_init_31 rfl rfl rfl (Nat.le_of_ble_eq_true rfl) (by decide) (by decide) (fun _ => ?_)
  refine C_putR (D := mdX5_init) (pc' := 37) (p := l0) (q := p3) f_X5_27 (by first | exact Or.inl rfl | exact Or.inr ⟨rfl, rfl⟩) rfl dX5_init_34 rfl ?_
  exact C_vret rfl dX5_init_37

-- StandingQueries$History.<init>()V
theorem dX2_init_0 : decode cX2_init 0 = .ok (.aload_n 0, 1) := by decide +kernel
theorem dX2_init_1 : decode cX2_init 1 = .ok (.invokespecial 3, 3) := by decide +kernel
theorem dX2_init_4 : decode cX2_init 4 = .ok (.aload_n 0, 1) := by decide +kernel
theorem dX2_init_5 : decode cX2_init 5 = .ok (.bipush 10, 2) := by decide +kernel
theorem dX2_init_7 : decode cX2_init 7 = .ok (.anewarray 9, 3) := by decide +kernel
theorem dX2_init_10 : decode cX2_init 10 = .ok (.putfield 11, 3) := by decide +kernel
theorem dX2_init_13 : decode cX2_init 13 = .ok (.return_, 1) := by decide +kernel
abbrev mdX2_init : MD := (cX2_init, RX2, 1, none, yX2_init.name, 1, 12, eT)
set_option maxHeartbeats 2000000 in
set_option maxRecDepth 20000 in
theorem i_X2_init (C : KX) (l0 : Nat) : Imp C yX2_init cX2_init 1 none 1 12 rvV [.ref (kB C + l0)] (m_X2_init l0) := by
  refine Imp.of (by decide) (Nat.le_of_ble_eq_true rfl) [(0, .ref (kB C + l0))] rfl ?_
  show Cmp C mdX2_init (QM rvV) 0 [(0, .ref (kB C + l0))] [] (m_X2_init l0)
  unfold m_X2_init
  refine C_aload_n (D := mdX2_init) (pc' := 1) (x := kB C + l0) dX2_init_0 rfl 0 rfl ?_
  refine C_objInit (D := mdX2_init) (pc' := 4) (p := l0) oi_X2_3 oi_i oi_c dX2_init_1 rfl (by decide) (Nat.le_of_ble_eq_true rfl) ?_
  refine C_aload_n (D := mdX2_init) (pc' := 5) (x := kB C + l0) dX2_init_4 rfl 0 rfl ?_
  refine C_bipush (D := mdX2_init) (pc' := 7) (v := 10) dX2_init_5 rfl (by decide) ?_
  refine C_anew (D := mdX2_init) (pc' := 10) cl_X2_9 dX2_init_7 rfl (fun p1 => ?_)
  refine C_putR (D := mdX2_init) (pc' := 13) (p := l0) (q := p1) f_X2_11 (by first | exact Or.inl rfl | exact Or.inr ⟨rfl, rfl⟩) rfl dX2_init_10 rfl ?_
  exact C_vret rfl dX2_init_13

-- StandingQueries$Automaton.<init>(I)V
theorem dX0_init_0 : decode cX0_init 0 = .ok (.aload_n 0, 1) := by decide +kernel
theorem dX0_init_1 : decode cX0_init 1 = .ok (.invokespecial 3, 3) := by decide +kernel
theorem dX0_init_4 : decode cX0_init 4 = .ok (.aload_n 0, 1) := by decide +kernel
theorem dX0_init_5 : decode cX0_init 5 = .ok (.iconst 1, 1) := by decide +kernel
theorem dX0_init_6 : decode cX0_init 6 = .ok (.putfield 9, 3) := by decide +kernel
theorem dX0_init_9 : decode cX0_init 9 = .ok (.iconst 1, 1) := by decide +kernel
theorem dX0_init_10 : decode cX0_init 10 = .ok (.iload_n 1, 1) := by decide +kernel
theorem dX0_init_11 : decode cX0_init 11 = .ok (.bipush 6, 2) := by decide +kernel
theorem dX0_init_13 : decode cX0_init 13 = .ok (.imul, 1) := by decide +kernel
theorem dX0_init_14 : decode cX0_init 14 = .ok (.iadd, 1) := by decide +kernel
theorem dX0_init_15 : decode cX0_init 15 = .ok (.istore_n 2, 1) := by decide +kernel
theorem dX0_init_16 : decode cX0_init 16 = .ok (.aload_n 0, 1) := by decide +kernel
theorem dX0_init_17 : decode cX0_init 17 = .ok (.iload_n 2, 1) := by decide +kernel
theorem dX0_init_18 : decode cX0_init 18 = .ok (.newarray .int, 2) := by decide +kernel
theorem dX0_init_20 : decode cX0_init 20 = .ok (.putfield 15, 3) := by decide +kernel
theorem dX0_init_23 : decode cX0_init 23 = .ok (.aload_n 0, 1) := by decide +kernel
theorem dX0_init_24 : decode cX0_init 24 = .ok (.iload_n 2, 1) := by decide +kernel
theorem dX0_init_25 : decode cX0_init 25 = .ok (.newarray .int, 2) := by decide +kernel
theorem dX0_init_27 : decode cX0_init 27 = .ok (.putfield 19, 3) := by decide +kernel
theorem dX0_init_30 : decode cX0_init 30 = .ok (.aload_n 0, 1) := by decide +kernel
theorem dX0_init_31 : decode cX0_init 31 = .ok (.iload_n 2, 1) := by decide +kernel
theorem dX0_init_32 : decode cX0_init 32 = .ok (.newarray .int, 2) := by decide +kernel
theorem dX0_init_34 : decode cX0_init 34 = .ok (.putfield 22, 3) := by decide +kernel
theorem dX0_init_37 : decode cX0_init 37 = .ok (.aload_n 0, 1) := by decide +kernel
theorem dX0_init_38 : decode cX0_init 38 = .ok (.iload_n 2, 1) := by decide +kernel
theorem dX0_init_39 : decode cX0_init 39 = .ok (.newarray .int, 2) := by decide +kernel
theorem dX0_init_41 : decode cX0_init 41 = .ok (.putfield 25, 3) := by decide +kernel
theorem dX0_init_44 : decode cX0_init 44 = .ok (.aload_n 0, 1) := by decide +kernel
theorem dX0_init_45 : decode cX0_init 45 = .ok (.iload_n 2, 1) := by decide +kernel
theorem dX0_init_46 : decode cX0_init 46 = .ok (.newarray .int, 2) := by decide +kernel
theorem dX0_init_48 : decode cX0_init 48 = .ok (.putfield 28, 3) := by decide +kernel
theorem dX0_init_51 : decode cX0_init 51 = .ok (.aload_n 0, 1) := by decide +kernel
theorem dX0_init_52 : decode cX0_init 52 = .ok (.iload_n 2, 1) := by decide +kernel
theorem dX0_init_53 : decode cX0_init 53 = .ok (.bipush 8, 2) := by decide +kernel
theorem dX0_init_55 : decode cX0_init 55 = .ok (.imul, 1) := by decide +kernel
theorem dX0_init_56 : decode cX0_init 56 = .ok (.newarray .int, 2) := by decide +kernel
theorem dX0_init_58 : decode cX0_init 58 = .ok (.putfield 31, 3) := by decide +kernel
theorem dX0_init_61 : decode cX0_init 61 = .ok (.aload_n 0, 1) := by decide +kernel
theorem dX0_init_62 : decode cX0_init 62 = .ok (.iload_n 1, 1) := by decide +kernel
theorem dX0_init_63 : decode cX0_init 63 = .ok (.newarray .int, 2) := by decide +kernel
theorem dX0_init_65 : decode cX0_init 65 = .ok (.putfield 34, 3) := by decide +kernel
theorem dX0_init_68 : decode cX0_init 68 = .ok (.return_, 1) := by decide +kernel
abbrev mdX0_init : MD := (cX0_init, RX0, 3, none, yX0_init.name, 1, 12, eT)
set_option maxHeartbeats 2000000 in
set_option maxRecDepth 20000 in
theorem i_X0_init (C : KX) (l0 : Nat) (l1 : Int32) : Imp C yX0_init cX0_init 3 none 1 12 rvV [.ref (kB C + l0), .int l1] (m_X0_init l0 l1) := by
  refine Imp.of (by decide) (Nat.le_of_ble_eq_true rfl) [(0, .ref (kB C + l0)), (1, .int l1)] rfl ?_
  show Cmp C mdX0_init (QM rvV) 0 [(0, .ref (kB C + l0)), (1, .int l1)] [] (m_X0_init l0 l1)
  unfold m_X0_init
  refine C_aload_n (D := mdX0_init) (pc' := 1) (x := kB C + l0) dX0_init_0 rfl 0 rfl ?_
  refine C_objInit (D := mdX0_init) (pc' := 4) (p := l0) oi_X0_3 oi_i oi_c dX0_init_1 rfl (by decide) (Nat.le_of_ble_eq_true rfl) ?_
  refine C_aload_n (D := mdX0_init) (pc' := 5) (x := kB C + l0) dX0_init_4 rfl 0 rfl ?_
  refine C_iconst (D := mdX0_init) (pc' := 6) (v := 1) dX0_init_5 rfl (by decide) ?_
  refine C_putI (D := mdX0_init) (pc' := 9) (p := l0) f_X0_9 rfl dX0_init_6 rfl ?_
  refine C_iconst (D := mdX0_init) (pc' := 10) (v := 1) dX0_init_9 rfl (by decide) ?_
  refine C_iload_n (D := mdX0_init) (pc' := 11) (x := l1) dX0_init_10 rfl 1 rfl ?_
  refine C_bipush (D := mdX0_init) (pc' := 13) (v := 6) dX0_init_11 rfl (by decide) ?_
  refine C_imul (D := mdX0_init) (pc' := 14) dX0_init_13 rfl ?_
  refine C_iadd (D := mdX0_init) (pc' := 15) dX0_init_14 rfl ?_
  refine C_letI (fun v1 => ?_)
  refine C_istore_n (D := mdX0_init) (pc' := 16) (ls' := [(2, .int v1), (0, .ref (kB C + l0)), (1, .int l1)]) dX0_init_15 rfl rfl (by decide) rfl ?_
  refine C_aload_n (D := mdX0_init) (pc' := 17) (x := kB C + l0) dX0_init_16 rfl 1 rfl ?_
  refine C_iload_n (D := mdX0_init) (pc' := 18) (x := v1) dX0_init_17 rfl 0 rfl ?_
  refine C_newarr (D := mdX0_init) (pc' := 20) (kd := 100) (by decide) ac_int dX0_init_18 rfl (fun p2 => ?_)
  refine C_putR (D := mdX0_init) (pc' := 23) (p := l0) (q := p2) f_X0_15 (by first | exact Or.inl rfl | exact Or.inr ⟨rfl, rfl⟩) rfl dX0_init_20 rfl ?_
  refine C_aload_n (D := mdX0_init) (pc' := 24) (x := kB C + l0) dX0_init_23 rfl 1 rfl ?_
  refine C_iload_n (D := mdX0_init) (pc' := 25) (x := v1) dX0_init_24 rfl 0 rfl ?_
  refine C_newarr (D := mdX0_init) (pc' := 27) (kd := 100) (by decide) ac_int dX0_init_25 rfl (fun p3 => ?_)
  refine C_putR (D := mdX0_init) (pc' := 30) (p := l0) (q := p3) f_X0_19 (by first | exact Or.inl rfl | exact Or.inr ⟨rfl, rfl⟩) rfl dX0_init_27 rfl ?_
  refine C_aload_n (D := mdX0_init) (pc' := 31) (x := kB C + l0) dX0_init_30 rfl 1 rfl ?_
  refine C_iload_n (D := mdX0_init) (pc' := 32) (x := v1) dX0_init_31 rfl 0 rfl ?_
  refine C_newarr (D := mdX0_init) (pc' := 34) (kd := 100) (by decide) ac_int dX0_init_32 rfl (fun p4 => ?_)
  refine C_putR (D := mdX0_init) (pc' := 37) (p := l0) (q := p4) f_X0_22 (by first | exact Or.inl rfl | exact Or.inr ⟨rfl, rfl⟩) rfl dX0_init_34 rfl ?_
  refine C_aload_n (D := mdX0_init) (pc' := 38) (x := kB C + l0) dX0_init_37 rfl 1 rfl ?_
  refine C_iload_n (D := mdX0_init) (pc' := 39) (x := v1) dX0_init_38 rfl 0 rfl ?_
  refine C_newarr (D := mdX0_init) (pc' := 41) (kd := 100) (by decide) ac_int dX0_init_39 rfl (fun p5 => ?_)
  refine C_putR (D := mdX0_init) (pc' := 44) (p := l0) (q := p5) f_X0_25 (by first | exact Or.inl rfl | exact Or.inr ⟨rfl, rfl⟩) rfl dX0_init_41 rfl ?_
  refine C_aload_n (D := mdX0_init) (pc' := 45) (x := kB C + l0) dX0_init_44 rfl 1 rfl ?_
  refine C_iload_n (D := mdX0_init) (pc' := 46) (x := v1) dX0_init_45 rfl 0 rfl ?_
  refine C_newarr (D := mdX0_init) (pc' := 48) (kd := 100) (by decide) ac_int dX0_init_46 rfl (fun p6 => ?_)
  refine C_putR (D := mdX0_init) (pc' := 51) (p := l0) (q := p6) f_X0_28 (by first | exact Or.inl rfl | exact Or.inr ⟨rfl, rfl⟩) rfl dX0_init_48 rfl ?_
  refine C_aload_n (D := mdX0_init) (pc' := 52) (x := kB C + l0) dX0_init_51 rfl 1 rfl ?_
  refine C_iload_n (D := mdX0_init) (pc' := 53) (x := v1) dX0_init_52 rfl 0 rfl ?_
  refine C_bipush (D := mdX0_init) (pc' := 55) (v := 8) dX0_init_53 rfl (by decide) ?_
  refine C_imul (D := mdX0_init) (pc' := 56) dX0_init_55 rfl ?_
  refine C_newarr (D := mdX0_init) (pc' := 58) (kd := 100) (by decide) ac_int dX0_init_56 rfl (fun p7 => ?_)
  refine C_putR (D := mdX0_init) (pc' := 61) (p := l0) (q := p7) f_X0_31 (by first | exact Or.inl rfl | exact Or.inr ⟨rfl, rfl⟩) rfl dX0_init_58 rfl ?_
  refine C_aload_n (D := mdX0_init) (pc' := 62) (x := kB C + l0) dX0_init_61 rfl 1 rfl ?_
  refine C_iload_n (D := mdX0_init) (pc' := 63) (x := l1) dX0_init_62 rfl 2 rfl ?_
  refine C_newarr (D := mdX0_init) (pc' := 65) (kd := 100) (by decide) ac_int dX0_init_63 rfl (fun p8 => ?_)
  refine C_putR (D := mdX0_init) (pc' := 68) (p := l0) (q := p8) f_X0_34 (by first | exact Or.inl rfl | exact Or.inr ⟨rfl, rfl⟩) rfl dX0_init_65 rfl ?_
  exact C_vret rfl dX0_init_68

-- StandingQueries.<init>()V
theorem dX7_init_0 : decode cX7_init 0 = .ok (.aload_n 0, 1) := by decide +kernel
theorem dX7_init_1 : decode cX7_init 1 = .ok (.invokespecial 1, 3) := by decide +kernel
theorem dX7_init_4 : decode cX7_init 4 = .ok (.aload_n 0, 1) := by decide +kernel
theorem dX7_init_5 : decode cX7_init 5 = .ok (.new 7, 3) := by decide +kernel
theorem dX7_init_8 : decode cX7_init 8 = .ok (.dup, 1) := by decide +kernel
theorem dX7_init_9 : decode cX7_init 9 = .ok (.invokespecial 9, 3) := by decide +kernel
theorem dX7_init_12 : decode cX7_init 12 = .ok (.putfield 10, 3) := by decide +kernel
theorem dX7_init_15 : decode cX7_init 15 = .ok (.aload_n 0, 1) := by decide +kernel
theorem dX7_init_16 : decode cX7_init 16 = .ok (.new 16, 3) := by decide +kernel
theorem dX7_init_19 : decode cX7_init 19 = .ok (.dup, 1) := by decide +kernel
theorem dX7_init_20 : decode cX7_init 20 = .ok (.invokespecial 18, 3) := by decide +kernel
theorem dX7_init_23 : decode cX7_init 23 = .ok (.putfield 19, 3) := by decide +kernel
theorem dX7_init_26 : decode cX7_init 26 = .ok (.aload_n 0, 1) := by decide +kernel
theorem dX7_init_27 : decode cX7_init 27 = .ok (.new 23, 3) := by decide +kernel
theorem dX7_init_30 : decode cX7_init 30 = .ok (.dup, 1) := by decide +kernel
theorem dX7_init_31 : decode cX7_init 31 = .ok (.invokespecial 25, 3) := by decide +kernel
theorem dX7_init_34 : decode cX7_init 34 = .ok (.putfield 26, 3) := by decide +kernel
theorem dX7_init_37 : decode cX7_init 37 = .ok (.aload_n 0, 1) := by decide +kernel
theorem dX7_init_38 : decode cX7_init 38 = .ok (.iconst 2, 1) := by decide +kernel
theorem dX7_init_39 : decode cX7_init 39 = .ok (.anewarray 16, 3) := by decide +kernel
theorem dX7_init_42 : decode cX7_init 42 = .ok (.putfield 30, 3) := by decide +kernel
theorem dX7_init_45 : decode cX7_init 45 = .ok (.aload_n 0, 1) := by decide +kernel
theorem dX7_init_46 : decode cX7_init 46 = .ok (.new 34, 3) := by decide +kernel
theorem dX7_init_49 : decode cX7_init 49 = .ok (.dup, 1) := by decide +kernel
theorem dX7_init_50 : decode cX7_init 50 = .ok (.bipush 16, 2) := by decide +kernel
theorem dX7_init_52 : decode cX7_init 52 = .ok (.invokespecial 36, 3) := by decide +kernel
theorem dX7_init_55 : decode cX7_init 55 = .ok (.putfield 39, 3) := by decide +kernel
theorem dX7_init_58 : decode cX7_init 58 = .ok (.aload_n 0, 1) := by decide +kernel
theorem dX7_init_59 : decode cX7_init 59 = .ok (.new 43, 3) := by decide +kernel
theorem dX7_init_62 : decode cX7_init 62 = .ok (.dup, 1) := by decide +kernel
theorem dX7_init_63 : decode cX7_init 63 = .ok (.bipush 16, 2) := by decide +kernel
theorem dX7_init_65 : decode cX7_init 65 = .ok (.invokespecial 45, 3) := by decide +kernel
theorem dX7_init_68 : decode cX7_init 68 = .ok (.putfield 46, 3) := by decide +kernel
theorem dX7_init_71 : decode cX7_init 71 = .ok (.aload_n 0, 1) := by decide +kernel
theorem dX7_init_72 : decode cX7_init 72 = .ok (.bipush 16, 2) := by decide +kernel
theorem dX7_init_74 : decode cX7_init 74 = .ok (.newarray .long, 2) := by decide +kernel
theorem dX7_init_76 : decode cX7_init 76 = .ok (.putfield 50, 3) := by decide +kernel
theorem dX7_init_79 : decode cX7_init 79 = .ok (.return_, 1) := by decide +kernel
abbrev mdX7_init : MD := (cX7_init, RX7, 1, none, yX7_init.name, 3, 53, eT)
set_option maxHeartbeats 2000000 in
set_option maxRecDepth 20000 in
theorem i_X7_init (C : KX) (l0 : Nat) : Imp C yX7_init cX7_init 1 none 3 53 rvV [.ref (kB C + l0)] (m_X7_init l0) := by
  refine Imp.of (by decide) (Nat.le_of_ble_eq_true rfl) [(0, .ref (kB C + l0))] rfl ?_
  show Cmp C mdX7_init (QM rvV) 0 [(0, .ref (kB C + l0))] [] (m_X7_init l0)
  unfold m_X7_init
  refine C_aload_n (D := mdX7_init) (pc' := 1) (x := kB C + l0) dX7_init_0 rfl 0 rfl ?_
  refine C_objInit (D := mdX7_init) (pc' := 4) (p := l0) oi_X7_1 oi_i oi_c dX7_init_1 rfl (by decide) (Nat.le_of_ble_eq_true rfl) ?_
  refine C_aload_n (D := mdX7_init) (pc' := 5) (x := kB C + l0) dX7_init_4 rfl 0 rfl ?_
  refine C_new (D := mdX7_init) (pc' := 8) n_X7_7 dX7_init_5 rfl (fun p1 => ?_)
  refine C_dup (D := mdX7_init) (pc' := 9) dX7_init_8 rfl rfl ?_
  refine C_callIN (D := mdX7_init) (pc' := 12) (p := p1) (st := [.ref (kB C + p1), .ref (kB C + l0)]) [] i_X7_9 (i_X5_init C p1) dX7_init_9 rfl rfl rfl (Nat.le_of_ble_eq_true rfl) (by decide) (by decide) (fun _ => ?_)
  refine C_putR (D := mdX7_init) (pc' := 15) (p := l0) (q := p1) f_X7_10 (by first | exact Or.inl rfl | exact Or.inr ⟨rfl, rfl⟩) rfl dX7_init_12 rfl ?_
  refine C_aload_n (D := mdX7_init) (pc' := 16) (x := kB C + l0) dX7_init_15 rfl 0 rfl ?_
  refine C_new (D := mdX7_init) (pc' := 19) n_X7_16 dX7_init_16 rfl (fun p2 => ?_)
  refine C_dup (D := mdX7_init) (pc' := 20) dX7_init_19 rfl rfl ?_
  refine C_callIN (D := mdX7_init) (pc' := 23) (p := p2) (st := [.ref (kB C + p2), .ref (kB C + l0)]) [] i_X7_18 (i_X1_init C p2) dX7_init_20 rfl rfl rfl (Nat.le_of_ble_eq_true rfl) (by decide) (by decide) (fun _ => ?_)
  refine C_putR (D := mdX7_init) (pc' := 26) (p := l0) (q := p2) f_X7_19 (by first | exact Or.inl rfl | exact Or.inr ⟨rfl, rfl⟩) rfl dX7_init_23 rfl ?_
  refine C_aload_n (D := mdX7_init) (pc' := 27) (x := kB C + l0) dX7_init_26 rfl 0 rfl ?_
  refine C_new (D := mdX7_init) (pc' := 30) n_X7_23 dX7_init_27 rfl (fun p3 => ?_)
  refine C_dup (D := mdX7_init) (pc' := 31) dX7_init_30 rfl rfl ?_
  refine C_callIN (D := mdX7_init) (pc' := 34) (p := p3) (st := [.ref (kB C + p3), .ref (kB C + l0)]) [] i_X7_25 (i_X2_init C p3) dX7_init_31 rfl rfl rfl (Nat.le_of_ble_eq_true rfl) (by decide) (by decide) (fun _ => ?_)
  refine C_putR (D := mdX7_init) (pc' := 37) (p := l0) (q := p3) f_X7_26 (by first | exact Or.inl rfl | exact Or.inr ⟨rfl, rfl⟩) rfl dX7_init_34 rfl ?_
  refine C_aload_n (D := mdX7_init) (pc' := 38) (x := kB C + l0) dX7_init_37 rfl 0 rfl ?_
  refine C_iconst (D := mdX7_init) (pc' := 39) (v := 2) dX7_init_38 rfl (by decide) ?_
  refine C_anew (D := mdX7_init) (pc' := 42) cl_X7_16 dX7_init_39 rfl (fun p4 => ?_)
  refine C_putR (D := mdX7_init) (pc' := 45) (p := l0) (q := p4) f_X7_30 (by first | exact Or.inl rfl | exact Or.inr ⟨rfl, rfl⟩) rfl dX7_init_42 rfl ?_
  refine C_aload_n (D := mdX7_init) (pc' := 46) (x := kB C + l0) dX7_init_45 rfl 0 rfl ?_
  refine C_new (D := mdX7_init) (pc' := 49) n_X7_34 dX7_init_46 rfl (fun p5 => ?_)
  refine C_dup (D := mdX7_init) (pc' := 50) dX7_init_49 rfl rfl ?_
  refine C_bipush (D := mdX7_init) (pc' := 52) (v := 16) dX7_init_50 rfl (by decide) ?_
  refine C_callI (D := mdX7_init) (pc' := 55) (p := p5) (st := [.ref (kB C + p5), .ref (kB C + l0)]) [.int 16] i_X7_36 (i_X6_init C p5 16) dX7_init_52 rfl rfl rfl (Nat.le_of_ble_eq_true rfl) (by decide) (by decide) (fun _ => ?_)
  refine C_putR (D := mdX7_init) (pc' := 58) (p := l0) (q := p5) f_X7_39 (by first | exact Or.inl rfl | exact Or.inr ⟨rfl, rfl⟩) rfl dX7_init_55 rfl ?_
  refine C_aload_n (D := mdX7_init) (pc' := 59) (x := kB C + l0) dX7_init_58 rfl 0 rfl ?_
  refine C_new (D := mdX7_init) (pc' := 62) n_X7_43 dX7_init_59 rfl (fun p6 => ?_)
  refine C_dup (D := mdX7_init) (pc' := 63) dX7_init_62 rfl rfl ?_
  refine C_bipush (D := mdX7_init) (pc' := 65) (v := 16) dX7_init_63 rfl (by decide) ?_
  refine C_callI (D := mdX7_init) (pc' := 68) (p := p6) (st := [.ref (kB C + p6), .ref (kB C + l0)]) [.int 16] i_X7_45 (i_X0_init C p6 16) dX7_init_65 rfl rfl rfl (Nat.le_of_ble_eq_true rfl) (by decide) (by decide) (fun _ => ?_)
  refine C_putR (D := mdX7_init) (pc' := 71) (p := l0) (q := p6) f_X7_46 (by first | exact Or.inl rfl | exact Or.inr ⟨rfl, rfl⟩) rfl dX7_init_68 rfl ?_
  refine C_aload_n (D := mdX7_init) (pc' := 72) (x := kB C + l0) dX7_init_71 rfl 0 rfl ?_
  refine C_bipush (D := mdX7_init) (pc' := 74) (v := 16) dX7_init_72 rfl (by decide) ?_
  refine C_newarr (D := mdX7_init) (pc' := 76) (kd := 101) (by decide) ac_long dX7_init_74 rfl (fun p7 => ?_)
  refine C_putR (D := mdX7_init) (pc' := 79) (p := l0) (q := p7) f_X7_50 (by first | exact Or.inl rfl | exact Or.inr ⟨rfl, rfl⟩) rfl dX7_init_76 rfl ?_
  exact C_vret rfl dX7_init_79

-- StandingQueries$Text.append(I)Z
theorem dX5_append_0 : decode cX5_append 0 = .ok (.aload_n 0, 1) := by decide +kernel
theorem dX5_append_1 : decode cX5_append 1 = .ok (.getfield 31, 3) := by decide +kernel
theorem dX5_append_4 : decode cX5_append 4 = .ok (.sipush 150, 3) := by decide +kernel
theorem dX5_append_7 : decode cX5_append 7 = .ok (.if_icmp .lt 5, 3) := by decide +kernel
theorem dX5_append_10 : decode cX5_append 10 = .ok (.iconst 0, 1) := by decide +kernel
theorem dX5_append_11 : decode cX5_append 11 = .ok (.ireturn, 1) := by decide +kernel
theorem dX5_append_12 : decode cX5_append 12 = .ok (.aload_n 0, 1) := by decide +kernel
theorem dX5_append_13 : decode cX5_append 13 = .ok (.getfield 9, 3) := by decide +kernel
theorem dX5_append_16 : decode cX5_append 16 = .ok (.aload_n 0, 1) := by decide +kernel
theorem dX5_append_17 : decode cX5_append 17 = .ok (.getfield 31, 3) := by decide +kernel
theorem dX5_append_20 : decode cX5_append 20 = .ok (.iload_n 1, 1) := by decide +kernel
theorem dX5_append_21 : decode cX5_append 21 = .ok (.iastore, 1) := by decide +kernel
theorem dX5_append_22 : decode cX5_append 22 = .ok (.aload_n 0, 1) := by decide +kernel
theorem dX5_append_23 : decode cX5_append 23 = .ok (.dup, 1) := by decide +kernel
theorem dX5_append_24 : decode cX5_append 24 = .ok (.getfield 31, 3) := by decide +kernel
theorem dX5_append_27 : decode cX5_append 27 = .ok (.iconst 1, 1) := by decide +kernel
theorem dX5_append_28 : decode cX5_append 28 = .ok (.iadd, 1) := by decide +kernel
theorem dX5_append_29 : decode cX5_append 29 = .ok (.putfield 31, 3) := by decide +kernel
theorem dX5_append_32 : decode cX5_append 32 = .ok (.iconst 1, 1) := by decide +kernel
theorem dX5_append_33 : decode cX5_append 33 = .ok (.ireturn, 1) := by decide +kernel
abbrev mdX5_append : MD := (cX5_append, RX5, 2, (some .boolean), yX5_append.name, 0, 0, eT)
set_option maxHeartbeats 2000000 in
set_option maxRecDepth 20000 in
theorem i_X5_append (C : KX) (l0 : Nat) (l1 : Int32) : Imp C yX5_append cX5_append 2 (some .boolean) 0 0 rvI [.ref (kB C + l0), .int l1] (m_X5_append l0 l1) := by
  refine Imp.of (by decide) (Nat.le_of_ble_eq_true rfl) [(0, .ref (kB C + l0)), (1, .int l1)] rfl ?_
  show Cmp C mdX5_append (QM rvI) 0 [(0, .ref (kB C + l0)), (1, .int l1)] [] (m_X5_append l0 l1)
  unfold m_X5_append
  refine C_aload_n (D := mdX5_append) (pc' := 1) (x := kB C + l0) dX5_append_0 rfl 0 rfl ?_
  refine C_getI (D := mdX5_append) (pc' := 4) (p := l0) f_X5_31 rfl dX5_append_1 rfl (fun size1 => ?_)
  refine C_sipush (D := mdX5_append) (pc' := 7) (v := 150) dX5_append_4 rfl (by decide) ?_
  refine C_icmp_lt (D := mdX5_append) (pc' := 10) (tgt := 12) dX5_append_7 (by decide) rfl ?_ ?_
  · refine C_aload_n (D := mdX5_append) (pc' := 13) (x := kB C + l0) dX5_append_12 rfl 0 rfl ?_
    refine C_getR (D := mdX5_append) (pc' := 16) (p := l0) f_X5_9 rfl dX5_append_13 rfl (fun bytes2 => ?_)
    refine C_aload_n (D := mdX5_append) (pc' := 17) (x := kB C + l0) dX5_append_16 rfl 0 rfl ?_
    refine C_getI (D := mdX5_append) (pc' := 20) (p := l0) f_X5_31 rfl dX5_append_17 rfl (fun size3 => ?_)
    refine C_iload_n (D := mdX5_append) (pc' := 21) (x := l1) dX5_append_20 rfl 1 rfl ?_
    refine C_tI (D := mdX5_append) (pc' := 22) (p := bytes2) dX5_append_21 rfl ?_
    refine C_aload_n (D := mdX5_append) (pc' := 23) (x := kB C + l0) dX5_append_22 rfl 0 rfl ?_
    refine C_dup (D := mdX5_append) (pc' := 24) dX5_append_23 rfl rfl ?_
    refine C_getI (D := mdX5_append) (pc' := 27) (p := l0) f_X5_31 rfl dX5_append_24 rfl (fun size4 => ?_)
    refine C_iconst (D := mdX5_append) (pc' := 28) (v := 1) dX5_append_27 rfl (by decide) ?_
    refine C_iadd (D := mdX5_append) (pc' := 29) dX5_append_28 rfl ?_
    refine C_putI (D := mdX5_append) (pc' := 32) (p := l0) f_X5_31 rfl dX5_append_29 rfl ?_
    refine C_iconst (D := mdX5_append) (pc' := 33) (v := 1) dX5_append_32 rfl (by decide) ?_
    exact C_zret rfl dX5_append_33
  · refine C_iconst (D := mdX5_append) (pc' := 11) (v := 0) dX5_append_10 rfl (by decide) ?_
    exact C_zret rfl dX5_append_11

-- StandingQueries.type(I)I
theorem dX7_type_0 : decode cX7_type 0 = .ok (.iload_n 1, 1) := by decide +kernel
theorem dX7_type_1 : decode cX7_type 1 = .ok (.ifCond .lt 10, 3) := by decide +kernel
theorem dX7_type_4 : decode cX7_type 4 = .ok (.iload_n 1, 1) := by decide +kernel
theorem dX7_type_5 : decode cX7_type 5 = .ok (.sipush 255, 3) := by decide +kernel
theorem dX7_type_8 : decode cX7_type 8 = .ok (.if_icmp .le 5, 3) := by decide +kernel
theorem dX7_type_11 : decode cX7_type 11 = .ok (.iconst (-1), 1) := by decide +kernel
theorem dX7_type_12 : decode cX7_type 12 = .ok (.ireturn, 1) := by decide +kernel
theorem dX7_type_13 : decode cX7_type 13 = .ok (.aload_n 0, 1) := by decide +kernel
theorem dX7_type_14 : decode cX7_type 14 = .ok (.getfield 10, 3) := by decide +kernel
theorem dX7_type_17 : decode cX7_type 17 = .ok (.iload_n 1, 1) := by decide +kernel
theorem dX7_type_18 : decode cX7_type 18 = .ok (.invokevirtual 54, 3) := by decide +kernel
theorem dX7_type_21 : decode cX7_type 21 = .ok (.ifCond .eq 13, 3) := by decide +kernel
theorem dX7_type_24 : decode cX7_type 24 = .ok (.aload_n 0, 1) := by decide +kernel
theorem dX7_type_25 : decode cX7_type 25 = .ok (.getfield 10, 3) := by decide +kernel
theorem dX7_type_28 : decode cX7_type 28 = .ok (.getfield 58, 3) := by decide +kernel
theorem dX7_type_31 : decode cX7_type 31 = .ok (.goto 5, 3) := by decide +kernel
theorem dX7_type_34 : decode cX7_type 34 = .ok (.bipush (-3), 2) := by decide +kernel
theorem dX7_type_36 : decode cX7_type 36 = .ok (.ireturn, 1) := by decide +kernel
abbrev mdX7_type : MD := (cX7_type, RX7, 2, (some .int), yX7_type.name, 1, 21, eT)
set_option maxHeartbeats 2000000 in
set_option maxRecDepth 20000 in
theorem i_X7_type (C : KX) (l0 : Nat) (l1 : Int32) : Imp C yX7_type cX7_type 2 (some .int) 1 21 rvI [.ref (kB C + l0), .int l1] (m_X7_type l0 l1) := by
  refine Imp.of (by decide) (Nat.le_of_ble_eq_true rfl) [(0, .ref (kB C + l0)), (1, .int l1)] rfl ?_
  show Cmp C mdX7_type (QM rvI) 0 [(0, .ref (kB C + l0)), (1, .int l1)] [] (m_X7_type l0 l1)
  unfold m_X7_type
  refine C_iload_n (D := mdX7_type) (pc' := 1) (x := l1) dX7_type_0 rfl 1 rfl ?_
  refine C_if_lt (D := mdX7_type) (pc' := 4) (tgt := 11) dX7_type_1 (by decide) rfl ?_ ?_
  · refine C_iconst (D := mdX7_type) (pc' := 12) (v := (-1)) dX7_type_11 rfl (by decide) ?_
    exact C_iret rfl dX7_type_12
  · refine C_iload_n (D := mdX7_type) (pc' := 5) (x := l1) dX7_type_4 rfl 1 rfl ?_
    refine C_sipush (D := mdX7_type) (pc' := 8) (v := 255) dX7_type_5 rfl (by decide) ?_
    refine C_icmp_le (D := mdX7_type) (pc' := 11) (tgt := 13) dX7_type_8 (by decide) rfl ?_ ?_
    · refine C_aload_n (D := mdX7_type) (pc' := 14) (x := kB C + l0) dX7_type_13 rfl 0 rfl ?_
      refine C_getR (D := mdX7_type) (pc' := 17) (p := l0) f_X7_10 rfl dX7_type_14 rfl (fun text1 => ?_)
      refine C_iload_n (D := mdX7_type) (pc' := 18) (x := l1) dX7_type_17 rfl 1 rfl ?_
      refine C_callV (D := mdX7_type) (pc' := 21) (p := text1) (st := []) [.int l1] v_X7_54 (i_X5_append C text1 l1) dX7_type_18 rfl rfl rfl (Nat.le_of_ble_eq_true rfl) (by decide) (by decide) (fun c2 => ?_)
      refine C_if_eq (D := mdX7_type) (pc' := 24) (tgt := 34) dX7_type_21 (by decide) rfl ?_ ?_
      · refine C_bipush (D := mdX7_type) (pc' := 36) (v := (-3)) dX7_type_34 rfl (by decide) ?_
        exact C_iret rfl dX7_type_36
      · refine C_aload_n (D := mdX7_type) (pc' := 25) (x := kB C + l0) dX7_type_24 rfl 0 rfl ?_
        refine C_getR (D := mdX7_type) (pc' := 28) (p := l0) f_X7_10 rfl dX7_type_25 rfl (fun text3 => ?_)
        refine C_getI (D := mdX7_type) (pc' := 31) (p := text3) f_X7_58 rfl dX7_type_28 rfl (fun size4 => ?_)
        refine C_goto (D := mdX7_type) (pc' := 36) dX7_type_31 (by decide) ?_
        exact C_iret rfl dX7_type_36
    · refine C_iconst (D := mdX7_type) (pc' := 12) (v := (-1)) dX7_type_11 rfl (by decide) ?_
      exact C_iret rfl dX7_type_12

-- StandingQueries.clear()I
theorem dX7_clear_0 : decode cX7_clear 0 = .ok (.aload_n 0, 1) := by decide +kernel
theorem dX7_clear_1 : decode cX7_clear 1 = .ok (.getfield 10, 3) := by decide +kernel
theorem dX7_clear_4 : decode cX7_clear 4 = .ok (.getfield 58, 3) := by decide +kernel
theorem dX7_clear_7 : decode cX7_clear 7 = .ok (.istore_n 1, 1) := by decide +kernel
theorem dX7_clear_8 : decode cX7_clear 8 = .ok (.aload_n 0, 1) := by decide +kernel
theorem dX7_clear_9 : decode cX7_clear 9 = .ok (.getfield 10, 3) := by decide +kernel
theorem dX7_clear_12 : decode cX7_clear 12 = .ok (.iconst 0, 1) := by decide +kernel
theorem dX7_clear_13 : decode cX7_clear 13 = .ok (.putfield 58, 3) := by decide +kernel
theorem dX7_clear_16 : decode cX7_clear 16 = .ok (.iload_n 1, 1) := by decide +kernel
theorem dX7_clear_17 : decode cX7_clear 17 = .ok (.ireturn, 1) := by decide +kernel
abbrev mdX7_clear : MD := (cX7_clear, RX7, 2, (some .int), yX7_clear.name, 0, 0, eT)
set_option maxHeartbeats 2000000 in
set_option maxRecDepth 20000 in
theorem i_X7_clear (C : KX) (l0 : Nat) : Imp C yX7_clear cX7_clear 2 (some .int) 0 0 rvI [.ref (kB C + l0)] (m_X7_clear l0) := by
  refine Imp.of (by decide) (Nat.le_of_ble_eq_true rfl) [(0, .ref (kB C + l0))] rfl ?_
  show Cmp C mdX7_clear (QM rvI) 0 [(0, .ref (kB C + l0))] [] (m_X7_clear l0)
  unfold m_X7_clear
  refine C_aload_n (D := mdX7_clear) (pc' := 1) (x := kB C + l0) dX7_clear_0 rfl 0 rfl ?_
  refine C_getR (D := mdX7_clear) (pc' := 4) (p := l0) f_X7_10 rfl dX7_clear_1 rfl (fun text1 => ?_)
  refine C_getI (D := mdX7_clear) (pc' := 7) (p := text1) f_X7_58 rfl dX7_clear_4 rfl (fun size2 => ?_)
  refine C_istore_n (D := mdX7_clear) (pc' := 8) (ls' := [(1, .int size2), (0, .ref (kB C + l0))]) dX7_clear_7 rfl rfl (by decide) rfl ?_
  refine C_aload_n (D := mdX7_clear) (pc' := 9) (x := kB C + l0) dX7_clear_8 rfl 1 rfl ?_
  refine C_getR (D := mdX7_clear) (pc' := 12) (p := l0) f_X7_10 rfl dX7_clear_9 rfl (fun text3 => ?_)
  refine C_iconst (D := mdX7_clear) (pc' := 13) (v := 0) dX7_clear_12 rfl (by decide) ?_
  refine C_putI (D := mdX7_clear) (pc' := 16) (p := text3) f_X7_58 rfl dX7_clear_13 rfl ?_
  refine C_iload_n (D := mdX7_clear) (pc' := 17) (x := size2) dX7_clear_16 rfl 0 rfl ?_
  exact C_iret rfl dX7_clear_17

-- StandingQueries$Held.take(LStandingQueries$Held;)V
theorem dX1_take_0 : decode cX1_take 0 = .ok (.aload_n 0, 1) := by decide +kernel
theorem dX1_take_1 : decode cX1_take 1 = .ok (.aload_n 1, 1) := by decide +kernel
theorem dX1_take_2 : decode cX1_take 2 = .ok (.getfield 30, 3) := by decide +kernel
theorem dX1_take_5 : decode cX1_take 5 = .ok (.putfield 30, 3) := by decide +kernel
theorem dX1_take_8 : decode cX1_take 8 = .ok (.aload_n 0, 1) := by decide +kernel
theorem dX1_take_9 : decode cX1_take 9 = .ok (.aload_n 1, 1) := by decide +kernel
theorem dX1_take_10 : decode cX1_take 10 = .ok (.getfield 34, 3) := by decide +kernel
theorem dX1_take_13 : decode cX1_take 13 = .ok (.putfield 34, 3) := by decide +kernel
theorem dX1_take_16 : decode cX1_take 16 = .ok (.aload_n 1, 1) := by decide +kernel
theorem dX1_take_17 : decode cX1_take 17 = .ok (.getfield 9, 3) := by decide +kernel
theorem dX1_take_20 : decode cX1_take 20 = .ok (.iconst 0, 1) := by decide +kernel
theorem dX1_take_21 : decode cX1_take 21 = .ok (.aload_n 0, 1) := by decide +kernel
theorem dX1_take_22 : decode cX1_take 22 = .ok (.getfield 9, 3) := by decide +kernel
theorem dX1_take_25 : decode cX1_take 25 = .ok (.iconst 0, 1) := by decide +kernel
theorem dX1_take_26 : decode cX1_take 26 = .ok (.aload_n 0, 1) := by decide +kernel
theorem dX1_take_27 : decode cX1_take 27 = .ok (.getfield 9, 3) := by decide +kernel
theorem dX1_take_30 : decode cX1_take 30 = .ok (.arraylength, 1) := by decide +kernel
theorem dX1_take_31 : decode cX1_take 31 = .ok (.invokestatic 37, 3) := by decide +kernel
theorem dX1_take_34 : decode cX1_take 34 = .ok (.aload_n 1, 1) := by decide +kernel
theorem dX1_take_35 : decode cX1_take 35 = .ok (.getfield 15, 3) := by decide +kernel
theorem dX1_take_38 : decode cX1_take 38 = .ok (.iconst 0, 1) := by decide +kernel
theorem dX1_take_39 : decode cX1_take 39 = .ok (.aload_n 0, 1) := by decide +kernel
theorem dX1_take_40 : decode cX1_take 40 = .ok (.getfield 15, 3) := by decide +kernel
theorem dX1_take_43 : decode cX1_take 43 = .ok (.iconst 0, 1) := by decide +kernel
theorem dX1_take_44 : decode cX1_take 44 = .ok (.aload_n 0, 1) := by decide +kernel
theorem dX1_take_45 : decode cX1_take 45 = .ok (.getfield 15, 3) := by decide +kernel
theorem dX1_take_48 : decode cX1_take 48 = .ok (.arraylength, 1) := by decide +kernel
theorem dX1_take_49 : decode cX1_take 49 = .ok (.invokestatic 37, 3) := by decide +kernel
theorem dX1_take_52 : decode cX1_take 52 = .ok (.aload_n 1, 1) := by decide +kernel
theorem dX1_take_53 : decode cX1_take 53 = .ok (.getfield 18, 3) := by decide +kernel
theorem dX1_take_56 : decode cX1_take 56 = .ok (.iconst 0, 1) := by decide +kernel
theorem dX1_take_57 : decode cX1_take 57 = .ok (.aload_n 0, 1) := by decide +kernel
theorem dX1_take_58 : decode cX1_take 58 = .ok (.getfield 18, 3) := by decide +kernel
theorem dX1_take_61 : decode cX1_take 61 = .ok (.iconst 0, 1) := by decide +kernel
theorem dX1_take_62 : decode cX1_take 62 = .ok (.aload_n 0, 1) := by decide +kernel
theorem dX1_take_63 : decode cX1_take 63 = .ok (.getfield 18, 3) := by decide +kernel
theorem dX1_take_66 : decode cX1_take 66 = .ok (.arraylength, 1) := by decide +kernel
theorem dX1_take_67 : decode cX1_take 67 = .ok (.invokestatic 37, 3) := by decide +kernel
theorem dX1_take_70 : decode cX1_take 70 = .ok (.aload_n 1, 1) := by decide +kernel
theorem dX1_take_71 : decode cX1_take 71 = .ok (.getfield 21, 3) := by decide +kernel
theorem dX1_take_74 : decode cX1_take 74 = .ok (.iconst 0, 1) := by decide +kernel
theorem dX1_take_75 : decode cX1_take 75 = .ok (.aload_n 0, 1) := by decide +kernel
theorem dX1_take_76 : decode cX1_take 76 = .ok (.getfield 21, 3) := by decide +kernel
theorem dX1_take_79 : decode cX1_take 79 = .ok (.iconst 0, 1) := by decide +kernel
theorem dX1_take_80 : decode cX1_take 80 = .ok (.aload_n 0, 1) := by decide +kernel
theorem dX1_take_81 : decode cX1_take 81 = .ok (.getfield 21, 3) := by decide +kernel
theorem dX1_take_84 : decode cX1_take 84 = .ok (.arraylength, 1) := by decide +kernel
theorem dX1_take_85 : decode cX1_take 85 = .ok (.invokestatic 37, 3) := by decide +kernel
theorem dX1_take_88 : decode cX1_take 88 = .ok (.aload_n 1, 1) := by decide +kernel
theorem dX1_take_89 : decode cX1_take 89 = .ok (.getfield 24, 3) := by decide +kernel
theorem dX1_take_92 : decode cX1_take 92 = .ok (.iconst 0, 1) := by decide +kernel
theorem dX1_take_93 : decode cX1_take 93 = .ok (.aload_n 0, 1) := by decide +kernel
theorem dX1_take_94 : decode cX1_take 94 = .ok (.getfield 24, 3) := by decide +kernel
theorem dX1_take_97 : decode cX1_take 97 = .ok (.iconst 0, 1) := by decide +kernel
theorem dX1_take_98 : decode cX1_take 98 = .ok (.aload_n 0, 1) := by decide +kernel
theorem dX1_take_99 : decode cX1_take 99 = .ok (.getfield 24, 3) := by decide +kernel
theorem dX1_take_102 : decode cX1_take 102 = .ok (.arraylength, 1) := by decide +kernel
theorem dX1_take_103 : decode cX1_take 103 = .ok (.invokestatic 37, 3) := by decide +kernel
theorem dX1_take_106 : decode cX1_take 106 = .ok (.aload_n 1, 1) := by decide +kernel
theorem dX1_take_107 : decode cX1_take 107 = .ok (.getfield 27, 3) := by decide +kernel
theorem dX1_take_110 : decode cX1_take 110 = .ok (.iconst 0, 1) := by decide +kernel
theorem dX1_take_111 : decode cX1_take 111 = .ok (.aload_n 0, 1) := by decide +kernel
theorem dX1_take_112 : decode cX1_take 112 = .ok (.getfield 27, 3) := by decide +kernel
theorem dX1_take_115 : decode cX1_take 115 = .ok (.iconst 0, 1) := by decide +kernel
theorem dX1_take_116 : decode cX1_take 116 = .ok (.aload_n 0, 1) := by decide +kernel
theorem dX1_take_117 : decode cX1_take 117 = .ok (.getfield 27, 3) := by decide +kernel
theorem dX1_take_120 : decode cX1_take 120 = .ok (.arraylength, 1) := by decide +kernel
theorem dX1_take_121 : decode cX1_take 121 = .ok (.invokestatic 37, 3) := by decide +kernel
theorem dX1_take_124 : decode cX1_take 124 = .ok (.return_, 1) := by decide +kernel
abbrev mdX1_take : MD := (cX1_take, RX1, 2, none, yX1_take.name, 1, 18, eT)
set_option maxHeartbeats 2000000 in
set_option maxRecDepth 20000 in
theorem i_X1_take (C : KX) (l0 : Nat) (l1 : Nat) : Imp C yX1_take cX1_take 2 none 1 18 rvV [.ref (kB C + l0), .ref (kB C + l1)] (m_X1_take l0 l1) := by
  refine Imp.of (by decide) (Nat.le_of_ble_eq_true rfl) [(0, .ref (kB C + l0)), (1, .ref (kB C + l1))] rfl ?_
  show Cmp C mdX1_take (QM rvV) 0 [(0, .ref (kB C + l0)), (1, .ref (kB C + l1))] [] (m_X1_take l0 l1)
  unfold m_X1_take
  refine C_aload_n (D := mdX1_take) (pc' := 1) (x := kB C + l0) dX1_take_0 rfl 0 rfl ?_
  refine C_aload_n (D := mdX1_take) (pc' := 2) (x := kB C + l1) dX1_take_1 rfl 1 rfl ?_
  refine C_getI (D := mdX1_take) (pc' := 5) (p := l1) f_X1_30 rfl dX1_take_2 rfl (fun queries1 => ?_)
  refine C_putI (D := mdX1_take) (pc' := 8) (p := l0) f_X1_30 rfl dX1_take_5 rfl ?_
  refine C_aload_n (D := mdX1_take) (pc' := 9) (x := kB C + l0) dX1_take_8 rfl 0 rfl ?_
  refine C_aload_n (D := mdX1_take) (pc' := 10) (x := kB C + l1) dX1_take_9 rfl 1 rfl ?_
  refine C_getI (D := mdX1_take) (pc' := 13) (p := l1) f_X1_34 rfl dX1_take_10 rfl (fun letters2 => ?_)
  refine C_putI (D := mdX1_take) (pc' := 16) (p := l0) f_X1_34 rfl dX1_take_13 rfl ?_
  refine C_aload_n (D := mdX1_take) (pc' := 17) (x := kB C + l1) dX1_take_16 rfl 1 rfl ?_
  refine C_getR (D := mdX1_take) (pc' := 20) (p := l1) f_X1_9 rfl dX1_take_17 rfl (fun parts3 => ?_)
  refine C_iconst (D := mdX1_take) (pc' := 21) (v := 0) dX1_take_20 rfl (by decide) ?_
  refine C_aload_n (D := mdX1_take) (pc' := 22) (x := kB C + l0) dX1_take_21 rfl 0 rfl ?_
  refine C_getR (D := mdX1_take) (pc' := 25) (p := l0) f_X1_9 rfl dX1_take_22 rfl (fun parts4 => ?_)
  refine C_iconst (D := mdX1_take) (pc' := 26) (v := 0) dX1_take_25 rfl (by decide) ?_
  refine C_aload_n (D := mdX1_take) (pc' := 27) (x := kB C + l0) dX1_take_26 rfl 0 rfl ?_
  refine C_getR (D := mdX1_take) (pc' := 30) (p := l0) f_X1_9 rfl dX1_take_27 rfl (fun parts5 => ?_)
  refine C_alen (D := mdX1_take) (pc' := 31) (kd := 100) (p := parts5) (by decide) dX1_take_30 rfl (fun len6 => ?_)
  refine C_copy (D := mdX1_take) (pc' := 34) (src := parts3) (dst := parts4) cp_X1_37 cp_n cp_s cp_i dX1_take_31 rfl (by decide) (Nat.le_of_ble_eq_true rfl) ?_
  refine C_aload_n (D := mdX1_take) (pc' := 35) (x := kB C + l1) dX1_take_34 rfl 1 rfl ?_
  refine C_getR (D := mdX1_take) (pc' := 38) (p := l1) f_X1_15 rfl dX1_take_35 rfl (fun sort7 => ?_)
  refine C_iconst (D := mdX1_take) (pc' := 39) (v := 0) dX1_take_38 rfl (by decide) ?_
  refine C_aload_n (D := mdX1_take) (pc' := 40) (x := kB C + l0) dX1_take_39 rfl 0 rfl ?_
  refine C_getR (D := mdX1_take) (pc' := 43) (p := l0) f_X1_15 rfl dX1_take_40 rfl (fun sort8 => ?_)
  refine C_iconst (D := mdX1_take) (pc' := 44) (v := 0) dX1_take_43 rfl (by decide) ?_
  refine C_aload_n (D := mdX1_take) (pc' := 45) (x := kB C + l0) dX1_take_44 rfl 0 rfl ?_
  refine C_getR (D := mdX1_take) (pc' := 48) (p := l0) f_X1_15 rfl dX1_take_45 rfl (fun sort9 => ?_)
  refine C_alen (D := mdX1_take) (pc' := 49) (kd := 100) (p := sort9) (by decide) dX1_take_48 rfl (fun len10 => ?_)
  refine C_copy (D := mdX1_take) (pc' := 52) (src := sort7) (dst := sort8) cp_X1_37 cp_n cp_s cp_i dX1_take_49 rfl (by decide) (Nat.le_of_ble_eq_true rfl) ?_
  refine C_aload_n (D := mdX1_take) (pc' := 53) (x := kB C + l1) dX1_take_52 rfl 1 rfl ?_
  refine C_getR (D := mdX1_take) (pc' := 56) (p := l1) f_X1_18 rfl dX1_take_53 rfl (fun word11 => ?_)
  refine C_iconst (D := mdX1_take) (pc' := 57) (v := 0) dX1_take_56 rfl (by decide) ?_
  refine C_aload_n (D := mdX1_take) (pc' := 58) (x := kB C + l0) dX1_take_57 rfl 0 rfl ?_
  refine C_getR (D := mdX1_take) (pc' := 61) (p := l0) f_X1_18 rfl dX1_take_58 rfl (fun word12 => ?_)
  refine C_iconst (D := mdX1_take) (pc' := 62) (v := 0) dX1_take_61 rfl (by decide) ?_
  refine C_aload_n (D := mdX1_take) (pc' := 63) (x := kB C + l0) dX1_take_62 rfl 0 rfl ?_
  refine C_getR (D := mdX1_take) (pc' := 66) (p := l0) f_X1_18 rfl dX1_take_63 rfl (fun word13 => ?_)
  refine C_alen (D := mdX1_take) (pc' := 67) (kd := 100) (p := word13) (by decide) dX1_take_66 rfl (fun len14 => ?_)
  refine C_copy (D := mdX1_take) (pc' := 70) (src := word11) (dst := word12) cp_X1_37 cp_n cp_s cp_i dX1_take_67 rfl (by decide) (Nat.le_of_ble_eq_true rfl) ?_
  refine C_aload_n (D := mdX1_take) (pc' := 71) (x := kB C + l1) dX1_take_70 rfl 1 rfl ?_
  refine C_getR (D := mdX1_take) (pc' := 74) (p := l1) f_X1_21 rfl dX1_take_71 rfl (fun earlier15 => ?_)
  refine C_iconst (D := mdX1_take) (pc' := 75) (v := 0) dX1_take_74 rfl (by decide) ?_
  refine C_aload_n (D := mdX1_take) (pc' := 76) (x := kB C + l0) dX1_take_75 rfl 0 rfl ?_
  refine C_getR (D := mdX1_take) (pc' := 79) (p := l0) f_X1_21 rfl dX1_take_76 rfl (fun earlier16 => ?_)
  refine C_iconst (D := mdX1_take) (pc' := 80) (v := 0) dX1_take_79 rfl (by decide) ?_
  refine C_aload_n (D := mdX1_take) (pc' := 81) (x := kB C + l0) dX1_take_80 rfl 0 rfl ?_
  refine C_getR (D := mdX1_take) (pc' := 84) (p := l0) f_X1_21 rfl dX1_take_81 rfl (fun earlier17 => ?_)
  refine C_alen (D := mdX1_take) (pc' := 85) (kd := 100) (p := earlier17) (by decide) dX1_take_84 rfl (fun len18 => ?_)
  refine C_copy (D := mdX1_take) (pc' := 88) (src := earlier15) (dst := earlier16) cp_X1_37 cp_n cp_s cp_i dX1_take_85 rfl (by decide) (Nat.le_of_ble_eq_true rfl) ?_
  refine C_aload_n (D := mdX1_take) (pc' := 89) (x := kB C + l1) dX1_take_88 rfl 1 rfl ?_
  refine C_getR (D := mdX1_take) (pc' := 92) (p := l1) f_X1_24 rfl dX1_take_89 rfl (fun reach19 => ?_)
  refine C_iconst (D := mdX1_take) (pc' := 93) (v := 0) dX1_take_92 rfl (by decide) ?_
  refine C_aload_n (D := mdX1_take) (pc' := 94) (x := kB C + l0) dX1_take_93 rfl 0 rfl ?_
  refine C_getR (D := mdX1_take) (pc' := 97) (p := l0) f_X1_24 rfl dX1_take_94 rfl (fun reach20 => ?_)
  refine C_iconst (D := mdX1_take) (pc' := 98) (v := 0) dX1_take_97 rfl (by decide) ?_
  refine C_aload_n (D := mdX1_take) (pc' := 99) (x := kB C + l0) dX1_take_98 rfl 0 rfl ?_
  refine C_getR (D := mdX1_take) (pc' := 102) (p := l0) f_X1_24 rfl dX1_take_99 rfl (fun reach21 => ?_)
  refine C_alen (D := mdX1_take) (pc' := 103) (kd := 100) (p := reach21) (by decide) dX1_take_102 rfl (fun len22 => ?_)
  refine C_copy (D := mdX1_take) (pc' := 106) (src := reach19) (dst := reach20) cp_X1_37 cp_n cp_s cp_i dX1_take_103 rfl (by decide) (Nat.le_of_ble_eq_true rfl) ?_
  refine C_aload_n (D := mdX1_take) (pc' := 107) (x := kB C + l1) dX1_take_106 rfl 1 rfl ?_
  refine C_getR (D := mdX1_take) (pc' := 110) (p := l1) f_X1_27 rfl dX1_take_107 rfl (fun row23 => ?_)
  refine C_iconst (D := mdX1_take) (pc' := 111) (v := 0) dX1_take_110 rfl (by decide) ?_
  refine C_aload_n (D := mdX1_take) (pc' := 112) (x := kB C + l0) dX1_take_111 rfl 0 rfl ?_
  refine C_getR (D := mdX1_take) (pc' := 115) (p := l0) f_X1_27 rfl dX1_take_112 rfl (fun row24 => ?_)
  refine C_iconst (D := mdX1_take) (pc' := 116) (v := 0) dX1_take_115 rfl (by decide) ?_
  refine C_aload_n (D := mdX1_take) (pc' := 117) (x := kB C + l0) dX1_take_116 rfl 0 rfl ?_
  refine C_getR (D := mdX1_take) (pc' := 120) (p := l0) f_X1_27 rfl dX1_take_117 rfl (fun row25 => ?_)
  refine C_alen (D := mdX1_take) (pc' := 121) (kd := 100) (p := row25) (by decide) dX1_take_120 rfl (fun len26 => ?_)
  refine C_copy (D := mdX1_take) (pc' := 124) (src := row23) (dst := row24) cp_X1_37 cp_n cp_s cp_i dX1_take_121 rfl (by decide) (Nat.le_of_ble_eq_true rfl) ?_
  exact C_vret rfl dX1_take_124

-- StandingQueries$Held.place(II)I
theorem dX1_place_0 : decode cX1_place 0 = .ok (.iload_n 1, 1) := by decide +kernel
theorem dX1_place_1 : decode cX1_place 1 = .ok (.iconst 4, 1) := by decide +kernel
theorem dX1_place_2 : decode cX1_place 2 = .ok (.imul, 1) := by decide +kernel
theorem dX1_place_3 : decode cX1_place 3 = .ok (.iload_n 2, 1) := by decide +kernel
theorem dX1_place_4 : decode cX1_place 4 = .ok (.iadd, 1) := by decide +kernel
theorem dX1_place_5 : decode cX1_place 5 = .ok (.ireturn, 1) := by decide +kernel
abbrev mdX1_place : MD := (cX1_place, RX1, 3, (some .int), yX1_place.name, 0, 0, eT)
set_option maxHeartbeats 2000000 in
set_option maxRecDepth 20000 in
theorem i_X1_place (C : KX) (l0 : Nat) (l1 : Int32) (l2 : Int32) : Imp C yX1_place cX1_place 3 (some .int) 0 0 rvI [.ref (kB C + l0), .int l1, .int l2] (m_X1_place l0 l1 l2) := by
  refine Imp.of (by decide) (Nat.le_of_ble_eq_true rfl) [(0, .ref (kB C + l0)), (1, .int l1), (2, .int l2)] rfl ?_
  show Cmp C mdX1_place (QM rvI) 0 [(0, .ref (kB C + l0)), (1, .int l1), (2, .int l2)] [] (m_X1_place l0 l1 l2)
  unfold m_X1_place
  refine C_iload_n (D := mdX1_place) (pc' := 1) (x := l1) dX1_place_0 rfl 1 rfl ?_
  refine C_iconst (D := mdX1_place) (pc' := 2) (v := 4) dX1_place_1 rfl (by decide) ?_
  refine C_imul (D := mdX1_place) (pc' := 3) dX1_place_2 rfl ?_
  refine C_iload_n (D := mdX1_place) (pc' := 4) (x := l2) dX1_place_3 rfl 2 rfl ?_
  refine C_iadd (D := mdX1_place) (pc' := 5) dX1_place_4 rfl ?_
  exact C_iret rfl dX1_place_5

-- StandingQueries$Words.find(I)I
theorem dX6_find_0 : decode cX6_find 0 = .ok (.iconst 0, 1) := by decide +kernel
theorem dX6_find_1 : decode cX6_find 1 = .ok (.istore_n 2, 1) := by decide +kernel
theorem dX6_find_2 : decode cX6_find 2 = .ok (.iload_n 2, 1) := by decide +kernel
theorem dX6_find_3 : decode cX6_find 3 = .ok (.aload_n 0, 1) := by decide +kernel
theorem dX6_find_4 : decode cX6_find 4 = .ok (.getfield 15, 3) := by decide +kernel
theorem dX6_find_7 : decode cX6_find 7 = .ok (.if_icmp .ge 21, 3) := by decide +kernel
theorem dX6_find_10 : decode cX6_find 10 = .ok (.aload_n 0, 1) := by decide +kernel
theorem dX6_find_11 : decode cX6_find 11 = .ok (.getfield 9, 3) := by decide +kernel
theorem dX6_find_14 : decode cX6_find 14 = .ok (.iload_n 2, 1) := by decide +kernel
theorem dX6_find_15 : decode cX6_find 15 = .ok (.iaload, 1) := by decide +kernel
theorem dX6_find_16 : decode cX6_find 16 = .ok (.iload_n 1, 1) := by decide +kernel
theorem dX6_find_17 : decode cX6_find 17 = .ok (.if_icmp .ne 5, 3) := by decide +kernel
theorem dX6_find_20 : decode cX6_find 20 = .ok (.iload_n 2, 1) := by decide +kernel
theorem dX6_find_21 : decode cX6_find 21 = .ok (.ireturn, 1) := by decide +kernel
theorem dX6_find_22 : decode cX6_find 22 = .ok (.iinc 2 1, 3) := by decide +kernel
theorem dX6_find_25 : decode cX6_find 25 = .ok (.goto (-23), 3) := by decide +kernel
theorem dX6_find_28 : decode cX6_find 28 = .ok (.bipush (-9), 2) := by decide +kernel
theorem dX6_find_30 : decode cX6_find 30 = .ok (.ireturn, 1) := by decide +kernel
abbrev mdX6_find : MD := (cX6_find, RX6, 3, (some .int), yX6_find.name, 0, 0, eT)
set_option maxHeartbeats 2000000 in
set_option maxRecDepth 20000 in
theorem p_X6_find_B2 (C : KX) (l0 : Nat) (l1 : Int32)  (k2 : Int32 → Mo Int32) (hk2 : ∀ s, Cmp C mdX6_find (QM rvI) 2 [(0, .ref (kB C + l0)), (1, .int l1), (2, .int s)] [] (k2 s)) (l2 : Int32) : Cmp C mdX6_find (QM rvI) 2 [(0, .ref (kB C + l0)), (1, .int l1), (2, .int l2)] [] (m_X6_find_B2 l0 l1 k2 l2) := by
  unfold m_X6_find_B2
  refine C_iload_n (D := mdX6_find) (pc' := 3) (x := l2) dX6_find_2 rfl 2 rfl ?_
  refine C_aload_n (D := mdX6_find) (pc' := 4) (x := kB C + l0) dX6_find_3 rfl 0 rfl ?_
  refine C_getI (D := mdX6_find) (pc' := 7) (p := l0) f_X6_15 rfl dX6_find_4 rfl (fun count1 => ?_)
  refine C_icmp_ge (D := mdX6_find) (pc' := 10) (tgt := 28) dX6_find_7 (by decide) rfl ?_ ?_
  · refine C_bipush (D := mdX6_find) (pc' := 30) (v := (-9)) dX6_find_28 rfl (by decide) ?_
    exact C_iret rfl dX6_find_30
  · refine C_aload_n (D := mdX6_find) (pc' := 11) (x := kB C + l0) dX6_find_10 rfl 0 rfl ?_
    refine C_getR (D := mdX6_find) (pc' := 14) (p := l0) f_X6_9 rfl dX6_find_11 rfl (fun codes2 => ?_)
    refine C_iload_n (D := mdX6_find) (pc' := 15) (x := l2) dX6_find_14 rfl 2 rfl ?_
    refine C_aI (D := mdX6_find) (pc' := 16) (p := codes2) dX6_find_15 rfl (fun x3 => ?_)
    refine C_iload_n (D := mdX6_find) (pc' := 17) (x := l1) dX6_find_16 rfl 1 rfl ?_
    refine C_icmp_ne (D := mdX6_find) (pc' := 20) (tgt := 22) dX6_find_17 (by decide) rfl ?_ ?_
    · refine C_iinc (D := mdX6_find) (pc' := 25) (j := 2) (v := (l2 + 1)) (ls' := [(2, .int (l2 + 1)), (0, .ref (kB C + l0)), (1, .int l1)]) dX6_find_22 rfl rfl rfl (by decide) rfl ?_
      refine C_goto (D := mdX6_find) (pc' := 2) dX6_find_25 (by decide) ?_
      exact C_sub [1, 2, 0] rfl (hk2 ((l2 + 1)))
    · refine C_iload_n (D := mdX6_find) (pc' := 21) (x := l2) dX6_find_20 rfl 2 rfl ?_
      exact C_iret rfl dX6_find_21
set_option maxHeartbeats 2000000 in
set_option maxRecDepth 20000 in
theorem i_X6_find (C : KX) (l0 : Nat) (l1 : Int32) : Imp C yX6_find cX6_find 3 (some .int) 0 0 rvI [.ref (kB C + l0), .int l1] (m_X6_find l0 l1) := by
  refine Imp.of (by decide) (Nat.le_of_ble_eq_true rfl) [(0, .ref (kB C + l0)), (1, .int l1)] rfl ?_
  show Cmp C mdX6_find (QM rvI) 0 [(0, .ref (kB C + l0)), (1, .int l1)] [] (m_X6_find l0 l1)
  unfold m_X6_find
  refine C_iconst (D := mdX6_find) (pc' := 1) (v := 0) dX6_find_0 rfl (by decide) ?_
  refine C_istore_n (D := mdX6_find) (pc' := 2) (ls' := [(2, .int 0), (0, .ref (kB C + l0)), (1, .int l1)]) dX6_find_1 rfl rfl (by decide) rfl ?_
  exact C_sub [1, 2, 0] rfl (C_loop (fun s => [(0, .ref (kB C + l0)), (1, .int l1), (2, .int s)]) (fun k hk s => p_X6_find_B2 C l0 l1  k hk s) FU 0)

-- StandingQueries$Words.put(I)Z
theorem dX6_put_0 : decode cX6_put 0 = .ok (.aload_n 0, 1) := by decide +kernel
theorem dX6_put_1 : decode cX6_put 1 = .ok (.iload_n 1, 1) := by decide +kernel
theorem dX6_put_2 : decode cX6_put 2 = .ok (.invokevirtual 19, 3) := by decide +kernel
theorem dX6_put_5 : decode cX6_put 5 = .ok (.ifCond .lt 5, 3) := by decide +kernel
theorem dX6_put_8 : decode cX6_put 8 = .ok (.iconst 1, 1) := by decide +kernel
theorem dX6_put_9 : decode cX6_put 9 = .ok (.ireturn, 1) := by decide +kernel
theorem dX6_put_10 : decode cX6_put 10 = .ok (.aload_n 0, 1) := by decide +kernel
theorem dX6_put_11 : decode cX6_put 11 = .ok (.getfield 15, 3) := by decide +kernel
theorem dX6_put_14 : decode cX6_put 14 = .ok (.aload_n 0, 1) := by decide +kernel
theorem dX6_put_15 : decode cX6_put 15 = .ok (.getfield 9, 3) := by decide +kernel
theorem dX6_put_18 : decode cX6_put 18 = .ok (.arraylength, 1) := by decide +kernel
theorem dX6_put_19 : decode cX6_put 19 = .ok (.if_icmp .lt 5, 3) := by decide +kernel
theorem dX6_put_22 : decode cX6_put 22 = .ok (.iconst 0, 1) := by decide +kernel
theorem dX6_put_23 : decode cX6_put 23 = .ok (.ireturn, 1) := by decide +kernel
theorem dX6_put_24 : decode cX6_put 24 = .ok (.aload_n 0, 1) := by decide +kernel
theorem dX6_put_25 : decode cX6_put 25 = .ok (.getfield 15, 3) := by decide +kernel
theorem dX6_put_28 : decode cX6_put 28 = .ok (.istore_n 2, 1) := by decide +kernel
theorem dX6_put_29 : decode cX6_put 29 = .ok (.iload_n 2, 1) := by decide +kernel
theorem dX6_put_30 : decode cX6_put 30 = .ok (.ifCond .le 35, 3) := by decide +kernel
theorem dX6_put_33 : decode cX6_put 33 = .ok (.aload_n 0, 1) := by decide +kernel
theorem dX6_put_34 : decode cX6_put 34 = .ok (.getfield 9, 3) := by decide +kernel
theorem dX6_put_37 : decode cX6_put 37 = .ok (.iload_n 2, 1) := by decide +kernel
theorem dX6_put_38 : decode cX6_put 38 = .ok (.iconst 1, 1) := by decide +kernel
theorem dX6_put_39 : decode cX6_put 39 = .ok (.isub, 1) := by decide +kernel
theorem dX6_put_40 : decode cX6_put 40 = .ok (.iaload, 1) := by decide +kernel
theorem dX6_put_41 : decode cX6_put 41 = .ok (.iload_n 1, 1) := by decide +kernel
theorem dX6_put_42 : decode cX6_put 42 = .ok (.if_icmp .le 23, 3) := by decide +kernel
theorem dX6_put_45 : decode cX6_put 45 = .ok (.aload_n 0, 1) := by decide +kernel
theorem dX6_put_46 : decode cX6_put 46 = .ok (.getfield 9, 3) := by decide +kernel
theorem dX6_put_49 : decode cX6_put 49 = .ok (.iload_n 2, 1) := by decide +kernel
theorem dX6_put_50 : decode cX6_put 50 = .ok (.aload_n 0, 1) := by decide +kernel
theorem dX6_put_51 : decode cX6_put 51 = .ok (.getfield 9, 3) := by decide +kernel
theorem dX6_put_54 : decode cX6_put 54 = .ok (.iload_n 2, 1) := by decide +kernel
theorem dX6_put_55 : decode cX6_put 55 = .ok (.iconst 1, 1) := by decide +kernel
theorem dX6_put_56 : decode cX6_put 56 = .ok (.isub, 1) := by decide +kernel
theorem dX6_put_57 : decode cX6_put 57 = .ok (.iaload, 1) := by decide +kernel
theorem dX6_put_58 : decode cX6_put 58 = .ok (.iastore, 1) := by decide +kernel
theorem dX6_put_59 : decode cX6_put 59 = .ok (.iinc 2 (-1), 3) := by decide +kernel
theorem dX6_put_62 : decode cX6_put 62 = .ok (.goto (-33), 3) := by decide +kernel
theorem dX6_put_65 : decode cX6_put 65 = .ok (.aload_n 0, 1) := by decide +kernel
theorem dX6_put_66 : decode cX6_put 66 = .ok (.getfield 9, 3) := by decide +kernel
theorem dX6_put_69 : decode cX6_put 69 = .ok (.iload_n 2, 1) := by decide +kernel
theorem dX6_put_70 : decode cX6_put 70 = .ok (.iload_n 1, 1) := by decide +kernel
theorem dX6_put_71 : decode cX6_put 71 = .ok (.iastore, 1) := by decide +kernel
theorem dX6_put_72 : decode cX6_put 72 = .ok (.aload_n 0, 1) := by decide +kernel
theorem dX6_put_73 : decode cX6_put 73 = .ok (.dup, 1) := by decide +kernel
theorem dX6_put_74 : decode cX6_put 74 = .ok (.getfield 15, 3) := by decide +kernel
theorem dX6_put_77 : decode cX6_put 77 = .ok (.iconst 1, 1) := by decide +kernel
theorem dX6_put_78 : decode cX6_put 78 = .ok (.iadd, 1) := by decide +kernel
theorem dX6_put_79 : decode cX6_put 79 = .ok (.putfield 15, 3) := by decide +kernel
theorem dX6_put_82 : decode cX6_put 82 = .ok (.iconst 1, 1) := by decide +kernel
theorem dX6_put_83 : decode cX6_put 83 = .ok (.ireturn, 1) := by decide +kernel
abbrev mdX6_put : MD := (cX6_put, RX6, 3, (some .boolean), yX6_put.name, 1, 22, eT)
set_option maxHeartbeats 2000000 in
set_option maxRecDepth 20000 in
theorem p_X6_put_J65 (C : KX) (l0 : Nat) (l1 : Int32) (l2 : Int32)  : Cmp C mdX6_put (QM rvI) 65 [(0, .ref (kB C + l0)), (1, .int l1), (2, .int l2)] [] (m_X6_put_J65 l0 l1 l2) := by
  unfold m_X6_put_J65
  refine C_aload_n (D := mdX6_put) (pc' := 66) (x := kB C + l0) dX6_put_65 rfl 0 rfl ?_
  refine C_getR (D := mdX6_put) (pc' := 69) (p := l0) f_X6_9 rfl dX6_put_66 rfl (fun codes6 => ?_)
  refine C_iload_n (D := mdX6_put) (pc' := 70) (x := l2) dX6_put_69 rfl 2 rfl ?_
  refine C_iload_n (D := mdX6_put) (pc' := 71) (x := l1) dX6_put_70 rfl 1 rfl ?_
  refine C_tI (D := mdX6_put) (pc' := 72) (p := codes6) dX6_put_71 rfl ?_
  refine C_aload_n (D := mdX6_put) (pc' := 73) (x := kB C + l0) dX6_put_72 rfl 0 rfl ?_
  refine C_dup (D := mdX6_put) (pc' := 74) dX6_put_73 rfl rfl ?_
  refine C_getI (D := mdX6_put) (pc' := 77) (p := l0) f_X6_15 rfl dX6_put_74 rfl (fun count7 => ?_)
  refine C_iconst (D := mdX6_put) (pc' := 78) (v := 1) dX6_put_77 rfl (by decide) ?_
  refine C_iadd (D := mdX6_put) (pc' := 79) dX6_put_78 rfl ?_
  refine C_putI (D := mdX6_put) (pc' := 82) (p := l0) f_X6_15 rfl dX6_put_79 rfl ?_
  refine C_iconst (D := mdX6_put) (pc' := 83) (v := 1) dX6_put_82 rfl (by decide) ?_
  exact C_zret rfl dX6_put_83
set_option maxHeartbeats 2000000 in
set_option maxRecDepth 20000 in
theorem p_X6_put_B29 (C : KX) (l0 : Nat) (l1 : Int32)  (k29 : Int32 → Mo Int32) (hk29 : ∀ s, Cmp C mdX6_put (QM rvI) 29 [(0, .ref (kB C + l0)), (1, .int l1), (2, .int s)] [] (k29 s)) (l2 : Int32) : Cmp C mdX6_put (QM rvI) 29 [(0, .ref (kB C + l0)), (1, .int l1), (2, .int l2)] [] (m_X6_put_B29 l0 l1 k29 l2) := by
  unfold m_X6_put_B29
  refine C_iload_n (D := mdX6_put) (pc' := 30) (x := l2) dX6_put_29 rfl 2 rfl ?_
  refine C_if_le (D := mdX6_put) (pc' := 33) (tgt := 65) dX6_put_30 (by decide) rfl ?_ ?_
  · exact C_sub [0, 1, 2] rfl (p_X6_put_J65 C l0 l1 l2)
  · refine C_aload_n (D := mdX6_put) (pc' := 34) (x := kB C + l0) dX6_put_33 rfl 0 rfl ?_
    refine C_getR (D := mdX6_put) (pc' := 37) (p := l0) f_X6_9 rfl dX6_put_34 rfl (fun codes8 => ?_)
    refine C_iload_n (D := mdX6_put) (pc' := 38) (x := l2) dX6_put_37 rfl 2 rfl ?_
    refine C_iconst (D := mdX6_put) (pc' := 39) (v := 1) dX6_put_38 rfl (by decide) ?_
    refine C_isub (D := mdX6_put) (pc' := 40) dX6_put_39 rfl ?_
    refine C_aI (D := mdX6_put) (pc' := 41) (p := codes8) dX6_put_40 rfl (fun x9 => ?_)
    refine C_iload_n (D := mdX6_put) (pc' := 42) (x := l1) dX6_put_41 rfl 1 rfl ?_
    refine C_icmp_le (D := mdX6_put) (pc' := 45) (tgt := 65) dX6_put_42 (by decide) rfl ?_ ?_
    · exact C_sub [0, 1, 2] rfl (p_X6_put_J65 C l0 l1 l2)
    · refine C_aload_n (D := mdX6_put) (pc' := 46) (x := kB C + l0) dX6_put_45 rfl 0 rfl ?_
      refine C_getR (D := mdX6_put) (pc' := 49) (p := l0) f_X6_9 rfl dX6_put_46 rfl (fun codes10 => ?_)
      refine C_iload_n (D := mdX6_put) (pc' := 50) (x := l2) dX6_put_49 rfl 2 rfl ?_
      refine C_aload_n (D := mdX6_put) (pc' := 51) (x := kB C + l0) dX6_put_50 rfl 0 rfl ?_
      refine C_getR (D := mdX6_put) (pc' := 54) (p := l0) f_X6_9 rfl dX6_put_51 rfl (fun codes11 => ?_)
      refine C_iload_n (D := mdX6_put) (pc' := 55) (x := l2) dX6_put_54 rfl 2 rfl ?_
      refine C_iconst (D := mdX6_put) (pc' := 56) (v := 1) dX6_put_55 rfl (by decide) ?_
      refine C_isub (D := mdX6_put) (pc' := 57) dX6_put_56 rfl ?_
      refine C_aI (D := mdX6_put) (pc' := 58) (p := codes11) dX6_put_57 rfl (fun x12 => ?_)
      refine C_tI (D := mdX6_put) (pc' := 59) (p := codes10) dX6_put_58 rfl ?_
      refine C_iinc (D := mdX6_put) (pc' := 62) (j := 2) (v := (l2 + (-1))) (ls' := [(2, .int (l2 + (-1))), (0, .ref (kB C + l0)), (1, .int l1)]) dX6_put_59 rfl rfl rfl (by decide) rfl ?_
      refine C_goto (D := mdX6_put) (pc' := 29) dX6_put_62 (by decide) ?_
      exact C_sub [1, 2, 0] rfl (hk29 ((l2 + (-1))))
set_option maxHeartbeats 2000000 in
set_option maxRecDepth 20000 in
theorem i_X6_put (C : KX) (l0 : Nat) (l1 : Int32) : Imp C yX6_put cX6_put 3 (some .boolean) 1 22 rvI [.ref (kB C + l0), .int l1] (m_X6_put l0 l1) := by
  refine Imp.of (by decide) (Nat.le_of_ble_eq_true rfl) [(0, .ref (kB C + l0)), (1, .int l1)] rfl ?_
  show Cmp C mdX6_put (QM rvI) 0 [(0, .ref (kB C + l0)), (1, .int l1)] [] (m_X6_put l0 l1)
  unfold m_X6_put
  refine C_aload_n (D := mdX6_put) (pc' := 1) (x := kB C + l0) dX6_put_0 rfl 0 rfl ?_
  refine C_iload_n (D := mdX6_put) (pc' := 2) (x := l1) dX6_put_1 rfl 1 rfl ?_
  refine C_callV (D := mdX6_put) (pc' := 5) (p := l0) (st := []) [.int l1] v_X6_19 (i_X6_find C l0 l1) dX6_put_2 rfl rfl rfl (Nat.le_of_ble_eq_true rfl) (by decide) (by decide) (fun c1 => ?_)
  refine C_if_lt (D := mdX6_put) (pc' := 8) (tgt := 10) dX6_put_5 (by decide) rfl ?_ ?_
  · refine C_aload_n (D := mdX6_put) (pc' := 11) (x := kB C + l0) dX6_put_10 rfl 0 rfl ?_
    refine C_getI (D := mdX6_put) (pc' := 14) (p := l0) f_X6_15 rfl dX6_put_11 rfl (fun count2 => ?_)
    refine C_aload_n (D := mdX6_put) (pc' := 15) (x := kB C + l0) dX6_put_14 rfl 0 rfl ?_
    refine C_getR (D := mdX6_put) (pc' := 18) (p := l0) f_X6_9 rfl dX6_put_15 rfl (fun codes3 => ?_)
    refine C_alen (D := mdX6_put) (pc' := 19) (kd := 100) (p := codes3) (by decide) dX6_put_18 rfl (fun len4 => ?_)
    refine C_icmp_lt (D := mdX6_put) (pc' := 22) (tgt := 24) dX6_put_19 (by decide) rfl ?_ ?_
    · refine C_aload_n (D := mdX6_put) (pc' := 25) (x := kB C + l0) dX6_put_24 rfl 0 rfl ?_
      refine C_getI (D := mdX6_put) (pc' := 28) (p := l0) f_X6_15 rfl dX6_put_25 rfl (fun count5 => ?_)
      refine C_istore_n (D := mdX6_put) (pc' := 29) (ls' := [(2, .int count5), (0, .ref (kB C + l0)), (1, .int l1)]) dX6_put_28 rfl rfl (by decide) rfl ?_
      exact C_sub [1, 2, 0] rfl (C_loop (fun s => [(0, .ref (kB C + l0)), (1, .int l1), (2, .int s)]) (fun k hk s => p_X6_put_B29 C l0 l1  k hk s) FU count5)
    · refine C_iconst (D := mdX6_put) (pc' := 23) (v := 0) dX6_put_22 rfl (by decide) ?_
      exact C_zret rfl dX6_put_23
  · refine C_iconst (D := mdX6_put) (pc' := 9) (v := 1) dX6_put_8 rfl (by decide) ?_
    exact C_zret rfl dX6_put_9

-- StandingQueries$Words.putWordsOf(LStandingQueries$Held;I)V
theorem dX6_putWordsOf_0 : decode cX6_putWordsOf 0 = .ok (.iconst 0, 1) := by decide +kernel
theorem dX6_putWordsOf_1 : decode cX6_putWordsOf 1 = .ok (.istore_n 3, 1) := by decide +kernel
theorem dX6_putWordsOf_2 : decode cX6_putWordsOf 2 = .ok (.iload_n 3, 1) := by decide +kernel
theorem dX6_putWordsOf_3 : decode cX6_putWordsOf 3 = .ok (.aload_n 1, 1) := by decide +kernel
theorem dX6_putWordsOf_4 : decode cX6_putWordsOf 4 = .ok (.getfield 32, 3) := by decide +kernel
theorem dX6_putWordsOf_7 : decode cX6_putWordsOf 7 = .ok (.iload_n 2, 1) := by decide +kernel
theorem dX6_putWordsOf_8 : decode cX6_putWordsOf 8 = .ok (.iaload, 1) := by decide +kernel
theorem dX6_putWordsOf_9 : decode cX6_putWordsOf 9 = .ok (.if_icmp .ge 52, 3) := by decide +kernel
theorem dX6_putWordsOf_12 : decode cX6_putWordsOf 12 = .ok (.aload_n 1, 1) := by decide +kernel
theorem dX6_putWordsOf_13 : decode cX6_putWordsOf 13 = .ok (.iload_n 2, 1) := by decide +kernel
theorem dX6_putWordsOf_14 : decode cX6_putWordsOf 14 = .ok (.iload_n 3, 1) := by decide +kernel
theorem dX6_putWordsOf_15 : decode cX6_putWordsOf 15 = .ok (.invokevirtual 35, 3) := by decide +kernel
theorem dX6_putWordsOf_18 : decode cX6_putWordsOf 18 = .ok (.istore 4, 2) := by decide +kernel
theorem dX6_putWordsOf_20 : decode cX6_putWordsOf 20 = .ok (.aload_n 0, 1) := by decide +kernel
theorem dX6_putWordsOf_21 : decode cX6_putWordsOf 21 = .ok (.aload_n 1, 1) := by decide +kernel
theorem dX6_putWordsOf_22 : decode cX6_putWordsOf 22 = .ok (.getfield 39, 3) := by decide +kernel
theorem dX6_putWordsOf_25 : decode cX6_putWordsOf 25 = .ok (.iload 4, 2) := by decide +kernel
theorem dX6_putWordsOf_27 : decode cX6_putWordsOf 27 = .ok (.iaload, 1) := by decide +kernel
theorem dX6_putWordsOf_28 : decode cX6_putWordsOf 28 = .ok (.invokevirtual 42, 3) := by decide +kernel
theorem dX6_putWordsOf_31 : decode cX6_putWordsOf 31 = .ok (.pop, 1) := by decide +kernel
theorem dX6_putWordsOf_32 : decode cX6_putWordsOf 32 = .ok (.aload_n 1, 1) := by decide +kernel
theorem dX6_putWordsOf_33 : decode cX6_putWordsOf 33 = .ok (.getfield 46, 3) := by decide +kernel
theorem dX6_putWordsOf_36 : decode cX6_putWordsOf 36 = .ok (.iload 4, 2) := by decide +kernel
theorem dX6_putWordsOf_38 : decode cX6_putWordsOf 38 = .ok (.iaload, 1) := by decide +kernel
theorem dX6_putWordsOf_39 : decode cX6_putWordsOf 39 = .ok (.iconst 2, 1) := by decide +kernel
theorem dX6_putWordsOf_40 : decode cX6_putWordsOf 40 = .ok (.if_icmp .ne 15, 3) := by decide +kernel
theorem dX6_putWordsOf_43 : decode cX6_putWordsOf 43 = .ok (.aload_n 0, 1) := by decide +kernel
theorem dX6_putWordsOf_44 : decode cX6_putWordsOf 44 = .ok (.aload_n 1, 1) := by decide +kernel
theorem dX6_putWordsOf_45 : decode cX6_putWordsOf 45 = .ok (.getfield 49, 3) := by decide +kernel
theorem dX6_putWordsOf_48 : decode cX6_putWordsOf 48 = .ok (.iload 4, 2) := by decide +kernel
theorem dX6_putWordsOf_50 : decode cX6_putWordsOf 50 = .ok (.iaload, 1) := by decide +kernel
theorem dX6_putWordsOf_51 : decode cX6_putWordsOf 51 = .ok (.invokevirtual 42, 3) := by decide +kernel
theorem dX6_putWordsOf_54 : decode cX6_putWordsOf 54 = .ok (.pop, 1) := by decide +kernel
theorem dX6_putWordsOf_55 : decode cX6_putWordsOf 55 = .ok (.iinc 3 1, 3) := by decide +kernel
theorem dX6_putWordsOf_58 : decode cX6_putWordsOf 58 = .ok (.goto (-56), 3) := by decide +kernel
theorem dX6_putWordsOf_61 : decode cX6_putWordsOf 61 = .ok (.return_, 1) := by decide +kernel
abbrev mdX6_putWordsOf : MD := (cX6_putWordsOf, RX6, 5, none, yX6_putWordsOf.name, 2, 44, eT)
set_option maxHeartbeats 2000000 in
set_option maxRecDepth 20000 in
theorem p_X6_putWordsOf_J55 (C : KX) (l0 : Nat) (l1 : Nat) (l2 : Int32) (l3 : Int32) (k2 : Int32 → Mo Unit) (hk2 : ∀ s, Cmp C mdX6_putWordsOf (QM rvV) 2 [(0, .ref (kB C + l0)), (1, .ref (kB C + l1)), (2, .int l2), (3, .int s)] [] (k2 s)) : Cmp C mdX6_putWordsOf (QM rvV) 55 [(0, .ref (kB C + l0)), (1, .ref (kB C + l1)), (2, .int l2), (3, .int l3)] [] (m_X6_putWordsOf_J55 l0 l1 l2 l3 k2) := by
  unfold m_X6_putWordsOf_J55
  refine C_iinc (D := mdX6_putWordsOf) (pc' := 58) (j := 3) (v := (l3 + 1)) (ls' := [(3, .int (l3 + 1)), (0, .ref (kB C + l0)), (1, .ref (kB C + l1)), (2, .int l2)]) dX6_putWordsOf_55 rfl rfl rfl (by decide) rfl ?_
  refine C_goto (D := mdX6_putWordsOf) (pc' := 2) dX6_putWordsOf_58 (by decide) ?_
  exact C_sub [1, 2, 3, 0] rfl (hk2 ((l3 + 1)))
set_option maxHeartbeats 2000000 in
set_option maxRecDepth 20000 in
theorem p_X6_putWordsOf_B2 (C : KX) (l0 : Nat) (l1 : Nat) (l2 : Int32)  (k2 : Int32 → Mo Unit) (hk2 : ∀ s, Cmp C mdX6_putWordsOf (QM rvV) 2 [(0, .ref (kB C + l0)), (1, .ref (kB C + l1)), (2, .int l2), (3, .int s)] [] (k2 s)) (l3 : Int32) : Cmp C mdX6_putWordsOf (QM rvV) 2 [(0, .ref (kB C + l0)), (1, .ref (kB C + l1)), (2, .int l2), (3, .int l3)] [] (m_X6_putWordsOf_B2 l0 l1 l2 k2 l3) := by
  unfold m_X6_putWordsOf_B2
  refine C_iload_n (D := mdX6_putWordsOf) (pc' := 3) (x := l3) dX6_putWordsOf_2 rfl 3 rfl ?_
  refine C_aload_n (D := mdX6_putWordsOf) (pc' := 4) (x := kB C + l1) dX6_putWordsOf_3 rfl 1 rfl ?_
  refine C_getR (D := mdX6_putWordsOf) (pc' := 7) (p := l1) f_X6_32 rfl dX6_putWordsOf_4 rfl (fun parts1 => ?_)
  refine C_iload_n (D := mdX6_putWordsOf) (pc' := 8) (x := l2) dX6_putWordsOf_7 rfl 2 rfl ?_
  refine C_aI (D := mdX6_putWordsOf) (pc' := 9) (p := parts1) dX6_putWordsOf_8 rfl (fun x2 => ?_)
  refine C_icmp_ge (D := mdX6_putWordsOf) (pc' := 12) (tgt := 61) dX6_putWordsOf_9 (by decide) rfl ?_ ?_
  · exact C_vret rfl dX6_putWordsOf_61
  · refine C_aload_n (D := mdX6_putWordsOf) (pc' := 13) (x := kB C + l1) dX6_putWordsOf_12 rfl 1 rfl ?_
    refine C_iload_n (D := mdX6_putWordsOf) (pc' := 14) (x := l2) dX6_putWordsOf_13 rfl 2 rfl ?_
    refine C_iload_n (D := mdX6_putWordsOf) (pc' := 15) (x := l3) dX6_putWordsOf_14 rfl 3 rfl ?_
    refine C_callV (D := mdX6_putWordsOf) (pc' := 18) (p := l1) (st := []) [.int l2, .int l3] v_X6_35 (i_X1_place C l1 l2 l3) dX6_putWordsOf_15 rfl rfl rfl (Nat.le_of_ble_eq_true rfl) (by decide) (by decide) (fun c3 => ?_)
    refine C_istore (D := mdX6_putWordsOf) (pc' := 20) (ls' := [(4, .int c3), (0, .ref (kB C + l0)), (1, .ref (kB C + l1)), (2, .int l2), (3, .int l3)]) dX6_putWordsOf_18 rfl (by decide) rfl ?_
    refine C_aload_n (D := mdX6_putWordsOf) (pc' := 21) (x := kB C + l0) dX6_putWordsOf_20 rfl 1 rfl ?_
    refine C_aload_n (D := mdX6_putWordsOf) (pc' := 22) (x := kB C + l1) dX6_putWordsOf_21 rfl 2 rfl ?_
    refine C_getR (D := mdX6_putWordsOf) (pc' := 25) (p := l1) f_X6_39 rfl dX6_putWordsOf_22 rfl (fun word4 => ?_)
    refine C_iload (D := mdX6_putWordsOf) (pc' := 27) (x := c3) dX6_putWordsOf_25 rfl 0 rfl ?_
    refine C_aI (D := mdX6_putWordsOf) (pc' := 28) (p := word4) dX6_putWordsOf_27 rfl (fun x5 => ?_)
    refine C_callV (D := mdX6_putWordsOf) (pc' := 31) (p := l0) (st := []) [.int x5] v_X6_42 (i_X6_put C l0 x5) dX6_putWordsOf_28 rfl rfl rfl (Nat.le_of_ble_eq_true rfl) (by decide) (by decide) (fun c6 => ?_)
    refine C_pop (D := mdX6_putWordsOf) (pc' := 32) dX6_putWordsOf_31 rfl rfl ?_
    refine C_aload_n (D := mdX6_putWordsOf) (pc' := 33) (x := kB C + l1) dX6_putWordsOf_32 rfl 2 rfl ?_
    refine C_getR (D := mdX6_putWordsOf) (pc' := 36) (p := l1) f_X6_46 rfl dX6_putWordsOf_33 rfl (fun sort7 => ?_)
    refine C_iload (D := mdX6_putWordsOf) (pc' := 38) (x := c3) dX6_putWordsOf_36 rfl 0 rfl ?_
    refine C_aI (D := mdX6_putWordsOf) (pc' := 39) (p := sort7) dX6_putWordsOf_38 rfl (fun x8 => ?_)
    refine C_iconst (D := mdX6_putWordsOf) (pc' := 40) (v := 2) dX6_putWordsOf_39 rfl (by decide) ?_
    refine C_icmp_ne (D := mdX6_putWordsOf) (pc' := 43) (tgt := 55) dX6_putWordsOf_40 (by decide) rfl ?_ ?_
    · exact C_sub [1, 2, 3, 4] rfl (p_X6_putWordsOf_J55 C l0 l1 l2 l3 k2 hk2)
    · refine C_aload_n (D := mdX6_putWordsOf) (pc' := 44) (x := kB C + l0) dX6_putWordsOf_43 rfl 1 rfl ?_
      refine C_aload_n (D := mdX6_putWordsOf) (pc' := 45) (x := kB C + l1) dX6_putWordsOf_44 rfl 2 rfl ?_
      refine C_getR (D := mdX6_putWordsOf) (pc' := 48) (p := l1) f_X6_49 rfl dX6_putWordsOf_45 rfl (fun earlier9 => ?_)
      refine C_iload (D := mdX6_putWordsOf) (pc' := 50) (x := c3) dX6_putWordsOf_48 rfl 0 rfl ?_
      refine C_aI (D := mdX6_putWordsOf) (pc' := 51) (p := earlier9) dX6_putWordsOf_50 rfl (fun x10 => ?_)
      refine C_callV (D := mdX6_putWordsOf) (pc' := 54) (p := l0) (st := []) [.int x10] v_X6_42 (i_X6_put C l0 x10) dX6_putWordsOf_51 rfl rfl rfl (Nat.le_of_ble_eq_true rfl) (by decide) (by decide) (fun c11 => ?_)
      refine C_pop (D := mdX6_putWordsOf) (pc' := 55) dX6_putWordsOf_54 rfl rfl ?_
      exact C_sub [1, 2, 3, 4] rfl (p_X6_putWordsOf_J55 C l0 l1 l2 l3 k2 hk2)
set_option maxHeartbeats 2000000 in
set_option maxRecDepth 20000 in
theorem i_X6_putWordsOf (C : KX) (l0 : Nat) (l1 : Nat) (l2 : Int32) : Imp C yX6_putWordsOf cX6_putWordsOf 5 none 2 44 rvV [.ref (kB C + l0), .ref (kB C + l1), .int l2] (m_X6_putWordsOf l0 l1 l2) := by
  refine Imp.of (by decide) (Nat.le_of_ble_eq_true rfl) [(0, .ref (kB C + l0)), (1, .ref (kB C + l1)), (2, .int l2)] rfl ?_
  show Cmp C mdX6_putWordsOf (QM rvV) 0 [(0, .ref (kB C + l0)), (1, .ref (kB C + l1)), (2, .int l2)] [] (m_X6_putWordsOf l0 l1 l2)
  unfold m_X6_putWordsOf
  refine C_iconst (D := mdX6_putWordsOf) (pc' := 1) (v := 0) dX6_putWordsOf_0 rfl (by decide) ?_
  refine C_istore_n (D := mdX6_putWordsOf) (pc' := 2) (ls' := [(3, .int 0), (0, .ref (kB C + l0)), (1, .ref (kB C + l1)), (2, .int l2)]) dX6_putWordsOf_1 rfl rfl (by decide) rfl ?_
  exact C_sub [1, 2, 3, 0] rfl (C_loop (fun s => [(0, .ref (kB C + l0)), (1, .ref (kB C + l1)), (2, .int l2), (3, .int s)]) (fun k hk s => p_X6_putWordsOf_B2 C l0 l1 l2  k hk s) FU 0)

-- StandingQueries$Words.gatherAll(LStandingQueries$Held;)V
theorem dX6_gatherAll_0 : decode cX6_gatherAll 0 = .ok (.aload_n 0, 1) := by decide +kernel
theorem dX6_gatherAll_1 : decode cX6_gatherAll 1 = .ok (.iconst 0, 1) := by decide +kernel
theorem dX6_gatherAll_2 : decode cX6_gatherAll 2 = .ok (.putfield 15, 3) := by decide +kernel
theorem dX6_gatherAll_5 : decode cX6_gatherAll 5 = .ok (.iconst 0, 1) := by decide +kernel
theorem dX6_gatherAll_6 : decode cX6_gatherAll 6 = .ok (.istore_n 2, 1) := by decide +kernel
theorem dX6_gatherAll_7 : decode cX6_gatherAll 7 = .ok (.iload_n 2, 1) := by decide +kernel
theorem dX6_gatherAll_8 : decode cX6_gatherAll 8 = .ok (.aload_n 1, 1) := by decide +kernel
theorem dX6_gatherAll_9 : decode cX6_gatherAll 9 = .ok (.getfield 23, 3) := by decide +kernel
theorem dX6_gatherAll_12 : decode cX6_gatherAll 12 = .ok (.if_icmp .ge 15, 3) := by decide +kernel
theorem dX6_gatherAll_15 : decode cX6_gatherAll 15 = .ok (.aload_n 0, 1) := by decide +kernel
theorem dX6_gatherAll_16 : decode cX6_gatherAll 16 = .ok (.aload_n 1, 1) := by decide +kernel
theorem dX6_gatherAll_17 : decode cX6_gatherAll 17 = .ok (.iload_n 2, 1) := by decide +kernel
theorem dX6_gatherAll_18 : decode cX6_gatherAll 18 = .ok (.invokevirtual 28, 3) := by decide +kernel
theorem dX6_gatherAll_21 : decode cX6_gatherAll 21 = .ok (.iinc 2 1, 3) := by decide +kernel
theorem dX6_gatherAll_24 : decode cX6_gatherAll 24 = .ok (.goto (-17), 3) := by decide +kernel
theorem dX6_gatherAll_27 : decode cX6_gatherAll 27 = .ok (.return_, 1) := by decide +kernel
abbrev mdX6_gatherAll : MD := (cX6_gatherAll, RX6, 3, none, yX6_gatherAll.name, 3, 68, eT)
set_option maxHeartbeats 2000000 in
set_option maxRecDepth 20000 in
theorem p_X6_gatherAll_B7 (C : KX) (l0 : Nat) (l1 : Nat)  (k7 : Int32 → Mo Unit) (hk7 : ∀ s, Cmp C mdX6_gatherAll (QM rvV) 7 [(0, .ref (kB C + l0)), (1, .ref (kB C + l1)), (2, .int s)] [] (k7 s)) (l2 : Int32) : Cmp C mdX6_gatherAll (QM rvV) 7 [(0, .ref (kB C + l0)), (1, .ref (kB C + l1)), (2, .int l2)] [] (m_X6_gatherAll_B7 l0 l1 k7 l2) := by
  unfold m_X6_gatherAll_B7
  refine C_iload_n (D := mdX6_gatherAll) (pc' := 8) (x := l2) dX6_gatherAll_7 rfl 2 rfl ?_
  refine C_aload_n (D := mdX6_gatherAll) (pc' := 9) (x := kB C + l1) dX6_gatherAll_8 rfl 1 rfl ?_
  refine C_getI (D := mdX6_gatherAll) (pc' := 12) (p := l1) f_X6_23 rfl dX6_gatherAll_9 rfl (fun queries1 => ?_)
  refine C_icmp_ge (D := mdX6_gatherAll) (pc' := 15) (tgt := 27) dX6_gatherAll_12 (by decide) rfl ?_ ?_
  · exact C_vret rfl dX6_gatherAll_27
  · refine C_aload_n (D := mdX6_gatherAll) (pc' := 16) (x := kB C + l0) dX6_gatherAll_15 rfl 0 rfl ?_
    refine C_aload_n (D := mdX6_gatherAll) (pc' := 17) (x := kB C + l1) dX6_gatherAll_16 rfl 1 rfl ?_
    refine C_iload_n (D := mdX6_gatherAll) (pc' := 18) (x := l2) dX6_gatherAll_17 rfl 2 rfl ?_
    refine C_callV (D := mdX6_gatherAll) (pc' := 21) (p := l0) (st := []) [.ref (kB C + l1), .int l2] v_X6_28 (i_X6_putWordsOf C l0 l1 l2) dX6_gatherAll_18 rfl rfl rfl (Nat.le_of_ble_eq_true rfl) (by decide) (by decide) (fun _ => ?_)
    refine C_iinc (D := mdX6_gatherAll) (pc' := 24) (j := 2) (v := (l2 + 1)) (ls' := [(2, .int (l2 + 1)), (0, .ref (kB C + l0)), (1, .ref (kB C + l1))]) dX6_gatherAll_21 rfl rfl rfl (by decide) rfl ?_
    refine C_goto (D := mdX6_gatherAll) (pc' := 7) dX6_gatherAll_24 (by decide) ?_
    exact C_sub [1, 2, 0] rfl (hk7 ((l2 + 1)))
set_option maxHeartbeats 2000000 in
set_option maxRecDepth 20000 in
theorem i_X6_gatherAll (C : KX) (l0 : Nat) (l1 : Nat) : Imp C yX6_gatherAll cX6_gatherAll 3 none 3 68 rvV [.ref (kB C + l0), .ref (kB C + l1)] (m_X6_gatherAll l0 l1) := by
  refine Imp.of (by decide) (Nat.le_of_ble_eq_true rfl) [(0, .ref (kB C + l0)), (1, .ref (kB C + l1))] rfl ?_
  show Cmp C mdX6_gatherAll (QM rvV) 0 [(0, .ref (kB C + l0)), (1, .ref (kB C + l1))] [] (m_X6_gatherAll l0 l1)
  unfold m_X6_gatherAll
  refine C_aload_n (D := mdX6_gatherAll) (pc' := 1) (x := kB C + l0) dX6_gatherAll_0 rfl 0 rfl ?_
  refine C_iconst (D := mdX6_gatherAll) (pc' := 2) (v := 0) dX6_gatherAll_1 rfl (by decide) ?_
  refine C_putI (D := mdX6_gatherAll) (pc' := 5) (p := l0) f_X6_15 rfl dX6_gatherAll_2 rfl ?_
  refine C_iconst (D := mdX6_gatherAll) (pc' := 6) (v := 0) dX6_gatherAll_5 rfl (by decide) ?_
  refine C_istore_n (D := mdX6_gatherAll) (pc' := 7) (ls' := [(2, .int 0), (0, .ref (kB C + l0)), (1, .ref (kB C + l1))]) dX6_gatherAll_6 rfl rfl (by decide) rfl ?_
  exact C_sub [1, 2, 0] rfl (C_loop (fun s => [(0, .ref (kB C + l0)), (1, .ref (kB C + l1)), (2, .int s)]) (fun k hk s => p_X6_gatherAll_B7 C l0 l1  k hk s) FU 0)

-- StandingQueries$Text.kindOf(I)I
theorem dX5_kindOf_0 : decode cX5_kindOf 0 = .ok (.iload_n 0, 1) := by decide +kernel
theorem dX5_kindOf_1 : decode cX5_kindOf 1 = .ok (.bipush 97, 2) := by decide +kernel
theorem dX5_kindOf_3 : decode cX5_kindOf 3 = .ok (.if_icmp .lt 11, 3) := by decide +kernel
theorem dX5_kindOf_6 : decode cX5_kindOf 6 = .ok (.iload_n 0, 1) := by decide +kernel
theorem dX5_kindOf_7 : decode cX5_kindOf 7 = .ok (.bipush 122, 2) := by decide +kernel
theorem dX5_kindOf_9 : decode cX5_kindOf 9 = .ok (.if_icmp .gt 5, 3) := by decide +kernel
theorem dX5_kindOf_12 : decode cX5_kindOf 12 = .ok (.iconst 1, 1) := by decide +kernel
theorem dX5_kindOf_13 : decode cX5_kindOf 13 = .ok (.ireturn, 1) := by decide +kernel
theorem dX5_kindOf_14 : decode cX5_kindOf 14 = .ok (.iload_n 0, 1) := by decide +kernel
theorem dX5_kindOf_15 : decode cX5_kindOf 15 = .ok (.bipush 48, 2) := by decide +kernel
theorem dX5_kindOf_17 : decode cX5_kindOf 17 = .ok (.if_icmp .lt 11, 3) := by decide +kernel
theorem dX5_kindOf_20 : decode cX5_kindOf 20 = .ok (.iload_n 0, 1) := by decide +kernel
theorem dX5_kindOf_21 : decode cX5_kindOf 21 = .ok (.bipush 57, 2) := by decide +kernel
theorem dX5_kindOf_23 : decode cX5_kindOf 23 = .ok (.if_icmp .gt 5, 3) := by decide +kernel
theorem dX5_kindOf_26 : decode cX5_kindOf 26 = .ok (.iconst 2, 1) := by decide +kernel
theorem dX5_kindOf_27 : decode cX5_kindOf 27 = .ok (.ireturn, 1) := by decide +kernel
theorem dX5_kindOf_28 : decode cX5_kindOf 28 = .ok (.iload_n 0, 1) := by decide +kernel
theorem dX5_kindOf_29 : decode cX5_kindOf 29 = .ok (.bipush 59, 2) := by decide +kernel
theorem dX5_kindOf_31 : decode cX5_kindOf 31 = .ok (.if_icmp .ne 7, 3) := by decide +kernel
theorem dX5_kindOf_34 : decode cX5_kindOf 34 = .ok (.iconst 3, 1) := by decide +kernel
theorem dX5_kindOf_35 : decode cX5_kindOf 35 = .ok (.goto 4, 3) := by decide +kernel
theorem dX5_kindOf_38 : decode cX5_kindOf 38 = .ok (.iconst 4, 1) := by decide +kernel
theorem dX5_kindOf_39 : decode cX5_kindOf 39 = .ok (.ireturn, 1) := by decide +kernel
abbrev mdX5_kindOf : MD := (cX5_kindOf, RX5, 1, (some .int), yX5_kindOf.name, 0, 0, eT)
set_option maxHeartbeats 2000000 in
set_option maxRecDepth 20000 in
theorem p_X5_kindOf_J28 (C : KX) (l0 : Int32)  : Cmp C mdX5_kindOf (QM rvI) 28 [(0, .int l0)] [] (m_X5_kindOf_J28 l0) := by
  unfold m_X5_kindOf_J28
  refine C_iload_n (D := mdX5_kindOf) (pc' := 29) (x := l0) dX5_kindOf_28 rfl 0 rfl ?_
  refine C_bipush (D := mdX5_kindOf) (pc' := 31) (v := 59) dX5_kindOf_29 rfl (by decide) ?_
  refine C_icmp_ne (D := mdX5_kindOf) (pc' := 34) (tgt := 38) dX5_kindOf_31 (by decide) rfl ?_ ?_
  · refine C_iconst (D := mdX5_kindOf) (pc' := 39) (v := 4) dX5_kindOf_38 rfl (by decide) ?_
    exact C_iret rfl dX5_kindOf_39
  · refine C_iconst (D := mdX5_kindOf) (pc' := 35) (v := 3) dX5_kindOf_34 rfl (by decide) ?_
    refine C_goto (D := mdX5_kindOf) (pc' := 39) dX5_kindOf_35 (by decide) ?_
    exact C_iret rfl dX5_kindOf_39
set_option maxHeartbeats 2000000 in
set_option maxRecDepth 20000 in
theorem p_X5_kindOf_J14 (C : KX) (l0 : Int32)  : Cmp C mdX5_kindOf (QM rvI) 14 [(0, .int l0)] [] (m_X5_kindOf_J14 l0) := by
  unfold m_X5_kindOf_J14
  refine C_iload_n (D := mdX5_kindOf) (pc' := 15) (x := l0) dX5_kindOf_14 rfl 0 rfl ?_
  refine C_bipush (D := mdX5_kindOf) (pc' := 17) (v := 48) dX5_kindOf_15 rfl (by decide) ?_
  refine C_icmp_lt (D := mdX5_kindOf) (pc' := 20) (tgt := 28) dX5_kindOf_17 (by decide) rfl ?_ ?_
  · exact C_sub [0] rfl (p_X5_kindOf_J28 C l0)
  · refine C_iload_n (D := mdX5_kindOf) (pc' := 21) (x := l0) dX5_kindOf_20 rfl 0 rfl ?_
    refine C_bipush (D := mdX5_kindOf) (pc' := 23) (v := 57) dX5_kindOf_21 rfl (by decide) ?_
    refine C_icmp_gt (D := mdX5_kindOf) (pc' := 26) (tgt := 28) dX5_kindOf_23 (by decide) rfl ?_ ?_
    · exact C_sub [0] rfl (p_X5_kindOf_J28 C l0)
    · refine C_iconst (D := mdX5_kindOf) (pc' := 27) (v := 2) dX5_kindOf_26 rfl (by decide) ?_
      exact C_iret rfl dX5_kindOf_27
set_option maxHeartbeats 2000000 in
set_option maxRecDepth 20000 in
theorem i_X5_kindOf (C : KX) (l0 : Int32) : Imp C yX5_kindOf cX5_kindOf 1 (some .int) 0 0 rvI [.int l0] (m_X5_kindOf l0) := by
  refine Imp.of (by decide) (Nat.le_of_ble_eq_true rfl) [(0, .int l0)] rfl ?_
  show Cmp C mdX5_kindOf (QM rvI) 0 [(0, .int l0)] [] (m_X5_kindOf l0)
  unfold m_X5_kindOf
  refine C_iload_n (D := mdX5_kindOf) (pc' := 1) (x := l0) dX5_kindOf_0 rfl 0 rfl ?_
  refine C_bipush (D := mdX5_kindOf) (pc' := 3) (v := 97) dX5_kindOf_1 rfl (by decide) ?_
  refine C_icmp_lt (D := mdX5_kindOf) (pc' := 6) (tgt := 14) dX5_kindOf_3 (by decide) rfl ?_ ?_
  · exact C_sub [0] rfl (p_X5_kindOf_J14 C l0)
  · refine C_iload_n (D := mdX5_kindOf) (pc' := 7) (x := l0) dX5_kindOf_6 rfl 0 rfl ?_
    refine C_bipush (D := mdX5_kindOf) (pc' := 9) (v := 122) dX5_kindOf_7 rfl (by decide) ?_
    refine C_icmp_gt (D := mdX5_kindOf) (pc' := 12) (tgt := 14) dX5_kindOf_9 (by decide) rfl ?_ ?_
    · exact C_sub [0] rfl (p_X5_kindOf_J14 C l0)
    · refine C_iconst (D := mdX5_kindOf) (pc' := 13) (v := 1) dX5_kindOf_12 rfl (by decide) ?_
      exact C_iret rfl dX5_kindOf_13

-- StandingQueries$Text.advance()V
theorem dX5_advance_0 : decode cX5_advance 0 = .ok (.aload_n 0, 1) := by decide +kernel
theorem dX5_advance_1 : decode cX5_advance 1 = .ok (.aload_n 0, 1) := by decide +kernel
theorem dX5_advance_2 : decode cX5_advance 2 = .ok (.getfield 48, 3) := by decide +kernel
theorem dX5_advance_5 : decode cX5_advance 5 = .ok (.putfield 61, 3) := by decide +kernel
theorem dX5_advance_8 : decode cX5_advance 8 = .ok (.aload_n 0, 1) := by decide +kernel
theorem dX5_advance_9 : decode cX5_advance 9 = .ok (.getfield 61, 3) := by decide +kernel
theorem dX5_advance_12 : decode cX5_advance 12 = .ok (.aload_n 0, 1) := by decide +kernel
theorem dX5_advance_13 : decode cX5_advance 13 = .ok (.getfield 31, 3) := by decide +kernel
theorem dX5_advance_16 : decode cX5_advance 16 = .ok (.if_icmp .ge 30, 3) := by decide +kernel
theorem dX5_advance_19 : decode cX5_advance 19 = .ok (.aload_n 0, 1) := by decide +kernel
theorem dX5_advance_20 : decode cX5_advance 20 = .ok (.getfield 9, 3) := by decide +kernel
theorem dX5_advance_23 : decode cX5_advance 23 = .ok (.aload_n 0, 1) := by decide +kernel
theorem dX5_advance_24 : decode cX5_advance 24 = .ok (.getfield 61, 3) := by decide +kernel
theorem dX5_advance_27 : decode cX5_advance 27 = .ok (.iaload, 1) := by decide +kernel
theorem dX5_advance_28 : decode cX5_advance 28 = .ok (.bipush 32, 2) := by decide +kernel
theorem dX5_advance_30 : decode cX5_advance 30 = .ok (.if_icmp .ne 16, 3) := by decide +kernel
theorem dX5_advance_33 : decode cX5_advance 33 = .ok (.aload_n 0, 1) := by decide +kernel
theorem dX5_advance_34 : decode cX5_advance 34 = .ok (.dup, 1) := by decide +kernel
theorem dX5_advance_35 : decode cX5_advance 35 = .ok (.getfield 61, 3) := by decide +kernel
theorem dX5_advance_38 : decode cX5_advance 38 = .ok (.iconst 1, 1) := by decide +kernel
theorem dX5_advance_39 : decode cX5_advance 39 = .ok (.iadd, 1) := by decide +kernel
theorem dX5_advance_40 : decode cX5_advance 40 = .ok (.putfield 61, 3) := by decide +kernel
theorem dX5_advance_43 : decode cX5_advance 43 = .ok (.goto (-35), 3) := by decide +kernel
theorem dX5_advance_46 : decode cX5_advance 46 = .ok (.aload_n 0, 1) := by decide +kernel
theorem dX5_advance_47 : decode cX5_advance 47 = .ok (.aload_n 0, 1) := by decide +kernel
theorem dX5_advance_48 : decode cX5_advance 48 = .ok (.getfield 61, 3) := by decide +kernel
theorem dX5_advance_51 : decode cX5_advance 51 = .ok (.putfield 48, 3) := by decide +kernel
theorem dX5_advance_54 : decode cX5_advance 54 = .ok (.aload_n 0, 1) := by decide +kernel
theorem dX5_advance_55 : decode cX5_advance 55 = .ok (.getfield 61, 3) := by decide +kernel
theorem dX5_advance_58 : decode cX5_advance 58 = .ok (.aload_n 0, 1) := by decide +kernel
theorem dX5_advance_59 : decode cX5_advance 59 = .ok (.getfield 31, 3) := by decide +kernel
theorem dX5_advance_62 : decode cX5_advance 62 = .ok (.if_icmp .lt 9, 3) := by decide +kernel
theorem dX5_advance_65 : decode cX5_advance 65 = .ok (.aload_n 0, 1) := by decide +kernel
theorem dX5_advance_66 : decode cX5_advance 66 = .ok (.iconst 0, 1) := by decide +kernel
theorem dX5_advance_67 : decode cX5_advance 67 = .ok (.putfield 54, 3) := by decide +kernel
theorem dX5_advance_70 : decode cX5_advance 70 = .ok (.return_, 1) := by decide +kernel
theorem dX5_advance_71 : decode cX5_advance 71 = .ok (.aload_n 0, 1) := by decide +kernel
theorem dX5_advance_72 : decode cX5_advance 72 = .ok (.aload_n 0, 1) := by decide +kernel
theorem dX5_advance_73 : decode cX5_advance 73 = .ok (.getfield 9, 3) := by decide +kernel
theorem dX5_advance_76 : decode cX5_advance 76 = .ok (.aload_n 0, 1) := by decide +kernel
theorem dX5_advance_77 : decode cX5_advance 77 = .ok (.getfield 61, 3) := by decide +kernel
theorem dX5_advance_80 : decode cX5_advance 80 = .ok (.iaload, 1) := by decide +kernel
theorem dX5_advance_81 : decode cX5_advance 81 = .ok (.invokestatic 115, 3) := by decide +kernel
theorem dX5_advance_84 : decode cX5_advance 84 = .ok (.putfield 54, 3) := by decide +kernel
theorem dX5_advance_87 : decode cX5_advance 87 = .ok (.aload_n 0, 1) := by decide +kernel
theorem dX5_advance_88 : decode cX5_advance 88 = .ok (.dup, 1) := by decide +kernel
theorem dX5_advance_89 : decode cX5_advance 89 = .ok (.getfield 48, 3) := by decide +kernel
theorem dX5_advance_92 : decode cX5_advance 92 = .ok (.iconst 1, 1) := by decide +kernel
theorem dX5_advance_93 : decode cX5_advance 93 = .ok (.iadd, 1) := by decide +kernel
theorem dX5_advance_94 : decode cX5_advance 94 = .ok (.putfield 48, 3) := by decide +kernel
theorem dX5_advance_97 : decode cX5_advance 97 = .ok (.aload_n 0, 1) := by decide +kernel
theorem dX5_advance_98 : decode cX5_advance 98 = .ok (.getfield 48, 3) := by decide +kernel
theorem dX5_advance_101 : decode cX5_advance 101 = .ok (.aload_n 0, 1) := by decide +kernel
theorem dX5_advance_102 : decode cX5_advance 102 = .ok (.getfield 31, 3) := by decide +kernel
theorem dX5_advance_105 : decode cX5_advance 105 = .ok (.if_icmp .ge 51, 3) := by decide +kernel
theorem dX5_advance_108 : decode cX5_advance 108 = .ok (.aload_n 0, 1) := by decide +kernel
theorem dX5_advance_109 : decode cX5_advance 109 = .ok (.getfield 54, 3) := by decide +kernel
theorem dX5_advance_112 : decode cX5_advance 112 = .ok (.iconst 1, 1) := by decide +kernel
theorem dX5_advance_113 : decode cX5_advance 113 = .ok (.if_icmp .eq 11, 3) := by decide +kernel
theorem dX5_advance_116 : decode cX5_advance 116 = .ok (.aload_n 0, 1) := by decide +kernel
theorem dX5_advance_117 : decode cX5_advance 117 = .ok (.getfield 54, 3) := by decide +kernel
theorem dX5_advance_120 : decode cX5_advance 120 = .ok (.iconst 2, 1) := by decide +kernel
theorem dX5_advance_121 : decode cX5_advance 121 = .ok (.if_icmp .ne 35, 3) := by decide +kernel
theorem dX5_advance_124 : decode cX5_advance 124 = .ok (.aload_n 0, 1) := by decide +kernel
theorem dX5_advance_125 : decode cX5_advance 125 = .ok (.getfield 9, 3) := by decide +kernel
theorem dX5_advance_128 : decode cX5_advance 128 = .ok (.aload_n 0, 1) := by decide +kernel
theorem dX5_advance_129 : decode cX5_advance 129 = .ok (.getfield 48, 3) := by decide +kernel
theorem dX5_advance_132 : decode cX5_advance 132 = .ok (.iaload, 1) := by decide +kernel
theorem dX5_advance_133 : decode cX5_advance 133 = .ok (.invokestatic 115, 3) := by decide +kernel
theorem dX5_advance_136 : decode cX5_advance 136 = .ok (.aload_n 0, 1) := by decide +kernel
theorem dX5_advance_137 : decode cX5_advance 137 = .ok (.getfield 54, 3) := by decide +kernel
theorem dX5_advance_140 : decode cX5_advance 140 = .ok (.if_icmp .ne 16, 3) := by decide +kernel
theorem dX5_advance_143 : decode cX5_advance 143 = .ok (.aload_n 0, 1) := by decide +kernel
theorem dX5_advance_144 : decode cX5_advance 144 = .ok (.dup, 1) := by decide +kernel
theorem dX5_advance_145 : decode cX5_advance 145 = .ok (.getfield 48, 3) := by decide +kernel
theorem dX5_advance_148 : decode cX5_advance 148 = .ok (.iconst 1, 1) := by decide +kernel
theorem dX5_advance_149 : decode cX5_advance 149 = .ok (.iadd, 1) := by decide +kernel
theorem dX5_advance_150 : decode cX5_advance 150 = .ok (.putfield 48, 3) := by decide +kernel
theorem dX5_advance_153 : decode cX5_advance 153 = .ok (.goto (-56), 3) := by decide +kernel
theorem dX5_advance_156 : decode cX5_advance 156 = .ok (.return_, 1) := by decide +kernel
abbrev mdX5_advance : MD := (cX5_advance, RX5, 1, none, yX5_advance.name, 1, 20, eT)
set_option maxHeartbeats 2000000 in
set_option maxRecDepth 20000 in
theorem p_X5_advance_J124 (C : KX) (l0 : Nat) (k97 : Unit → Mo Unit) (hk97 : ∀ s, Cmp C mdX5_advance (QM rvV) 97 [(0, .ref (kB C + l0))] [] (k97 s)) : Cmp C mdX5_advance (QM rvV) 124 [(0, .ref (kB C + l0))] [] (m_X5_advance_J124 l0 k97) := by
  unfold m_X5_advance_J124
  refine C_aload_n (D := mdX5_advance) (pc' := 125) (x := kB C + l0) dX5_advance_124 rfl 0 rfl ?_
  refine C_getR (D := mdX5_advance) (pc' := 128) (p := l0) f_X5_9 rfl dX5_advance_125 rfl (fun bytes15 => ?_)
  refine C_aload_n (D := mdX5_advance) (pc' := 129) (x := kB C + l0) dX5_advance_128 rfl 0 rfl ?_
  refine C_getI (D := mdX5_advance) (pc' := 132) (p := l0) f_X5_48 rfl dX5_advance_129 rfl (fun end16 => ?_)
  refine C_aI (D := mdX5_advance) (pc' := 133) (p := bytes15) dX5_advance_132 rfl (fun x17 => ?_)
  refine C_callS (D := mdX5_advance) (pc' := 136) (st := []) [.int x17] s_X5_115 (i_X5_kindOf C x17) dX5_advance_133 rfl rfl rfl (Nat.le_of_ble_eq_true rfl) (by decide) (by decide) (fun c18 => ?_)
  refine C_aload_n (D := mdX5_advance) (pc' := 137) (x := kB C + l0) dX5_advance_136 rfl 0 rfl ?_
  refine C_getI (D := mdX5_advance) (pc' := 140) (p := l0) f_X5_54 rfl dX5_advance_137 rfl (fun kind19 => ?_)
  refine C_icmp_ne (D := mdX5_advance) (pc' := 143) (tgt := 156) dX5_advance_140 (by decide) rfl ?_ ?_
  · exact C_vret rfl dX5_advance_156
  · refine C_aload_n (D := mdX5_advance) (pc' := 144) (x := kB C + l0) dX5_advance_143 rfl 0 rfl ?_
    refine C_dup (D := mdX5_advance) (pc' := 145) dX5_advance_144 rfl rfl ?_
    refine C_getI (D := mdX5_advance) (pc' := 148) (p := l0) f_X5_48 rfl dX5_advance_145 rfl (fun end20 => ?_)
    refine C_iconst (D := mdX5_advance) (pc' := 149) (v := 1) dX5_advance_148 rfl (by decide) ?_
    refine C_iadd (D := mdX5_advance) (pc' := 150) dX5_advance_149 rfl ?_
    refine C_putI (D := mdX5_advance) (pc' := 153) (p := l0) f_X5_48 rfl dX5_advance_150 rfl ?_
    refine C_goto (D := mdX5_advance) (pc' := 97) dX5_advance_153 (by decide) ?_
    exact C_sub [0] rfl (hk97 ())
set_option maxHeartbeats 2000000 in
set_option maxRecDepth 20000 in
theorem p_X5_advance_B97 (C : KX) (l0 : Nat)  (k97 : Unit → Mo Unit) (hk97 : ∀ s, Cmp C mdX5_advance (QM rvV) 97 [(0, .ref (kB C + l0))] [] (k97 s))  : Cmp C mdX5_advance (QM rvV) 97 [(0, .ref (kB C + l0))] [] (m_X5_advance_B97 l0 k97) := by
  unfold m_X5_advance_B97
  refine C_aload_n (D := mdX5_advance) (pc' := 98) (x := kB C + l0) dX5_advance_97 rfl 0 rfl ?_
  refine C_getI (D := mdX5_advance) (pc' := 101) (p := l0) f_X5_48 rfl dX5_advance_98 rfl (fun end12 => ?_)
  refine C_aload_n (D := mdX5_advance) (pc' := 102) (x := kB C + l0) dX5_advance_101 rfl 0 rfl ?_
  refine C_getI (D := mdX5_advance) (pc' := 105) (p := l0) f_X5_31 rfl dX5_advance_102 rfl (fun size13 => ?_)
  refine C_icmp_ge (D := mdX5_advance) (pc' := 108) (tgt := 156) dX5_advance_105 (by decide) rfl ?_ ?_
  · exact C_vret rfl dX5_advance_156
  · refine C_aload_n (D := mdX5_advance) (pc' := 109) (x := kB C + l0) dX5_advance_108 rfl 0 rfl ?_
    refine C_getI (D := mdX5_advance) (pc' := 112) (p := l0) f_X5_54 rfl dX5_advance_109 rfl (fun kind14 => ?_)
    refine C_iconst (D := mdX5_advance) (pc' := 113) (v := 1) dX5_advance_112 rfl (by decide) ?_
    refine C_icmp_eq (D := mdX5_advance) (pc' := 116) (tgt := 124) dX5_advance_113 (by decide) rfl ?_ ?_
    · exact C_sub [0] rfl (p_X5_advance_J124 C l0 k97 hk97)
    · refine C_aload_n (D := mdX5_advance) (pc' := 117) (x := kB C + l0) dX5_advance_116 rfl 0 rfl ?_
      refine C_getI (D := mdX5_advance) (pc' := 120) (p := l0) f_X5_54 rfl dX5_advance_117 rfl (fun kind21 => ?_)
      refine C_iconst (D := mdX5_advance) (pc' := 121) (v := 2) dX5_advance_120 rfl (by decide) ?_
      refine C_icmp_ne (D := mdX5_advance) (pc' := 124) (tgt := 156) dX5_advance_121 (by decide) rfl ?_ ?_
      · exact C_vret rfl dX5_advance_156
      · exact C_sub [0] rfl (p_X5_advance_J124 C l0 k97 hk97)
set_option maxHeartbeats 2000000 in
set_option maxRecDepth 20000 in
theorem p_X5_advance_J46 (C : KX) (l0 : Nat)  : Cmp C mdX5_advance (QM rvV) 46 [(0, .ref (kB C + l0))] [] (m_X5_advance_J46 l0) := by
  unfold m_X5_advance_J46
  refine C_aload_n (D := mdX5_advance) (pc' := 47) (x := kB C + l0) dX5_advance_46 rfl 0 rfl ?_
  refine C_aload_n (D := mdX5_advance) (pc' := 48) (x := kB C + l0) dX5_advance_47 rfl 0 rfl ?_
  refine C_getI (D := mdX5_advance) (pc' := 51) (p := l0) f_X5_61 rfl dX5_advance_48 rfl (fun begin4 => ?_)
  refine C_putI (D := mdX5_advance) (pc' := 54) (p := l0) f_X5_48 rfl dX5_advance_51 rfl ?_
  refine C_aload_n (D := mdX5_advance) (pc' := 55) (x := kB C + l0) dX5_advance_54 rfl 0 rfl ?_
  refine C_getI (D := mdX5_advance) (pc' := 58) (p := l0) f_X5_61 rfl dX5_advance_55 rfl (fun begin5 => ?_)
  refine C_aload_n (D := mdX5_advance) (pc' := 59) (x := kB C + l0) dX5_advance_58 rfl 0 rfl ?_
  refine C_getI (D := mdX5_advance) (pc' := 62) (p := l0) f_X5_31 rfl dX5_advance_59 rfl (fun size6 => ?_)
  refine C_icmp_lt (D := mdX5_advance) (pc' := 65) (tgt := 71) dX5_advance_62 (by decide) rfl ?_ ?_
  · refine C_aload_n (D := mdX5_advance) (pc' := 72) (x := kB C + l0) dX5_advance_71 rfl 0 rfl ?_
    refine C_aload_n (D := mdX5_advance) (pc' := 73) (x := kB C + l0) dX5_advance_72 rfl 0 rfl ?_
    refine C_getR (D := mdX5_advance) (pc' := 76) (p := l0) f_X5_9 rfl dX5_advance_73 rfl (fun bytes7 => ?_)
    refine C_aload_n (D := mdX5_advance) (pc' := 77) (x := kB C + l0) dX5_advance_76 rfl 0 rfl ?_
    refine C_getI (D := mdX5_advance) (pc' := 80) (p := l0) f_X5_61 rfl dX5_advance_77 rfl (fun begin8 => ?_)
    refine C_aI (D := mdX5_advance) (pc' := 81) (p := bytes7) dX5_advance_80 rfl (fun x9 => ?_)
    refine C_callS (D := mdX5_advance) (pc' := 84) (st := [.ref (kB C + l0)]) [.int x9] s_X5_115 (i_X5_kindOf C x9) dX5_advance_81 rfl rfl rfl (Nat.le_of_ble_eq_true rfl) (by decide) (by decide) (fun c10 => ?_)
    refine C_putI (D := mdX5_advance) (pc' := 87) (p := l0) f_X5_54 rfl dX5_advance_84 rfl ?_
    refine C_aload_n (D := mdX5_advance) (pc' := 88) (x := kB C + l0) dX5_advance_87 rfl 0 rfl ?_
    refine C_dup (D := mdX5_advance) (pc' := 89) dX5_advance_88 rfl rfl ?_
    refine C_getI (D := mdX5_advance) (pc' := 92) (p := l0) f_X5_48 rfl dX5_advance_89 rfl (fun end11 => ?_)
    refine C_iconst (D := mdX5_advance) (pc' := 93) (v := 1) dX5_advance_92 rfl (by decide) ?_
    refine C_iadd (D := mdX5_advance) (pc' := 94) dX5_advance_93 rfl ?_
    refine C_putI (D := mdX5_advance) (pc' := 97) (p := l0) f_X5_48 rfl dX5_advance_94 rfl ?_
    exact C_sub [0] rfl (C_loop (fun s => [(0, .ref (kB C + l0))]) (fun k hk s => p_X5_advance_B97 C l0  k hk ) FU ())
  · refine C_aload_n (D := mdX5_advance) (pc' := 66) (x := kB C + l0) dX5_advance_65 rfl 0 rfl ?_
    refine C_iconst (D := mdX5_advance) (pc' := 67) (v := 0) dX5_advance_66 rfl (by decide) ?_
    refine C_putI (D := mdX5_advance) (pc' := 70) (p := l0) f_X5_54 rfl dX5_advance_67 rfl ?_
    exact C_vret rfl dX5_advance_70
set_option maxHeartbeats 2000000 in
set_option maxRecDepth 20000 in
theorem p_X5_advance_B8 (C : KX) (l0 : Nat)  (k8 : Unit → Mo Unit) (hk8 : ∀ s, Cmp C mdX5_advance (QM rvV) 8 [(0, .ref (kB C + l0))] [] (k8 s))  : Cmp C mdX5_advance (QM rvV) 8 [(0, .ref (kB C + l0))] [] (m_X5_advance_B8 l0 k8) := by
  unfold m_X5_advance_B8
  refine C_aload_n (D := mdX5_advance) (pc' := 9) (x := kB C + l0) dX5_advance_8 rfl 0 rfl ?_
  refine C_getI (D := mdX5_advance) (pc' := 12) (p := l0) f_X5_61 rfl dX5_advance_9 rfl (fun begin2 => ?_)
  refine C_aload_n (D := mdX5_advance) (pc' := 13) (x := kB C + l0) dX5_advance_12 rfl 0 rfl ?_
  refine C_getI (D := mdX5_advance) (pc' := 16) (p := l0) f_X5_31 rfl dX5_advance_13 rfl (fun size3 => ?_)
  refine C_icmp_ge (D := mdX5_advance) (pc' := 19) (tgt := 46) dX5_advance_16 (by decide) rfl ?_ ?_
  · exact C_sub [0] rfl (p_X5_advance_J46 C l0)
  · refine C_aload_n (D := mdX5_advance) (pc' := 20) (x := kB C + l0) dX5_advance_19 rfl 0 rfl ?_
    refine C_getR (D := mdX5_advance) (pc' := 23) (p := l0) f_X5_9 rfl dX5_advance_20 rfl (fun bytes22 => ?_)
    refine C_aload_n (D := mdX5_advance) (pc' := 24) (x := kB C + l0) dX5_advance_23 rfl 0 rfl ?_
    refine C_getI (D := mdX5_advance) (pc' := 27) (p := l0) f_X5_61 rfl dX5_advance_24 rfl (fun begin23 => ?_)
    refine C_aI (D := mdX5_advance) (pc' := 28) (p := bytes22) dX5_advance_27 rfl (fun x24 => ?_)
    refine C_bipush (D := mdX5_advance) (pc' := 30) (v := 32) dX5_advance_28 rfl (by decide) ?_
    refine C_icmp_ne (D := mdX5_advance) (pc' := 33) (tgt := 46) dX5_advance_30 (by decide) rfl ?_ ?_
    · exact C_sub [0] rfl (p_X5_advance_J46 C l0)
    · refine C_aload_n (D := mdX5_advance) (pc' := 34) (x := kB C + l0) dX5_advance_33 rfl 0 rfl ?_
      refine C_dup (D := mdX5_advance) (pc' := 35) dX5_advance_34 rfl rfl ?_
      refine C_getI (D := mdX5_advance) (pc' := 38) (p := l0) f_X5_61 rfl dX5_advance_35 rfl (fun begin25 => ?_)
      refine C_iconst (D := mdX5_advance) (pc' := 39) (v := 1) dX5_advance_38 rfl (by decide) ?_
      refine C_iadd (D := mdX5_advance) (pc' := 40) dX5_advance_39 rfl ?_
      refine C_putI (D := mdX5_advance) (pc' := 43) (p := l0) f_X5_61 rfl dX5_advance_40 rfl ?_
      refine C_goto (D := mdX5_advance) (pc' := 8) dX5_advance_43 (by decide) ?_
      exact C_sub [0] rfl (hk8 ())
set_option maxHeartbeats 2000000 in
set_option maxRecDepth 20000 in
theorem i_X5_advance (C : KX) (l0 : Nat) : Imp C yX5_advance cX5_advance 1 none 1 20 rvV [.ref (kB C + l0)] (m_X5_advance l0) := by
  refine Imp.of (by decide) (Nat.le_of_ble_eq_true rfl) [(0, .ref (kB C + l0))] rfl ?_
  show Cmp C mdX5_advance (QM rvV) 0 [(0, .ref (kB C + l0))] [] (m_X5_advance l0)
  unfold m_X5_advance
  refine C_aload_n (D := mdX5_advance) (pc' := 1) (x := kB C + l0) dX5_advance_0 rfl 0 rfl ?_
  refine C_aload_n (D := mdX5_advance) (pc' := 2) (x := kB C + l0) dX5_advance_1 rfl 0 rfl ?_
  refine C_getI (D := mdX5_advance) (pc' := 5) (p := l0) f_X5_48 rfl dX5_advance_2 rfl (fun end1 => ?_)
  refine C_putI (D := mdX5_advance) (pc' := 8) (p := l0) f_X5_61 rfl dX5_advance_5 rfl ?_
  exact C_sub [0] rfl (C_loop (fun s => [(0, .ref (kB C + l0))]) (fun k hk s => p_X5_advance_B8 C l0  k hk ) FU ())

-- StandingQueries$Text.hasOpenQuery()Z
theorem dX5_hasOpenQuery_0 : decode cX5_hasOpenQuery 0 = .ok (.aload_n 0, 1) := by decide +kernel
theorem dX5_hasOpenQuery_1 : decode cX5_hasOpenQuery 1 = .ok (.getfield 18, 3) := by decide +kernel
theorem dX5_hasOpenQuery_4 : decode cX5_hasOpenQuery 4 = .ok (.getfield 39, 3) := by decide +kernel
theorem dX5_hasOpenQuery_7 : decode cX5_hasOpenQuery 7 = .ok (.aload_n 0, 1) := by decide +kernel
theorem dX5_hasOpenQuery_8 : decode cX5_hasOpenQuery 8 = .ok (.getfield 42, 3) := by decide +kernel
theorem dX5_hasOpenQuery_11 : decode cX5_hasOpenQuery 11 = .ok (.if_icmp .le 7, 3) := by decide +kernel
theorem dX5_hasOpenQuery_14 : decode cX5_hasOpenQuery 14 = .ok (.iconst 1, 1) := by decide +kernel
theorem dX5_hasOpenQuery_15 : decode cX5_hasOpenQuery 15 = .ok (.goto 4, 3) := by decide +kernel
theorem dX5_hasOpenQuery_18 : decode cX5_hasOpenQuery 18 = .ok (.iconst 0, 1) := by decide +kernel
theorem dX5_hasOpenQuery_19 : decode cX5_hasOpenQuery 19 = .ok (.ireturn, 1) := by decide +kernel
abbrev mdX5_hasOpenQuery : MD := (cX5_hasOpenQuery, RX5, 1, (some .boolean), yX5_hasOpenQuery.name, 0, 0, eT)
set_option maxHeartbeats 2000000 in
set_option maxRecDepth 20000 in
theorem i_X5_hasOpenQuery (C : KX) (l0 : Nat) : Imp C yX5_hasOpenQuery cX5_hasOpenQuery 1 (some .boolean) 0 0 rvI [.ref (kB C + l0)] (m_X5_hasOpenQuery l0) := by
  refine Imp.of (by decide) (Nat.le_of_ble_eq_true rfl) [(0, .ref (kB C + l0))] rfl ?_
  show Cmp C mdX5_hasOpenQuery (QM rvI) 0 [(0, .ref (kB C + l0))] [] (m_X5_hasOpenQuery l0)
  unfold m_X5_hasOpenQuery
  refine C_aload_n (D := mdX5_hasOpenQuery) (pc' := 1) (x := kB C + l0) dX5_hasOpenQuery_0 rfl 0 rfl ?_
  refine C_getR (D := mdX5_hasOpenQuery) (pc' := 4) (p := l0) f_X5_18 rfl dX5_hasOpenQuery_1 rfl (fun draft1 => ?_)
  refine C_getI (D := mdX5_hasOpenQuery) (pc' := 7) (p := draft1) f_X5_39 rfl dX5_hasOpenQuery_4 rfl (fun queries2 => ?_)
  refine C_aload_n (D := mdX5_hasOpenQuery) (pc' := 8) (x := kB C + l0) dX5_hasOpenQuery_7 rfl 0 rfl ?_
  refine C_getI (D := mdX5_hasOpenQuery) (pc' := 11) (p := l0) f_X5_42 rfl dX5_hasOpenQuery_8 rfl (fun queriesBefore3 => ?_)
  refine C_icmp_le (D := mdX5_hasOpenQuery) (pc' := 14) (tgt := 18) dX5_hasOpenQuery_11 (by decide) rfl ?_ ?_
  · refine C_iconst (D := mdX5_hasOpenQuery) (pc' := 19) (v := 0) dX5_hasOpenQuery_18 rfl (by decide) ?_
    exact C_zret rfl dX5_hasOpenQuery_19
  · refine C_iconst (D := mdX5_hasOpenQuery) (pc' := 15) (v := 1) dX5_hasOpenQuery_14 rfl (by decide) ?_
    refine C_goto (D := mdX5_hasOpenQuery) (pc' := 19) dX5_hasOpenQuery_15 (by decide) ?_
    exact C_zret rfl dX5_hasOpenQuery_19

-- StandingQueries$Held.partsOfLast()I
theorem dX1_partsOfLast_0 : decode cX1_partsOfLast 0 = .ok (.aload_n 0, 1) := by decide +kernel
theorem dX1_partsOfLast_1 : decode cX1_partsOfLast 1 = .ok (.getfield 30, 3) := by decide +kernel
theorem dX1_partsOfLast_4 : decode cX1_partsOfLast 4 = .ok (.ifCond .le 17, 3) := by decide +kernel
theorem dX1_partsOfLast_7 : decode cX1_partsOfLast 7 = .ok (.aload_n 0, 1) := by decide +kernel
theorem dX1_partsOfLast_8 : decode cX1_partsOfLast 8 = .ok (.getfield 9, 3) := by decide +kernel
theorem dX1_partsOfLast_11 : decode cX1_partsOfLast 11 = .ok (.aload_n 0, 1) := by decide +kernel
theorem dX1_partsOfLast_12 : decode cX1_partsOfLast 12 = .ok (.getfield 30, 3) := by decide +kernel
theorem dX1_partsOfLast_15 : decode cX1_partsOfLast 15 = .ok (.iconst 1, 1) := by decide +kernel
theorem dX1_partsOfLast_16 : decode cX1_partsOfLast 16 = .ok (.isub, 1) := by decide +kernel
theorem dX1_partsOfLast_17 : decode cX1_partsOfLast 17 = .ok (.iaload, 1) := by decide +kernel
theorem dX1_partsOfLast_18 : decode cX1_partsOfLast 18 = .ok (.goto 4, 3) := by decide +kernel
theorem dX1_partsOfLast_21 : decode cX1_partsOfLast 21 = .ok (.iconst 0, 1) := by decide +kernel
theorem dX1_partsOfLast_22 : decode cX1_partsOfLast 22 = .ok (.ireturn, 1) := by decide +kernel
abbrev mdX1_partsOfLast : MD := (cX1_partsOfLast, RX1, 1, (some .int), yX1_partsOfLast.name, 0, 0, eT)
set_option maxHeartbeats 2000000 in
set_option maxRecDepth 20000 in
theorem i_X1_partsOfLast (C : KX) (l0 : Nat) : Imp C yX1_partsOfLast cX1_partsOfLast 1 (some .int) 0 0 rvI [.ref (kB C + l0)] (m_X1_partsOfLast l0) := by
  refine Imp.of (by decide) (Nat.le_of_ble_eq_true rfl) [(0, .ref (kB C + l0))] rfl ?_
  show Cmp C mdX1_partsOfLast (QM rvI) 0 [(0, .ref (kB C + l0))] [] (m_X1_partsOfLast l0)
  unfold m_X1_partsOfLast
  refine C_aload_n (D := mdX1_partsOfLast) (pc' := 1) (x := kB C + l0) dX1_partsOfLast_0 rfl 0 rfl ?_
  refine C_getI (D := mdX1_partsOfLast) (pc' := 4) (p := l0) f_X1_30 rfl dX1_partsOfLast_1 rfl (fun queries1 => ?_)
  refine C_if_le (D := mdX1_partsOfLast) (pc' := 7) (tgt := 21) dX1_partsOfLast_4 (by decide) rfl ?_ ?_
  · refine C_iconst (D := mdX1_partsOfLast) (pc' := 22) (v := 0) dX1_partsOfLast_21 rfl (by decide) ?_
    exact C_iret rfl dX1_partsOfLast_22
  · refine C_aload_n (D := mdX1_partsOfLast) (pc' := 8) (x := kB C + l0) dX1_partsOfLast_7 rfl 0 rfl ?_
    refine C_getR (D := mdX1_partsOfLast) (pc' := 11) (p := l0) f_X1_9 rfl dX1_partsOfLast_8 rfl (fun parts2 => ?_)
    refine C_aload_n (D := mdX1_partsOfLast) (pc' := 12) (x := kB C + l0) dX1_partsOfLast_11 rfl 0 rfl ?_
    refine C_getI (D := mdX1_partsOfLast) (pc' := 15) (p := l0) f_X1_30 rfl dX1_partsOfLast_12 rfl (fun queries3 => ?_)
    refine C_iconst (D := mdX1_partsOfLast) (pc' := 16) (v := 1) dX1_partsOfLast_15 rfl (by decide) ?_
    refine C_isub (D := mdX1_partsOfLast) (pc' := 17) dX1_partsOfLast_16 rfl ?_
    refine C_aI (D := mdX1_partsOfLast) (pc' := 18) (p := parts2) dX1_partsOfLast_17 rfl (fun x4 => ?_)
    refine C_goto (D := mdX1_partsOfLast) (pc' := 22) dX1_partsOfLast_18 (by decide) ?_
    exact C_iret rfl dX1_partsOfLast_22

-- StandingQueries$Text.lacksParts()Z
theorem dX5_lacksParts_0 : decode cX5_lacksParts 0 = .ok (.aload_n 0, 1) := by decide +kernel
theorem dX5_lacksParts_1 : decode cX5_lacksParts 1 = .ok (.invokevirtual 67, 3) := by decide +kernel
theorem dX5_lacksParts_4 : decode cX5_lacksParts 4 = .ok (.ifCond .eq 17, 3) := by decide +kernel
theorem dX5_lacksParts_7 : decode cX5_lacksParts 7 = .ok (.aload_n 0, 1) := by decide +kernel
theorem dX5_lacksParts_8 : decode cX5_lacksParts 8 = .ok (.getfield 18, 3) := by decide +kernel
theorem dX5_lacksParts_11 : decode cX5_lacksParts 11 = .ok (.invokevirtual 70, 3) := by decide +kernel
theorem dX5_lacksParts_14 : decode cX5_lacksParts 14 = .ok (.ifCond .ne 7, 3) := by decide +kernel
theorem dX5_lacksParts_17 : decode cX5_lacksParts 17 = .ok (.iconst 1, 1) := by decide +kernel
theorem dX5_lacksParts_18 : decode cX5_lacksParts 18 = .ok (.goto 4, 3) := by decide +kernel
theorem dX5_lacksParts_21 : decode cX5_lacksParts 21 = .ok (.iconst 0, 1) := by decide +kernel
theorem dX5_lacksParts_22 : decode cX5_lacksParts 22 = .ok (.ireturn, 1) := by decide +kernel
abbrev mdX5_lacksParts : MD := (cX5_lacksParts, RX5, 1, (some .boolean), yX5_lacksParts.name, 1, 20, eT)
set_option maxHeartbeats 2000000 in
set_option maxRecDepth 20000 in
theorem i_X5_lacksParts (C : KX) (l0 : Nat) : Imp C yX5_lacksParts cX5_lacksParts 1 (some .boolean) 1 20 rvI [.ref (kB C + l0)] (m_X5_lacksParts l0) := by
  refine Imp.of (by decide) (Nat.le_of_ble_eq_true rfl) [(0, .ref (kB C + l0))] rfl ?_
  show Cmp C mdX5_lacksParts (QM rvI) 0 [(0, .ref (kB C + l0))] [] (m_X5_lacksParts l0)
  unfold m_X5_lacksParts
  refine C_aload_n (D := mdX5_lacksParts) (pc' := 1) (x := kB C + l0) dX5_lacksParts_0 rfl 0 rfl ?_
  refine C_callV (D := mdX5_lacksParts) (pc' := 4) (p := l0) (st := []) [] v_X5_67 (i_X5_hasOpenQuery C l0) dX5_lacksParts_1 rfl rfl rfl (Nat.le_of_ble_eq_true rfl) (by decide) (by decide) (fun c1 => ?_)
  refine C_if_eq (D := mdX5_lacksParts) (pc' := 7) (tgt := 21) dX5_lacksParts_4 (by decide) rfl ?_ ?_
  · refine C_iconst (D := mdX5_lacksParts) (pc' := 22) (v := 0) dX5_lacksParts_21 rfl (by decide) ?_
    exact C_zret rfl dX5_lacksParts_22
  · refine C_aload_n (D := mdX5_lacksParts) (pc' := 8) (x := kB C + l0) dX5_lacksParts_7 rfl 0 rfl ?_
    refine C_getR (D := mdX5_lacksParts) (pc' := 11) (p := l0) f_X5_18 rfl dX5_lacksParts_8 rfl (fun draft2 => ?_)
    refine C_callV (D := mdX5_lacksParts) (pc' := 14) (p := draft2) (st := []) [] v_X5_70 (i_X1_partsOfLast C draft2) dX5_lacksParts_11 rfl rfl rfl (Nat.le_of_ble_eq_true rfl) (by decide) (by decide) (fun c3 => ?_)
    refine C_if_ne (D := mdX5_lacksParts) (pc' := 17) (tgt := 21) dX5_lacksParts_14 (by decide) rfl ?_ ?_
    · refine C_iconst (D := mdX5_lacksParts) (pc' := 22) (v := 0) dX5_lacksParts_21 rfl (by decide) ?_
      exact C_zret rfl dX5_lacksParts_22
    · refine C_iconst (D := mdX5_lacksParts) (pc' := 18) (v := 1) dX5_lacksParts_17 rfl (by decide) ?_
      refine C_goto (D := mdX5_lacksParts) (pc' := 22) dX5_lacksParts_18 (by decide) ?_
      exact C_zret rfl dX5_lacksParts_22

-- StandingQueries$Text.mayHavePart()Z
theorem dX5_mayHavePart_0 : decode cX5_mayHavePart 0 = .ok (.aload_n 0, 1) := by decide +kernel
theorem dX5_mayHavePart_1 : decode cX5_mayHavePart 1 = .ok (.invokevirtual 67, 3) := by decide +kernel
theorem dX5_mayHavePart_4 : decode cX5_mayHavePart 4 = .ok (.ifCond .eq 18, 3) := by decide +kernel
theorem dX5_mayHavePart_7 : decode cX5_mayHavePart 7 = .ok (.aload_n 0, 1) := by decide +kernel
theorem dX5_mayHavePart_8 : decode cX5_mayHavePart 8 = .ok (.getfield 18, 3) := by decide +kernel
theorem dX5_mayHavePart_11 : decode cX5_mayHavePart 11 = .ok (.invokevirtual 70, 3) := by decide +kernel
theorem dX5_mayHavePart_14 : decode cX5_mayHavePart 14 = .ok (.iconst 4, 1) := by decide +kernel
theorem dX5_mayHavePart_15 : decode cX5_mayHavePart 15 = .ok (.if_icmp .ge 7, 3) := by decide +kernel
theorem dX5_mayHavePart_18 : decode cX5_mayHavePart 18 = .ok (.iconst 1, 1) := by decide +kernel
theorem dX5_mayHavePart_19 : decode cX5_mayHavePart 19 = .ok (.goto 4, 3) := by decide +kernel
theorem dX5_mayHavePart_22 : decode cX5_mayHavePart 22 = .ok (.iconst 0, 1) := by decide +kernel
theorem dX5_mayHavePart_23 : decode cX5_mayHavePart 23 = .ok (.ireturn, 1) := by decide +kernel
abbrev mdX5_mayHavePart : MD := (cX5_mayHavePart, RX5, 1, (some .boolean), yX5_mayHavePart.name, 1, 20, eT)
set_option maxHeartbeats 2000000 in
set_option maxRecDepth 20000 in
theorem i_X5_mayHavePart (C : KX) (l0 : Nat) : Imp C yX5_mayHavePart cX5_mayHavePart 1 (some .boolean) 1 20 rvI [.ref (kB C + l0)] (m_X5_mayHavePart l0) := by
  refine Imp.of (by decide) (Nat.le_of_ble_eq_true rfl) [(0, .ref (kB C + l0))] rfl ?_
  show Cmp C mdX5_mayHavePart (QM rvI) 0 [(0, .ref (kB C + l0))] [] (m_X5_mayHavePart l0)
  unfold m_X5_mayHavePart
  refine C_aload_n (D := mdX5_mayHavePart) (pc' := 1) (x := kB C + l0) dX5_mayHavePart_0 rfl 0 rfl ?_
  refine C_callV (D := mdX5_mayHavePart) (pc' := 4) (p := l0) (st := []) [] v_X5_67 (i_X5_hasOpenQuery C l0) dX5_mayHavePart_1 rfl rfl rfl (Nat.le_of_ble_eq_true rfl) (by decide) (by decide) (fun c1 => ?_)
  refine C_if_eq (D := mdX5_mayHavePart) (pc' := 7) (tgt := 22) dX5_mayHavePart_4 (by decide) rfl ?_ ?_
  · refine C_iconst (D := mdX5_mayHavePart) (pc' := 23) (v := 0) dX5_mayHavePart_22 rfl (by decide) ?_
    exact C_zret rfl dX5_mayHavePart_23
  · refine C_aload_n (D := mdX5_mayHavePart) (pc' := 8) (x := kB C + l0) dX5_mayHavePart_7 rfl 0 rfl ?_
    refine C_getR (D := mdX5_mayHavePart) (pc' := 11) (p := l0) f_X5_18 rfl dX5_mayHavePart_8 rfl (fun draft2 => ?_)
    refine C_callV (D := mdX5_mayHavePart) (pc' := 14) (p := draft2) (st := []) [] v_X5_70 (i_X1_partsOfLast C draft2) dX5_mayHavePart_11 rfl rfl rfl (Nat.le_of_ble_eq_true rfl) (by decide) (by decide) (fun c3 => ?_)
    refine C_iconst (D := mdX5_mayHavePart) (pc' := 15) (v := 4) dX5_mayHavePart_14 rfl (by decide) ?_
    refine C_icmp_ge (D := mdX5_mayHavePart) (pc' := 18) (tgt := 22) dX5_mayHavePart_15 (by decide) rfl ?_ ?_
    · refine C_iconst (D := mdX5_mayHavePart) (pc' := 23) (v := 0) dX5_mayHavePart_22 rfl (by decide) ?_
      exact C_zret rfl dX5_mayHavePart_23
    · refine C_iconst (D := mdX5_mayHavePart) (pc' := 19) (v := 1) dX5_mayHavePart_18 rfl (by decide) ?_
      refine C_goto (D := mdX5_mayHavePart) (pc' := 23) dX5_mayHavePart_19 (by decide) ?_
      exact C_zret rfl dX5_mayHavePart_23

-- StandingQueries.isLetter(I)Z
theorem dX7_isLetter_0 : decode cX7_isLetter 0 = .ok (.iload_n 0, 1) := by decide +kernel
theorem dX7_isLetter_1 : decode cX7_isLetter 1 = .ok (.bipush 97, 2) := by decide +kernel
theorem dX7_isLetter_3 : decode cX7_isLetter 3 = .ok (.if_icmp .lt 13, 3) := by decide +kernel
theorem dX7_isLetter_6 : decode cX7_isLetter 6 = .ok (.iload_n 0, 1) := by decide +kernel
theorem dX7_isLetter_7 : decode cX7_isLetter 7 = .ok (.bipush 105, 2) := by decide +kernel
theorem dX7_isLetter_9 : decode cX7_isLetter 9 = .ok (.if_icmp .ge 7, 3) := by decide +kernel
theorem dX7_isLetter_12 : decode cX7_isLetter 12 = .ok (.iconst 1, 1) := by decide +kernel
theorem dX7_isLetter_13 : decode cX7_isLetter 13 = .ok (.goto 4, 3) := by decide +kernel
theorem dX7_isLetter_16 : decode cX7_isLetter 16 = .ok (.iconst 0, 1) := by decide +kernel
theorem dX7_isLetter_17 : decode cX7_isLetter 17 = .ok (.ireturn, 1) := by decide +kernel
abbrev mdX7_isLetter : MD := (cX7_isLetter, RX7, 1, (some .boolean), yX7_isLetter.name, 0, 0, eT)
set_option maxHeartbeats 2000000 in
set_option maxRecDepth 20000 in
theorem i_X7_isLetter (C : KX) (l0 : Int32) : Imp C yX7_isLetter cX7_isLetter 1 (some .boolean) 0 0 rvI [.int l0] (m_X7_isLetter l0) := by
  refine Imp.of (by decide) (Nat.le_of_ble_eq_true rfl) [(0, .int l0)] rfl ?_
  show Cmp C mdX7_isLetter (QM rvI) 0 [(0, .int l0)] [] (m_X7_isLetter l0)
  unfold m_X7_isLetter
  refine C_iload_n (D := mdX7_isLetter) (pc' := 1) (x := l0) dX7_isLetter_0 rfl 0 rfl ?_
  refine C_bipush (D := mdX7_isLetter) (pc' := 3) (v := 97) dX7_isLetter_1 rfl (by decide) ?_
  refine C_icmp_lt (D := mdX7_isLetter) (pc' := 6) (tgt := 16) dX7_isLetter_3 (by decide) rfl ?_ ?_
  · refine C_iconst (D := mdX7_isLetter) (pc' := 17) (v := 0) dX7_isLetter_16 rfl (by decide) ?_
    exact C_zret rfl dX7_isLetter_17
  · refine C_iload_n (D := mdX7_isLetter) (pc' := 7) (x := l0) dX7_isLetter_6 rfl 0 rfl ?_
    refine C_bipush (D := mdX7_isLetter) (pc' := 9) (v := 105) dX7_isLetter_7 rfl (by decide) ?_
    refine C_icmp_ge (D := mdX7_isLetter) (pc' := 12) (tgt := 16) dX7_isLetter_9 (by decide) rfl ?_ ?_
    · refine C_iconst (D := mdX7_isLetter) (pc' := 17) (v := 0) dX7_isLetter_16 rfl (by decide) ?_
      exact C_zret rfl dX7_isLetter_17
    · refine C_iconst (D := mdX7_isLetter) (pc' := 13) (v := 1) dX7_isLetter_12 rfl (by decide) ?_
      refine C_goto (D := mdX7_isLetter) (pc' := 17) dX7_isLetter_13 (by decide) ?_
      exact C_zret rfl dX7_isLetter_17

-- StandingQueries$Packed.shiftOf(I)I
theorem dX3_shiftOf_0 : decode cX3_shiftOf 0 = .ok (.iconst 4, 1) := by decide +kernel
theorem dX3_shiftOf_1 : decode cX3_shiftOf 1 = .ok (.iconst 5, 1) := by decide +kernel
theorem dX3_shiftOf_2 : decode cX3_shiftOf 2 = .ok (.iload_n 0, 1) := by decide +kernel
theorem dX3_shiftOf_3 : decode cX3_shiftOf 3 = .ok (.isub, 1) := by decide +kernel
theorem dX3_shiftOf_4 : decode cX3_shiftOf 4 = .ok (.imul, 1) := by decide +kernel
theorem dX3_shiftOf_5 : decode cX3_shiftOf 5 = .ok (.ireturn, 1) := by decide +kernel
abbrev mdX3_shiftOf : MD := (cX3_shiftOf, RX3, 1, (some .int), yX3_shiftOf.name, 0, 0, eT)
set_option maxHeartbeats 2000000 in
set_option maxRecDepth 20000 in
theorem i_X3_shiftOf (C : KX) (l0 : Int32) : Imp C yX3_shiftOf cX3_shiftOf 1 (some .int) 0 0 rvI [.int l0] (m_X3_shiftOf l0) := by
  refine Imp.of (by decide) (Nat.le_of_ble_eq_true rfl) [(0, .int l0)] rfl ?_
  show Cmp C mdX3_shiftOf (QM rvI) 0 [(0, .int l0)] [] (m_X3_shiftOf l0)
  unfold m_X3_shiftOf
  refine C_iconst (D := mdX3_shiftOf) (pc' := 1) (v := 4) dX3_shiftOf_0 rfl (by decide) ?_
  refine C_iconst (D := mdX3_shiftOf) (pc' := 2) (v := 5) dX3_shiftOf_1 rfl (by decide) ?_
  refine C_iload_n (D := mdX3_shiftOf) (pc' := 3) (x := l0) dX3_shiftOf_2 rfl 0 rfl ?_
  refine C_isub (D := mdX3_shiftOf) (pc' := 4) dX3_shiftOf_3 rfl ?_
  refine C_imul (D := mdX3_shiftOf) (pc' := 5) dX3_shiftOf_4 rfl ?_
  exact C_iret rfl dX3_shiftOf_5

-- StandingQueries$Packed.withLetter(III)I
theorem dX3_withLetter_0 : decode cX3_withLetter 0 = .ok (.iload_n 0, 1) := by decide +kernel
theorem dX3_withLetter_1 : decode cX3_withLetter 1 = .ok (.iload_n 2, 1) := by decide +kernel
theorem dX3_withLetter_2 : decode cX3_withLetter 2 = .ok (.iconst 1, 1) := by decide +kernel
theorem dX3_withLetter_3 : decode cX3_withLetter 3 = .ok (.iadd, 1) := by decide +kernel
theorem dX3_withLetter_4 : decode cX3_withLetter 4 = .ok (.iload_n 1, 1) := by decide +kernel
theorem dX3_withLetter_5 : decode cX3_withLetter 5 = .ok (.invokestatic 11, 3) := by decide +kernel
theorem dX3_withLetter_8 : decode cX3_withLetter 8 = .ok (.ishl, 1) := by decide +kernel
theorem dX3_withLetter_9 : decode cX3_withLetter 9 = .ok (.ior, 1) := by decide +kernel
theorem dX3_withLetter_10 : decode cX3_withLetter 10 = .ok (.ireturn, 1) := by decide +kernel
abbrev mdX3_withLetter : MD := (cX3_withLetter, RX3, 3, (some .int), yX3_withLetter.name, 1, 20, eT)
set_option maxHeartbeats 2000000 in
set_option maxRecDepth 20000 in
theorem i_X3_withLetter (C : KX) (l0 : Int32) (l1 : Int32) (l2 : Int32) : Imp C yX3_withLetter cX3_withLetter 3 (some .int) 1 20 rvI [.int l0, .int l1, .int l2] (m_X3_withLetter l0 l1 l2) := by
  refine Imp.of (by decide) (Nat.le_of_ble_eq_true rfl) [(0, .int l0), (1, .int l1), (2, .int l2)] rfl ?_
  show Cmp C mdX3_withLetter (QM rvI) 0 [(0, .int l0), (1, .int l1), (2, .int l2)] [] (m_X3_withLetter l0 l1 l2)
  unfold m_X3_withLetter
  refine C_iload_n (D := mdX3_withLetter) (pc' := 1) (x := l0) dX3_withLetter_0 rfl 0 rfl ?_
  refine C_iload_n (D := mdX3_withLetter) (pc' := 2) (x := l2) dX3_withLetter_1 rfl 2 rfl ?_
  refine C_iconst (D := mdX3_withLetter) (pc' := 3) (v := 1) dX3_withLetter_2 rfl (by decide) ?_
  refine C_iadd (D := mdX3_withLetter) (pc' := 4) dX3_withLetter_3 rfl ?_
  refine C_iload_n (D := mdX3_withLetter) (pc' := 5) (x := l1) dX3_withLetter_4 rfl 1 rfl ?_
  refine C_callS (D := mdX3_withLetter) (pc' := 8) (st := [.int (l2 + 1), .int l0]) [.int l1] s_X3_11 (i_X3_shiftOf C l1) dX3_withLetter_5 rfl rfl rfl (Nat.le_of_ble_eq_true rfl) (by decide) (by decide) (fun c1 => ?_)
  refine C_ishl (D := mdX3_withLetter) (pc' := 9) dX3_withLetter_8 rfl ?_
  refine C_ior (D := mdX3_withLetter) (pc' := 10) dX3_withLetter_9 rfl ?_
  exact C_iret rfl dX3_withLetter_10

-- StandingQueries$Text.readWord()I
theorem dX5_readWord_0 : decode cX5_readWord 0 = .ok (.aload_n 0, 1) := by decide +kernel
theorem dX5_readWord_1 : decode cX5_readWord 1 = .ok (.getfield 54, 3) := by decide +kernel
theorem dX5_readWord_4 : decode cX5_readWord 4 = .ok (.iconst 1, 1) := by decide +kernel
theorem dX5_readWord_5 : decode cX5_readWord 5 = .ok (.if_icmp .ne 17, 3) := by decide +kernel
theorem dX5_readWord_8 : decode cX5_readWord 8 = .ok (.aload_n 0, 1) := by decide +kernel
theorem dX5_readWord_9 : decode cX5_readWord 9 = .ok (.getfield 48, 3) := by decide +kernel
theorem dX5_readWord_12 : decode cX5_readWord 12 = .ok (.aload_n 0, 1) := by decide +kernel
theorem dX5_readWord_13 : decode cX5_readWord 13 = .ok (.getfield 61, 3) := by decide +kernel
theorem dX5_readWord_16 : decode cX5_readWord 16 = .ok (.isub, 1) := by decide +kernel
theorem dX5_readWord_17 : decode cX5_readWord 17 = .ok (.bipush 6, 2) := by decide +kernel
theorem dX5_readWord_19 : decode cX5_readWord 19 = .ok (.if_icmp .le 5, 3) := by decide +kernel
theorem dX5_readWord_22 : decode cX5_readWord 22 = .ok (.iconst 0, 1) := by decide +kernel
theorem dX5_readWord_23 : decode cX5_readWord 23 = .ok (.ireturn, 1) := by decide +kernel
theorem dX5_readWord_24 : decode cX5_readWord 24 = .ok (.iconst 0, 1) := by decide +kernel
theorem dX5_readWord_25 : decode cX5_readWord 25 = .ok (.istore_n 1, 1) := by decide +kernel
theorem dX5_readWord_26 : decode cX5_readWord 26 = .ok (.aload_n 0, 1) := by decide +kernel
theorem dX5_readWord_27 : decode cX5_readWord 27 = .ok (.getfield 61, 3) := by decide +kernel
theorem dX5_readWord_30 : decode cX5_readWord 30 = .ok (.istore_n 2, 1) := by decide +kernel
theorem dX5_readWord_31 : decode cX5_readWord 31 = .ok (.iload_n 2, 1) := by decide +kernel
theorem dX5_readWord_32 : decode cX5_readWord 32 = .ok (.aload_n 0, 1) := by decide +kernel
theorem dX5_readWord_33 : decode cX5_readWord 33 = .ok (.getfield 48, 3) := by decide +kernel
theorem dX5_readWord_36 : decode cX5_readWord 36 = .ok (.if_icmp .ge 43, 3) := by decide +kernel
theorem dX5_readWord_39 : decode cX5_readWord 39 = .ok (.aload_n 0, 1) := by decide +kernel
theorem dX5_readWord_40 : decode cX5_readWord 40 = .ok (.getfield 9, 3) := by decide +kernel
theorem dX5_readWord_43 : decode cX5_readWord 43 = .ok (.iload_n 2, 1) := by decide +kernel
theorem dX5_readWord_44 : decode cX5_readWord 44 = .ok (.iaload, 1) := by decide +kernel
theorem dX5_readWord_45 : decode cX5_readWord 45 = .ok (.invokestatic 105, 3) := by decide +kernel
theorem dX5_readWord_48 : decode cX5_readWord 48 = .ok (.ifCond .ne 5, 3) := by decide +kernel
theorem dX5_readWord_51 : decode cX5_readWord 51 = .ok (.iconst 0, 1) := by decide +kernel
theorem dX5_readWord_52 : decode cX5_readWord 52 = .ok (.ireturn, 1) := by decide +kernel
theorem dX5_readWord_53 : decode cX5_readWord 53 = .ok (.iload_n 1, 1) := by decide +kernel
theorem dX5_readWord_54 : decode cX5_readWord 54 = .ok (.iload_n 2, 1) := by decide +kernel
theorem dX5_readWord_55 : decode cX5_readWord 55 = .ok (.aload_n 0, 1) := by decide +kernel
theorem dX5_readWord_56 : decode cX5_readWord 56 = .ok (.getfield 61, 3) := by decide +kernel
theorem dX5_readWord_59 : decode cX5_readWord 59 = .ok (.isub, 1) := by decide +kernel
theorem dX5_readWord_60 : decode cX5_readWord 60 = .ok (.aload_n 0, 1) := by decide +kernel
theorem dX5_readWord_61 : decode cX5_readWord 61 = .ok (.getfield 9, 3) := by decide +kernel
theorem dX5_readWord_64 : decode cX5_readWord 64 = .ok (.iload_n 2, 1) := by decide +kernel
theorem dX5_readWord_65 : decode cX5_readWord 65 = .ok (.iaload, 1) := by decide +kernel
theorem dX5_readWord_66 : decode cX5_readWord 66 = .ok (.bipush 97, 2) := by decide +kernel
theorem dX5_readWord_68 : decode cX5_readWord 68 = .ok (.isub, 1) := by decide +kernel
theorem dX5_readWord_69 : decode cX5_readWord 69 = .ok (.invokestatic 108, 3) := by decide +kernel
theorem dX5_readWord_72 : decode cX5_readWord 72 = .ok (.istore_n 1, 1) := by decide +kernel
theorem dX5_readWord_73 : decode cX5_readWord 73 = .ok (.iinc 2 1, 3) := by decide +kernel
theorem dX5_readWord_76 : decode cX5_readWord 76 = .ok (.goto (-45), 3) := by decide +kernel
theorem dX5_readWord_79 : decode cX5_readWord 79 = .ok (.aload_n 0, 1) := by decide +kernel
theorem dX5_readWord_80 : decode cX5_readWord 80 = .ok (.getfield 27, 3) := by decide +kernel
theorem dX5_readWord_83 : decode cX5_readWord 83 = .ok (.iload_n 1, 1) := by decide +kernel
theorem dX5_readWord_84 : decode cX5_readWord 84 = .ok (.invokevirtual 112, 3) := by decide +kernel
theorem dX5_readWord_87 : decode cX5_readWord 87 = .ok (.ifCond .ne 5, 3) := by decide +kernel
theorem dX5_readWord_90 : decode cX5_readWord 90 = .ok (.iconst 0, 1) := by decide +kernel
theorem dX5_readWord_91 : decode cX5_readWord 91 = .ok (.ireturn, 1) := by decide +kernel
theorem dX5_readWord_92 : decode cX5_readWord 92 = .ok (.aload_n 0, 1) := by decide +kernel
theorem dX5_readWord_93 : decode cX5_readWord 93 = .ok (.invokevirtual 51, 3) := by decide +kernel
theorem dX5_readWord_96 : decode cX5_readWord 96 = .ok (.iload_n 1, 1) := by decide +kernel
theorem dX5_readWord_97 : decode cX5_readWord 97 = .ok (.ireturn, 1) := by decide +kernel
abbrev mdX5_readWord : MD := (cX5_readWord, RX5, 3, (some .int), yX5_readWord.name, 2, 44, eT)
set_option maxHeartbeats 2000000 in
set_option maxRecDepth 20000 in
theorem p_X5_readWord_B31 (C : KX) (l0 : Nat)  (k31 : Int32 × Int32 → Mo Int32) (hk31 : ∀ s, Cmp C mdX5_readWord (QM rvI) 31 [(0, .ref (kB C + l0)), (1, .int s.1), (2, .int s.2)] [] (k31 s)) (l1 : Int32) (l2 : Int32) : Cmp C mdX5_readWord (QM rvI) 31 [(0, .ref (kB C + l0)), (1, .int l1), (2, .int l2)] [] (m_X5_readWord_B31 l0 k31 l1 l2) := by
  unfold m_X5_readWord_B31
  refine C_iload_n (D := mdX5_readWord) (pc' := 32) (x := l2) dX5_readWord_31 rfl 2 rfl ?_
  refine C_aload_n (D := mdX5_readWord) (pc' := 33) (x := kB C + l0) dX5_readWord_32 rfl 0 rfl ?_
  refine C_getI (D := mdX5_readWord) (pc' := 36) (p := l0) f_X5_48 rfl dX5_readWord_33 rfl (fun end5 => ?_)
  refine C_icmp_ge (D := mdX5_readWord) (pc' := 39) (tgt := 79) dX5_readWord_36 (by decide) rfl ?_ ?_
  · refine C_aload_n (D := mdX5_readWord) (pc' := 80) (x := kB C + l0) dX5_readWord_79 rfl 0 rfl ?_
    refine C_getR (D := mdX5_readWord) (pc' := 83) (p := l0) f_X5_27 rfl dX5_readWord_80 rfl (fun words6 => ?_)
    refine C_iload_n (D := mdX5_readWord) (pc' := 84) (x := l1) dX5_readWord_83 rfl 1 rfl ?_
    refine C_callV (D := mdX5_readWord) (pc' := 87) (p := words6) (st := []) [.int l1] v_X5_112 (i_X6_put C words6 l1) dX5_readWord_84 rfl rfl rfl (Nat.le_of_ble_eq_true rfl) (by decide) (by decide) (fun c7 => ?_)
    refine C_if_ne (D := mdX5_readWord) (pc' := 90) (tgt := 92) dX5_readWord_87 (by decide) rfl ?_ ?_
    · refine C_aload_n (D := mdX5_readWord) (pc' := 93) (x := kB C + l0) dX5_readWord_92 rfl 0 rfl ?_
      refine C_callV (D := mdX5_readWord) (pc' := 96) (p := l0) (st := []) [] v_X5_51 (i_X5_advance C l0) dX5_readWord_93 rfl rfl rfl (Nat.le_of_ble_eq_true rfl) (by decide) (by decide) (fun _ => ?_)
      refine C_iload_n (D := mdX5_readWord) (pc' := 97) (x := l1) dX5_readWord_96 rfl 1 rfl ?_
      exact C_iret rfl dX5_readWord_97
    · refine C_iconst (D := mdX5_readWord) (pc' := 91) (v := 0) dX5_readWord_90 rfl (by decide) ?_
      exact C_iret rfl dX5_readWord_91
  · refine C_aload_n (D := mdX5_readWord) (pc' := 40) (x := kB C + l0) dX5_readWord_39 rfl 0 rfl ?_
    refine C_getR (D := mdX5_readWord) (pc' := 43) (p := l0) f_X5_9 rfl dX5_readWord_40 rfl (fun bytes8 => ?_)
    refine C_iload_n (D := mdX5_readWord) (pc' := 44) (x := l2) dX5_readWord_43 rfl 2 rfl ?_
    refine C_aI (D := mdX5_readWord) (pc' := 45) (p := bytes8) dX5_readWord_44 rfl (fun x9 => ?_)
    refine C_callSN (D := mdX5_readWord) (pc' := 48) (st := []) [.int x9] s_X5_105 (i_X7_isLetter C x9) dX5_readWord_45 rfl rfl rfl (Nat.le_of_ble_eq_true rfl) (by decide) (by decide) (fun c10 => ?_)
    refine C_if_ne (D := mdX5_readWord) (pc' := 51) (tgt := 53) dX5_readWord_48 (by decide) rfl ?_ ?_
    · refine C_iload_n (D := mdX5_readWord) (pc' := 54) (x := l1) dX5_readWord_53 rfl 1 rfl ?_
      refine C_iload_n (D := mdX5_readWord) (pc' := 55) (x := l2) dX5_readWord_54 rfl 2 rfl ?_
      refine C_aload_n (D := mdX5_readWord) (pc' := 56) (x := kB C + l0) dX5_readWord_55 rfl 0 rfl ?_
      refine C_getI (D := mdX5_readWord) (pc' := 59) (p := l0) f_X5_61 rfl dX5_readWord_56 rfl (fun begin11 => ?_)
      refine C_isub (D := mdX5_readWord) (pc' := 60) dX5_readWord_59 rfl ?_
      refine C_aload_n (D := mdX5_readWord) (pc' := 61) (x := kB C + l0) dX5_readWord_60 rfl 0 rfl ?_
      refine C_getR (D := mdX5_readWord) (pc' := 64) (p := l0) f_X5_9 rfl dX5_readWord_61 rfl (fun bytes12 => ?_)
      refine C_iload_n (D := mdX5_readWord) (pc' := 65) (x := l2) dX5_readWord_64 rfl 2 rfl ?_
      refine C_aI (D := mdX5_readWord) (pc' := 66) (p := bytes12) dX5_readWord_65 rfl (fun x13 => ?_)
      refine C_bipush (D := mdX5_readWord) (pc' := 68) (v := 97) dX5_readWord_66 rfl (by decide) ?_
      refine C_isub (D := mdX5_readWord) (pc' := 69) dX5_readWord_68 rfl ?_
      refine C_callS (D := mdX5_readWord) (pc' := 72) (st := []) [.int l1, .int (l2 - begin11), .int (x13 - 97)] s_X5_108 (i_X3_withLetter C l1 ((l2 - begin11)) ((x13 - 97))) dX5_readWord_69 rfl rfl rfl (Nat.le_of_ble_eq_true rfl) (by decide) (by decide) (fun c14 => ?_)
      refine C_istore_n (D := mdX5_readWord) (pc' := 73) (ls' := [(1, .int c14), (0, .ref (kB C + l0)), (2, .int l2)]) dX5_readWord_72 rfl rfl (by decide) rfl ?_
      refine C_iinc (D := mdX5_readWord) (pc' := 76) (j := 2) (v := (l2 + 1)) (ls' := [(2, .int (l2 + 1)), (1, .int c14), (0, .ref (kB C + l0))]) dX5_readWord_73 rfl rfl rfl (by decide) rfl ?_
      refine C_goto (D := mdX5_readWord) (pc' := 31) dX5_readWord_76 (by decide) ?_
      exact C_sub [2, 1, 0] rfl (hk31 (c14, (l2 + 1)))
    · refine C_iconst (D := mdX5_readWord) (pc' := 52) (v := 0) dX5_readWord_51 rfl (by decide) ?_
      exact C_iret rfl dX5_readWord_52
set_option maxHeartbeats 2000000 in
set_option maxRecDepth 20000 in
theorem i_X5_readWord (C : KX) (l0 : Nat) : Imp C yX5_readWord cX5_readWord 3 (some .int) 2 44 rvI [.ref (kB C + l0)] (m_X5_readWord l0) := by
  refine Imp.of (by decide) (Nat.le_of_ble_eq_true rfl) [(0, .ref (kB C + l0))] rfl ?_
  show Cmp C mdX5_readWord (QM rvI) 0 [(0, .ref (kB C + l0))] [] (m_X5_readWord l0)
  unfold m_X5_readWord
  refine C_aload_n (D := mdX5_readWord) (pc' := 1) (x := kB C + l0) dX5_readWord_0 rfl 0 rfl ?_
  refine C_getI (D := mdX5_readWord) (pc' := 4) (p := l0) f_X5_54 rfl dX5_readWord_1 rfl (fun kind1 => ?_)
  refine C_iconst (D := mdX5_readWord) (pc' := 5) (v := 1) dX5_readWord_4 rfl (by decide) ?_
  refine C_icmp_ne (D := mdX5_readWord) (pc' := 8) (tgt := 22) dX5_readWord_5 (by decide) rfl ?_ ?_
  · refine C_iconst (D := mdX5_readWord) (pc' := 23) (v := 0) dX5_readWord_22 rfl (by decide) ?_
    exact C_iret rfl dX5_readWord_23
  · refine C_aload_n (D := mdX5_readWord) (pc' := 9) (x := kB C + l0) dX5_readWord_8 rfl 0 rfl ?_
    refine C_getI (D := mdX5_readWord) (pc' := 12) (p := l0) f_X5_48 rfl dX5_readWord_9 rfl (fun end2 => ?_)
    refine C_aload_n (D := mdX5_readWord) (pc' := 13) (x := kB C + l0) dX5_readWord_12 rfl 0 rfl ?_
    refine C_getI (D := mdX5_readWord) (pc' := 16) (p := l0) f_X5_61 rfl dX5_readWord_13 rfl (fun begin3 => ?_)
    refine C_isub (D := mdX5_readWord) (pc' := 17) dX5_readWord_16 rfl ?_
    refine C_bipush (D := mdX5_readWord) (pc' := 19) (v := 6) dX5_readWord_17 rfl (by decide) ?_
    refine C_icmp_le (D := mdX5_readWord) (pc' := 22) (tgt := 24) dX5_readWord_19 (by decide) rfl ?_ ?_
    · refine C_iconst (D := mdX5_readWord) (pc' := 25) (v := 0) dX5_readWord_24 rfl (by decide) ?_
      refine C_istore_n (D := mdX5_readWord) (pc' := 26) (ls' := [(1, .int 0), (0, .ref (kB C + l0))]) dX5_readWord_25 rfl rfl (by decide) rfl ?_
      refine C_aload_n (D := mdX5_readWord) (pc' := 27) (x := kB C + l0) dX5_readWord_26 rfl 1 rfl ?_
      refine C_getI (D := mdX5_readWord) (pc' := 30) (p := l0) f_X5_61 rfl dX5_readWord_27 rfl (fun begin4 => ?_)
      refine C_istore_n (D := mdX5_readWord) (pc' := 31) (ls' := [(2, .int begin4), (1, .int 0), (0, .ref (kB C + l0))]) dX5_readWord_30 rfl rfl (by decide) rfl ?_
      exact C_sub [2, 1, 0] rfl (C_loop (fun s => [(0, .ref (kB C + l0)), (1, .int s.1), (2, .int s.2)]) (fun k hk s => p_X5_readWord_B31 C l0  k hk s.1 s.2) FU (0, begin4))
    · refine C_iconst (D := mdX5_readWord) (pc' := 23) (v := 0) dX5_readWord_22 rfl (by decide) ?_
      exact C_iret rfl dX5_readWord_23

-- StandingQueries$Held.addPart(IIII)V
theorem dX1_addPart_0 : decode cX1_addPart 0 = .ok (.aload_n 0, 1) := by decide +kernel
theorem dX1_addPart_1 : decode cX1_addPart 1 = .ok (.getfield 30, 3) := by decide +kernel
theorem dX1_addPart_4 : decode cX1_addPart 4 = .ok (.ifCond .le 11, 3) := by decide +kernel
theorem dX1_addPart_7 : decode cX1_addPart 7 = .ok (.aload_n 0, 1) := by decide +kernel
theorem dX1_addPart_8 : decode cX1_addPart 8 = .ok (.invokevirtual 43, 3) := by decide +kernel
theorem dX1_addPart_11 : decode cX1_addPart 11 = .ok (.iconst 4, 1) := by decide +kernel
theorem dX1_addPart_12 : decode cX1_addPart 12 = .ok (.if_icmp .lt 4, 3) := by decide +kernel
theorem dX1_addPart_15 : decode cX1_addPart 15 = .ok (.return_, 1) := by decide +kernel
theorem dX1_addPart_16 : decode cX1_addPart 16 = .ok (.aload_n 0, 1) := by decide +kernel
theorem dX1_addPart_17 : decode cX1_addPart 17 = .ok (.aload_n 0, 1) := by decide +kernel
theorem dX1_addPart_18 : decode cX1_addPart 18 = .ok (.getfield 30, 3) := by decide +kernel
theorem dX1_addPart_21 : decode cX1_addPart 21 = .ok (.iconst 1, 1) := by decide +kernel
theorem dX1_addPart_22 : decode cX1_addPart 22 = .ok (.isub, 1) := by decide +kernel
theorem dX1_addPart_23 : decode cX1_addPart 23 = .ok (.aload_n 0, 1) := by decide +kernel
theorem dX1_addPart_24 : decode cX1_addPart 24 = .ok (.invokevirtual 43, 3) := by decide +kernel
theorem dX1_addPart_27 : decode cX1_addPart 27 = .ok (.invokevirtual 47, 3) := by decide +kernel
theorem dX1_addPart_30 : decode cX1_addPart 30 = .ok (.istore 5, 2) := by decide +kernel
theorem dX1_addPart_32 : decode cX1_addPart 32 = .ok (.aload_n 0, 1) := by decide +kernel
theorem dX1_addPart_33 : decode cX1_addPart 33 = .ok (.getfield 15, 3) := by decide +kernel
theorem dX1_addPart_36 : decode cX1_addPart 36 = .ok (.iload 5, 2) := by decide +kernel
theorem dX1_addPart_38 : decode cX1_addPart 38 = .ok (.iload_n 1, 1) := by decide +kernel
theorem dX1_addPart_39 : decode cX1_addPart 39 = .ok (.iastore, 1) := by decide +kernel
theorem dX1_addPart_40 : decode cX1_addPart 40 = .ok (.aload_n 0, 1) := by decide +kernel
theorem dX1_addPart_41 : decode cX1_addPart 41 = .ok (.getfield 18, 3) := by decide +kernel
theorem dX1_addPart_44 : decode cX1_addPart 44 = .ok (.iload 5, 2) := by decide +kernel
theorem dX1_addPart_46 : decode cX1_addPart 46 = .ok (.iload_n 2, 1) := by decide +kernel
theorem dX1_addPart_47 : decode cX1_addPart 47 = .ok (.iastore, 1) := by decide +kernel
theorem dX1_addPart_48 : decode cX1_addPart 48 = .ok (.aload_n 0, 1) := by decide +kernel
theorem dX1_addPart_49 : decode cX1_addPart 49 = .ok (.getfield 21, 3) := by decide +kernel
theorem dX1_addPart_52 : decode cX1_addPart 52 = .ok (.iload 5, 2) := by decide +kernel
theorem dX1_addPart_54 : decode cX1_addPart 54 = .ok (.iload_n 3, 1) := by decide +kernel
theorem dX1_addPart_55 : decode cX1_addPart 55 = .ok (.iastore, 1) := by decide +kernel
theorem dX1_addPart_56 : decode cX1_addPart 56 = .ok (.aload_n 0, 1) := by decide +kernel
theorem dX1_addPart_57 : decode cX1_addPart 57 = .ok (.getfield 24, 3) := by decide +kernel
theorem dX1_addPart_60 : decode cX1_addPart 60 = .ok (.iload 5, 2) := by decide +kernel
theorem dX1_addPart_62 : decode cX1_addPart 62 = .ok (.iload 4, 2) := by decide +kernel
theorem dX1_addPart_64 : decode cX1_addPart 64 = .ok (.iastore, 1) := by decide +kernel
theorem dX1_addPart_65 : decode cX1_addPart 65 = .ok (.aload_n 0, 1) := by decide +kernel
theorem dX1_addPart_66 : decode cX1_addPart 66 = .ok (.getfield 9, 3) := by decide +kernel
theorem dX1_addPart_69 : decode cX1_addPart 69 = .ok (.aload_n 0, 1) := by decide +kernel
theorem dX1_addPart_70 : decode cX1_addPart 70 = .ok (.getfield 30, 3) := by decide +kernel
theorem dX1_addPart_73 : decode cX1_addPart 73 = .ok (.iconst 1, 1) := by decide +kernel
theorem dX1_addPart_74 : decode cX1_addPart 74 = .ok (.isub, 1) := by decide +kernel
theorem dX1_addPart_75 : decode cX1_addPart 75 = .ok (.dup2, 1) := by decide +kernel
theorem dX1_addPart_76 : decode cX1_addPart 76 = .ok (.iaload, 1) := by decide +kernel
theorem dX1_addPart_77 : decode cX1_addPart 77 = .ok (.iconst 1, 1) := by decide +kernel
theorem dX1_addPart_78 : decode cX1_addPart 78 = .ok (.iadd, 1) := by decide +kernel
theorem dX1_addPart_79 : decode cX1_addPart 79 = .ok (.iastore, 1) := by decide +kernel
theorem dX1_addPart_80 : decode cX1_addPart 80 = .ok (.return_, 1) := by decide +kernel
abbrev mdX1_addPart : MD := (cX1_addPart, RX1, 6, none, yX1_addPart.name, 1, 22, eT)
set_option maxHeartbeats 2000000 in
set_option maxRecDepth 20000 in
theorem i_X1_addPart (C : KX) (l0 : Nat) (l1 : Int32) (l2 : Int32) (l3 : Int32) (l4 : Int32) : Imp C yX1_addPart cX1_addPart 6 none 1 22 rvV [.ref (kB C + l0), .int l1, .int l2, .int l3, .int l4] (m_X1_addPart l0 l1 l2 l3 l4) := by
  refine Imp.of (by decide) (Nat.le_of_ble_eq_true rfl) [(0, .ref (kB C + l0)), (1, .int l1), (2, .int l2), (3, .int l3), (4, .int l4)] rfl ?_
  show Cmp C mdX1_addPart (QM rvV) 0 [(0, .ref (kB C + l0)), (1, .int l1), (2, .int l2), (3, .int l3), (4, .int l4)] [] (m_X1_addPart l0 l1 l2 l3 l4)
  unfold m_X1_addPart
  refine C_aload_n (D := mdX1_addPart) (pc' := 1) (x := kB C + l0) dX1_addPart_0 rfl 0 rfl ?_
  refine C_getI (D := mdX1_addPart) (pc' := 4) (p := l0) f_X1_30 rfl dX1_addPart_1 rfl (fun queries1 => ?_)
  refine C_if_le (D := mdX1_addPart) (pc' := 7) (tgt := 15) dX1_addPart_4 (by decide) rfl ?_ ?_
  · exact C_vret rfl dX1_addPart_15
  · refine C_aload_n (D := mdX1_addPart) (pc' := 8) (x := kB C + l0) dX1_addPart_7 rfl 0 rfl ?_
    refine C_callV (D := mdX1_addPart) (pc' := 11) (p := l0) (st := []) [] v_X1_43 (i_X1_partsOfLast C l0) dX1_addPart_8 rfl rfl rfl (Nat.le_of_ble_eq_true rfl) (by decide) (by decide) (fun c2 => ?_)
    refine C_iconst (D := mdX1_addPart) (pc' := 12) (v := 4) dX1_addPart_11 rfl (by decide) ?_
    refine C_icmp_lt (D := mdX1_addPart) (pc' := 15) (tgt := 16) dX1_addPart_12 (by decide) rfl ?_ ?_
    · refine C_aload_n (D := mdX1_addPart) (pc' := 17) (x := kB C + l0) dX1_addPart_16 rfl 0 rfl ?_
      refine C_aload_n (D := mdX1_addPart) (pc' := 18) (x := kB C + l0) dX1_addPart_17 rfl 0 rfl ?_
      refine C_getI (D := mdX1_addPart) (pc' := 21) (p := l0) f_X1_30 rfl dX1_addPart_18 rfl (fun queries3 => ?_)
      refine C_iconst (D := mdX1_addPart) (pc' := 22) (v := 1) dX1_addPart_21 rfl (by decide) ?_
      refine C_isub (D := mdX1_addPart) (pc' := 23) dX1_addPart_22 rfl ?_
      refine C_aload_n (D := mdX1_addPart) (pc' := 24) (x := kB C + l0) dX1_addPart_23 rfl 0 rfl ?_
      refine C_callV (D := mdX1_addPart) (pc' := 27) (p := l0) (st := [.int (queries3 - 1), .ref (kB C + l0)]) [] v_X1_43 (i_X1_partsOfLast C l0) dX1_addPart_24 rfl rfl rfl (Nat.le_of_ble_eq_true rfl) (by decide) (by decide) (fun c4 => ?_)
      refine C_callV (D := mdX1_addPart) (pc' := 30) (p := l0) (st := []) [.int (queries3 - 1), .int c4] v_X1_47 (i_X1_place C l0 ((queries3 - 1)) c4) dX1_addPart_27 rfl rfl rfl (Nat.le_of_ble_eq_true rfl) (by decide) (by decide) (fun c5 => ?_)
      refine C_istore (D := mdX1_addPart) (pc' := 32) (ls' := [(5, .int c5), (0, .ref (kB C + l0)), (1, .int l1), (2, .int l2), (3, .int l3), (4, .int l4)]) dX1_addPart_30 rfl (by decide) rfl ?_
      refine C_aload_n (D := mdX1_addPart) (pc' := 33) (x := kB C + l0) dX1_addPart_32 rfl 1 rfl ?_
      refine C_getR (D := mdX1_addPart) (pc' := 36) (p := l0) f_X1_15 rfl dX1_addPart_33 rfl (fun sort6 => ?_)
      refine C_iload (D := mdX1_addPart) (pc' := 38) (x := c5) dX1_addPart_36 rfl 0 rfl ?_
      refine C_iload_n (D := mdX1_addPart) (pc' := 39) (x := l1) dX1_addPart_38 rfl 2 rfl ?_
      refine C_tI (D := mdX1_addPart) (pc' := 40) (p := sort6) dX1_addPart_39 rfl ?_
      refine C_aload_n (D := mdX1_addPart) (pc' := 41) (x := kB C + l0) dX1_addPart_40 rfl 1 rfl ?_
      refine C_getR (D := mdX1_addPart) (pc' := 44) (p := l0) f_X1_18 rfl dX1_addPart_41 rfl (fun word7 => ?_)
      refine C_iload (D := mdX1_addPart) (pc' := 46) (x := c5) dX1_addPart_44 rfl 0 rfl ?_
      refine C_iload_n (D := mdX1_addPart) (pc' := 47) (x := l2) dX1_addPart_46 rfl 3 rfl ?_
      refine C_tI (D := mdX1_addPart) (pc' := 48) (p := word7) dX1_addPart_47 rfl ?_
      refine C_aload_n (D := mdX1_addPart) (pc' := 49) (x := kB C + l0) dX1_addPart_48 rfl 1 rfl ?_
      refine C_getR (D := mdX1_addPart) (pc' := 52) (p := l0) f_X1_21 rfl dX1_addPart_49 rfl (fun earlier8 => ?_)
      refine C_iload (D := mdX1_addPart) (pc' := 54) (x := c5) dX1_addPart_52 rfl 0 rfl ?_
      refine C_iload_n (D := mdX1_addPart) (pc' := 55) (x := l3) dX1_addPart_54 rfl 4 rfl ?_
      refine C_tI (D := mdX1_addPart) (pc' := 56) (p := earlier8) dX1_addPart_55 rfl ?_
      refine C_aload_n (D := mdX1_addPart) (pc' := 57) (x := kB C + l0) dX1_addPart_56 rfl 1 rfl ?_
      refine C_getR (D := mdX1_addPart) (pc' := 60) (p := l0) f_X1_24 rfl dX1_addPart_57 rfl (fun reach9 => ?_)
      refine C_iload (D := mdX1_addPart) (pc' := 62) (x := c5) dX1_addPart_60 rfl 0 rfl ?_
      refine C_iload (D := mdX1_addPart) (pc' := 64) (x := l4) dX1_addPart_62 rfl 5 rfl ?_
      refine C_tI (D := mdX1_addPart) (pc' := 65) (p := reach9) dX1_addPart_64 rfl ?_
      refine C_aload_n (D := mdX1_addPart) (pc' := 66) (x := kB C + l0) dX1_addPart_65 rfl 1 rfl ?_
      refine C_getR (D := mdX1_addPart) (pc' := 69) (p := l0) f_X1_9 rfl dX1_addPart_66 rfl (fun parts10 => ?_)
      refine C_aload_n (D := mdX1_addPart) (pc' := 70) (x := kB C + l0) dX1_addPart_69 rfl 1 rfl ?_
      refine C_getI (D := mdX1_addPart) (pc' := 73) (p := l0) f_X1_30 rfl dX1_addPart_70 rfl (fun queries11 => ?_)
      refine C_iconst (D := mdX1_addPart) (pc' := 74) (v := 1) dX1_addPart_73 rfl (by decide) ?_
      refine C_isub (D := mdX1_addPart) (pc' := 75) dX1_addPart_74 rfl ?_
      refine C_dup2 (D := mdX1_addPart) (pc' := 76) dX1_addPart_75 rfl rfl rfl ?_
      refine C_aI (D := mdX1_addPart) (pc' := 77) (p := parts10) dX1_addPart_76 rfl (fun x12 => ?_)
      refine C_iconst (D := mdX1_addPart) (pc' := 78) (v := 1) dX1_addPart_77 rfl (by decide) ?_
      refine C_iadd (D := mdX1_addPart) (pc' := 79) dX1_addPart_78 rfl ?_
      refine C_tI (D := mdX1_addPart) (pc' := 80) (p := parts10) dX1_addPart_79 rfl ?_
      exact C_vret rfl dX1_addPart_80
    · exact C_vret rfl dX1_addPart_15

-- StandingQueries$Text.readStop()Z
theorem dX5_readStop_0 : decode cX5_readStop 0 = .ok (.aload_n 0, 1) := by decide +kernel
theorem dX5_readStop_1 : decode cX5_readStop 1 = .ok (.getfield 54, 3) := by decide +kernel
theorem dX5_readStop_4 : decode cX5_readStop 4 = .ok (.iconst 3, 1) := by decide +kernel
theorem dX5_readStop_5 : decode cX5_readStop 5 = .ok (.if_icmp .eq 5, 3) := by decide +kernel
theorem dX5_readStop_8 : decode cX5_readStop 8 = .ok (.iconst 0, 1) := by decide +kernel
theorem dX5_readStop_9 : decode cX5_readStop 9 = .ok (.ireturn, 1) := by decide +kernel
theorem dX5_readStop_10 : decode cX5_readStop 10 = .ok (.aload_n 0, 1) := by decide +kernel
theorem dX5_readStop_11 : decode cX5_readStop 11 = .ok (.invokevirtual 51, 3) := by decide +kernel
theorem dX5_readStop_14 : decode cX5_readStop 14 = .ok (.iconst 1, 1) := by decide +kernel
theorem dX5_readStop_15 : decode cX5_readStop 15 = .ok (.ireturn, 1) := by decide +kernel
abbrev mdX5_readStop : MD := (cX5_readStop, RX5, 1, (some .boolean), yX5_readStop.name, 2, 40, eT)
set_option maxHeartbeats 2000000 in
set_option maxRecDepth 20000 in
theorem i_X5_readStop (C : KX) (l0 : Nat) : Imp C yX5_readStop cX5_readStop 1 (some .boolean) 2 40 rvI [.ref (kB C + l0)] (m_X5_readStop l0) := by
  refine Imp.of (by decide) (Nat.le_of_ble_eq_true rfl) [(0, .ref (kB C + l0))] rfl ?_
  show Cmp C mdX5_readStop (QM rvI) 0 [(0, .ref (kB C + l0))] [] (m_X5_readStop l0)
  unfold m_X5_readStop
  refine C_aload_n (D := mdX5_readStop) (pc' := 1) (x := kB C + l0) dX5_readStop_0 rfl 0 rfl ?_
  refine C_getI (D := mdX5_readStop) (pc' := 4) (p := l0) f_X5_54 rfl dX5_readStop_1 rfl (fun kind1 => ?_)
  refine C_iconst (D := mdX5_readStop) (pc' := 5) (v := 3) dX5_readStop_4 rfl (by decide) ?_
  refine C_icmp_eq (D := mdX5_readStop) (pc' := 8) (tgt := 10) dX5_readStop_5 (by decide) rfl ?_ ?_
  · refine C_aload_n (D := mdX5_readStop) (pc' := 11) (x := kB C + l0) dX5_readStop_10 rfl 0 rfl ?_
    refine C_callV (D := mdX5_readStop) (pc' := 14) (p := l0) (st := []) [] v_X5_51 (i_X5_advance C l0) dX5_readStop_11 rfl rfl rfl (Nat.le_of_ble_eq_true rfl) (by decide) (by decide) (fun _ => ?_)
    refine C_iconst (D := mdX5_readStop) (pc' := 15) (v := 1) dX5_readStop_14 rfl (by decide) ?_
    exact C_zret rfl dX5_readStop_15
  · refine C_iconst (D := mdX5_readStop) (pc' := 9) (v := 0) dX5_readStop_8 rfl (by decide) ?_
    exact C_zret rfl dX5_readStop_9

-- StandingQueries$Text.readPart(I)Z
theorem dX5_readPart_0 : decode cX5_readPart 0 = .ok (.aload_n 0, 1) := by decide +kernel
theorem dX5_readPart_1 : decode cX5_readPart 1 = .ok (.invokevirtual 90, 3) := by decide +kernel
theorem dX5_readPart_4 : decode cX5_readPart 4 = .ok (.ifCond .ne 5, 3) := by decide +kernel
theorem dX5_readPart_7 : decode cX5_readPart 7 = .ok (.iconst 0, 1) := by decide +kernel
theorem dX5_readPart_8 : decode cX5_readPart 8 = .ok (.ireturn, 1) := by decide +kernel
theorem dX5_readPart_9 : decode cX5_readPart 9 = .ok (.aload_n 0, 1) := by decide +kernel
theorem dX5_readPart_10 : decode cX5_readPart 10 = .ok (.invokevirtual 51, 3) := by decide +kernel
theorem dX5_readPart_13 : decode cX5_readPart 13 = .ok (.aload_n 0, 1) := by decide +kernel
theorem dX5_readPart_14 : decode cX5_readPart 14 = .ok (.invokevirtual 93, 3) := by decide +kernel
theorem dX5_readPart_17 : decode cX5_readPart 17 = .ok (.istore_n 2, 1) := by decide +kernel
theorem dX5_readPart_18 : decode cX5_readPart 18 = .ok (.iload_n 2, 1) := by decide +kernel
theorem dX5_readPart_19 : decode cX5_readPart 19 = .ok (.ifCond .ne 5, 3) := by decide +kernel
theorem dX5_readPart_22 : decode cX5_readPart 22 = .ok (.iconst 0, 1) := by decide +kernel
theorem dX5_readPart_23 : decode cX5_readPart 23 = .ok (.ireturn, 1) := by decide +kernel
theorem dX5_readPart_24 : decode cX5_readPart 24 = .ok (.aload_n 0, 1) := by decide +kernel
theorem dX5_readPart_25 : decode cX5_readPart 25 = .ok (.getfield 18, 3) := by decide +kernel
theorem dX5_readPart_28 : decode cX5_readPart 28 = .ok (.iload_n 1, 1) := by decide +kernel
theorem dX5_readPart_29 : decode cX5_readPart 29 = .ok (.iload_n 2, 1) := by decide +kernel
theorem dX5_readPart_30 : decode cX5_readPart 30 = .ok (.iconst 0, 1) := by decide +kernel
theorem dX5_readPart_31 : decode cX5_readPart 31 = .ok (.iconst 0, 1) := by decide +kernel
theorem dX5_readPart_32 : decode cX5_readPart 32 = .ok (.invokevirtual 98, 3) := by decide +kernel
theorem dX5_readPart_35 : decode cX5_readPart 35 = .ok (.aload_n 0, 1) := by decide +kernel
theorem dX5_readPart_36 : decode cX5_readPart 36 = .ok (.invokevirtual 87, 3) := by decide +kernel
theorem dX5_readPart_39 : decode cX5_readPart 39 = .ok (.ireturn, 1) := by decide +kernel
abbrev mdX5_readPart : MD := (cX5_readPart, RX5, 3, (some .boolean), yX5_readPart.name, 3, 66, eT)
set_option maxHeartbeats 2000000 in
set_option maxRecDepth 20000 in
theorem i_X5_readPart (C : KX) (l0 : Nat) (l1 : Int32) : Imp C yX5_readPart cX5_readPart 3 (some .boolean) 3 66 rvI [.ref (kB C + l0), .int l1] (m_X5_readPart l0 l1) := by
  refine Imp.of (by decide) (Nat.le_of_ble_eq_true rfl) [(0, .ref (kB C + l0)), (1, .int l1)] rfl ?_
  show Cmp C mdX5_readPart (QM rvI) 0 [(0, .ref (kB C + l0)), (1, .int l1)] [] (m_X5_readPart l0 l1)
  unfold m_X5_readPart
  refine C_aload_n (D := mdX5_readPart) (pc' := 1) (x := kB C + l0) dX5_readPart_0 rfl 0 rfl ?_
  refine C_callV (D := mdX5_readPart) (pc' := 4) (p := l0) (st := []) [] v_X5_90 (i_X5_mayHavePart C l0) dX5_readPart_1 rfl rfl rfl (Nat.le_of_ble_eq_true rfl) (by decide) (by decide) (fun c1 => ?_)
  refine C_if_ne (D := mdX5_readPart) (pc' := 7) (tgt := 9) dX5_readPart_4 (by decide) rfl ?_ ?_
  · refine C_aload_n (D := mdX5_readPart) (pc' := 10) (x := kB C + l0) dX5_readPart_9 rfl 0 rfl ?_
    refine C_callV (D := mdX5_readPart) (pc' := 13) (p := l0) (st := []) [] v_X5_51 (i_X5_advance C l0) dX5_readPart_10 rfl rfl rfl (Nat.le_of_ble_eq_true rfl) (by decide) (by decide) (fun _ => ?_)
    refine C_aload_n (D := mdX5_readPart) (pc' := 14) (x := kB C + l0) dX5_readPart_13 rfl 0 rfl ?_
    refine C_callV (D := mdX5_readPart) (pc' := 17) (p := l0) (st := []) [] v_X5_93 (i_X5_readWord C l0) dX5_readPart_14 rfl rfl rfl (Nat.le_of_ble_eq_true rfl) (by decide) (by decide) (fun c2 => ?_)
    refine C_istore_n (D := mdX5_readPart) (pc' := 18) (ls' := [(2, .int c2), (0, .ref (kB C + l0)), (1, .int l1)]) dX5_readPart_17 rfl rfl (by decide) rfl ?_
    refine C_iload_n (D := mdX5_readPart) (pc' := 19) (x := c2) dX5_readPart_18 rfl 0 rfl ?_
    refine C_if_ne (D := mdX5_readPart) (pc' := 22) (tgt := 24) dX5_readPart_19 (by decide) rfl ?_ ?_
    · refine C_aload_n (D := mdX5_readPart) (pc' := 25) (x := kB C + l0) dX5_readPart_24 rfl 1 rfl ?_
      refine C_getR (D := mdX5_readPart) (pc' := 28) (p := l0) f_X5_18 rfl dX5_readPart_25 rfl (fun draft3 => ?_)
      refine C_iload_n (D := mdX5_readPart) (pc' := 29) (x := l1) dX5_readPart_28 rfl 2 rfl ?_
      refine C_iload_n (D := mdX5_readPart) (pc' := 30) (x := c2) dX5_readPart_29 rfl 0 rfl ?_
      refine C_iconst (D := mdX5_readPart) (pc' := 31) (v := 0) dX5_readPart_30 rfl (by decide) ?_
      refine C_iconst (D := mdX5_readPart) (pc' := 32) (v := 0) dX5_readPart_31 rfl (by decide) ?_
      refine C_callV (D := mdX5_readPart) (pc' := 35) (p := draft3) (st := []) [.int l1, .int c2, .int 0, .int 0] v_X5_98 (i_X1_addPart C draft3 l1 c2 0 0) dX5_readPart_32 rfl rfl rfl (Nat.le_of_ble_eq_true rfl) (by decide) (by decide) (fun _ => ?_)
      refine C_aload_n (D := mdX5_readPart) (pc' := 36) (x := kB C + l0) dX5_readPart_35 rfl 1 rfl ?_
      refine C_callV (D := mdX5_readPart) (pc' := 39) (p := l0) (st := []) [] v_X5_87 (i_X5_readStop C l0) dX5_readPart_36 rfl rfl rfl (Nat.le_of_ble_eq_true rfl) (by decide) (by decide) (fun c4 => ?_)
      exact C_zret rfl dX5_readPart_39
    · refine C_iconst (D := mdX5_readPart) (pc' := 23) (v := 0) dX5_readPart_22 rfl (by decide) ?_
      exact C_zret rfl dX5_readPart_23
  · refine C_iconst (D := mdX5_readPart) (pc' := 8) (v := 0) dX5_readPart_7 rfl (by decide) ?_
    exact C_zret rfl dX5_readPart_8

-- StandingQueries$Held.lastHasNear()Z
theorem dX1_lastHasNear_0 : decode cX1_lastHasNear 0 = .ok (.iconst 0, 1) := by decide +kernel
theorem dX1_lastHasNear_1 : decode cX1_lastHasNear 1 = .ok (.istore_n 1, 1) := by decide +kernel
theorem dX1_lastHasNear_2 : decode cX1_lastHasNear 2 = .ok (.iload_n 1, 1) := by decide +kernel
theorem dX1_lastHasNear_3 : decode cX1_lastHasNear 3 = .ok (.aload_n 0, 1) := by decide +kernel
theorem dX1_lastHasNear_4 : decode cX1_lastHasNear 4 = .ok (.invokevirtual 43, 3) := by decide +kernel
theorem dX1_lastHasNear_7 : decode cX1_lastHasNear 7 = .ok (.if_icmp .ge 31, 3) := by decide +kernel
theorem dX1_lastHasNear_10 : decode cX1_lastHasNear 10 = .ok (.aload_n 0, 1) := by decide +kernel
theorem dX1_lastHasNear_11 : decode cX1_lastHasNear 11 = .ok (.getfield 15, 3) := by decide +kernel
theorem dX1_lastHasNear_14 : decode cX1_lastHasNear 14 = .ok (.aload_n 0, 1) := by decide +kernel
theorem dX1_lastHasNear_15 : decode cX1_lastHasNear 15 = .ok (.aload_n 0, 1) := by decide +kernel
theorem dX1_lastHasNear_16 : decode cX1_lastHasNear 16 = .ok (.getfield 30, 3) := by decide +kernel
theorem dX1_lastHasNear_19 : decode cX1_lastHasNear 19 = .ok (.iconst 1, 1) := by decide +kernel
theorem dX1_lastHasNear_20 : decode cX1_lastHasNear 20 = .ok (.isub, 1) := by decide +kernel
theorem dX1_lastHasNear_21 : decode cX1_lastHasNear 21 = .ok (.iload_n 1, 1) := by decide +kernel
theorem dX1_lastHasNear_22 : decode cX1_lastHasNear 22 = .ok (.invokevirtual 47, 3) := by decide +kernel
theorem dX1_lastHasNear_25 : decode cX1_lastHasNear 25 = .ok (.iaload, 1) := by decide +kernel
theorem dX1_lastHasNear_26 : decode cX1_lastHasNear 26 = .ok (.iconst 2, 1) := by decide +kernel
theorem dX1_lastHasNear_27 : decode cX1_lastHasNear 27 = .ok (.if_icmp .ne 5, 3) := by decide +kernel
theorem dX1_lastHasNear_30 : decode cX1_lastHasNear 30 = .ok (.iconst 1, 1) := by decide +kernel
theorem dX1_lastHasNear_31 : decode cX1_lastHasNear 31 = .ok (.ireturn, 1) := by decide +kernel
theorem dX1_lastHasNear_32 : decode cX1_lastHasNear 32 = .ok (.iinc 1 1, 3) := by decide +kernel
theorem dX1_lastHasNear_35 : decode cX1_lastHasNear 35 = .ok (.goto (-33), 3) := by decide +kernel
theorem dX1_lastHasNear_38 : decode cX1_lastHasNear 38 = .ok (.iconst 0, 1) := by decide +kernel
theorem dX1_lastHasNear_39 : decode cX1_lastHasNear 39 = .ok (.ireturn, 1) := by decide +kernel
abbrev mdX1_lastHasNear : MD := (cX1_lastHasNear, RX1, 2, (some .boolean), yX1_lastHasNear.name, 1, 22, eT)
set_option maxHeartbeats 2000000 in
set_option maxRecDepth 20000 in
theorem p_X1_lastHasNear_B2 (C : KX) (l0 : Nat)  (k2 : Int32 → Mo Int32) (hk2 : ∀ s, Cmp C mdX1_lastHasNear (QM rvI) 2 [(0, .ref (kB C + l0)), (1, .int s)] [] (k2 s)) (l1 : Int32) : Cmp C mdX1_lastHasNear (QM rvI) 2 [(0, .ref (kB C + l0)), (1, .int l1)] [] (m_X1_lastHasNear_B2 l0 k2 l1) := by
  unfold m_X1_lastHasNear_B2
  refine C_iload_n (D := mdX1_lastHasNear) (pc' := 3) (x := l1) dX1_lastHasNear_2 rfl 1 rfl ?_
  refine C_aload_n (D := mdX1_lastHasNear) (pc' := 4) (x := kB C + l0) dX1_lastHasNear_3 rfl 0 rfl ?_
  refine C_callV (D := mdX1_lastHasNear) (pc' := 7) (p := l0) (st := [.int l1]) [] v_X1_43 (i_X1_partsOfLast C l0) dX1_lastHasNear_4 rfl rfl rfl (Nat.le_of_ble_eq_true rfl) (by decide) (by decide) (fun c1 => ?_)
  refine C_icmp_ge (D := mdX1_lastHasNear) (pc' := 10) (tgt := 38) dX1_lastHasNear_7 (by decide) rfl ?_ ?_
  · refine C_iconst (D := mdX1_lastHasNear) (pc' := 39) (v := 0) dX1_lastHasNear_38 rfl (by decide) ?_
    exact C_zret rfl dX1_lastHasNear_39
  · refine C_aload_n (D := mdX1_lastHasNear) (pc' := 11) (x := kB C + l0) dX1_lastHasNear_10 rfl 0 rfl ?_
    refine C_getR (D := mdX1_lastHasNear) (pc' := 14) (p := l0) f_X1_15 rfl dX1_lastHasNear_11 rfl (fun sort2 => ?_)
    refine C_aload_n (D := mdX1_lastHasNear) (pc' := 15) (x := kB C + l0) dX1_lastHasNear_14 rfl 0 rfl ?_
    refine C_aload_n (D := mdX1_lastHasNear) (pc' := 16) (x := kB C + l0) dX1_lastHasNear_15 rfl 0 rfl ?_
    refine C_getI (D := mdX1_lastHasNear) (pc' := 19) (p := l0) f_X1_30 rfl dX1_lastHasNear_16 rfl (fun queries3 => ?_)
    refine C_iconst (D := mdX1_lastHasNear) (pc' := 20) (v := 1) dX1_lastHasNear_19 rfl (by decide) ?_
    refine C_isub (D := mdX1_lastHasNear) (pc' := 21) dX1_lastHasNear_20 rfl ?_
    refine C_iload_n (D := mdX1_lastHasNear) (pc' := 22) (x := l1) dX1_lastHasNear_21 rfl 1 rfl ?_
    refine C_callV (D := mdX1_lastHasNear) (pc' := 25) (p := l0) (st := [.ref (kB C + sort2)]) [.int (queries3 - 1), .int l1] v_X1_47 (i_X1_place C l0 ((queries3 - 1)) l1) dX1_lastHasNear_22 rfl rfl rfl (Nat.le_of_ble_eq_true rfl) (by decide) (by decide) (fun c4 => ?_)
    refine C_aI (D := mdX1_lastHasNear) (pc' := 26) (p := sort2) dX1_lastHasNear_25 rfl (fun x5 => ?_)
    refine C_iconst (D := mdX1_lastHasNear) (pc' := 27) (v := 2) dX1_lastHasNear_26 rfl (by decide) ?_
    refine C_icmp_ne (D := mdX1_lastHasNear) (pc' := 30) (tgt := 32) dX1_lastHasNear_27 (by decide) rfl ?_ ?_
    · refine C_iinc (D := mdX1_lastHasNear) (pc' := 35) (j := 1) (v := (l1 + 1)) (ls' := [(1, .int (l1 + 1)), (0, .ref (kB C + l0))]) dX1_lastHasNear_32 rfl rfl rfl (by decide) rfl ?_
      refine C_goto (D := mdX1_lastHasNear) (pc' := 2) dX1_lastHasNear_35 (by decide) ?_
      exact C_sub [1, 0] rfl (hk2 ((l1 + 1)))
    · refine C_iconst (D := mdX1_lastHasNear) (pc' := 31) (v := 1) dX1_lastHasNear_30 rfl (by decide) ?_
      exact C_zret rfl dX1_lastHasNear_31
set_option maxHeartbeats 2000000 in
set_option maxRecDepth 20000 in
theorem i_X1_lastHasNear (C : KX) (l0 : Nat) : Imp C yX1_lastHasNear cX1_lastHasNear 2 (some .boolean) 1 22 rvI [.ref (kB C + l0)] (m_X1_lastHasNear l0) := by
  refine Imp.of (by decide) (Nat.le_of_ble_eq_true rfl) [(0, .ref (kB C + l0))] rfl ?_
  show Cmp C mdX1_lastHasNear (QM rvI) 0 [(0, .ref (kB C + l0))] [] (m_X1_lastHasNear l0)
  unfold m_X1_lastHasNear
  refine C_iconst (D := mdX1_lastHasNear) (pc' := 1) (v := 0) dX1_lastHasNear_0 rfl (by decide) ?_
  refine C_istore_n (D := mdX1_lastHasNear) (pc' := 2) (ls' := [(1, .int 0), (0, .ref (kB C + l0))]) dX1_lastHasNear_1 rfl rfl (by decide) rfl ?_
  exact C_sub [1, 0] rfl (C_loop (fun s => [(0, .ref (kB C + l0)), (1, .int s)]) (fun k hk s => p_X1_lastHasNear_B2 C l0  k hk s) FU 0)
