-- StandingQueriesModel.isQuery(I)Z
theorem dX8_isQuery_0 : decode cX8_isQuery 0 = .ok (.iload_n 1, 1) := by decide +kernel
theorem dX8_isQuery_1 : decode cX8_isQuery 1 = .ok (.i2l, 1) := by decide +kernel
theorem dX8_isQuery_2 : decode cX8_isQuery 2 = .ok (.lconst 0, 1) := by decide +kernel
theorem dX8_isQuery_3 : decode cX8_isQuery 3 = .ok (.aload_n 0, 1) := by decide +kernel
theorem dX8_isQuery_4 : decode cX8_isQuery 4 = .ok (.getfield 87, 3) := by decide +kernel
theorem dX8_isQuery_7 : decode cX8_isQuery 7 = .ok (.iconst 0, 1) := by decide +kernel
theorem dX8_isQuery_8 : decode cX8_isQuery 8 = .ok (.iaload, 1) := by decide +kernel
theorem dX8_isQuery_9 : decode cX8_isQuery 9 = .ok (.iconst 1, 1) := by decide +kernel
theorem dX8_isQuery_10 : decode cX8_isQuery 10 = .ok (.isub, 1) := by decide +kernel
theorem dX8_isQuery_11 : decode cX8_isQuery 11 = .ok (.i2l, 1) := by decide +kernel
theorem dX8_isQuery_12 : decode cX8_isQuery 12 = .ok (.invokestatic 9, 3) := by decide +kernel
theorem dX8_isQuery_15 : decode cX8_isQuery 15 = .ok (.ireturn, 1) := by decide +kernel
abbrev mdX8_isQuery : MD := (cX8_isQuery, RX8, 2, (some .boolean), yX8_isQuery.name, 1, 25, eT)
set_option maxHeartbeats 2000000 in
set_option maxRecDepth 20000 in
theorem i_X8_isQuery (C : KX) (l0 : Nat) (l1 : Int32) : Imp C yX8_isQuery cX8_isQuery 2 (some .boolean) 1 25 rvI [.ref (kB C + l0), .int l1] (m_X8_isQuery l0 l1) := by
  refine Imp.of (by decide) (Nat.le_of_ble_eq_true rfl) [(0, .ref (kB C + l0)), (1, .int l1)] rfl ?_
  show Cmp C mdX8_isQuery (QM rvI) 0 [(0, .ref (kB C + l0)), (1, .int l1)] [] (m_X8_isQuery l0 l1)
  unfold m_X8_isQuery
  refine C_iload_n (D := mdX8_isQuery) (pc' := 1) (x := l1) dX8_isQuery_0 rfl 1 rfl ?_
  refine C_i2l (D := mdX8_isQuery) (pc' := 2) dX8_isQuery_1 rfl ?_
  refine C_lconst (D := mdX8_isQuery) (pc' := 3) (v := 0) dX8_isQuery_2 rfl (by decide) ?_
  refine C_aload_n (D := mdX8_isQuery) (pc' := 4) (x := kB C + l0) dX8_isQuery_3 rfl 0 rfl ?_
  refine C_getR (D := mdX8_isQuery) (pc' := 7) (p := l0) f_X8_87 rfl dX8_isQuery_4 rfl (fun now1 => ?_)
  refine C_iconst (D := mdX8_isQuery) (pc' := 8) (v := 0) dX8_isQuery_7 rfl (by decide) ?_
  refine C_aI (D := mdX8_isQuery) (pc' := 9) (p := now1) dX8_isQuery_8 rfl (fun x2 => ?_)
  refine C_iconst (D := mdX8_isQuery) (pc' := 10) (v := 1) dX8_isQuery_9 rfl (by decide) ?_
  refine C_isub (D := mdX8_isQuery) (pc' := 11) dX8_isQuery_10 rfl ?_
  refine C_i2l (D := mdX8_isQuery) (pc' := 12) dX8_isQuery_11 rfl ?_
  refine C_callS (D := mdX8_isQuery) (pc' := 15) (st := []) [.long ((l1 : Int32).toInt64), .long 0, .long (((x2 - 1) : Int32).toInt64)] s_X8_9 (i_X8_in C (((l1 : Int32).toInt64)) 0 ((((x2 - 1) : Int32).toInt64))) dX8_isQuery_12 rfl rfl rfl (Nat.le_of_ble_eq_true rfl) (by decide) (by decide) (fun c3 => ?_)
  exact C_zret rfl dX8_isQuery_15

-- StandingQueriesModel.drops(I)I
theorem dX8_drops_0 : decode cX8_drops 0 = .ok (.aload_n 0, 1) := by decide +kernel
theorem dX8_drops_1 : decode cX8_drops 1 = .ok (.iconst 0, 1) := by decide +kernel
theorem dX8_drops_2 : decode cX8_drops 2 = .ok (.putfield 1, 3) := by decide +kernel
theorem dX8_drops_5 : decode cX8_drops 5 = .ok (.aload_n 0, 1) := by decide +kernel
theorem dX8_drops_6 : decode cX8_drops 6 = .ok (.iload_n 1, 1) := by decide +kernel
theorem dX8_drops_7 : decode cX8_drops 7 = .ok (.invokevirtual 183, 3) := by decide +kernel
theorem dX8_drops_10 : decode cX8_drops 10 = .ok (.ifCond .ne 5, 3) := by decide +kernel
theorem dX8_drops_13 : decode cX8_drops 13 = .ok (.iconst (-1), 1) := by decide +kernel
theorem dX8_drops_14 : decode cX8_drops 14 = .ok (.ireturn, 1) := by decide +kernel
theorem dX8_drops_15 : decode cX8_drops 15 = .ok (.aload_n 0, 1) := by decide +kernel
theorem dX8_drops_16 : decode cX8_drops 16 = .ok (.invokevirtual 177, 3) := by decide +kernel
theorem dX8_drops_19 : decode cX8_drops 19 = .ok (.aload_n 0, 1) := by decide +kernel
theorem dX8_drops_20 : decode cX8_drops 20 = .ok (.getfield 87, 3) := by decide +kernel
theorem dX8_drops_23 : decode cX8_drops 23 = .ok (.iconst 0, 1) := by decide +kernel
theorem dX8_drops_24 : decode cX8_drops 24 = .ok (.dup2, 1) := by decide +kernel
theorem dX8_drops_25 : decode cX8_drops 25 = .ok (.iaload, 1) := by decide +kernel
theorem dX8_drops_26 : decode cX8_drops 26 = .ok (.iconst 1, 1) := by decide +kernel
theorem dX8_drops_27 : decode cX8_drops 27 = .ok (.isub, 1) := by decide +kernel
theorem dX8_drops_28 : decode cX8_drops 28 = .ok (.iastore, 1) := by decide +kernel
theorem dX8_drops_29 : decode cX8_drops 29 = .ok (.bipush 42, 2) := by decide +kernel
theorem dX8_drops_31 : decode cX8_drops 31 = .ok (.bipush 17, 2) := by decide +kernel
theorem dX8_drops_33 : decode cX8_drops 33 = .ok (.iload_n 1, 1) := by decide +kernel
theorem dX8_drops_34 : decode cX8_drops 34 = .ok (.imul, 1) := by decide +kernel
theorem dX8_drops_35 : decode cX8_drops 35 = .ok (.iadd, 1) := by decide +kernel
theorem dX8_drops_36 : decode cX8_drops 36 = .ok (.istore_n 2, 1) := by decide +kernel
theorem dX8_drops_37 : decode cX8_drops 37 = .ok (.iload_n 2, 1) := by decide +kernel
theorem dX8_drops_38 : decode cX8_drops 38 = .ok (.bipush 42, 2) := by decide +kernel
theorem dX8_drops_40 : decode cX8_drops 40 = .ok (.bipush 17, 2) := by decide +kernel
theorem dX8_drops_42 : decode cX8_drops 42 = .ok (.aload_n 0, 1) := by decide +kernel
theorem dX8_drops_43 : decode cX8_drops 43 = .ok (.getfield 87, 3) := by decide +kernel
theorem dX8_drops_46 : decode cX8_drops 46 = .ok (.iconst 0, 1) := by decide +kernel
theorem dX8_drops_47 : decode cX8_drops 47 = .ok (.iaload, 1) := by decide +kernel
theorem dX8_drops_48 : decode cX8_drops 48 = .ok (.imul, 1) := by decide +kernel
theorem dX8_drops_49 : decode cX8_drops 49 = .ok (.iadd, 1) := by decide +kernel
theorem dX8_drops_50 : decode cX8_drops 50 = .ok (.if_icmp .ge 24, 3) := by decide +kernel
theorem dX8_drops_53 : decode cX8_drops 53 = .ok (.aload_n 0, 1) := by decide +kernel
theorem dX8_drops_54 : decode cX8_drops 54 = .ok (.getfield 87, 3) := by decide +kernel
theorem dX8_drops_57 : decode cX8_drops 57 = .ok (.iload_n 2, 1) := by decide +kernel
theorem dX8_drops_58 : decode cX8_drops 58 = .ok (.aload_n 0, 1) := by decide +kernel
theorem dX8_drops_59 : decode cX8_drops 59 = .ok (.getfield 87, 3) := by decide +kernel
theorem dX8_drops_62 : decode cX8_drops 62 = .ok (.iload_n 2, 1) := by decide +kernel
theorem dX8_drops_63 : decode cX8_drops 63 = .ok (.bipush 17, 2) := by decide +kernel
theorem dX8_drops_65 : decode cX8_drops 65 = .ok (.iadd, 1) := by decide +kernel
theorem dX8_drops_66 : decode cX8_drops 66 = .ok (.iaload, 1) := by decide +kernel
theorem dX8_drops_67 : decode cX8_drops 67 = .ok (.iastore, 1) := by decide +kernel
theorem dX8_drops_68 : decode cX8_drops 68 = .ok (.iinc 2 1, 3) := by decide +kernel
theorem dX8_drops_71 : decode cX8_drops 71 = .ok (.goto (-34), 3) := by decide +kernel
theorem dX8_drops_74 : decode cX8_drops 74 = .ok (.iconst 0, 1) := by decide +kernel
theorem dX8_drops_75 : decode cX8_drops 75 = .ok (.istore_n 2, 1) := by decide +kernel
theorem dX8_drops_76 : decode cX8_drops 76 = .ok (.iload_n 2, 1) := by decide +kernel
theorem dX8_drops_77 : decode cX8_drops 77 = .ok (.bipush 17, 2) := by decide +kernel
theorem dX8_drops_79 : decode cX8_drops 79 = .ok (.if_icmp .ge 29, 3) := by decide +kernel
theorem dX8_drops_82 : decode cX8_drops 82 = .ok (.aload_n 0, 1) := by decide +kernel
theorem dX8_drops_83 : decode cX8_drops 83 = .ok (.getfield 87, 3) := by decide +kernel
theorem dX8_drops_86 : decode cX8_drops 86 = .ok (.bipush 42, 2) := by decide +kernel
theorem dX8_drops_88 : decode cX8_drops 88 = .ok (.bipush 17, 2) := by decide +kernel
theorem dX8_drops_90 : decode cX8_drops 90 = .ok (.aload_n 0, 1) := by decide +kernel
theorem dX8_drops_91 : decode cX8_drops 91 = .ok (.getfield 87, 3) := by decide +kernel
theorem dX8_drops_94 : decode cX8_drops 94 = .ok (.iconst 0, 1) := by decide +kernel
theorem dX8_drops_95 : decode cX8_drops 95 = .ok (.iaload, 1) := by decide +kernel
theorem dX8_drops_96 : decode cX8_drops 96 = .ok (.imul, 1) := by decide +kernel
theorem dX8_drops_97 : decode cX8_drops 97 = .ok (.iadd, 1) := by decide +kernel
theorem dX8_drops_98 : decode cX8_drops 98 = .ok (.iload_n 2, 1) := by decide +kernel
theorem dX8_drops_99 : decode cX8_drops 99 = .ok (.iadd, 1) := by decide +kernel
theorem dX8_drops_100 : decode cX8_drops 100 = .ok (.iconst 0, 1) := by decide +kernel
theorem dX8_drops_101 : decode cX8_drops 101 = .ok (.iastore, 1) := by decide +kernel
theorem dX8_drops_102 : decode cX8_drops 102 = .ok (.iinc 2 1, 3) := by decide +kernel
theorem dX8_drops_105 : decode cX8_drops 105 = .ok (.goto (-29), 3) := by decide +kernel
theorem dX8_drops_108 : decode cX8_drops 108 = .ok (.aload_n 0, 1) := by decide +kernel
theorem dX8_drops_109 : decode cX8_drops 109 = .ok (.invokevirtual 144, 3) := by decide +kernel
theorem dX8_drops_112 : decode cX8_drops 112 = .ok (.aload_n 0, 1) := by decide +kernel
theorem dX8_drops_113 : decode cX8_drops 113 = .ok (.getfield 87, 3) := by decide +kernel
theorem dX8_drops_116 : decode cX8_drops 116 = .ok (.iconst 0, 1) := by decide +kernel
theorem dX8_drops_117 : decode cX8_drops 117 = .ok (.iaload, 1) := by decide +kernel
theorem dX8_drops_118 : decode cX8_drops 118 = .ok (.ireturn, 1) := by decide +kernel
abbrev mdX8_drops : MD := (cX8_drops, RX8, 3, (some .int), yX8_drops.name, 5, 116, eT)
set_option maxHeartbeats 2000000 in
set_option maxRecDepth 20000 in
theorem p_X8_drops_B76 (C : KX) (l0 : Nat)  (k76 : Int32 → Mo Int32) (hk76 : ∀ s, Cmp C mdX8_drops (QM rvI) 76 [(0, .ref (kB C + l0)), (2, .int s)] [] (k76 s)) (l2 : Int32) : Cmp C mdX8_drops (QM rvI) 76 [(0, .ref (kB C + l0)), (2, .int l2)] [] (m_X8_drops_B76 l0 k76 l2) := by
  unfold m_X8_drops_B76
  refine C_iload_n (D := mdX8_drops) (pc' := 77) (x := l2) dX8_drops_76 rfl 1 rfl ?_
  refine C_bipush (D := mdX8_drops) (pc' := 79) (v := 17) dX8_drops_77 rfl (by decide) ?_
  refine C_icmp_ge (D := mdX8_drops) (pc' := 82) (tgt := 108) dX8_drops_79 (by decide) rfl ?_ ?_
  · refine C_aload_n (D := mdX8_drops) (pc' := 109) (x := kB C + l0) dX8_drops_108 rfl 0 rfl ?_
    refine C_callV (D := mdX8_drops) (pc' := 112) (p := l0) (st := []) [] v_X8_144 (i_X8_make C l0) dX8_drops_109 rfl rfl rfl (Nat.le_of_ble_eq_true rfl) (by decide) (by decide) (fun _ => ?_)
    refine C_aload_n (D := mdX8_drops) (pc' := 113) (x := kB C + l0) dX8_drops_112 rfl 0 rfl ?_
    refine C_getR (D := mdX8_drops) (pc' := 116) (p := l0) f_X8_87 rfl dX8_drops_113 rfl (fun now7 => ?_)
    refine C_iconst (D := mdX8_drops) (pc' := 117) (v := 0) dX8_drops_116 rfl (by decide) ?_
    refine C_aI (D := mdX8_drops) (pc' := 118) (p := now7) dX8_drops_117 rfl (fun x8 => ?_)
    exact C_iret rfl dX8_drops_118
  · refine C_aload_n (D := mdX8_drops) (pc' := 83) (x := kB C + l0) dX8_drops_82 rfl 0 rfl ?_
    refine C_getR (D := mdX8_drops) (pc' := 86) (p := l0) f_X8_87 rfl dX8_drops_83 rfl (fun now9 => ?_)
    refine C_bipush (D := mdX8_drops) (pc' := 88) (v := 42) dX8_drops_86 rfl (by decide) ?_
    refine C_bipush (D := mdX8_drops) (pc' := 90) (v := 17) dX8_drops_88 rfl (by decide) ?_
    refine C_aload_n (D := mdX8_drops) (pc' := 91) (x := kB C + l0) dX8_drops_90 rfl 0 rfl ?_
    refine C_getR (D := mdX8_drops) (pc' := 94) (p := l0) f_X8_87 rfl dX8_drops_91 rfl (fun now10 => ?_)
    refine C_iconst (D := mdX8_drops) (pc' := 95) (v := 0) dX8_drops_94 rfl (by decide) ?_
    refine C_aI (D := mdX8_drops) (pc' := 96) (p := now10) dX8_drops_95 rfl (fun x11 => ?_)
    refine C_imul (D := mdX8_drops) (pc' := 97) dX8_drops_96 rfl ?_
    refine C_iadd (D := mdX8_drops) (pc' := 98) dX8_drops_97 rfl ?_
    refine C_iload_n (D := mdX8_drops) (pc' := 99) (x := l2) dX8_drops_98 rfl 1 rfl ?_
    refine C_iadd (D := mdX8_drops) (pc' := 100) dX8_drops_99 rfl ?_
    refine C_iconst (D := mdX8_drops) (pc' := 101) (v := 0) dX8_drops_100 rfl (by decide) ?_
    refine C_tI (D := mdX8_drops) (pc' := 102) (p := now9) dX8_drops_101 rfl ?_
    refine C_iinc (D := mdX8_drops) (pc' := 105) (j := 1) (v := (l2 + 1)) (ls' := [(2, .int (l2 + 1)), (0, .ref (kB C + l0))]) dX8_drops_102 rfl rfl rfl (by decide) rfl ?_
    refine C_goto (D := mdX8_drops) (pc' := 76) dX8_drops_105 (by decide) ?_
    exact C_sub [1, 0] rfl (hk76 ((l2 + 1)))
set_option maxHeartbeats 2000000 in
set_option maxRecDepth 20000 in
theorem p_X8_drops_B37 (C : KX) (l0 : Nat)  (k37 : Int32 → Mo Int32) (hk37 : ∀ s, Cmp C mdX8_drops (QM rvI) 37 [(0, .ref (kB C + l0)), (2, .int s)] [] (k37 s)) (l2 : Int32) : Cmp C mdX8_drops (QM rvI) 37 [(0, .ref (kB C + l0)), (2, .int l2)] [] (m_X8_drops_B37 l0 k37 l2) := by
  unfold m_X8_drops_B37
  refine C_iload_n (D := mdX8_drops) (pc' := 38) (x := l2) dX8_drops_37 rfl 1 rfl ?_
  refine C_bipush (D := mdX8_drops) (pc' := 40) (v := 42) dX8_drops_38 rfl (by decide) ?_
  refine C_bipush (D := mdX8_drops) (pc' := 42) (v := 17) dX8_drops_40 rfl (by decide) ?_
  refine C_aload_n (D := mdX8_drops) (pc' := 43) (x := kB C + l0) dX8_drops_42 rfl 0 rfl ?_
  refine C_getR (D := mdX8_drops) (pc' := 46) (p := l0) f_X8_87 rfl dX8_drops_43 rfl (fun now5 => ?_)
  refine C_iconst (D := mdX8_drops) (pc' := 47) (v := 0) dX8_drops_46 rfl (by decide) ?_
  refine C_aI (D := mdX8_drops) (pc' := 48) (p := now5) dX8_drops_47 rfl (fun x6 => ?_)
  refine C_imul (D := mdX8_drops) (pc' := 49) dX8_drops_48 rfl ?_
  refine C_iadd (D := mdX8_drops) (pc' := 50) dX8_drops_49 rfl ?_
  refine C_icmp_ge (D := mdX8_drops) (pc' := 53) (tgt := 74) dX8_drops_50 (by decide) rfl ?_ ?_
  · refine C_iconst (D := mdX8_drops) (pc' := 75) (v := 0) dX8_drops_74 rfl (by decide) ?_
    refine C_istore_n (D := mdX8_drops) (pc' := 76) (ls' := [(2, .int 0), (0, .ref (kB C + l0))]) dX8_drops_75 rfl rfl (by decide) rfl ?_
    exact C_sub [1, 0] rfl (C_loop (fun s => [(0, .ref (kB C + l0)), (2, .int s)]) (fun k hk s => p_X8_drops_B76 C l0  k hk s) FU 0)
  · refine C_aload_n (D := mdX8_drops) (pc' := 54) (x := kB C + l0) dX8_drops_53 rfl 0 rfl ?_
    refine C_getR (D := mdX8_drops) (pc' := 57) (p := l0) f_X8_87 rfl dX8_drops_54 rfl (fun now12 => ?_)
    refine C_iload_n (D := mdX8_drops) (pc' := 58) (x := l2) dX8_drops_57 rfl 1 rfl ?_
    refine C_aload_n (D := mdX8_drops) (pc' := 59) (x := kB C + l0) dX8_drops_58 rfl 0 rfl ?_
    refine C_getR (D := mdX8_drops) (pc' := 62) (p := l0) f_X8_87 rfl dX8_drops_59 rfl (fun now13 => ?_)
    refine C_iload_n (D := mdX8_drops) (pc' := 63) (x := l2) dX8_drops_62 rfl 1 rfl ?_
    refine C_bipush (D := mdX8_drops) (pc' := 65) (v := 17) dX8_drops_63 rfl (by decide) ?_
    refine C_iadd (D := mdX8_drops) (pc' := 66) dX8_drops_65 rfl ?_
    refine C_aI (D := mdX8_drops) (pc' := 67) (p := now13) dX8_drops_66 rfl (fun x14 => ?_)
    refine C_tI (D := mdX8_drops) (pc' := 68) (p := now12) dX8_drops_67 rfl ?_
    refine C_iinc (D := mdX8_drops) (pc' := 71) (j := 1) (v := (l2 + 1)) (ls' := [(2, .int (l2 + 1)), (0, .ref (kB C + l0))]) dX8_drops_68 rfl rfl rfl (by decide) rfl ?_
    refine C_goto (D := mdX8_drops) (pc' := 37) dX8_drops_71 (by decide) ?_
    exact C_sub [1, 0] rfl (hk37 ((l2 + 1)))
set_option maxHeartbeats 2000000 in
set_option maxRecDepth 20000 in
theorem i_X8_drops (C : KX) (l0 : Nat) (l1 : Int32) : Imp C yX8_drops cX8_drops 3 (some .int) 5 116 rvI [.ref (kB C + l0), .int l1] (m_X8_drops l0 l1) := by
  refine Imp.of (by decide) (Nat.le_of_ble_eq_true rfl) [(0, .ref (kB C + l0)), (1, .int l1)] rfl ?_
  show Cmp C mdX8_drops (QM rvI) 0 [(0, .ref (kB C + l0)), (1, .int l1)] [] (m_X8_drops l0 l1)
  unfold m_X8_drops
  refine C_aload_n (D := mdX8_drops) (pc' := 1) (x := kB C + l0) dX8_drops_0 rfl 0 rfl ?_
  refine C_iconst (D := mdX8_drops) (pc' := 2) (v := 0) dX8_drops_1 rfl (by decide) ?_
  refine C_putI (D := mdX8_drops) (pc' := 5) (p := l0) f_X8_1 rfl dX8_drops_2 rfl ?_
  refine C_aload_n (D := mdX8_drops) (pc' := 6) (x := kB C + l0) dX8_drops_5 rfl 0 rfl ?_
  refine C_iload_n (D := mdX8_drops) (pc' := 7) (x := l1) dX8_drops_6 rfl 1 rfl ?_
  refine C_callV (D := mdX8_drops) (pc' := 10) (p := l0) (st := []) [.int l1] v_X8_183 (i_X8_isQuery C l0 l1) dX8_drops_7 rfl rfl rfl (Nat.le_of_ble_eq_true rfl) (by decide) (by decide) (fun c1 => ?_)
  refine C_if_ne (D := mdX8_drops) (pc' := 13) (tgt := 15) dX8_drops_10 (by decide) rfl ?_ ?_
  · refine C_aload_n (D := mdX8_drops) (pc' := 16) (x := kB C + l0) dX8_drops_15 rfl 0 rfl ?_
    refine C_callV (D := mdX8_drops) (pc' := 19) (p := l0) (st := []) [] v_X8_177 (i_X8_keepAct C l0) dX8_drops_16 rfl rfl rfl (Nat.le_of_ble_eq_true rfl) (by decide) (by decide) (fun _ => ?_)
    refine C_aload_n (D := mdX8_drops) (pc' := 20) (x := kB C + l0) dX8_drops_19 rfl 0 rfl ?_
    refine C_getR (D := mdX8_drops) (pc' := 23) (p := l0) f_X8_87 rfl dX8_drops_20 rfl (fun now2 => ?_)
    refine C_iconst (D := mdX8_drops) (pc' := 24) (v := 0) dX8_drops_23 rfl (by decide) ?_
    refine C_dup2 (D := mdX8_drops) (pc' := 25) dX8_drops_24 rfl rfl rfl ?_
    refine C_aI (D := mdX8_drops) (pc' := 26) (p := now2) dX8_drops_25 rfl (fun x3 => ?_)
    refine C_iconst (D := mdX8_drops) (pc' := 27) (v := 1) dX8_drops_26 rfl (by decide) ?_
    refine C_isub (D := mdX8_drops) (pc' := 28) dX8_drops_27 rfl ?_
    refine C_tI (D := mdX8_drops) (pc' := 29) (p := now2) dX8_drops_28 rfl ?_
    refine C_bipush (D := mdX8_drops) (pc' := 31) (v := 42) dX8_drops_29 rfl (by decide) ?_
    refine C_bipush (D := mdX8_drops) (pc' := 33) (v := 17) dX8_drops_31 rfl (by decide) ?_
    refine C_iload_n (D := mdX8_drops) (pc' := 34) (x := l1) dX8_drops_33 rfl 1 rfl ?_
    refine C_imul (D := mdX8_drops) (pc' := 35) dX8_drops_34 rfl ?_
    refine C_iadd (D := mdX8_drops) (pc' := 36) dX8_drops_35 rfl ?_
    refine C_letI (fun v4 => ?_)
    refine C_istore_n (D := mdX8_drops) (pc' := 37) (ls' := [(2, .int v4), (0, .ref (kB C + l0)), (1, .int l1)]) dX8_drops_36 rfl rfl (by decide) rfl ?_
    exact C_sub [1, 0] rfl (C_loop (fun s => [(0, .ref (kB C + l0)), (2, .int s)]) (fun k hk s => p_X8_drops_B37 C l0  k hk s) FU v4)
  · refine C_iconst (D := mdX8_drops) (pc' := 14) (v := (-1)) dX8_drops_13 rfl (by decide) ?_
    exact C_iret rfl dX8_drops_14

-- StandingQueriesModel.nodeAt(I)I
theorem dX8_nodeAt_0 : decode cX8_nodeAt 0 = .ok (.iconst 0, 1) := by decide +kernel
theorem dX8_nodeAt_1 : decode cX8_nodeAt 1 = .ok (.istore_n 2, 1) := by decide +kernel
theorem dX8_nodeAt_2 : decode cX8_nodeAt 2 = .ok (.iconst 0, 1) := by decide +kernel
theorem dX8_nodeAt_3 : decode cX8_nodeAt 3 = .ok (.istore_n 3, 1) := by decide +kernel
theorem dX8_nodeAt_4 : decode cX8_nodeAt 4 = .ok (.iload_n 3, 1) := by decide +kernel
theorem dX8_nodeAt_5 : decode cX8_nodeAt 5 = .ok (.iload_n 1, 1) := by decide +kernel
theorem dX8_nodeAt_6 : decode cX8_nodeAt 6 = .ok (.if_icmp .ge 28, 3) := by decide +kernel
theorem dX8_nodeAt_9 : decode cX8_nodeAt 9 = .ok (.aload_n 0, 1) := by decide +kernel
theorem dX8_nodeAt_10 : decode cX8_nodeAt 10 = .ok (.getfield 109, 3) := by decide +kernel
theorem dX8_nodeAt_13 : decode cX8_nodeAt 13 = .ok (.bipush 8, 2) := by decide +kernel
theorem dX8_nodeAt_15 : decode cX8_nodeAt 15 = .ok (.iload_n 2, 1) := by decide +kernel
theorem dX8_nodeAt_16 : decode cX8_nodeAt 16 = .ok (.imul, 1) := by decide +kernel
theorem dX8_nodeAt_17 : decode cX8_nodeAt 17 = .ok (.aload_n 0, 1) := by decide +kernel
theorem dX8_nodeAt_18 : decode cX8_nodeAt 18 = .ok (.getfield 87, 3) := by decide +kernel
theorem dX8_nodeAt_21 : decode cX8_nodeAt 21 = .ok (.iconst 2, 1) := by decide +kernel
theorem dX8_nodeAt_22 : decode cX8_nodeAt 22 = .ok (.iload_n 3, 1) := by decide +kernel
theorem dX8_nodeAt_23 : decode cX8_nodeAt 23 = .ok (.iadd, 1) := by decide +kernel
theorem dX8_nodeAt_24 : decode cX8_nodeAt 24 = .ok (.iaload, 1) := by decide +kernel
theorem dX8_nodeAt_25 : decode cX8_nodeAt 25 = .ok (.iadd, 1) := by decide +kernel
theorem dX8_nodeAt_26 : decode cX8_nodeAt 26 = .ok (.iaload, 1) := by decide +kernel
theorem dX8_nodeAt_27 : decode cX8_nodeAt 27 = .ok (.istore_n 2, 1) := by decide +kernel
theorem dX8_nodeAt_28 : decode cX8_nodeAt 28 = .ok (.iinc 3 1, 3) := by decide +kernel
theorem dX8_nodeAt_31 : decode cX8_nodeAt 31 = .ok (.goto (-27), 3) := by decide +kernel
theorem dX8_nodeAt_34 : decode cX8_nodeAt 34 = .ok (.iload_n 2, 1) := by decide +kernel
theorem dX8_nodeAt_35 : decode cX8_nodeAt 35 = .ok (.ireturn, 1) := by decide +kernel
abbrev mdX8_nodeAt : MD := (cX8_nodeAt, RX8, 4, (some .int), yX8_nodeAt.name, 0, 0, eT)
set_option maxHeartbeats 2000000 in
set_option maxRecDepth 20000 in
theorem p_X8_nodeAt_B4 (C : KX) (l0 : Nat) (l1 : Int32)  (k4 : Int32 × Int32 → Mo Int32) (hk4 : ∀ s, Cmp C mdX8_nodeAt (QM rvI) 4 [(0, .ref (kB C + l0)), (1, .int l1), (2, .int s.1), (3, .int s.2)] [] (k4 s)) (l2 : Int32) (l3 : Int32) : Cmp C mdX8_nodeAt (QM rvI) 4 [(0, .ref (kB C + l0)), (1, .int l1), (2, .int l2), (3, .int l3)] [] (m_X8_nodeAt_B4 l0 l1 k4 l2 l3) := by
  unfold m_X8_nodeAt_B4
  refine C_iload_n (D := mdX8_nodeAt) (pc' := 5) (x := l3) dX8_nodeAt_4 rfl 3 rfl ?_
  refine C_iload_n (D := mdX8_nodeAt) (pc' := 6) (x := l1) dX8_nodeAt_5 rfl 1 rfl ?_
  refine C_icmp_ge (D := mdX8_nodeAt) (pc' := 9) (tgt := 34) dX8_nodeAt_6 (by decide) rfl ?_ ?_
  · refine C_iload_n (D := mdX8_nodeAt) (pc' := 35) (x := l2) dX8_nodeAt_34 rfl 2 rfl ?_
    exact C_iret rfl dX8_nodeAt_35
  · refine C_aload_n (D := mdX8_nodeAt) (pc' := 10) (x := kB C + l0) dX8_nodeAt_9 rfl 0 rfl ?_
    refine C_getR (D := mdX8_nodeAt) (pc' := 13) (p := l0) f_X8_109 rfl dX8_nodeAt_10 rfl (fun nexts1 => ?_)
    refine C_bipush (D := mdX8_nodeAt) (pc' := 15) (v := 8) dX8_nodeAt_13 rfl (by decide) ?_
    refine C_iload_n (D := mdX8_nodeAt) (pc' := 16) (x := l2) dX8_nodeAt_15 rfl 2 rfl ?_
    refine C_imul (D := mdX8_nodeAt) (pc' := 17) dX8_nodeAt_16 rfl ?_
    refine C_aload_n (D := mdX8_nodeAt) (pc' := 18) (x := kB C + l0) dX8_nodeAt_17 rfl 0 rfl ?_
    refine C_getR (D := mdX8_nodeAt) (pc' := 21) (p := l0) f_X8_87 rfl dX8_nodeAt_18 rfl (fun now2 => ?_)
    refine C_iconst (D := mdX8_nodeAt) (pc' := 22) (v := 2) dX8_nodeAt_21 rfl (by decide) ?_
    refine C_iload_n (D := mdX8_nodeAt) (pc' := 23) (x := l3) dX8_nodeAt_22 rfl 3 rfl ?_
    refine C_iadd (D := mdX8_nodeAt) (pc' := 24) dX8_nodeAt_23 rfl ?_
    refine C_aI (D := mdX8_nodeAt) (pc' := 25) (p := now2) dX8_nodeAt_24 rfl (fun x3 => ?_)
    refine C_iadd (D := mdX8_nodeAt) (pc' := 26) dX8_nodeAt_25 rfl ?_
    refine C_aI (D := mdX8_nodeAt) (pc' := 27) (p := nexts1) dX8_nodeAt_26 rfl (fun x4 => ?_)
    refine C_istore_n (D := mdX8_nodeAt) (pc' := 28) (ls' := [(2, .int x4), (0, .ref (kB C + l0)), (1, .int l1), (3, .int l3)]) dX8_nodeAt_27 rfl rfl (by decide) rfl ?_
    refine C_iinc (D := mdX8_nodeAt) (pc' := 31) (j := 3) (v := (l3 + 1)) (ls' := [(3, .int (l3 + 1)), (2, .int x4), (0, .ref (kB C + l0)), (1, .int l1)]) dX8_nodeAt_28 rfl rfl rfl (by decide) rfl ?_
    refine C_goto (D := mdX8_nodeAt) (pc' := 4) dX8_nodeAt_31 (by decide) ?_
    exact C_sub [2, 3, 1, 0] rfl (hk4 (x4, (l3 + 1)))
set_option maxHeartbeats 2000000 in
set_option maxRecDepth 20000 in
theorem i_X8_nodeAt (C : KX) (l0 : Nat) (l1 : Int32) : Imp C yX8_nodeAt cX8_nodeAt 4 (some .int) 0 0 rvI [.ref (kB C + l0), .int l1] (m_X8_nodeAt l0 l1) := by
  refine Imp.of (by decide) (Nat.le_of_ble_eq_true rfl) [(0, .ref (kB C + l0)), (1, .int l1)] rfl ?_
  show Cmp C mdX8_nodeAt (QM rvI) 0 [(0, .ref (kB C + l0)), (1, .int l1)] [] (m_X8_nodeAt l0 l1)
  unfold m_X8_nodeAt
  refine C_iconst (D := mdX8_nodeAt) (pc' := 1) (v := 0) dX8_nodeAt_0 rfl (by decide) ?_
  refine C_istore_n (D := mdX8_nodeAt) (pc' := 2) (ls' := [(2, .int 0), (0, .ref (kB C + l0)), (1, .int l1)]) dX8_nodeAt_1 rfl rfl (by decide) rfl ?_
  refine C_iconst (D := mdX8_nodeAt) (pc' := 3) (v := 0) dX8_nodeAt_2 rfl (by decide) ?_
  refine C_istore_n (D := mdX8_nodeAt) (pc' := 4) (ls' := [(3, .int 0), (2, .int 0), (0, .ref (kB C + l0)), (1, .int l1)]) dX8_nodeAt_3 rfl rfl (by decide) rfl ?_
  exact C_sub [2, 3, 1, 0] rfl (C_loop (fun s => [(0, .ref (kB C + l0)), (1, .int l1), (2, .int s.1), (3, .int s.2)]) (fun k hk s => p_X8_nodeAt_B4 C l0 l1  k hk s.1 s.2) FU (0, 0))

-- StandingQueriesModel.feeds(I)I
theorem dX8_feeds_0 : decode cX8_feeds 0 = .ok (.aload_n 0, 1) := by decide +kernel
theorem dX8_feeds_1 : decode cX8_feeds 1 = .ok (.iconst 0, 1) := by decide +kernel
theorem dX8_feeds_2 : decode cX8_feeds 2 = .ok (.putfield 1, 3) := by decide +kernel
theorem dX8_feeds_5 : decode cX8_feeds 5 = .ok (.iload_n 1, 1) := by decide +kernel
theorem dX8_feeds_6 : decode cX8_feeds 6 = .ok (.i2l, 1) := by decide +kernel
theorem dX8_feeds_7 : decode cX8_feeds 7 = .ok (.ldc2_w 33, 3) := by decide +kernel
theorem dX8_feeds_10 : decode cX8_feeds 10 = .ok (.ldc2_w 186, 3) := by decide +kernel
theorem dX8_feeds_13 : decode cX8_feeds 13 = .ok (.invokestatic 9, 3) := by decide +kernel
theorem dX8_feeds_16 : decode cX8_feeds 16 = .ok (.ifCond .ne 5, 3) := by decide +kernel
theorem dX8_feeds_19 : decode cX8_feeds 19 = .ok (.iconst (-1), 1) := by decide +kernel
theorem dX8_feeds_20 : decode cX8_feeds 20 = .ok (.ireturn, 1) := by decide +kernel
theorem dX8_feeds_21 : decode cX8_feeds 21 = .ok (.aload_n 0, 1) := by decide +kernel
theorem dX8_feeds_22 : decode cX8_feeds 22 = .ok (.getfield 87, 3) := by decide +kernel
theorem dX8_feeds_25 : decode cX8_feeds 25 = .ok (.iconst 1, 1) := by decide +kernel
theorem dX8_feeds_26 : decode cX8_feeds 26 = .ok (.iaload, 1) := by decide +kernel
theorem dX8_feeds_27 : decode cX8_feeds 27 = .ok (.bipush 40, 2) := by decide +kernel
theorem dX8_feeds_29 : decode cX8_feeds 29 = .ok (.if_icmp .ne 6, 3) := by decide +kernel
theorem dX8_feeds_32 : decode cX8_feeds 32 = .ok (.bipush (-3), 2) := by decide +kernel
theorem dX8_feeds_34 : decode cX8_feeds 34 = .ok (.ireturn, 1) := by decide +kernel
theorem dX8_feeds_35 : decode cX8_feeds 35 = .ok (.aload_n 0, 1) := by decide +kernel
theorem dX8_feeds_36 : decode cX8_feeds 36 = .ok (.invokevirtual 177, 3) := by decide +kernel
theorem dX8_feeds_39 : decode cX8_feeds 39 = .ok (.aload_n 0, 1) := by decide +kernel
theorem dX8_feeds_40 : decode cX8_feeds 40 = .ok (.getfield 87, 3) := by decide +kernel
theorem dX8_feeds_43 : decode cX8_feeds 43 = .ok (.iconst 2, 1) := by decide +kernel
theorem dX8_feeds_44 : decode cX8_feeds 44 = .ok (.aload_n 0, 1) := by decide +kernel
theorem dX8_feeds_45 : decode cX8_feeds 45 = .ok (.getfield 87, 3) := by decide +kernel
theorem dX8_feeds_48 : decode cX8_feeds 48 = .ok (.iconst 1, 1) := by decide +kernel
theorem dX8_feeds_49 : decode cX8_feeds 49 = .ok (.iaload, 1) := by decide +kernel
theorem dX8_feeds_50 : decode cX8_feeds 50 = .ok (.iadd, 1) := by decide +kernel
theorem dX8_feeds_51 : decode cX8_feeds 51 = .ok (.iload_n 1, 1) := by decide +kernel
theorem dX8_feeds_52 : decode cX8_feeds 52 = .ok (.bipush 97, 2) := by decide +kernel
theorem dX8_feeds_54 : decode cX8_feeds 54 = .ok (.isub, 1) := by decide +kernel
theorem dX8_feeds_55 : decode cX8_feeds 55 = .ok (.iastore, 1) := by decide +kernel
theorem dX8_feeds_56 : decode cX8_feeds 56 = .ok (.aload_n 0, 1) := by decide +kernel
theorem dX8_feeds_57 : decode cX8_feeds 57 = .ok (.getfield 87, 3) := by decide +kernel
theorem dX8_feeds_60 : decode cX8_feeds 60 = .ok (.iconst 1, 1) := by decide +kernel
theorem dX8_feeds_61 : decode cX8_feeds 61 = .ok (.dup2, 1) := by decide +kernel
theorem dX8_feeds_62 : decode cX8_feeds 62 = .ok (.iaload, 1) := by decide +kernel
theorem dX8_feeds_63 : decode cX8_feeds 63 = .ok (.iconst 1, 1) := by decide +kernel
theorem dX8_feeds_64 : decode cX8_feeds 64 = .ok (.iadd, 1) := by decide +kernel
theorem dX8_feeds_65 : decode cX8_feeds 65 = .ok (.iastore, 1) := by decide +kernel
theorem dX8_feeds_66 : decode cX8_feeds 66 = .ok (.aload_n 0, 1) := by decide +kernel
theorem dX8_feeds_67 : decode cX8_feeds 67 = .ok (.aload_n 0, 1) := by decide +kernel
theorem dX8_feeds_68 : decode cX8_feeds 68 = .ok (.getfield 87, 3) := by decide +kernel
theorem dX8_feeds_71 : decode cX8_feeds 71 = .ok (.iconst 1, 1) := by decide +kernel
theorem dX8_feeds_72 : decode cX8_feeds 72 = .ok (.iaload, 1) := by decide +kernel
theorem dX8_feeds_73 : decode cX8_feeds 73 = .ok (.invokevirtual 188, 3) := by decide +kernel
theorem dX8_feeds_76 : decode cX8_feeds 76 = .ok (.ireturn, 1) := by decide +kernel
abbrev mdX8_feeds : MD := (cX8_feeds, RX8, 2, (some .int), yX8_feeds.name, 1, 25, eT)
set_option maxHeartbeats 2000000 in
set_option maxRecDepth 20000 in
theorem i_X8_feeds (C : KX) (l0 : Nat) (l1 : Int32) : Imp C yX8_feeds cX8_feeds 2 (some .int) 1 25 rvI [.ref (kB C + l0), .int l1] (m_X8_feeds l0 l1) := by
  refine Imp.of (by decide) (Nat.le_of_ble_eq_true rfl) [(0, .ref (kB C + l0)), (1, .int l1)] rfl ?_
  show Cmp C mdX8_feeds (QM rvI) 0 [(0, .ref (kB C + l0)), (1, .int l1)] [] (m_X8_feeds l0 l1)
  unfold m_X8_feeds
  refine C_aload_n (D := mdX8_feeds) (pc' := 1) (x := kB C + l0) dX8_feeds_0 rfl 0 rfl ?_
  refine C_iconst (D := mdX8_feeds) (pc' := 2) (v := 0) dX8_feeds_1 rfl (by decide) ?_
  refine C_putI (D := mdX8_feeds) (pc' := 5) (p := l0) f_X8_1 rfl dX8_feeds_2 rfl ?_
  refine C_iload_n (D := mdX8_feeds) (pc' := 6) (x := l1) dX8_feeds_5 rfl 1 rfl ?_
  refine C_i2l (D := mdX8_feeds) (pc' := 7) dX8_feeds_6 rfl ?_
  refine C_ldc2 (D := mdX8_feeds) (pc' := 10) (v := 97) c_X8_33 dX8_feeds_7 rfl ?_
  refine C_ldc2 (D := mdX8_feeds) (pc' := 13) (v := 104) c_X8_186 dX8_feeds_10 rfl ?_
  refine C_callS (D := mdX8_feeds) (pc' := 16) (st := []) [.long ((l1 : Int32).toInt64), .long 97, .long 104] s_X8_9 (i_X8_in C (((l1 : Int32).toInt64)) 97 104) dX8_feeds_13 rfl rfl rfl (Nat.le_of_ble_eq_true rfl) (by decide) (by decide) (fun c1 => ?_)
  refine C_if_ne (D := mdX8_feeds) (pc' := 19) (tgt := 21) dX8_feeds_16 (by decide) rfl ?_ ?_
  · refine C_aload_n (D := mdX8_feeds) (pc' := 22) (x := kB C + l0) dX8_feeds_21 rfl 0 rfl ?_
    refine C_getR (D := mdX8_feeds) (pc' := 25) (p := l0) f_X8_87 rfl dX8_feeds_22 rfl (fun now2 => ?_)
    refine C_iconst (D := mdX8_feeds) (pc' := 26) (v := 1) dX8_feeds_25 rfl (by decide) ?_
    refine C_aI (D := mdX8_feeds) (pc' := 27) (p := now2) dX8_feeds_26 rfl (fun x3 => ?_)
    refine C_bipush (D := mdX8_feeds) (pc' := 29) (v := 40) dX8_feeds_27 rfl (by decide) ?_
    refine C_icmp_ne (D := mdX8_feeds) (pc' := 32) (tgt := 35) dX8_feeds_29 (by decide) rfl ?_ ?_
    · refine C_aload_n (D := mdX8_feeds) (pc' := 36) (x := kB C + l0) dX8_feeds_35 rfl 0 rfl ?_
      refine C_callV (D := mdX8_feeds) (pc' := 39) (p := l0) (st := []) [] v_X8_177 (i_X8_keepAct C l0) dX8_feeds_36 rfl rfl rfl (Nat.le_of_ble_eq_true rfl) (by decide) (by decide) (fun _ => ?_)
      refine C_aload_n (D := mdX8_feeds) (pc' := 40) (x := kB C + l0) dX8_feeds_39 rfl 0 rfl ?_
      refine C_getR (D := mdX8_feeds) (pc' := 43) (p := l0) f_X8_87 rfl dX8_feeds_40 rfl (fun now4 => ?_)
      refine C_iconst (D := mdX8_feeds) (pc' := 44) (v := 2) dX8_feeds_43 rfl (by decide) ?_
      refine C_aload_n (D := mdX8_feeds) (pc' := 45) (x := kB C + l0) dX8_feeds_44 rfl 0 rfl ?_
      refine C_getR (D := mdX8_feeds) (pc' := 48) (p := l0) f_X8_87 rfl dX8_feeds_45 rfl (fun now5 => ?_)
      refine C_iconst (D := mdX8_feeds) (pc' := 49) (v := 1) dX8_feeds_48 rfl (by decide) ?_
      refine C_aI (D := mdX8_feeds) (pc' := 50) (p := now5) dX8_feeds_49 rfl (fun x6 => ?_)
      refine C_iadd (D := mdX8_feeds) (pc' := 51) dX8_feeds_50 rfl ?_
      refine C_iload_n (D := mdX8_feeds) (pc' := 52) (x := l1) dX8_feeds_51 rfl 1 rfl ?_
      refine C_bipush (D := mdX8_feeds) (pc' := 54) (v := 97) dX8_feeds_52 rfl (by decide) ?_
      refine C_isub (D := mdX8_feeds) (pc' := 55) dX8_feeds_54 rfl ?_
      refine C_tI (D := mdX8_feeds) (pc' := 56) (p := now4) dX8_feeds_55 rfl ?_
      refine C_aload_n (D := mdX8_feeds) (pc' := 57) (x := kB C + l0) dX8_feeds_56 rfl 0 rfl ?_
      refine C_getR (D := mdX8_feeds) (pc' := 60) (p := l0) f_X8_87 rfl dX8_feeds_57 rfl (fun now7 => ?_)
      refine C_iconst (D := mdX8_feeds) (pc' := 61) (v := 1) dX8_feeds_60 rfl (by decide) ?_
      refine C_dup2 (D := mdX8_feeds) (pc' := 62) dX8_feeds_61 rfl rfl rfl ?_
      refine C_aI (D := mdX8_feeds) (pc' := 63) (p := now7) dX8_feeds_62 rfl (fun x8 => ?_)
      refine C_iconst (D := mdX8_feeds) (pc' := 64) (v := 1) dX8_feeds_63 rfl (by decide) ?_
      refine C_iadd (D := mdX8_feeds) (pc' := 65) dX8_feeds_64 rfl ?_
      refine C_tI (D := mdX8_feeds) (pc' := 66) (p := now7) dX8_feeds_65 rfl ?_
      refine C_aload_n (D := mdX8_feeds) (pc' := 67) (x := kB C + l0) dX8_feeds_66 rfl 0 rfl ?_
      refine C_aload_n (D := mdX8_feeds) (pc' := 68) (x := kB C + l0) dX8_feeds_67 rfl 0 rfl ?_
      refine C_getR (D := mdX8_feeds) (pc' := 71) (p := l0) f_X8_87 rfl dX8_feeds_68 rfl (fun now9 => ?_)
      refine C_iconst (D := mdX8_feeds) (pc' := 72) (v := 1) dX8_feeds_71 rfl (by decide) ?_
      refine C_aI (D := mdX8_feeds) (pc' := 73) (p := now9) dX8_feeds_72 rfl (fun x10 => ?_)
      refine C_callV (D := mdX8_feeds) (pc' := 76) (p := l0) (st := []) [.int x10] v_X8_188 (i_X8_nodeAt C l0 x10) dX8_feeds_73 rfl rfl rfl (Nat.le_of_ble_eq_true rfl) (by decide) (by decide) (fun c11 => ?_)
      exact C_iret rfl dX8_feeds_76
    · refine C_bipush (D := mdX8_feeds) (pc' := 34) (v := (-3)) dX8_feeds_32 rfl (by decide) ?_
      exact C_iret rfl dX8_feeds_34
  · refine C_iconst (D := mdX8_feeds) (pc' := 20) (v := (-1)) dX8_feeds_19 rfl (by decide) ?_
    exact C_iret rfl dX8_feeds_20

-- StandingQueriesModel.cuts()I
theorem dX8_cuts_0 : decode cX8_cuts 0 = .ok (.aload_n 0, 1) := by decide +kernel
theorem dX8_cuts_1 : decode cX8_cuts 1 = .ok (.iconst 0, 1) := by decide +kernel
theorem dX8_cuts_2 : decode cX8_cuts 2 = .ok (.putfield 1, 3) := by decide +kernel
theorem dX8_cuts_5 : decode cX8_cuts 5 = .ok (.aload_n 0, 1) := by decide +kernel
theorem dX8_cuts_6 : decode cX8_cuts 6 = .ok (.getfield 87, 3) := by decide +kernel
theorem dX8_cuts_9 : decode cX8_cuts 9 = .ok (.iconst 1, 1) := by decide +kernel
theorem dX8_cuts_10 : decode cX8_cuts 10 = .ok (.iaload, 1) := by decide +kernel
theorem dX8_cuts_11 : decode cX8_cuts 11 = .ok (.ifCond .ne 6, 3) := by decide +kernel
theorem dX8_cuts_14 : decode cX8_cuts 14 = .ok (.bipush (-2), 2) := by decide +kernel
theorem dX8_cuts_16 : decode cX8_cuts 16 = .ok (.ireturn, 1) := by decide +kernel
theorem dX8_cuts_17 : decode cX8_cuts 17 = .ok (.aload_n 0, 1) := by decide +kernel
theorem dX8_cuts_18 : decode cX8_cuts 18 = .ok (.invokevirtual 177, 3) := by decide +kernel
theorem dX8_cuts_21 : decode cX8_cuts 21 = .ok (.aload_n 0, 1) := by decide +kernel
theorem dX8_cuts_22 : decode cX8_cuts 22 = .ok (.getfield 87, 3) := by decide +kernel
theorem dX8_cuts_25 : decode cX8_cuts 25 = .ok (.iconst 1, 1) := by decide +kernel
theorem dX8_cuts_26 : decode cX8_cuts 26 = .ok (.dup2, 1) := by decide +kernel
theorem dX8_cuts_27 : decode cX8_cuts 27 = .ok (.iaload, 1) := by decide +kernel
theorem dX8_cuts_28 : decode cX8_cuts 28 = .ok (.iconst 1, 1) := by decide +kernel
theorem dX8_cuts_29 : decode cX8_cuts 29 = .ok (.isub, 1) := by decide +kernel
theorem dX8_cuts_30 : decode cX8_cuts 30 = .ok (.iastore, 1) := by decide +kernel
theorem dX8_cuts_31 : decode cX8_cuts 31 = .ok (.aload_n 0, 1) := by decide +kernel
theorem dX8_cuts_32 : decode cX8_cuts 32 = .ok (.getfield 87, 3) := by decide +kernel
theorem dX8_cuts_35 : decode cX8_cuts 35 = .ok (.iconst 2, 1) := by decide +kernel
theorem dX8_cuts_36 : decode cX8_cuts 36 = .ok (.aload_n 0, 1) := by decide +kernel
theorem dX8_cuts_37 : decode cX8_cuts 37 = .ok (.getfield 87, 3) := by decide +kernel
theorem dX8_cuts_40 : decode cX8_cuts 40 = .ok (.iconst 1, 1) := by decide +kernel
theorem dX8_cuts_41 : decode cX8_cuts 41 = .ok (.iaload, 1) := by decide +kernel
theorem dX8_cuts_42 : decode cX8_cuts 42 = .ok (.iadd, 1) := by decide +kernel
theorem dX8_cuts_43 : decode cX8_cuts 43 = .ok (.iaload, 1) := by decide +kernel
theorem dX8_cuts_44 : decode cX8_cuts 44 = .ok (.istore_n 1, 1) := by decide +kernel
theorem dX8_cuts_45 : decode cX8_cuts 45 = .ok (.aload_n 0, 1) := by decide +kernel
theorem dX8_cuts_46 : decode cX8_cuts 46 = .ok (.getfield 87, 3) := by decide +kernel
theorem dX8_cuts_49 : decode cX8_cuts 49 = .ok (.iconst 2, 1) := by decide +kernel
theorem dX8_cuts_50 : decode cX8_cuts 50 = .ok (.aload_n 0, 1) := by decide +kernel
theorem dX8_cuts_51 : decode cX8_cuts 51 = .ok (.getfield 87, 3) := by decide +kernel
theorem dX8_cuts_54 : decode cX8_cuts 54 = .ok (.iconst 1, 1) := by decide +kernel
theorem dX8_cuts_55 : decode cX8_cuts 55 = .ok (.iaload, 1) := by decide +kernel
theorem dX8_cuts_56 : decode cX8_cuts 56 = .ok (.iadd, 1) := by decide +kernel
theorem dX8_cuts_57 : decode cX8_cuts 57 = .ok (.iconst 0, 1) := by decide +kernel
theorem dX8_cuts_58 : decode cX8_cuts 58 = .ok (.iastore, 1) := by decide +kernel
theorem dX8_cuts_59 : decode cX8_cuts 59 = .ok (.bipush 97, 2) := by decide +kernel
theorem dX8_cuts_61 : decode cX8_cuts 61 = .ok (.iload_n 1, 1) := by decide +kernel
theorem dX8_cuts_62 : decode cX8_cuts 62 = .ok (.iadd, 1) := by decide +kernel
theorem dX8_cuts_63 : decode cX8_cuts 63 = .ok (.ireturn, 1) := by decide +kernel
abbrev mdX8_cuts : MD := (cX8_cuts, RX8, 2, (some .int), yX8_cuts.name, 1, 21, eT)
set_option maxHeartbeats 2000000 in
set_option maxRecDepth 20000 in
theorem i_X8_cuts (C : KX) (l0 : Nat) : Imp C yX8_cuts cX8_cuts 2 (some .int) 1 21 rvI [.ref (kB C + l0)] (m_X8_cuts l0) := by
  refine Imp.of (by decide) (Nat.le_of_ble_eq_true rfl) [(0, .ref (kB C + l0))] rfl ?_
  show Cmp C mdX8_cuts (QM rvI) 0 [(0, .ref (kB C + l0))] [] (m_X8_cuts l0)
  unfold m_X8_cuts
  refine C_aload_n (D := mdX8_cuts) (pc' := 1) (x := kB C + l0) dX8_cuts_0 rfl 0 rfl ?_
  refine C_iconst (D := mdX8_cuts) (pc' := 2) (v := 0) dX8_cuts_1 rfl (by decide) ?_
  refine C_putI (D := mdX8_cuts) (pc' := 5) (p := l0) f_X8_1 rfl dX8_cuts_2 rfl ?_
  refine C_aload_n (D := mdX8_cuts) (pc' := 6) (x := kB C + l0) dX8_cuts_5 rfl 0 rfl ?_
  refine C_getR (D := mdX8_cuts) (pc' := 9) (p := l0) f_X8_87 rfl dX8_cuts_6 rfl (fun now1 => ?_)
  refine C_iconst (D := mdX8_cuts) (pc' := 10) (v := 1) dX8_cuts_9 rfl (by decide) ?_
  refine C_aI (D := mdX8_cuts) (pc' := 11) (p := now1) dX8_cuts_10 rfl (fun x2 => ?_)
  refine C_if_ne (D := mdX8_cuts) (pc' := 14) (tgt := 17) dX8_cuts_11 (by decide) rfl ?_ ?_
  · refine C_aload_n (D := mdX8_cuts) (pc' := 18) (x := kB C + l0) dX8_cuts_17 rfl 0 rfl ?_
    refine C_callV (D := mdX8_cuts) (pc' := 21) (p := l0) (st := []) [] v_X8_177 (i_X8_keepAct C l0) dX8_cuts_18 rfl rfl rfl (Nat.le_of_ble_eq_true rfl) (by decide) (by decide) (fun _ => ?_)
    refine C_aload_n (D := mdX8_cuts) (pc' := 22) (x := kB C + l0) dX8_cuts_21 rfl 0 rfl ?_
    refine C_getR (D := mdX8_cuts) (pc' := 25) (p := l0) f_X8_87 rfl dX8_cuts_22 rfl (fun now3 => ?_)
    refine C_iconst (D := mdX8_cuts) (pc' := 26) (v := 1) dX8_cuts_25 rfl (by decide) ?_
    refine C_dup2 (D := mdX8_cuts) (pc' := 27) dX8_cuts_26 rfl rfl rfl ?_
    refine C_aI (D := mdX8_cuts) (pc' := 28) (p := now3) dX8_cuts_27 rfl (fun x4 => ?_)
    refine C_iconst (D := mdX8_cuts) (pc' := 29) (v := 1) dX8_cuts_28 rfl (by decide) ?_
    refine C_isub (D := mdX8_cuts) (pc' := 30) dX8_cuts_29 rfl ?_
    refine C_tI (D := mdX8_cuts) (pc' := 31) (p := now3) dX8_cuts_30 rfl ?_
    refine C_aload_n (D := mdX8_cuts) (pc' := 32) (x := kB C + l0) dX8_cuts_31 rfl 0 rfl ?_
    refine C_getR (D := mdX8_cuts) (pc' := 35) (p := l0) f_X8_87 rfl dX8_cuts_32 rfl (fun now5 => ?_)
    refine C_iconst (D := mdX8_cuts) (pc' := 36) (v := 2) dX8_cuts_35 rfl (by decide) ?_
    refine C_aload_n (D := mdX8_cuts) (pc' := 37) (x := kB C + l0) dX8_cuts_36 rfl 0 rfl ?_
    refine C_getR (D := mdX8_cuts) (pc' := 40) (p := l0) f_X8_87 rfl dX8_cuts_37 rfl (fun now6 => ?_)
    refine C_iconst (D := mdX8_cuts) (pc' := 41) (v := 1) dX8_cuts_40 rfl (by decide) ?_
    refine C_aI (D := mdX8_cuts) (pc' := 42) (p := now6) dX8_cuts_41 rfl (fun x7 => ?_)
    refine C_iadd (D := mdX8_cuts) (pc' := 43) dX8_cuts_42 rfl ?_
    refine C_aI (D := mdX8_cuts) (pc' := 44) (p := now5) dX8_cuts_43 rfl (fun x8 => ?_)
    refine C_istore_n (D := mdX8_cuts) (pc' := 45) (ls' := [(1, .int x8), (0, .ref (kB C + l0))]) dX8_cuts_44 rfl rfl (by decide) rfl ?_
    refine C_aload_n (D := mdX8_cuts) (pc' := 46) (x := kB C + l0) dX8_cuts_45 rfl 1 rfl ?_
    refine C_getR (D := mdX8_cuts) (pc' := 49) (p := l0) f_X8_87 rfl dX8_cuts_46 rfl (fun now9 => ?_)
    refine C_iconst (D := mdX8_cuts) (pc' := 50) (v := 2) dX8_cuts_49 rfl (by decide) ?_
    refine C_aload_n (D := mdX8_cuts) (pc' := 51) (x := kB C + l0) dX8_cuts_50 rfl 1 rfl ?_
    refine C_getR (D := mdX8_cuts) (pc' := 54) (p := l0) f_X8_87 rfl dX8_cuts_51 rfl (fun now10 => ?_)
    refine C_iconst (D := mdX8_cuts) (pc' := 55) (v := 1) dX8_cuts_54 rfl (by decide) ?_
    refine C_aI (D := mdX8_cuts) (pc' := 56) (p := now10) dX8_cuts_55 rfl (fun x11 => ?_)
    refine C_iadd (D := mdX8_cuts) (pc' := 57) dX8_cuts_56 rfl ?_
    refine C_iconst (D := mdX8_cuts) (pc' := 58) (v := 0) dX8_cuts_57 rfl (by decide) ?_
    refine C_tI (D := mdX8_cuts) (pc' := 59) (p := now9) dX8_cuts_58 rfl ?_
    refine C_bipush (D := mdX8_cuts) (pc' := 61) (v := 97) dX8_cuts_59 rfl (by decide) ?_
    refine C_iload_n (D := mdX8_cuts) (pc' := 62) (x := x8) dX8_cuts_61 rfl 0 rfl ?_
    refine C_iadd (D := mdX8_cuts) (pc' := 63) dX8_cuts_62 rfl ?_
    exact C_iret rfl dX8_cuts_63
  · refine C_bipush (D := mdX8_cuts) (pc' := 16) (v := (-2)) dX8_cuts_14 rfl (by decide) ?_
    exact C_iret rfl dX8_cuts_16

-- StandingQueriesModel.undo()I
theorem dX8_undo_0 : decode cX8_undo 0 = .ok (.aload_n 0, 1) := by decide +kernel
theorem dX8_undo_1 : decode cX8_undo 1 = .ok (.iconst 0, 1) := by decide +kernel
theorem dX8_undo_2 : decode cX8_undo 2 = .ok (.putfield 1, 3) := by decide +kernel
theorem dX8_undo_5 : decode cX8_undo 5 = .ok (.aload_n 0, 1) := by decide +kernel
theorem dX8_undo_6 : decode cX8_undo 6 = .ok (.getfield 180, 3) := by decide +kernel
theorem dX8_undo_9 : decode cX8_undo 9 = .ok (.ifCond .ne 6, 3) := by decide +kernel
theorem dX8_undo_12 : decode cX8_undo 12 = .ok (.bipush (-2), 2) := by decide +kernel
theorem dX8_undo_14 : decode cX8_undo 14 = .ok (.ireturn, 1) := by decide +kernel
theorem dX8_undo_15 : decode cX8_undo 15 = .ok (.aload_n 0, 1) := by decide +kernel
theorem dX8_undo_16 : decode cX8_undo 16 = .ok (.dup, 1) := by decide +kernel
theorem dX8_undo_17 : decode cX8_undo 17 = .ok (.getfield 180, 3) := by decide +kernel
theorem dX8_undo_20 : decode cX8_undo 20 = .ok (.iconst 1, 1) := by decide +kernel
theorem dX8_undo_21 : decode cX8_undo 21 = .ok (.isub, 1) := by decide +kernel
theorem dX8_undo_22 : decode cX8_undo 22 = .ok (.putfield 180, 3) := by decide +kernel
theorem dX8_undo_25 : decode cX8_undo 25 = .ok (.iconst 0, 1) := by decide +kernel
theorem dX8_undo_26 : decode cX8_undo 26 = .ok (.istore_n 1, 1) := by decide +kernel
theorem dX8_undo_27 : decode cX8_undo 27 = .ok (.iload_n 1, 1) := by decide +kernel
theorem dX8_undo_28 : decode cX8_undo 28 = .ok (.sipush 178, 3) := by decide +kernel
theorem dX8_undo_31 : decode cX8_undo 31 = .ok (.if_icmp .ge 30, 3) := by decide +kernel
theorem dX8_undo_34 : decode cX8_undo 34 = .ok (.aload_n 0, 1) := by decide +kernel
theorem dX8_undo_35 : decode cX8_undo 35 = .ok (.getfield 87, 3) := by decide +kernel
theorem dX8_undo_38 : decode cX8_undo 38 = .ok (.iload_n 1, 1) := by decide +kernel
theorem dX8_undo_39 : decode cX8_undo 39 = .ok (.aload_n 0, 1) := by decide +kernel
theorem dX8_undo_40 : decode cX8_undo 40 = .ok (.getfield 124, 3) := by decide +kernel
theorem dX8_undo_43 : decode cX8_undo 43 = .ok (.sipush 178, 3) := by decide +kernel
theorem dX8_undo_46 : decode cX8_undo 46 = .ok (.aload_n 0, 1) := by decide +kernel
theorem dX8_undo_47 : decode cX8_undo 47 = .ok (.getfield 180, 3) := by decide +kernel
theorem dX8_undo_50 : decode cX8_undo 50 = .ok (.imul, 1) := by decide +kernel
theorem dX8_undo_51 : decode cX8_undo 51 = .ok (.iload_n 1, 1) := by decide +kernel
theorem dX8_undo_52 : decode cX8_undo 52 = .ok (.iadd, 1) := by decide +kernel
theorem dX8_undo_53 : decode cX8_undo 53 = .ok (.iaload, 1) := by decide +kernel
theorem dX8_undo_54 : decode cX8_undo 54 = .ok (.iastore, 1) := by decide +kernel
theorem dX8_undo_55 : decode cX8_undo 55 = .ok (.iinc 1 1, 3) := by decide +kernel
theorem dX8_undo_58 : decode cX8_undo 58 = .ok (.goto (-31), 3) := by decide +kernel
theorem dX8_undo_61 : decode cX8_undo 61 = .ok (.aload_n 0, 1) := by decide +kernel
theorem dX8_undo_62 : decode cX8_undo 62 = .ok (.invokevirtual 144, 3) := by decide +kernel
theorem dX8_undo_65 : decode cX8_undo 65 = .ok (.aload_n 0, 1) := by decide +kernel
theorem dX8_undo_66 : decode cX8_undo 66 = .ok (.getfield 180, 3) := by decide +kernel
theorem dX8_undo_69 : decode cX8_undo 69 = .ok (.ireturn, 1) := by decide +kernel
abbrev mdX8_undo : MD := (cX8_undo, RX8, 2, (some .int), yX8_undo.name, 5, 116, eT)
set_option maxHeartbeats 2000000 in
set_option maxRecDepth 20000 in
theorem p_X8_undo_B27 (C : KX) (l0 : Nat)  (k27 : Int32 → Mo Int32) (hk27 : ∀ s, Cmp C mdX8_undo (QM rvI) 27 [(0, .ref (kB C + l0)), (1, .int s)] [] (k27 s)) (l1 : Int32) : Cmp C mdX8_undo (QM rvI) 27 [(0, .ref (kB C + l0)), (1, .int l1)] [] (m_X8_undo_B27 l0 k27 l1) := by
  unfold m_X8_undo_B27
  refine C_iload_n (D := mdX8_undo) (pc' := 28) (x := l1) dX8_undo_27 rfl 1 rfl ?_
  refine C_sipush (D := mdX8_undo) (pc' := 31) (v := 178) dX8_undo_28 rfl (by decide) ?_
  refine C_icmp_ge (D := mdX8_undo) (pc' := 34) (tgt := 61) dX8_undo_31 (by decide) rfl ?_ ?_
  · refine C_aload_n (D := mdX8_undo) (pc' := 62) (x := kB C + l0) dX8_undo_61 rfl 0 rfl ?_
    refine C_callV (D := mdX8_undo) (pc' := 65) (p := l0) (st := []) [] v_X8_144 (i_X8_make C l0) dX8_undo_62 rfl rfl rfl (Nat.le_of_ble_eq_true rfl) (by decide) (by decide) (fun _ => ?_)
    refine C_aload_n (D := mdX8_undo) (pc' := 66) (x := kB C + l0) dX8_undo_65 rfl 0 rfl ?_
    refine C_getI (D := mdX8_undo) (pc' := 69) (p := l0) f_X8_180 rfl dX8_undo_66 rfl (fun acts3 => ?_)
    exact C_iret rfl dX8_undo_69
  · refine C_aload_n (D := mdX8_undo) (pc' := 35) (x := kB C + l0) dX8_undo_34 rfl 0 rfl ?_
    refine C_getR (D := mdX8_undo) (pc' := 38) (p := l0) f_X8_87 rfl dX8_undo_35 rfl (fun now4 => ?_)
    refine C_iload_n (D := mdX8_undo) (pc' := 39) (x := l1) dX8_undo_38 rfl 1 rfl ?_
    refine C_aload_n (D := mdX8_undo) (pc' := 40) (x := kB C + l0) dX8_undo_39 rfl 0 rfl ?_
    refine C_getR (D := mdX8_undo) (pc' := 43) (p := l0) f_X8_124 rfl dX8_undo_40 rfl (fun was5 => ?_)
    refine C_sipush (D := mdX8_undo) (pc' := 46) (v := 178) dX8_undo_43 rfl (by decide) ?_
    refine C_aload_n (D := mdX8_undo) (pc' := 47) (x := kB C + l0) dX8_undo_46 rfl 0 rfl ?_
    refine C_getI (D := mdX8_undo) (pc' := 50) (p := l0) f_X8_180 rfl dX8_undo_47 rfl (fun acts6 => ?_)
    refine C_imul (D := mdX8_undo) (pc' := 51) dX8_undo_50 rfl ?_
    refine C_iload_n (D := mdX8_undo) (pc' := 52) (x := l1) dX8_undo_51 rfl 1 rfl ?_
    refine C_iadd (D := mdX8_undo) (pc' := 53) dX8_undo_52 rfl ?_
    refine C_aI (D := mdX8_undo) (pc' := 54) (p := was5) dX8_undo_53 rfl (fun x7 => ?_)
    refine C_tI (D := mdX8_undo) (pc' := 55) (p := now4) dX8_undo_54 rfl ?_
    refine C_iinc (D := mdX8_undo) (pc' := 58) (j := 1) (v := (l1 + 1)) (ls' := [(1, .int (l1 + 1)), (0, .ref (kB C + l0))]) dX8_undo_55 rfl rfl rfl (by decide) rfl ?_
    refine C_goto (D := mdX8_undo) (pc' := 27) dX8_undo_58 (by decide) ?_
    exact C_sub [1, 0] rfl (hk27 ((l1 + 1)))
set_option maxHeartbeats 2000000 in
set_option maxRecDepth 20000 in
theorem i_X8_undo (C : KX) (l0 : Nat) : Imp C yX8_undo cX8_undo 2 (some .int) 5 116 rvI [.ref (kB C + l0)] (m_X8_undo l0) := by
  refine Imp.of (by decide) (Nat.le_of_ble_eq_true rfl) [(0, .ref (kB C + l0))] rfl ?_
  show Cmp C mdX8_undo (QM rvI) 0 [(0, .ref (kB C + l0))] [] (m_X8_undo l0)
  unfold m_X8_undo
  refine C_aload_n (D := mdX8_undo) (pc' := 1) (x := kB C + l0) dX8_undo_0 rfl 0 rfl ?_
  refine C_iconst (D := mdX8_undo) (pc' := 2) (v := 0) dX8_undo_1 rfl (by decide) ?_
  refine C_putI (D := mdX8_undo) (pc' := 5) (p := l0) f_X8_1 rfl dX8_undo_2 rfl ?_
  refine C_aload_n (D := mdX8_undo) (pc' := 6) (x := kB C + l0) dX8_undo_5 rfl 0 rfl ?_
  refine C_getI (D := mdX8_undo) (pc' := 9) (p := l0) f_X8_180 rfl dX8_undo_6 rfl (fun acts1 => ?_)
  refine C_if_ne (D := mdX8_undo) (pc' := 12) (tgt := 15) dX8_undo_9 (by decide) rfl ?_ ?_
  · refine C_aload_n (D := mdX8_undo) (pc' := 16) (x := kB C + l0) dX8_undo_15 rfl 0 rfl ?_
    refine C_dup (D := mdX8_undo) (pc' := 17) dX8_undo_16 rfl rfl ?_
    refine C_getI (D := mdX8_undo) (pc' := 20) (p := l0) f_X8_180 rfl dX8_undo_17 rfl (fun acts2 => ?_)
    refine C_iconst (D := mdX8_undo) (pc' := 21) (v := 1) dX8_undo_20 rfl (by decide) ?_
    refine C_isub (D := mdX8_undo) (pc' := 22) dX8_undo_21 rfl ?_
    refine C_putI (D := mdX8_undo) (pc' := 25) (p := l0) f_X8_180 rfl dX8_undo_22 rfl ?_
    refine C_iconst (D := mdX8_undo) (pc' := 26) (v := 0) dX8_undo_25 rfl (by decide) ?_
    refine C_istore_n (D := mdX8_undo) (pc' := 27) (ls' := [(1, .int 0), (0, .ref (kB C + l0))]) dX8_undo_26 rfl rfl (by decide) rfl ?_
    exact C_sub [1, 0] rfl (C_loop (fun s => [(0, .ref (kB C + l0)), (1, .int s)]) (fun k hk s => p_X8_undo_B27 C l0  k hk s) FU 0)
  · refine C_bipush (D := mdX8_undo) (pc' := 14) (v := (-2)) dX8_undo_12 rfl (by decide) ?_
    exact C_iret rfl dX8_undo_14

-- StandingQueriesModel.has(II)Z
theorem dX8_has_0 : decode cX8_has 0 = .ok (.iload_n 0, 1) := by decide +kernel
theorem dX8_has_1 : decode cX8_has 1 = .ok (.iload_n 1, 1) := by decide +kernel
theorem dX8_has_2 : decode cX8_has 2 = .ok (.ishr, 1) := by decide +kernel
theorem dX8_has_3 : decode cX8_has 3 = .ok (.iconst 1, 1) := by decide +kernel
theorem dX8_has_4 : decode cX8_has 4 = .ok (.iand, 1) := by decide +kernel
theorem dX8_has_5 : decode cX8_has 5 = .ok (.iconst 1, 1) := by decide +kernel
theorem dX8_has_6 : decode cX8_has 6 = .ok (.if_icmp .ne 7, 3) := by decide +kernel
theorem dX8_has_9 : decode cX8_has 9 = .ok (.iconst 1, 1) := by decide +kernel
theorem dX8_has_10 : decode cX8_has 10 = .ok (.goto 4, 3) := by decide +kernel
theorem dX8_has_13 : decode cX8_has 13 = .ok (.iconst 0, 1) := by decide +kernel
theorem dX8_has_14 : decode cX8_has 14 = .ok (.ireturn, 1) := by decide +kernel
abbrev mdX8_has : MD := (cX8_has, RX8, 2, (some .boolean), yX8_has.name, 0, 0, eT)
set_option maxHeartbeats 2000000 in
set_option maxRecDepth 20000 in
theorem i_X8_has (C : KX) (l0 : Int32) (l1 : Int32) : Imp C yX8_has cX8_has 2 (some .boolean) 0 0 rvI [.int l0, .int l1] (m_X8_has l0 l1) := by
  refine Imp.of (by decide) (Nat.le_of_ble_eq_true rfl) [(0, .int l0), (1, .int l1)] rfl ?_
  show Cmp C mdX8_has (QM rvI) 0 [(0, .int l0), (1, .int l1)] [] (m_X8_has l0 l1)
  unfold m_X8_has
  refine C_iload_n (D := mdX8_has) (pc' := 1) (x := l0) dX8_has_0 rfl 0 rfl ?_
  refine C_iload_n (D := mdX8_has) (pc' := 2) (x := l1) dX8_has_1 rfl 1 rfl ?_
  refine C_ishr (D := mdX8_has) (pc' := 3) dX8_has_2 rfl ?_
  refine C_iconst (D := mdX8_has) (pc' := 4) (v := 1) dX8_has_3 rfl (by decide) ?_
  refine C_iand (D := mdX8_has) (pc' := 5) dX8_has_4 rfl ?_
  refine C_iconst (D := mdX8_has) (pc' := 6) (v := 1) dX8_has_5 rfl (by decide) ?_
  refine C_icmp_ne (D := mdX8_has) (pc' := 9) (tgt := 13) dX8_has_6 (by decide) rfl ?_ ?_
  · refine C_iconst (D := mdX8_has) (pc' := 14) (v := 0) dX8_has_13 rfl (by decide) ?_
    exact C_zret rfl dX8_has_14
  · refine C_iconst (D := mdX8_has) (pc' := 10) (v := 1) dX8_has_9 rfl (by decide) ?_
    refine C_goto (D := mdX8_has) (pc' := 14) dX8_has_10 (by decide) ?_
    exact C_zret rfl dX8_has_14

-- StandingQueriesModel.layEnds()V
theorem dX8_layEnds_0 : decode cX8_layEnds 0 = .ok (.iconst 0, 1) := by decide +kernel
theorem dX8_layEnds_1 : decode cX8_layEnds 1 = .ok (.istore_n 1, 1) := by decide +kernel
theorem dX8_layEnds_2 : decode cX8_layEnds 2 = .ok (.iconst 0, 1) := by decide +kernel
theorem dX8_layEnds_3 : decode cX8_layEnds 3 = .ok (.istore_n 2, 1) := by decide +kernel
theorem dX8_layEnds_4 : decode cX8_layEnds 4 = .ok (.iload_n 2, 1) := by decide +kernel
theorem dX8_layEnds_5 : decode cX8_layEnds 5 = .ok (.aload_n 0, 1) := by decide +kernel
theorem dX8_layEnds_6 : decode cX8_layEnds 6 = .ok (.getfield 87, 3) := by decide +kernel
theorem dX8_layEnds_9 : decode cX8_layEnds 9 = .ok (.iconst 1, 1) := by decide +kernel
theorem dX8_layEnds_10 : decode cX8_layEnds 10 = .ok (.iaload, 1) := by decide +kernel
theorem dX8_layEnds_11 : decode cX8_layEnds 11 = .ok (.if_icmp .ge 40, 3) := by decide +kernel
theorem dX8_layEnds_14 : decode cX8_layEnds 14 = .ok (.aload_n 0, 1) := by decide +kernel
theorem dX8_layEnds_15 : decode cX8_layEnds 15 = .ok (.getfield 109, 3) := by decide +kernel
theorem dX8_layEnds_18 : decode cX8_layEnds 18 = .ok (.bipush 8, 2) := by decide +kernel
theorem dX8_layEnds_20 : decode cX8_layEnds 20 = .ok (.iload_n 1, 1) := by decide +kernel
theorem dX8_layEnds_21 : decode cX8_layEnds 21 = .ok (.imul, 1) := by decide +kernel
theorem dX8_layEnds_22 : decode cX8_layEnds 22 = .ok (.aload_n 0, 1) := by decide +kernel
theorem dX8_layEnds_23 : decode cX8_layEnds 23 = .ok (.getfield 87, 3) := by decide +kernel
theorem dX8_layEnds_26 : decode cX8_layEnds 26 = .ok (.iconst 2, 1) := by decide +kernel
theorem dX8_layEnds_27 : decode cX8_layEnds 27 = .ok (.iload_n 2, 1) := by decide +kernel
theorem dX8_layEnds_28 : decode cX8_layEnds 28 = .ok (.iadd, 1) := by decide +kernel
theorem dX8_layEnds_29 : decode cX8_layEnds 29 = .ok (.iaload, 1) := by decide +kernel
theorem dX8_layEnds_30 : decode cX8_layEnds 30 = .ok (.iadd, 1) := by decide +kernel
theorem dX8_layEnds_31 : decode cX8_layEnds 31 = .ok (.iaload, 1) := by decide +kernel
theorem dX8_layEnds_32 : decode cX8_layEnds 32 = .ok (.istore_n 1, 1) := by decide +kernel
theorem dX8_layEnds_33 : decode cX8_layEnds 33 = .ok (.aload_n 0, 1) := by decide +kernel
theorem dX8_layEnds_34 : decode cX8_layEnds 34 = .ok (.getfield 134, 3) := by decide +kernel
theorem dX8_layEnds_37 : decode cX8_layEnds 37 = .ok (.iload_n 2, 1) := by decide +kernel
theorem dX8_layEnds_38 : decode cX8_layEnds 38 = .ok (.aload_n 0, 1) := by decide +kernel
theorem dX8_layEnds_39 : decode cX8_layEnds 39 = .ok (.getfield 106, 3) := by decide +kernel
theorem dX8_layEnds_42 : decode cX8_layEnds 42 = .ok (.iload_n 1, 1) := by decide +kernel
theorem dX8_layEnds_43 : decode cX8_layEnds 43 = .ok (.iaload, 1) := by decide +kernel
theorem dX8_layEnds_44 : decode cX8_layEnds 44 = .ok (.iastore, 1) := by decide +kernel
theorem dX8_layEnds_45 : decode cX8_layEnds 45 = .ok (.iinc 2 1, 3) := by decide +kernel
theorem dX8_layEnds_48 : decode cX8_layEnds 48 = .ok (.goto (-44), 3) := by decide +kernel
theorem dX8_layEnds_51 : decode cX8_layEnds 51 = .ok (.return_, 1) := by decide +kernel
abbrev mdX8_layEnds : MD := (cX8_layEnds, RX8, 3, none, yX8_layEnds.name, 0, 0, eT)
set_option maxHeartbeats 2000000 in
set_option maxRecDepth 20000 in
theorem p_X8_layEnds_B4 (C : KX) (l0 : Nat)  (k4 : Int32 × Int32 → Mo Unit) (hk4 : ∀ s, Cmp C mdX8_layEnds (QM rvV) 4 [(0, .ref (kB C + l0)), (1, .int s.1), (2, .int s.2)] [] (k4 s)) (l1 : Int32) (l2 : Int32) : Cmp C mdX8_layEnds (QM rvV) 4 [(0, .ref (kB C + l0)), (1, .int l1), (2, .int l2)] [] (m_X8_layEnds_B4 l0 k4 l1 l2) := by
  unfold m_X8_layEnds_B4
  refine C_iload_n (D := mdX8_layEnds) (pc' := 5) (x := l2) dX8_layEnds_4 rfl 2 rfl ?_
  refine C_aload_n (D := mdX8_layEnds) (pc' := 6) (x := kB C + l0) dX8_layEnds_5 rfl 0 rfl ?_
  refine C_getR (D := mdX8_layEnds) (pc' := 9) (p := l0) f_X8_87 rfl dX8_layEnds_6 rfl (fun now1 => ?_)
  refine C_iconst (D := mdX8_layEnds) (pc' := 10) (v := 1) dX8_layEnds_9 rfl (by decide) ?_
  refine C_aI (D := mdX8_layEnds) (pc' := 11) (p := now1) dX8_layEnds_10 rfl (fun x2 => ?_)
  refine C_icmp_ge (D := mdX8_layEnds) (pc' := 14) (tgt := 51) dX8_layEnds_11 (by decide) rfl ?_ ?_
  · exact C_vret rfl dX8_layEnds_51
  · refine C_aload_n (D := mdX8_layEnds) (pc' := 15) (x := kB C + l0) dX8_layEnds_14 rfl 0 rfl ?_
    refine C_getR (D := mdX8_layEnds) (pc' := 18) (p := l0) f_X8_109 rfl dX8_layEnds_15 rfl (fun nexts3 => ?_)
    refine C_bipush (D := mdX8_layEnds) (pc' := 20) (v := 8) dX8_layEnds_18 rfl (by decide) ?_
    refine C_iload_n (D := mdX8_layEnds) (pc' := 21) (x := l1) dX8_layEnds_20 rfl 1 rfl ?_
    refine C_imul (D := mdX8_layEnds) (pc' := 22) dX8_layEnds_21 rfl ?_
    refine C_aload_n (D := mdX8_layEnds) (pc' := 23) (x := kB C + l0) dX8_layEnds_22 rfl 0 rfl ?_
    refine C_getR (D := mdX8_layEnds) (pc' := 26) (p := l0) f_X8_87 rfl dX8_layEnds_23 rfl (fun now4 => ?_)
    refine C_iconst (D := mdX8_layEnds) (pc' := 27) (v := 2) dX8_layEnds_26 rfl (by decide) ?_
    refine C_iload_n (D := mdX8_layEnds) (pc' := 28) (x := l2) dX8_layEnds_27 rfl 2 rfl ?_
    refine C_iadd (D := mdX8_layEnds) (pc' := 29) dX8_layEnds_28 rfl ?_
    refine C_aI (D := mdX8_layEnds) (pc' := 30) (p := now4) dX8_layEnds_29 rfl (fun x5 => ?_)
    refine C_iadd (D := mdX8_layEnds) (pc' := 31) dX8_layEnds_30 rfl ?_
    refine C_aI (D := mdX8_layEnds) (pc' := 32) (p := nexts3) dX8_layEnds_31 rfl (fun x6 => ?_)
    refine C_istore_n (D := mdX8_layEnds) (pc' := 33) (ls' := [(1, .int x6), (0, .ref (kB C + l0)), (2, .int l2)]) dX8_layEnds_32 rfl rfl (by decide) rfl ?_
    refine C_aload_n (D := mdX8_layEnds) (pc' := 34) (x := kB C + l0) dX8_layEnds_33 rfl 1 rfl ?_
    refine C_getR (D := mdX8_layEnds) (pc' := 37) (p := l0) f_X8_134 rfl dX8_layEnds_34 rfl (fun ended7 => ?_)
    refine C_iload_n (D := mdX8_layEnds) (pc' := 38) (x := l2) dX8_layEnds_37 rfl 2 rfl ?_
    refine C_aload_n (D := mdX8_layEnds) (pc' := 39) (x := kB C + l0) dX8_layEnds_38 rfl 1 rfl ?_
    refine C_getR (D := mdX8_layEnds) (pc' := 42) (p := l0) f_X8_106 rfl dX8_layEnds_39 rfl (fun ends8 => ?_)
    refine C_iload_n (D := mdX8_layEnds) (pc' := 43) (x := x6) dX8_layEnds_42 rfl 0 rfl ?_
    refine C_aI (D := mdX8_layEnds) (pc' := 44) (p := ends8) dX8_layEnds_43 rfl (fun x9 => ?_)
    refine C_tI (D := mdX8_layEnds) (pc' := 45) (p := ended7) dX8_layEnds_44 rfl ?_
    refine C_iinc (D := mdX8_layEnds) (pc' := 48) (j := 2) (v := (l2 + 1)) (ls' := [(2, .int (l2 + 1)), (1, .int x6), (0, .ref (kB C + l0))]) dX8_layEnds_45 rfl rfl rfl (by decide) rfl ?_
    refine C_goto (D := mdX8_layEnds) (pc' := 4) dX8_layEnds_48 (by decide) ?_
    exact C_sub [2, 1, 0] rfl (hk4 (x6, (l2 + 1)))
set_option maxHeartbeats 2000000 in
set_option maxRecDepth 20000 in
theorem i_X8_layEnds (C : KX) (l0 : Nat) : Imp C yX8_layEnds cX8_layEnds 3 none 0 0 rvV [.ref (kB C + l0)] (m_X8_layEnds l0) := by
  refine Imp.of (by decide) (Nat.le_of_ble_eq_true rfl) [(0, .ref (kB C + l0))] rfl ?_
  show Cmp C mdX8_layEnds (QM rvV) 0 [(0, .ref (kB C + l0))] [] (m_X8_layEnds l0)
  unfold m_X8_layEnds
  refine C_iconst (D := mdX8_layEnds) (pc' := 1) (v := 0) dX8_layEnds_0 rfl (by decide) ?_
  refine C_istore_n (D := mdX8_layEnds) (pc' := 2) (ls' := [(1, .int 0), (0, .ref (kB C + l0))]) dX8_layEnds_1 rfl rfl (by decide) rfl ?_
  refine C_iconst (D := mdX8_layEnds) (pc' := 3) (v := 0) dX8_layEnds_2 rfl (by decide) ?_
  refine C_istore_n (D := mdX8_layEnds) (pc' := 4) (ls' := [(2, .int 0), (1, .int 0), (0, .ref (kB C + l0))]) dX8_layEnds_3 rfl rfl (by decide) rfl ?_
  exact C_sub [2, 1, 0] rfl (C_loop (fun s => [(0, .ref (kB C + l0)), (1, .int s.1), (2, .int s.2)]) (fun k hk s => p_X8_layEnds_B4 C l0  k hk s.1 s.2) FU (0, 0))

-- StandingQueriesModel.hits(II)I
theorem dX8_hits_0 : decode cX8_hits 0 = .ok (.iconst 0, 1) := by decide +kernel
theorem dX8_hits_1 : decode cX8_hits 1 = .ok (.istore_n 3, 1) := by decide +kernel
theorem dX8_hits_2 : decode cX8_hits 2 = .ok (.iconst 0, 1) := by decide +kernel
theorem dX8_hits_3 : decode cX8_hits 3 = .ok (.istore 4, 2) := by decide +kernel
theorem dX8_hits_5 : decode cX8_hits 5 = .ok (.iload 4, 2) := by decide +kernel
theorem dX8_hits_7 : decode cX8_hits 7 = .ok (.iload_n 2, 1) := by decide +kernel
theorem dX8_hits_8 : decode cX8_hits 8 = .ok (.if_icmp .ge 31, 3) := by decide +kernel
theorem dX8_hits_11 : decode cX8_hits 11 = .ok (.iload_n 3, 1) := by decide +kernel
theorem dX8_hits_12 : decode cX8_hits 12 = .ok (.aload_n 0, 1) := by decide +kernel
theorem dX8_hits_13 : decode cX8_hits 13 = .ok (.getfield 134, 3) := by decide +kernel
theorem dX8_hits_16 : decode cX8_hits 16 = .ok (.iload 4, 2) := by decide +kernel
theorem dX8_hits_18 : decode cX8_hits 18 = .ok (.iaload, 1) := by decide +kernel
theorem dX8_hits_19 : decode cX8_hits 19 = .ok (.iload_n 1, 1) := by decide +kernel
theorem dX8_hits_20 : decode cX8_hits 20 = .ok (.invokestatic 191, 3) := by decide +kernel
theorem dX8_hits_23 : decode cX8_hits 23 = .ok (.ifCond .eq 7, 3) := by decide +kernel
theorem dX8_hits_26 : decode cX8_hits 26 = .ok (.iconst 1, 1) := by decide +kernel
theorem dX8_hits_27 : decode cX8_hits 27 = .ok (.goto 4, 3) := by decide +kernel
theorem dX8_hits_30 : decode cX8_hits 30 = .ok (.iconst 0, 1) := by decide +kernel
theorem dX8_hits_31 : decode cX8_hits 31 = .ok (.iadd, 1) := by decide +kernel
theorem dX8_hits_32 : decode cX8_hits 32 = .ok (.istore_n 3, 1) := by decide +kernel
theorem dX8_hits_33 : decode cX8_hits 33 = .ok (.iinc 4 1, 3) := by decide +kernel
theorem dX8_hits_36 : decode cX8_hits 36 = .ok (.goto (-31), 3) := by decide +kernel
theorem dX8_hits_39 : decode cX8_hits 39 = .ok (.iload_n 3, 1) := by decide +kernel
theorem dX8_hits_40 : decode cX8_hits 40 = .ok (.ireturn, 1) := by decide +kernel
abbrev mdX8_hits : MD := (cX8_hits, RX8, 5, (some .int), yX8_hits.name, 1, 21, eT)
set_option maxHeartbeats 2000000 in
set_option maxRecDepth 20000 in
theorem p_X8_hits_J31 (C : KX) (l0 : Nat) (l1 : Int32) (l2 : Int32) (l4 : Int32) (s0 : Int32) (s1 : Int32) (k5 : Int32 × Int32 → Mo Int32) (hk5 : ∀ s, Cmp C mdX8_hits (QM rvI) 5 [(0, .ref (kB C + l0)), (1, .int l1), (2, .int l2), (3, .int s.1), (4, .int s.2)] [] (k5 s)) : Cmp C mdX8_hits (QM rvI) 31 [(0, .ref (kB C + l0)), (1, .int l1), (2, .int l2), (4, .int l4)] [.int s0, .int s1] (m_X8_hits_J31 l0 l1 l2 l4 s0 s1 k5) := by
  unfold m_X8_hits_J31
  refine C_iadd (D := mdX8_hits) (pc' := 32) dX8_hits_31 rfl ?_
  refine C_letI (fun v4 => ?_)
  refine C_istore_n (D := mdX8_hits) (pc' := 33) (ls' := [(3, .int v4), (0, .ref (kB C + l0)), (1, .int l1), (2, .int l2), (4, .int l4)]) dX8_hits_32 rfl rfl (by decide) rfl ?_
  refine C_iinc (D := mdX8_hits) (pc' := 36) (j := 4) (v := (l4 + 1)) (ls' := [(4, .int (l4 + 1)), (3, .int v4), (0, .ref (kB C + l0)), (1, .int l1), (2, .int l2)]) dX8_hits_33 rfl rfl rfl (by decide) rfl ?_
  refine C_goto (D := mdX8_hits) (pc' := 5) dX8_hits_36 (by decide) ?_
  exact C_sub [2, 3, 4, 1, 0] rfl (hk5 (v4, (l4 + 1)))
set_option maxHeartbeats 2000000 in
set_option maxRecDepth 20000 in
theorem p_X8_hits_B5 (C : KX) (l0 : Nat) (l1 : Int32) (l2 : Int32)  (k5 : Int32 × Int32 → Mo Int32) (hk5 : ∀ s, Cmp C mdX8_hits (QM rvI) 5 [(0, .ref (kB C + l0)), (1, .int l1), (2, .int l2), (3, .int s.1), (4, .int s.2)] [] (k5 s)) (l3 : Int32) (l4 : Int32) : Cmp C mdX8_hits (QM rvI) 5 [(0, .ref (kB C + l0)), (1, .int l1), (2, .int l2), (3, .int l3), (4, .int l4)] [] (m_X8_hits_B5 l0 l1 l2 k5 l3 l4) := by
  unfold m_X8_hits_B5
  refine C_iload (D := mdX8_hits) (pc' := 7) (x := l4) dX8_hits_5 rfl 4 rfl ?_
  refine C_iload_n (D := mdX8_hits) (pc' := 8) (x := l2) dX8_hits_7 rfl 2 rfl ?_
  refine C_icmp_ge (D := mdX8_hits) (pc' := 11) (tgt := 39) dX8_hits_8 (by decide) rfl ?_ ?_
  · refine C_iload_n (D := mdX8_hits) (pc' := 40) (x := l3) dX8_hits_39 rfl 3 rfl ?_
    exact C_iret rfl dX8_hits_40
  · refine C_iload_n (D := mdX8_hits) (pc' := 12) (x := l3) dX8_hits_11 rfl 3 rfl ?_
    refine C_aload_n (D := mdX8_hits) (pc' := 13) (x := kB C + l0) dX8_hits_12 rfl 0 rfl ?_
    refine C_getR (D := mdX8_hits) (pc' := 16) (p := l0) f_X8_134 rfl dX8_hits_13 rfl (fun ended1 => ?_)
    refine C_iload (D := mdX8_hits) (pc' := 18) (x := l4) dX8_hits_16 rfl 4 rfl ?_
    refine C_aI (D := mdX8_hits) (pc' := 19) (p := ended1) dX8_hits_18 rfl (fun x2 => ?_)
    refine C_iload_n (D := mdX8_hits) (pc' := 20) (x := l1) dX8_hits_19 rfl 1 rfl ?_
    refine C_callS (D := mdX8_hits) (pc' := 23) (st := [.int l3]) [.int x2, .int l1] s_X8_191 (i_X8_has C x2 l1) dX8_hits_20 rfl rfl rfl (Nat.le_of_ble_eq_true rfl) (by decide) (by decide) (fun c3 => ?_)
    refine C_if_eq (D := mdX8_hits) (pc' := 26) (tgt := 30) dX8_hits_23 (by decide) rfl ?_ ?_
    · refine C_iconst (D := mdX8_hits) (pc' := 31) (v := 0) dX8_hits_30 rfl (by decide) ?_
      exact C_sub [0, 1, 2, 4] rfl (p_X8_hits_J31 C l0 l1 l2 l4 0 l3 k5 hk5)
    · refine C_iconst (D := mdX8_hits) (pc' := 27) (v := 1) dX8_hits_26 rfl (by decide) ?_
      refine C_goto (D := mdX8_hits) (pc' := 31) dX8_hits_27 (by decide) ?_
      exact C_sub [0, 1, 2, 4] rfl (p_X8_hits_J31 C l0 l1 l2 l4 1 l3 k5 hk5)
set_option maxHeartbeats 2000000 in
set_option maxRecDepth 20000 in
theorem i_X8_hits (C : KX) (l0 : Nat) (l1 : Int32) (l2 : Int32) : Imp C yX8_hits cX8_hits 5 (some .int) 1 21 rvI [.ref (kB C + l0), .int l1, .int l2] (m_X8_hits l0 l1 l2) := by
  refine Imp.of (by decide) (Nat.le_of_ble_eq_true rfl) [(0, .ref (kB C + l0)), (1, .int l1), (2, .int l2)] rfl ?_
  show Cmp C mdX8_hits (QM rvI) 0 [(0, .ref (kB C + l0)), (1, .int l1), (2, .int l2)] [] (m_X8_hits l0 l1 l2)
  unfold m_X8_hits
  refine C_iconst (D := mdX8_hits) (pc' := 1) (v := 0) dX8_hits_0 rfl (by decide) ?_
  refine C_istore_n (D := mdX8_hits) (pc' := 2) (ls' := [(3, .int 0), (0, .ref (kB C + l0)), (1, .int l1), (2, .int l2)]) dX8_hits_1 rfl rfl (by decide) rfl ?_
  refine C_iconst (D := mdX8_hits) (pc' := 3) (v := 0) dX8_hits_2 rfl (by decide) ?_
  refine C_istore (D := mdX8_hits) (pc' := 5) (ls' := [(4, .int 0), (3, .int 0), (0, .ref (kB C + l0)), (1, .int l1), (2, .int l2)]) dX8_hits_3 rfl (by decide) rfl ?_
  exact C_sub [2, 3, 4, 1, 0] rfl (C_loop (fun s => [(0, .ref (kB C + l0)), (1, .int l1), (2, .int l2), (3, .int s.1), (4, .int s.2)]) (fun k hk s => p_X8_hits_B5 C l0 l1 l2  k hk s.1 s.2) FU (0, 0))

-- StandingQueriesModel.holds(III)Z
theorem dX8_holds_0 : decode cX8_holds 0 = .ok (.aload_n 0, 1) := by decide +kernel
theorem dX8_holds_1 : decode cX8_holds 1 = .ok (.aload_n 0, 1) := by decide +kernel
theorem dX8_holds_2 : decode cX8_holds 2 = .ok (.getfield 87, 3) := by decide +kernel
theorem dX8_holds_5 : decode cX8_holds 5 = .ok (.iload_n 1, 1) := by decide +kernel
theorem dX8_holds_6 : decode cX8_holds 6 = .ok (.iload_n 2, 1) := by decide +kernel
theorem dX8_holds_7 : decode cX8_holds 7 = .ok (.iconst 1, 1) := by decide +kernel
theorem dX8_holds_8 : decode cX8_holds 8 = .ok (.invokestatic 65, 3) := by decide +kernel
theorem dX8_holds_11 : decode cX8_holds 11 = .ok (.invokevirtual 195, 3) := by decide +kernel
theorem dX8_holds_14 : decode cX8_holds 14 = .ok (.istore 4, 2) := by decide +kernel
theorem dX8_holds_16 : decode cX8_holds 16 = .ok (.aload_n 0, 1) := by decide +kernel
theorem dX8_holds_17 : decode cX8_holds 17 = .ok (.getfield 87, 3) := by decide +kernel
theorem dX8_holds_20 : decode cX8_holds 20 = .ok (.iload_n 1, 1) := by decide +kernel
theorem dX8_holds_21 : decode cX8_holds 21 = .ok (.iload_n 2, 1) := by decide +kernel
theorem dX8_holds_22 : decode cX8_holds 22 = .ok (.iconst 0, 1) := by decide +kernel
theorem dX8_holds_23 : decode cX8_holds 23 = .ok (.invokestatic 65, 3) := by decide +kernel
theorem dX8_holds_26 : decode cX8_holds 26 = .ok (.istore 5, 2) := by decide +kernel
theorem dX8_holds_28 : decode cX8_holds 28 = .ok (.iload 5, 2) := by decide +kernel
theorem dX8_holds_30 : decode cX8_holds 30 = .ok (.iconst 2, 1) := by decide +kernel
theorem dX8_holds_31 : decode cX8_holds 31 = .ok (.if_icmp .eq 37, 3) := by decide +kernel
theorem dX8_holds_34 : decode cX8_holds 34 = .ok (.iload 5, 2) := by decide +kernel
theorem dX8_holds_36 : decode cX8_holds 36 = .ok (.ifCond .ne 7, 3) := by decide +kernel
theorem dX8_holds_39 : decode cX8_holds 39 = .ok (.iconst 1, 1) := by decide +kernel
theorem dX8_holds_40 : decode cX8_holds 40 = .ok (.goto 4, 3) := by decide +kernel
theorem dX8_holds_43 : decode cX8_holds 43 = .ok (.iconst 0, 1) := by decide +kernel
theorem dX8_holds_44 : decode cX8_holds 44 = .ok (.aload_n 0, 1) := by decide +kernel
theorem dX8_holds_45 : decode cX8_holds 45 = .ok (.iload 4, 2) := by decide +kernel
theorem dX8_holds_47 : decode cX8_holds 47 = .ok (.iload_n 3, 1) := by decide +kernel
theorem dX8_holds_48 : decode cX8_holds 48 = .ok (.invokevirtual 198, 3) := by decide +kernel
theorem dX8_holds_51 : decode cX8_holds 51 = .ok (.ifCond .le 7, 3) := by decide +kernel
theorem dX8_holds_54 : decode cX8_holds 54 = .ok (.iconst 1, 1) := by decide +kernel
theorem dX8_holds_55 : decode cX8_holds 55 = .ok (.goto 4, 3) := by decide +kernel
theorem dX8_holds_58 : decode cX8_holds 58 = .ok (.iconst 0, 1) := by decide +kernel
theorem dX8_holds_59 : decode cX8_holds 59 = .ok (.if_icmp .ne 7, 3) := by decide +kernel
theorem dX8_holds_62 : decode cX8_holds 62 = .ok (.iconst 1, 1) := by decide +kernel
theorem dX8_holds_63 : decode cX8_holds 63 = .ok (.goto 4, 3) := by decide +kernel
theorem dX8_holds_66 : decode cX8_holds 66 = .ok (.iconst 0, 1) := by decide +kernel
theorem dX8_holds_67 : decode cX8_holds 67 = .ok (.ireturn, 1) := by decide +kernel
theorem dX8_holds_68 : decode cX8_holds 68 = .ok (.aload_n 0, 1) := by decide +kernel
theorem dX8_holds_69 : decode cX8_holds 69 = .ok (.aload_n 0, 1) := by decide +kernel
theorem dX8_holds_70 : decode cX8_holds 70 = .ok (.getfield 87, 3) := by decide +kernel
theorem dX8_holds_73 : decode cX8_holds 73 = .ok (.iload_n 1, 1) := by decide +kernel
theorem dX8_holds_74 : decode cX8_holds 74 = .ok (.iload_n 2, 1) := by decide +kernel
theorem dX8_holds_75 : decode cX8_holds 75 = .ok (.iconst 2, 1) := by decide +kernel
theorem dX8_holds_76 : decode cX8_holds 76 = .ok (.invokestatic 65, 3) := by decide +kernel
theorem dX8_holds_79 : decode cX8_holds 79 = .ok (.invokevirtual 195, 3) := by decide +kernel
theorem dX8_holds_82 : decode cX8_holds 82 = .ok (.istore 6, 2) := by decide +kernel
theorem dX8_holds_84 : decode cX8_holds 84 = .ok (.iconst 0, 1) := by decide +kernel
theorem dX8_holds_85 : decode cX8_holds 85 = .ok (.istore 7, 2) := by decide +kernel
theorem dX8_holds_87 : decode cX8_holds 87 = .ok (.iconst 0, 1) := by decide +kernel
theorem dX8_holds_88 : decode cX8_holds 88 = .ok (.istore 8, 2) := by decide +kernel
theorem dX8_holds_90 : decode cX8_holds 90 = .ok (.iload 8, 2) := by decide +kernel
theorem dX8_holds_92 : decode cX8_holds 92 = .ok (.iload_n 3, 1) := by decide +kernel
theorem dX8_holds_93 : decode cX8_holds 93 = .ok (.if_icmp .ge 85, 3) := by decide +kernel
theorem dX8_holds_96 : decode cX8_holds 96 = .ok (.iconst 1, 1) := by decide +kernel
theorem dX8_holds_97 : decode cX8_holds 97 = .ok (.istore 9, 2) := by decide +kernel
theorem dX8_holds_99 : decode cX8_holds 99 = .ok (.iload 9, 2) := by decide +kernel
theorem dX8_holds_101 : decode cX8_holds 101 = .ok (.aload_n 0, 1) := by decide +kernel
theorem dX8_holds_102 : decode cX8_holds 102 = .ok (.getfield 87, 3) := by decide +kernel
theorem dX8_holds_105 : decode cX8_holds 105 = .ok (.iload_n 1, 1) := by decide +kernel
theorem dX8_holds_106 : decode cX8_holds 106 = .ok (.iload_n 2, 1) := by decide +kernel
theorem dX8_holds_107 : decode cX8_holds 107 = .ok (.iconst 3, 1) := by decide +kernel
theorem dX8_holds_108 : decode cX8_holds 108 = .ok (.invokestatic 65, 3) := by decide +kernel
theorem dX8_holds_111 : decode cX8_holds 111 = .ok (.if_icmp .gt 61, 3) := by decide +kernel
theorem dX8_holds_114 : decode cX8_holds 114 = .ok (.iload 9, 2) := by decide +kernel
theorem dX8_holds_116 : decode cX8_holds 116 = .ok (.iload 8, 2) := by decide +kernel
theorem dX8_holds_118 : decode cX8_holds 118 = .ok (.if_icmp .gt 54, 3) := by decide +kernel
theorem dX8_holds_121 : decode cX8_holds 121 = .ok (.aload_n 0, 1) := by decide +kernel
theorem dX8_holds_122 : decode cX8_holds 122 = .ok (.getfield 134, 3) := by decide +kernel
theorem dX8_holds_125 : decode cX8_holds 125 = .ok (.iload 8, 2) := by decide +kernel
theorem dX8_holds_127 : decode cX8_holds 127 = .ok (.iaload, 1) := by decide +kernel
theorem dX8_holds_128 : decode cX8_holds 128 = .ok (.iload 4, 2) := by decide +kernel
theorem dX8_holds_130 : decode cX8_holds 130 = .ok (.invokestatic 191, 3) := by decide +kernel
theorem dX8_holds_133 : decode cX8_holds 133 = .ok (.ifCond .eq 39, 3) := by decide +kernel
theorem dX8_holds_136 : decode cX8_holds 136 = .ok (.iload 7, 2) := by decide +kernel
theorem dX8_holds_138 : decode cX8_holds 138 = .ok (.ifCond .ne 21, 3) := by decide +kernel
theorem dX8_holds_141 : decode cX8_holds 141 = .ok (.aload_n 0, 1) := by decide +kernel
theorem dX8_holds_142 : decode cX8_holds 142 = .ok (.getfield 134, 3) := by decide +kernel
theorem dX8_holds_145 : decode cX8_holds 145 = .ok (.iload 8, 2) := by decide +kernel
theorem dX8_holds_147 : decode cX8_holds 147 = .ok (.iload 9, 2) := by decide +kernel
theorem dX8_holds_149 : decode cX8_holds 149 = .ok (.isub, 1) := by decide +kernel
theorem dX8_holds_150 : decode cX8_holds 150 = .ok (.iaload, 1) := by decide +kernel
theorem dX8_holds_151 : decode cX8_holds 151 = .ok (.iload 6, 2) := by decide +kernel
theorem dX8_holds_153 : decode cX8_holds 153 = .ok (.invokestatic 191, 3) := by decide +kernel
theorem dX8_holds_156 : decode cX8_holds 156 = .ok (.ifCond .eq 7, 3) := by decide +kernel
theorem dX8_holds_159 : decode cX8_holds 159 = .ok (.iconst 1, 1) := by decide +kernel
theorem dX8_holds_160 : decode cX8_holds 160 = .ok (.goto 4, 3) := by decide +kernel
theorem dX8_holds_163 : decode cX8_holds 163 = .ok (.iconst 0, 1) := by decide +kernel
theorem dX8_holds_164 : decode cX8_holds 164 = .ok (.istore 7, 2) := by decide +kernel
theorem dX8_holds_166 : decode cX8_holds 166 = .ok (.iinc 9 1, 3) := by decide +kernel
theorem dX8_holds_169 : decode cX8_holds 169 = .ok (.goto (-70), 3) := by decide +kernel
theorem dX8_holds_172 : decode cX8_holds 172 = .ok (.iinc 8 1, 3) := by decide +kernel
theorem dX8_holds_175 : decode cX8_holds 175 = .ok (.goto (-85), 3) := by decide +kernel
theorem dX8_holds_178 : decode cX8_holds 178 = .ok (.iload 7, 2) := by decide +kernel
theorem dX8_holds_180 : decode cX8_holds 180 = .ok (.ireturn, 1) := by decide +kernel
abbrev mdX8_holds : MD := (cX8_holds, RX8, 10, (some .boolean), yX8_holds.name, 2, 45, eT)
set_option maxHeartbeats 2000000 in
set_option maxRecDepth 20000 in
theorem p_X8_holds_J172 (C : KX) (l0 : Nat) (l1 : Int32) (l2 : Int32) (l3 : Int32) (l4 : Int32) (l6 : Int32) (l7 : Int32) (l8 : Int32) (k90 : Int32 × Int32 → Mo Int32) (hk90 : ∀ s, Cmp C mdX8_holds (QM rvI) 90 [(0, .ref (kB C + l0)), (1, .int l1), (2, .int l2), (3, .int l3), (4, .int l4), (6, .int l6), (7, .int s.1), (8, .int s.2)] [] (k90 s)) : Cmp C mdX8_holds (QM rvI) 172 [(0, .ref (kB C + l0)), (1, .int l1), (2, .int l2), (3, .int l3), (4, .int l4), (6, .int l6), (7, .int l7), (8, .int l8)] [] (m_X8_holds_J172 l0 l1 l2 l3 l4 l6 l7 l8 k90) := by
  unfold m_X8_holds_J172
  refine C_iinc (D := mdX8_holds) (pc' := 175) (j := 7) (v := (l8 + 1)) (ls' := [(8, .int (l8 + 1)), (0, .ref (kB C + l0)), (1, .int l1), (2, .int l2), (3, .int l3), (4, .int l4), (6, .int l6), (7, .int l7)]) dX8_holds_172 rfl rfl rfl (by decide) rfl ?_
  refine C_goto (D := mdX8_holds) (pc' := 90) dX8_holds_175 (by decide) ?_
  exact C_sub [1, 2, 3, 4, 5, 6, 7, 0] rfl (hk90 (l7, (l8 + 1)))
set_option maxHeartbeats 2000000 in
set_option maxRecDepth 20000 in
theorem p_X8_holds_J164 (C : KX) (l0 : Nat) (l1 : Int32) (l2 : Int32) (l3 : Int32) (l4 : Int32) (l6 : Int32) (l8 : Int32) (l9 : Int32) (s0 : Int32) (k90 : Int32 × Int32 → Mo Int32) (hk90 : ∀ s, Cmp C mdX8_holds (QM rvI) 90 [(0, .ref (kB C + l0)), (1, .int l1), (2, .int l2), (3, .int l3), (4, .int l4), (6, .int l6), (7, .int s.1), (8, .int s.2)] [] (k90 s)) (k99 : Int32 × Int32 → Mo Int32) (hk99 : ∀ s, Cmp C mdX8_holds (QM rvI) 99 [(0, .ref (kB C + l0)), (1, .int l1), (2, .int l2), (3, .int l3), (4, .int l4), (6, .int l6), (7, .int s.1), (8, .int l8), (9, .int s.2)] [] (k99 s)) : Cmp C mdX8_holds (QM rvI) 164 [(0, .ref (kB C + l0)), (1, .int l1), (2, .int l2), (3, .int l3), (4, .int l4), (6, .int l6), (8, .int l8), (9, .int l9)] [.int s0] (m_X8_holds_J164 l0 l1 l2 l3 l4 l6 l8 l9 s0 k90 k99) := by
  unfold m_X8_holds_J164
  refine C_istore (D := mdX8_holds) (pc' := 166) (ls' := [(7, .int s0), (0, .ref (kB C + l0)), (1, .int l1), (2, .int l2), (3, .int l3), (4, .int l4), (6, .int l6), (8, .int l8), (9, .int l9)]) dX8_holds_164 rfl (by decide) rfl ?_
  refine C_iinc (D := mdX8_holds) (pc' := 169) (j := 8) (v := (l9 + 1)) (ls' := [(9, .int (l9 + 1)), (7, .int s0), (0, .ref (kB C + l0)), (1, .int l1), (2, .int l2), (3, .int l3), (4, .int l4), (6, .int l6), (8, .int l8)]) dX8_holds_166 rfl rfl rfl (by decide) rfl ?_
  refine C_goto (D := mdX8_holds) (pc' := 99) dX8_holds_169 (by decide) ?_
  exact C_sub [2, 3, 4, 5, 6, 7, 1, 8, 0] rfl (hk99 (s0, (l9 + 1)))
set_option maxHeartbeats 2000000 in
set_option maxRecDepth 20000 in
theorem p_X8_holds_J159 (C : KX) (l0 : Nat) (l1 : Int32) (l2 : Int32) (l3 : Int32) (l4 : Int32) (l6 : Int32) (l8 : Int32) (l9 : Int32) (k90 : Int32 × Int32 → Mo Int32) (hk90 : ∀ s, Cmp C mdX8_holds (QM rvI) 90 [(0, .ref (kB C + l0)), (1, .int l1), (2, .int l2), (3, .int l3), (4, .int l4), (6, .int l6), (7, .int s.1), (8, .int s.2)] [] (k90 s)) (k99 : Int32 × Int32 → Mo Int32) (hk99 : ∀ s, Cmp C mdX8_holds (QM rvI) 99 [(0, .ref (kB C + l0)), (1, .int l1), (2, .int l2), (3, .int l3), (4, .int l4), (6, .int l6), (7, .int s.1), (8, .int l8), (9, .int s.2)] [] (k99 s)) : Cmp C mdX8_holds (QM rvI) 159 [(0, .ref (kB C + l0)), (1, .int l1), (2, .int l2), (3, .int l3), (4, .int l4), (6, .int l6), (8, .int l8), (9, .int l9)] [] (m_X8_holds_J159 l0 l1 l2 l3 l4 l6 l8 l9 k90 k99) := by
  unfold m_X8_holds_J159
  refine C_iconst (D := mdX8_holds) (pc' := 160) (v := 1) dX8_holds_159 rfl (by decide) ?_
  refine C_goto (D := mdX8_holds) (pc' := 164) dX8_holds_160 (by decide) ?_
  exact C_sub [0, 1, 2, 3, 4, 5, 6, 7] rfl (p_X8_holds_J164 C l0 l1 l2 l3 l4 l6 l8 l9 1 k90 hk90 k99 hk99)
set_option maxHeartbeats 2000000 in
set_option maxRecDepth 20000 in
theorem p_X8_holds_B99 (C : KX) (l0 : Nat) (l1 : Int32) (l2 : Int32) (l3 : Int32) (l4 : Int32) (l6 : Int32) (l8 : Int32) (k90 : Int32 × Int32 → Mo Int32) (hk90 : ∀ s, Cmp C mdX8_holds (QM rvI) 90 [(0, .ref (kB C + l0)), (1, .int l1), (2, .int l2), (3, .int l3), (4, .int l4), (6, .int l6), (7, .int s.1), (8, .int s.2)] [] (k90 s)) (k99 : Int32 × Int32 → Mo Int32) (hk99 : ∀ s, Cmp C mdX8_holds (QM rvI) 99 [(0, .ref (kB C + l0)), (1, .int l1), (2, .int l2), (3, .int l3), (4, .int l4), (6, .int l6), (7, .int s.1), (8, .int l8), (9, .int s.2)] [] (k99 s)) (l7 : Int32) (l9 : Int32) : Cmp C mdX8_holds (QM rvI) 99 [(0, .ref (kB C + l0)), (1, .int l1), (2, .int l2), (3, .int l3), (4, .int l4), (6, .int l6), (7, .int l7), (8, .int l8), (9, .int l9)] [] (m_X8_holds_B99 l0 l1 l2 l3 l4 l6 l8 k90 k99 l7 l9) := by
  unfold m_X8_holds_B99
  refine C_iload (D := mdX8_holds) (pc' := 101) (x := l9) dX8_holds_99 rfl 8 rfl ?_
  refine C_aload_n (D := mdX8_holds) (pc' := 102) (x := kB C + l0) dX8_holds_101 rfl 0 rfl ?_
  refine C_getR (D := mdX8_holds) (pc' := 105) (p := l0) f_X8_87 rfl dX8_holds_102 rfl (fun now9 => ?_)
  refine C_iload_n (D := mdX8_holds) (pc' := 106) (x := l1) dX8_holds_105 rfl 1 rfl ?_
  refine C_iload_n (D := mdX8_holds) (pc' := 107) (x := l2) dX8_holds_106 rfl 2 rfl ?_
  refine C_iconst (D := mdX8_holds) (pc' := 108) (v := 3) dX8_holds_107 rfl (by decide) ?_
  refine C_callS (D := mdX8_holds) (pc' := 111) (st := [.int l9]) [.ref (kB C + now9), .int l1, .int l2, .int 3] s_X8_65 (i_X8_of C now9 l1 l2 3) dX8_holds_108 rfl rfl rfl (Nat.le_of_ble_eq_true rfl) (by decide) (by decide) (fun c10 => ?_)
  refine C_icmp_gt (D := mdX8_holds) (pc' := 114) (tgt := 172) dX8_holds_111 (by decide) rfl ?_ ?_
  · exact C_sub [0, 1, 2, 3, 4, 5, 6, 7] rfl (p_X8_holds_J172 C l0 l1 l2 l3 l4 l6 l7 l8 k90 hk90)
  · refine C_iload (D := mdX8_holds) (pc' := 116) (x := l9) dX8_holds_114 rfl 8 rfl ?_
    refine C_iload (D := mdX8_holds) (pc' := 118) (x := l8) dX8_holds_116 rfl 7 rfl ?_
    refine C_icmp_gt (D := mdX8_holds) (pc' := 121) (tgt := 172) dX8_holds_118 (by decide) rfl ?_ ?_
    · exact C_sub [0, 1, 2, 3, 4, 5, 6, 7] rfl (p_X8_holds_J172 C l0 l1 l2 l3 l4 l6 l7 l8 k90 hk90)
    · refine C_aload_n (D := mdX8_holds) (pc' := 122) (x := kB C + l0) dX8_holds_121 rfl 0 rfl ?_
      refine C_getR (D := mdX8_holds) (pc' := 125) (p := l0) f_X8_134 rfl dX8_holds_122 rfl (fun ended11 => ?_)
      refine C_iload (D := mdX8_holds) (pc' := 127) (x := l8) dX8_holds_125 rfl 7 rfl ?_
      refine C_aI (D := mdX8_holds) (pc' := 128) (p := ended11) dX8_holds_127 rfl (fun x12 => ?_)
      refine C_iload (D := mdX8_holds) (pc' := 130) (x := l4) dX8_holds_128 rfl 4 rfl ?_
      refine C_callS (D := mdX8_holds) (pc' := 133) (st := []) [.int x12, .int l4] s_X8_191 (i_X8_has C x12 l4) dX8_holds_130 rfl rfl rfl (Nat.le_of_ble_eq_true rfl) (by decide) (by decide) (fun c13 => ?_)
      refine C_if_eq (D := mdX8_holds) (pc' := 136) (tgt := 172) dX8_holds_133 (by decide) rfl ?_ ?_
      · exact C_sub [0, 1, 2, 3, 4, 5, 6, 7] rfl (p_X8_holds_J172 C l0 l1 l2 l3 l4 l6 l7 l8 k90 hk90)
      · refine C_iload (D := mdX8_holds) (pc' := 138) (x := l7) dX8_holds_136 rfl 6 rfl ?_
        refine C_if_ne (D := mdX8_holds) (pc' := 141) (tgt := 159) dX8_holds_138 (by decide) rfl ?_ ?_
        · exact C_sub [0, 1, 2, 3, 4, 5, 7, 8] rfl (p_X8_holds_J159 C l0 l1 l2 l3 l4 l6 l8 l9 k90 hk90 k99 hk99)
        · refine C_aload_n (D := mdX8_holds) (pc' := 142) (x := kB C + l0) dX8_holds_141 rfl 0 rfl ?_
          refine C_getR (D := mdX8_holds) (pc' := 145) (p := l0) f_X8_134 rfl dX8_holds_142 rfl (fun ended14 => ?_)
          refine C_iload (D := mdX8_holds) (pc' := 147) (x := l8) dX8_holds_145 rfl 7 rfl ?_
          refine C_iload (D := mdX8_holds) (pc' := 149) (x := l9) dX8_holds_147 rfl 8 rfl ?_
          refine C_isub (D := mdX8_holds) (pc' := 150) dX8_holds_149 rfl ?_
          refine C_aI (D := mdX8_holds) (pc' := 151) (p := ended14) dX8_holds_150 rfl (fun x15 => ?_)
          refine C_iload (D := mdX8_holds) (pc' := 153) (x := l6) dX8_holds_151 rfl 5 rfl ?_
          refine C_callS (D := mdX8_holds) (pc' := 156) (st := []) [.int x15, .int l6] s_X8_191 (i_X8_has C x15 l6) dX8_holds_153 rfl rfl rfl (Nat.le_of_ble_eq_true rfl) (by decide) (by decide) (fun c16 => ?_)
          refine C_if_eq (D := mdX8_holds) (pc' := 159) (tgt := 163) dX8_holds_156 (by decide) rfl ?_ ?_
          · refine C_iconst (D := mdX8_holds) (pc' := 164) (v := 0) dX8_holds_163 rfl (by decide) ?_
            exact C_sub [0, 1, 2, 3, 4, 5, 7, 8] rfl (p_X8_holds_J164 C l0 l1 l2 l3 l4 l6 l8 l9 0 k90 hk90 k99 hk99)
          · exact C_sub [0, 1, 2, 3, 4, 5, 7, 8] rfl (p_X8_holds_J159 C l0 l1 l2 l3 l4 l6 l8 l9 k90 hk90 k99 hk99)
set_option maxHeartbeats 2000000 in
set_option maxRecDepth 20000 in
theorem p_X8_holds_B90 (C : KX) (l0 : Nat) (l1 : Int32) (l2 : Int32) (l3 : Int32) (l4 : Int32) (l6 : Int32)  (k90 : Int32 × Int32 → Mo Int32) (hk90 : ∀ s, Cmp C mdX8_holds (QM rvI) 90 [(0, .ref (kB C + l0)), (1, .int l1), (2, .int l2), (3, .int l3), (4, .int l4), (6, .int l6), (7, .int s.1), (8, .int s.2)] [] (k90 s)) (l7 : Int32) (l8 : Int32) : Cmp C mdX8_holds (QM rvI) 90 [(0, .ref (kB C + l0)), (1, .int l1), (2, .int l2), (3, .int l3), (4, .int l4), (6, .int l6), (7, .int l7), (8, .int l8)] [] (m_X8_holds_B90 l0 l1 l2 l3 l4 l6 k90 l7 l8) := by
  unfold m_X8_holds_B90
  refine C_iload (D := mdX8_holds) (pc' := 92) (x := l8) dX8_holds_90 rfl 7 rfl ?_
  refine C_iload_n (D := mdX8_holds) (pc' := 93) (x := l3) dX8_holds_92 rfl 3 rfl ?_
  refine C_icmp_ge (D := mdX8_holds) (pc' := 96) (tgt := 178) dX8_holds_93 (by decide) rfl ?_ ?_
  · refine C_iload (D := mdX8_holds) (pc' := 180) (x := l7) dX8_holds_178 rfl 6 rfl ?_
    exact C_zret rfl dX8_holds_180
  · refine C_iconst (D := mdX8_holds) (pc' := 97) (v := 1) dX8_holds_96 rfl (by decide) ?_
    refine C_istore (D := mdX8_holds) (pc' := 99) (ls' := [(9, .int 1), (0, .ref (kB C + l0)), (1, .int l1), (2, .int l2), (3, .int l3), (4, .int l4), (6, .int l6), (7, .int l7), (8, .int l8)]) dX8_holds_97 rfl (by decide) rfl ?_
    exact C_sub [1, 2, 3, 4, 5, 6, 7, 8, 0] rfl (C_loop (fun s => [(0, .ref (kB C + l0)), (1, .int l1), (2, .int l2), (3, .int l3), (4, .int l4), (6, .int l6), (7, .int s.1), (8, .int l8), (9, .int s.2)]) (fun k hk s => p_X8_holds_B99 C l0 l1 l2 l3 l4 l6 l8 k90 hk90 k hk s.1 s.2) FU (l7, 1))
set_option maxHeartbeats 2000000 in
set_option maxRecDepth 20000 in
theorem p_X8_holds_J59 (C : KX) (s0 : Int32) (s1 : Int32)  : Cmp C mdX8_holds (QM rvI) 59 [] [.int s0, .int s1] (m_X8_holds_J59 s0 s1) := by
  unfold m_X8_holds_J59
  refine C_icmp_ne (D := mdX8_holds) (pc' := 62) (tgt := 66) dX8_holds_59 (by decide) rfl ?_ ?_
  · refine C_iconst (D := mdX8_holds) (pc' := 67) (v := 0) dX8_holds_66 rfl (by decide) ?_
    exact C_zret rfl dX8_holds_67
  · refine C_iconst (D := mdX8_holds) (pc' := 63) (v := 1) dX8_holds_62 rfl (by decide) ?_
    refine C_goto (D := mdX8_holds) (pc' := 67) dX8_holds_63 (by decide) ?_
    exact C_zret rfl dX8_holds_67
set_option maxHeartbeats 2000000 in
set_option maxRecDepth 20000 in
theorem p_X8_holds_J44 (C : KX) (l0 : Nat) (l3 : Int32) (l4 : Int32) (s0 : Int32)  : Cmp C mdX8_holds (QM rvI) 44 [(0, .ref (kB C + l0)), (3, .int l3), (4, .int l4)] [.int s0] (m_X8_holds_J44 l0 l3 l4 s0) := by
  unfold m_X8_holds_J44
  refine C_aload_n (D := mdX8_holds) (pc' := 45) (x := kB C + l0) dX8_holds_44 rfl 0 rfl ?_
  refine C_iload (D := mdX8_holds) (pc' := 47) (x := l4) dX8_holds_45 rfl 2 rfl ?_
  refine C_iload_n (D := mdX8_holds) (pc' := 48) (x := l3) dX8_holds_47 rfl 1 rfl ?_
  refine C_callV (D := mdX8_holds) (pc' := 51) (p := l0) (st := [.int s0]) [.int l4, .int l3] v_X8_198 (i_X8_hits C l0 l4 l3) dX8_holds_48 rfl rfl rfl (Nat.le_of_ble_eq_true rfl) (by decide) (by decide) (fun c17 => ?_)
  refine C_if_le (D := mdX8_holds) (pc' := 54) (tgt := 58) dX8_holds_51 (by decide) rfl ?_ ?_
  · refine C_iconst (D := mdX8_holds) (pc' := 59) (v := 0) dX8_holds_58 rfl (by decide) ?_
    exact C_sub [] rfl (p_X8_holds_J59 C 0 s0)
  · refine C_iconst (D := mdX8_holds) (pc' := 55) (v := 1) dX8_holds_54 rfl (by decide) ?_
    refine C_goto (D := mdX8_holds) (pc' := 59) dX8_holds_55 (by decide) ?_
    exact C_sub [] rfl (p_X8_holds_J59 C 1 s0)
set_option maxHeartbeats 2000000 in
set_option maxRecDepth 20000 in
theorem i_X8_holds (C : KX) (l0 : Nat) (l1 : Int32) (l2 : Int32) (l3 : Int32) : Imp C yX8_holds cX8_holds 10 (some .boolean) 2 45 rvI [.ref (kB C + l0), .int l1, .int l2, .int l3] (m_X8_holds l0 l1 l2 l3) := by
  refine Imp.of (by decide) (Nat.le_of_ble_eq_true rfl) [(0, .ref (kB C + l0)), (1, .int l1), (2, .int l2), (3, .int l3)] rfl ?_
  show Cmp C mdX8_holds (QM rvI) 0 [(0, .ref (kB C + l0)), (1, .int l1), (2, .int l2), (3, .int l3)] [] (m_X8_holds l0 l1 l2 l3)
  unfold m_X8_holds
  refine C_aload_n (D := mdX8_holds) (pc' := 1) (x := kB C + l0) dX8_holds_0 rfl 0 rfl ?_
  refine C_aload_n (D := mdX8_holds) (pc' := 2) (x := kB C + l0) dX8_holds_1 rfl 0 rfl ?_
  refine C_getR (D := mdX8_holds) (pc' := 5) (p := l0) f_X8_87 rfl dX8_holds_2 rfl (fun now1 => ?_)
  refine C_iload_n (D := mdX8_holds) (pc' := 6) (x := l1) dX8_holds_5 rfl 1 rfl ?_
  refine C_iload_n (D := mdX8_holds) (pc' := 7) (x := l2) dX8_holds_6 rfl 2 rfl ?_
  refine C_iconst (D := mdX8_holds) (pc' := 8) (v := 1) dX8_holds_7 rfl (by decide) ?_
  refine C_callS (D := mdX8_holds) (pc' := 11) (st := [.ref (kB C + l0)]) [.ref (kB C + now1), .int l1, .int l2, .int 1] s_X8_65 (i_X8_of C now1 l1 l2 1) dX8_holds_8 rfl rfl rfl (Nat.le_of_ble_eq_true rfl) (by decide) (by decide) (fun c2 => ?_)
  refine C_callV (D := mdX8_holds) (pc' := 14) (p := l0) (st := []) [.int c2] v_X8_195 (i_X8_numberOf C l0 c2) dX8_holds_11 rfl rfl rfl (Nat.le_of_ble_eq_true rfl) (by decide) (by decide) (fun c3 => ?_)
  refine C_istore (D := mdX8_holds) (pc' := 16) (ls' := [(4, .int c3), (0, .ref (kB C + l0)), (1, .int l1), (2, .int l2), (3, .int l3)]) dX8_holds_14 rfl (by decide) rfl ?_
  refine C_aload_n (D := mdX8_holds) (pc' := 17) (x := kB C + l0) dX8_holds_16 rfl 1 rfl ?_
  refine C_getR (D := mdX8_holds) (pc' := 20) (p := l0) f_X8_87 rfl dX8_holds_17 rfl (fun now4 => ?_)
  refine C_iload_n (D := mdX8_holds) (pc' := 21) (x := l1) dX8_holds_20 rfl 2 rfl ?_
  refine C_iload_n (D := mdX8_holds) (pc' := 22) (x := l2) dX8_holds_21 rfl 3 rfl ?_
  refine C_iconst (D := mdX8_holds) (pc' := 23) (v := 0) dX8_holds_22 rfl (by decide) ?_
  refine C_callS (D := mdX8_holds) (pc' := 26) (st := []) [.ref (kB C + now4), .int l1, .int l2, .int 0] s_X8_65 (i_X8_of C now4 l1 l2 0) dX8_holds_23 rfl rfl rfl (Nat.le_of_ble_eq_true rfl) (by decide) (by decide) (fun c5 => ?_)
  refine C_istore (D := mdX8_holds) (pc' := 28) (ls' := [(5, .int c5), (4, .int c3), (0, .ref (kB C + l0)), (1, .int l1), (2, .int l2), (3, .int l3)]) dX8_holds_26 rfl (by decide) rfl ?_
  refine C_iload (D := mdX8_holds) (pc' := 30) (x := c5) dX8_holds_28 rfl 0 rfl ?_
  refine C_iconst (D := mdX8_holds) (pc' := 31) (v := 2) dX8_holds_30 rfl (by decide) ?_
  refine C_icmp_eq (D := mdX8_holds) (pc' := 34) (tgt := 68) dX8_holds_31 (by decide) rfl ?_ ?_
  · refine C_aload_n (D := mdX8_holds) (pc' := 69) (x := kB C + l0) dX8_holds_68 rfl 2 rfl ?_
    refine C_aload_n (D := mdX8_holds) (pc' := 70) (x := kB C + l0) dX8_holds_69 rfl 2 rfl ?_
    refine C_getR (D := mdX8_holds) (pc' := 73) (p := l0) f_X8_87 rfl dX8_holds_70 rfl (fun now6 => ?_)
    refine C_iload_n (D := mdX8_holds) (pc' := 74) (x := l1) dX8_holds_73 rfl 3 rfl ?_
    refine C_iload_n (D := mdX8_holds) (pc' := 75) (x := l2) dX8_holds_74 rfl 4 rfl ?_
    refine C_iconst (D := mdX8_holds) (pc' := 76) (v := 2) dX8_holds_75 rfl (by decide) ?_
    refine C_callS (D := mdX8_holds) (pc' := 79) (st := [.ref (kB C + l0)]) [.ref (kB C + now6), .int l1, .int l2, .int 2] s_X8_65 (i_X8_of C now6 l1 l2 2) dX8_holds_76 rfl rfl rfl (Nat.le_of_ble_eq_true rfl) (by decide) (by decide) (fun c7 => ?_)
    refine C_callV (D := mdX8_holds) (pc' := 82) (p := l0) (st := []) [.int c7] v_X8_195 (i_X8_numberOf C l0 c7) dX8_holds_79 rfl rfl rfl (Nat.le_of_ble_eq_true rfl) (by decide) (by decide) (fun c8 => ?_)
    refine C_istore (D := mdX8_holds) (pc' := 84) (ls' := [(6, .int c8), (5, .int c5), (4, .int c3), (0, .ref (kB C + l0)), (1, .int l1), (2, .int l2), (3, .int l3)]) dX8_holds_82 rfl (by decide) rfl ?_
    refine C_iconst (D := mdX8_holds) (pc' := 85) (v := 0) dX8_holds_84 rfl (by decide) ?_
    refine C_istore (D := mdX8_holds) (pc' := 87) (ls' := [(7, .int 0), (6, .int c8), (5, .int c5), (4, .int c3), (0, .ref (kB C + l0)), (1, .int l1), (2, .int l2), (3, .int l3)]) dX8_holds_85 rfl (by decide) rfl ?_
    refine C_iconst (D := mdX8_holds) (pc' := 88) (v := 0) dX8_holds_87 rfl (by decide) ?_
    refine C_istore (D := mdX8_holds) (pc' := 90) (ls' := [(8, .int 0), (7, .int 0), (6, .int c8), (5, .int c5), (4, .int c3), (0, .ref (kB C + l0)), (1, .int l1), (2, .int l2), (3, .int l3)]) dX8_holds_88 rfl (by decide) rfl ?_
    exact C_sub [5, 6, 7, 8, 4, 2, 1, 0] rfl (C_loop (fun s => [(0, .ref (kB C + l0)), (1, .int l1), (2, .int l2), (3, .int l3), (4, .int c3), (6, .int c8), (7, .int s.1), (8, .int s.2)]) (fun k hk s => p_X8_holds_B90 C l0 l1 l2 l3 c3 c8  k hk s.1 s.2) FU (0, 0))
  · refine C_iload (D := mdX8_holds) (pc' := 36) (x := c5) dX8_holds_34 rfl 0 rfl ?_
    refine C_if_ne (D := mdX8_holds) (pc' := 39) (tgt := 43) dX8_holds_36 (by decide) rfl ?_ ?_
    · refine C_iconst (D := mdX8_holds) (pc' := 44) (v := 0) dX8_holds_43 rfl (by decide) ?_
      exact C_sub [2, 5, 1] rfl (p_X8_holds_J44 C l0 l3 c3 0)
    · refine C_iconst (D := mdX8_holds) (pc' := 40) (v := 1) dX8_holds_39 rfl (by decide) ?_
      refine C_goto (D := mdX8_holds) (pc' := 44) dX8_holds_40 (by decide) ?_
      exact C_sub [2, 5, 1] rfl (p_X8_holds_J44 C l0 l3 c3 1)

-- StandingQueriesModel.matches(II)Z
theorem dX8_matches_0 : decode cX8_matches 0 = .ok (.iconst 1, 1) := by decide +kernel
theorem dX8_matches_1 : decode cX8_matches 1 = .ok (.istore_n 3, 1) := by decide +kernel
theorem dX8_matches_2 : decode cX8_matches 2 = .ok (.iconst 0, 1) := by decide +kernel
theorem dX8_matches_3 : decode cX8_matches 3 = .ok (.istore 4, 2) := by decide +kernel
theorem dX8_matches_5 : decode cX8_matches 5 = .ok (.iload 4, 2) := by decide +kernel
theorem dX8_matches_7 : decode cX8_matches 7 = .ok (.aload_n 0, 1) := by decide +kernel
theorem dX8_matches_8 : decode cX8_matches 8 = .ok (.getfield 87, 3) := by decide +kernel
theorem dX8_matches_11 : decode cX8_matches 11 = .ok (.iload_n 1, 1) := by decide +kernel
theorem dX8_matches_12 : decode cX8_matches 12 = .ok (.invokestatic 61, 3) := by decide +kernel
theorem dX8_matches_15 : decode cX8_matches 15 = .ok (.if_icmp .ge 30, 3) := by decide +kernel
theorem dX8_matches_18 : decode cX8_matches 18 = .ok (.iload_n 3, 1) := by decide +kernel
theorem dX8_matches_19 : decode cX8_matches 19 = .ok (.ifCond .eq 18, 3) := by decide +kernel
theorem dX8_matches_22 : decode cX8_matches 22 = .ok (.aload_n 0, 1) := by decide +kernel
theorem dX8_matches_23 : decode cX8_matches 23 = .ok (.iload_n 1, 1) := by decide +kernel
theorem dX8_matches_24 : decode cX8_matches 24 = .ok (.iload 4, 2) := by decide +kernel
theorem dX8_matches_26 : decode cX8_matches 26 = .ok (.iload_n 2, 1) := by decide +kernel
theorem dX8_matches_27 : decode cX8_matches 27 = .ok (.invokevirtual 201, 3) := by decide +kernel
theorem dX8_matches_30 : decode cX8_matches 30 = .ok (.ifCond .eq 7, 3) := by decide +kernel
theorem dX8_matches_33 : decode cX8_matches 33 = .ok (.iconst 1, 1) := by decide +kernel
theorem dX8_matches_34 : decode cX8_matches 34 = .ok (.goto 4, 3) := by decide +kernel
theorem dX8_matches_37 : decode cX8_matches 37 = .ok (.iconst 0, 1) := by decide +kernel
theorem dX8_matches_38 : decode cX8_matches 38 = .ok (.istore_n 3, 1) := by decide +kernel
theorem dX8_matches_39 : decode cX8_matches 39 = .ok (.iinc 4 1, 3) := by decide +kernel
theorem dX8_matches_42 : decode cX8_matches 42 = .ok (.goto (-37), 3) := by decide +kernel
theorem dX8_matches_45 : decode cX8_matches 45 = .ok (.iload_n 3, 1) := by decide +kernel
theorem dX8_matches_46 : decode cX8_matches 46 = .ok (.ireturn, 1) := by decide +kernel
abbrev mdX8_matches : MD := (cX8_matches, RX8, 5, (some .boolean), yX8_matches.name, 3, 74, eT)
set_option maxHeartbeats 2000000 in
set_option maxRecDepth 20000 in
theorem p_X8_matches_J38 (C : KX) (l0 : Nat) (l1 : Int32) (l2 : Int32) (l4 : Int32) (s0 : Int32) (k5 : Int32 × Int32 → Mo Int32) (hk5 : ∀ s, Cmp C mdX8_matches (QM rvI) 5 [(0, .ref (kB C + l0)), (1, .int l1), (2, .int l2), (3, .int s.1), (4, .int s.2)] [] (k5 s)) : Cmp C mdX8_matches (QM rvI) 38 [(0, .ref (kB C + l0)), (1, .int l1), (2, .int l2), (4, .int l4)] [.int s0] (m_X8_matches_J38 l0 l1 l2 l4 s0 k5) := by
  unfold m_X8_matches_J38
  refine C_istore_n (D := mdX8_matches) (pc' := 39) (ls' := [(3, .int s0), (0, .ref (kB C + l0)), (1, .int l1), (2, .int l2), (4, .int l4)]) dX8_matches_38 rfl rfl (by decide) rfl ?_
  refine C_iinc (D := mdX8_matches) (pc' := 42) (j := 4) (v := (l4 + 1)) (ls' := [(4, .int (l4 + 1)), (3, .int s0), (0, .ref (kB C + l0)), (1, .int l1), (2, .int l2)]) dX8_matches_39 rfl rfl rfl (by decide) rfl ?_
  refine C_goto (D := mdX8_matches) (pc' := 5) dX8_matches_42 (by decide) ?_
  exact C_sub [2, 3, 4, 1, 0] rfl (hk5 (s0, (l4 + 1)))
set_option maxHeartbeats 2000000 in
set_option maxRecDepth 20000 in
theorem p_X8_matches_J37 (C : KX) (l0 : Nat) (l1 : Int32) (l2 : Int32) (l4 : Int32) (k5 : Int32 × Int32 → Mo Int32) (hk5 : ∀ s, Cmp C mdX8_matches (QM rvI) 5 [(0, .ref (kB C + l0)), (1, .int l1), (2, .int l2), (3, .int s.1), (4, .int s.2)] [] (k5 s)) : Cmp C mdX8_matches (QM rvI) 37 [(0, .ref (kB C + l0)), (1, .int l1), (2, .int l2), (4, .int l4)] [] (m_X8_matches_J37 l0 l1 l2 l4 k5) := by
  unfold m_X8_matches_J37
  refine C_iconst (D := mdX8_matches) (pc' := 38) (v := 0) dX8_matches_37 rfl (by decide) ?_
  exact C_sub [0, 1, 2, 3] rfl (p_X8_matches_J38 C l0 l1 l2 l4 0 k5 hk5)
set_option maxHeartbeats 2000000 in
set_option maxRecDepth 20000 in
theorem p_X8_matches_B5 (C : KX) (l0 : Nat) (l1 : Int32) (l2 : Int32)  (k5 : Int32 × Int32 → Mo Int32) (hk5 : ∀ s, Cmp C mdX8_matches (QM rvI) 5 [(0, .ref (kB C + l0)), (1, .int l1), (2, .int l2), (3, .int s.1), (4, .int s.2)] [] (k5 s)) (l3 : Int32) (l4 : Int32) : Cmp C mdX8_matches (QM rvI) 5 [(0, .ref (kB C + l0)), (1, .int l1), (2, .int l2), (3, .int l3), (4, .int l4)] [] (m_X8_matches_B5 l0 l1 l2 k5 l3 l4) := by
  unfold m_X8_matches_B5
  refine C_iload (D := mdX8_matches) (pc' := 7) (x := l4) dX8_matches_5 rfl 4 rfl ?_
  refine C_aload_n (D := mdX8_matches) (pc' := 8) (x := kB C + l0) dX8_matches_7 rfl 0 rfl ?_
  refine C_getR (D := mdX8_matches) (pc' := 11) (p := l0) f_X8_87 rfl dX8_matches_8 rfl (fun now1 => ?_)
  refine C_iload_n (D := mdX8_matches) (pc' := 12) (x := l1) dX8_matches_11 rfl 1 rfl ?_
  refine C_callS (D := mdX8_matches) (pc' := 15) (st := [.int l4]) [.ref (kB C + now1), .int l1] s_X8_61 (i_X8_parts C now1 l1) dX8_matches_12 rfl rfl rfl (Nat.le_of_ble_eq_true rfl) (by decide) (by decide) (fun c2 => ?_)
  refine C_icmp_ge (D := mdX8_matches) (pc' := 18) (tgt := 45) dX8_matches_15 (by decide) rfl ?_ ?_
  · refine C_iload_n (D := mdX8_matches) (pc' := 46) (x := l3) dX8_matches_45 rfl 3 rfl ?_
    exact C_zret rfl dX8_matches_46
  · refine C_iload_n (D := mdX8_matches) (pc' := 19) (x := l3) dX8_matches_18 rfl 3 rfl ?_
    refine C_if_eq (D := mdX8_matches) (pc' := 22) (tgt := 37) dX8_matches_19 (by decide) rfl ?_ ?_
    · exact C_sub [0, 1, 2, 4] rfl (p_X8_matches_J37 C l0 l1 l2 l4 k5 hk5)
    · refine C_aload_n (D := mdX8_matches) (pc' := 23) (x := kB C + l0) dX8_matches_22 rfl 0 rfl ?_
      refine C_iload_n (D := mdX8_matches) (pc' := 24) (x := l1) dX8_matches_23 rfl 1 rfl ?_
      refine C_iload (D := mdX8_matches) (pc' := 26) (x := l4) dX8_matches_24 rfl 4 rfl ?_
      refine C_iload_n (D := mdX8_matches) (pc' := 27) (x := l2) dX8_matches_26 rfl 2 rfl ?_
      refine C_callV (D := mdX8_matches) (pc' := 30) (p := l0) (st := []) [.int l1, .int l4, .int l2] v_X8_201 (i_X8_holds C l0 l1 l4 l2) dX8_matches_27 rfl rfl rfl (Nat.le_of_ble_eq_true rfl) (by decide) (by decide) (fun c3 => ?_)
      refine C_if_eq (D := mdX8_matches) (pc' := 33) (tgt := 37) dX8_matches_30 (by decide) rfl ?_ ?_
      · exact C_sub [0, 1, 2, 4] rfl (p_X8_matches_J37 C l0 l1 l2 l4 k5 hk5)
      · refine C_iconst (D := mdX8_matches) (pc' := 34) (v := 1) dX8_matches_33 rfl (by decide) ?_
        refine C_goto (D := mdX8_matches) (pc' := 38) dX8_matches_34 (by decide) ?_
        exact C_sub [0, 1, 2, 4] rfl (p_X8_matches_J38 C l0 l1 l2 l4 1 k5 hk5)
set_option maxHeartbeats 2000000 in
set_option maxRecDepth 20000 in
theorem i_X8_matches (C : KX) (l0 : Nat) (l1 : Int32) (l2 : Int32) : Imp C yX8_matches cX8_matches 5 (some .boolean) 3 74 rvI [.ref (kB C + l0), .int l1, .int l2] (m_X8_matches l0 l1 l2) := by
  refine Imp.of (by decide) (Nat.le_of_ble_eq_true rfl) [(0, .ref (kB C + l0)), (1, .int l1), (2, .int l2)] rfl ?_
  show Cmp C mdX8_matches (QM rvI) 0 [(0, .ref (kB C + l0)), (1, .int l1), (2, .int l2)] [] (m_X8_matches l0 l1 l2)
  unfold m_X8_matches
  refine C_iconst (D := mdX8_matches) (pc' := 1) (v := 1) dX8_matches_0 rfl (by decide) ?_
  refine C_istore_n (D := mdX8_matches) (pc' := 2) (ls' := [(3, .int 1), (0, .ref (kB C + l0)), (1, .int l1), (2, .int l2)]) dX8_matches_1 rfl rfl (by decide) rfl ?_
  refine C_iconst (D := mdX8_matches) (pc' := 3) (v := 0) dX8_matches_2 rfl (by decide) ?_
  refine C_istore (D := mdX8_matches) (pc' := 5) (ls' := [(4, .int 0), (3, .int 1), (0, .ref (kB C + l0)), (1, .int l1), (2, .int l2)]) dX8_matches_3 rfl (by decide) rfl ?_
  exact C_sub [2, 3, 4, 1, 0] rfl (C_loop (fun s => [(0, .ref (kB C + l0)), (1, .int l1), (2, .int l2), (3, .int s.1), (4, .int s.2)]) (fun k hk s => p_X8_matches_B5 C l0 l1 l2  k hk s.1 s.2) FU (1, 0))

-- StandingQueriesModel.since(I)I
theorem dX8_since_0 : decode cX8_since 0 = .ok (.aload_n 0, 1) := by decide +kernel
theorem dX8_since_1 : decode cX8_since 1 = .ok (.getfield 87, 3) := by decide +kernel
theorem dX8_since_4 : decode cX8_since 4 = .ok (.iconst 1, 1) := by decide +kernel
theorem dX8_since_5 : decode cX8_since 5 = .ok (.iaload, 1) := by decide +kernel
theorem dX8_since_6 : decode cX8_since 6 = .ok (.istore_n 2, 1) := by decide +kernel
theorem dX8_since_7 : decode cX8_since 7 = .ok (.aload_n 0, 1) := by decide +kernel
theorem dX8_since_8 : decode cX8_since 8 = .ok (.iload_n 1, 1) := by decide +kernel
theorem dX8_since_9 : decode cX8_since 9 = .ok (.iload_n 2, 1) := by decide +kernel
theorem dX8_since_10 : decode cX8_since 10 = .ok (.invokevirtual 205, 3) := by decide +kernel
theorem dX8_since_13 : decode cX8_since 13 = .ok (.ifCond .ne 6, 3) := by decide +kernel
theorem dX8_since_16 : decode cX8_since 16 = .ok (.bipush (-9), 2) := by decide +kernel
theorem dX8_since_18 : decode cX8_since 18 = .ok (.ireturn, 1) := by decide +kernel
theorem dX8_since_19 : decode cX8_since 19 = .ok (.iload_n 2, 1) := by decide +kernel
theorem dX8_since_20 : decode cX8_since 20 = .ok (.ifCond .le 20, 3) := by decide +kernel
theorem dX8_since_23 : decode cX8_since 23 = .ok (.aload_n 0, 1) := by decide +kernel
theorem dX8_since_24 : decode cX8_since 24 = .ok (.iload_n 1, 1) := by decide +kernel
theorem dX8_since_25 : decode cX8_since 25 = .ok (.iload_n 2, 1) := by decide +kernel
theorem dX8_since_26 : decode cX8_since 26 = .ok (.iconst 1, 1) := by decide +kernel
theorem dX8_since_27 : decode cX8_since 27 = .ok (.isub, 1) := by decide +kernel
theorem dX8_since_28 : decode cX8_since 28 = .ok (.invokevirtual 205, 3) := by decide +kernel
theorem dX8_since_31 : decode cX8_since 31 = .ok (.ifCond .eq 9, 3) := by decide +kernel
theorem dX8_since_34 : decode cX8_since 34 = .ok (.iinc 2 (-1), 3) := by decide +kernel
theorem dX8_since_37 : decode cX8_since 37 = .ok (.goto (-18), 3) := by decide +kernel
theorem dX8_since_40 : decode cX8_since 40 = .ok (.iload_n 2, 1) := by decide +kernel
theorem dX8_since_41 : decode cX8_since 41 = .ok (.ireturn, 1) := by decide +kernel
abbrev mdX8_since : MD := (cX8_since, RX8, 3, (some .int), yX8_since.name, 4, 98, eT)
set_option maxHeartbeats 2000000 in
set_option maxRecDepth 20000 in
theorem p_X8_since_B19 (C : KX) (l0 : Nat) (l1 : Int32)  (k19 : Int32 → Mo Int32) (hk19 : ∀ s, Cmp C mdX8_since (QM rvI) 19 [(0, .ref (kB C + l0)), (1, .int l1), (2, .int s)] [] (k19 s)) (l2 : Int32) : Cmp C mdX8_since (QM rvI) 19 [(0, .ref (kB C + l0)), (1, .int l1), (2, .int l2)] [] (m_X8_since_B19 l0 l1 k19 l2) := by
  unfold m_X8_since_B19
  refine C_iload_n (D := mdX8_since) (pc' := 20) (x := l2) dX8_since_19 rfl 2 rfl ?_
  refine C_if_le (D := mdX8_since) (pc' := 23) (tgt := 40) dX8_since_20 (by decide) rfl ?_ ?_
  · refine C_iload_n (D := mdX8_since) (pc' := 41) (x := l2) dX8_since_40 rfl 2 rfl ?_
    exact C_iret rfl dX8_since_41
  · refine C_aload_n (D := mdX8_since) (pc' := 24) (x := kB C + l0) dX8_since_23 rfl 0 rfl ?_
    refine C_iload_n (D := mdX8_since) (pc' := 25) (x := l1) dX8_since_24 rfl 1 rfl ?_
    refine C_iload_n (D := mdX8_since) (pc' := 26) (x := l2) dX8_since_25 rfl 2 rfl ?_
    refine C_iconst (D := mdX8_since) (pc' := 27) (v := 1) dX8_since_26 rfl (by decide) ?_
    refine C_isub (D := mdX8_since) (pc' := 28) dX8_since_27 rfl ?_
    refine C_callV (D := mdX8_since) (pc' := 31) (p := l0) (st := []) [.int l1, .int (l2 - 1)] v_X8_205 (i_X8_matches C l0 l1 ((l2 - 1))) dX8_since_28 rfl rfl rfl (Nat.le_of_ble_eq_true rfl) (by decide) (by decide) (fun c4 => ?_)
    refine C_if_eq (D := mdX8_since) (pc' := 34) (tgt := 40) dX8_since_31 (by decide) rfl ?_ ?_
    · refine C_iload_n (D := mdX8_since) (pc' := 41) (x := l2) dX8_since_40 rfl 2 rfl ?_
      exact C_iret rfl dX8_since_41
    · refine C_iinc (D := mdX8_since) (pc' := 37) (j := 2) (v := (l2 + (-1))) (ls' := [(2, .int (l2 + (-1))), (0, .ref (kB C + l0)), (1, .int l1)]) dX8_since_34 rfl rfl rfl (by decide) rfl ?_
      refine C_goto (D := mdX8_since) (pc' := 19) dX8_since_37 (by decide) ?_
      exact C_sub [1, 2, 0] rfl (hk19 ((l2 + (-1))))
set_option maxHeartbeats 2000000 in
set_option maxRecDepth 20000 in
theorem i_X8_since (C : KX) (l0 : Nat) (l1 : Int32) : Imp C yX8_since cX8_since 3 (some .int) 4 98 rvI [.ref (kB C + l0), .int l1] (m_X8_since l0 l1) := by
  refine Imp.of (by decide) (Nat.le_of_ble_eq_true rfl) [(0, .ref (kB C + l0)), (1, .int l1)] rfl ?_
  show Cmp C mdX8_since (QM rvI) 0 [(0, .ref (kB C + l0)), (1, .int l1)] [] (m_X8_since l0 l1)
  unfold m_X8_since
  refine C_aload_n (D := mdX8_since) (pc' := 1) (x := kB C + l0) dX8_since_0 rfl 0 rfl ?_
  refine C_getR (D := mdX8_since) (pc' := 4) (p := l0) f_X8_87 rfl dX8_since_1 rfl (fun now1 => ?_)
  refine C_iconst (D := mdX8_since) (pc' := 5) (v := 1) dX8_since_4 rfl (by decide) ?_
  refine C_aI (D := mdX8_since) (pc' := 6) (p := now1) dX8_since_5 rfl (fun x2 => ?_)
  refine C_istore_n (D := mdX8_since) (pc' := 7) (ls' := [(2, .int x2), (0, .ref (kB C + l0)), (1, .int l1)]) dX8_since_6 rfl rfl (by decide) rfl ?_
  refine C_aload_n (D := mdX8_since) (pc' := 8) (x := kB C + l0) dX8_since_7 rfl 1 rfl ?_
  refine C_iload_n (D := mdX8_since) (pc' := 9) (x := l1) dX8_since_8 rfl 2 rfl ?_
  refine C_iload_n (D := mdX8_since) (pc' := 10) (x := x2) dX8_since_9 rfl 0 rfl ?_
  refine C_callV (D := mdX8_since) (pc' := 13) (p := l0) (st := []) [.int l1, .int x2] v_X8_205 (i_X8_matches C l0 l1 x2) dX8_since_10 rfl rfl rfl (Nat.le_of_ble_eq_true rfl) (by decide) (by decide) (fun c3 => ?_)
  refine C_if_ne (D := mdX8_since) (pc' := 16) (tgt := 19) dX8_since_13 (by decide) rfl ?_ ?_
  · exact C_sub [1, 2, 0] rfl (C_loop (fun s => [(0, .ref (kB C + l0)), (1, .int l1), (2, .int s)]) (fun k hk s => p_X8_since_B19 C l0 l1  k hk s) FU x2)
  · refine C_bipush (D := mdX8_since) (pc' := 18) (v := (-9)) dX8_since_16 rfl (by decide) ?_
    exact C_iret rfl dX8_since_18

-- StandingQueriesModel.key(I)I
theorem dX8_key_0 : decode cX8_key 0 = .ok (.bipush (-9), 2) := by decide +kernel
theorem dX8_key_2 : decode cX8_key 2 = .ok (.istore_n 2, 1) := by decide +kernel
theorem dX8_key_3 : decode cX8_key 3 = .ok (.iconst 0, 1) := by decide +kernel
theorem dX8_key_4 : decode cX8_key 4 = .ok (.istore_n 3, 1) := by decide +kernel
theorem dX8_key_5 : decode cX8_key 5 = .ok (.iload_n 3, 1) := by decide +kernel
theorem dX8_key_6 : decode cX8_key 6 = .ok (.aload_n 0, 1) := by decide +kernel
theorem dX8_key_7 : decode cX8_key 7 = .ok (.getfield 87, 3) := by decide +kernel
theorem dX8_key_10 : decode cX8_key 10 = .ok (.iload_n 1, 1) := by decide +kernel
theorem dX8_key_11 : decode cX8_key 11 = .ok (.invokestatic 61, 3) := by decide +kernel
theorem dX8_key_14 : decode cX8_key 14 = .ok (.if_icmp .ge 93, 3) := by decide +kernel
theorem dX8_key_17 : decode cX8_key 17 = .ok (.aload_n 0, 1) := by decide +kernel
theorem dX8_key_18 : decode cX8_key 18 = .ok (.getfield 87, 3) := by decide +kernel
theorem dX8_key_21 : decode cX8_key 21 = .ok (.iload_n 1, 1) := by decide +kernel
theorem dX8_key_22 : decode cX8_key 22 = .ok (.iload_n 3, 1) := by decide +kernel
theorem dX8_key_23 : decode cX8_key 23 = .ok (.iconst 0, 1) := by decide +kernel
theorem dX8_key_24 : decode cX8_key 24 = .ok (.invokestatic 65, 3) := by decide +kernel
theorem dX8_key_27 : decode cX8_key 27 = .ok (.ifCond .ne 74, 3) := by decide +kernel
theorem dX8_key_30 : decode cX8_key 30 = .ok (.aload_n 0, 1) := by decide +kernel
theorem dX8_key_31 : decode cX8_key 31 = .ok (.aload_n 0, 1) := by decide +kernel
theorem dX8_key_32 : decode cX8_key 32 = .ok (.getfield 87, 3) := by decide +kernel
theorem dX8_key_35 : decode cX8_key 35 = .ok (.iload_n 1, 1) := by decide +kernel
theorem dX8_key_36 : decode cX8_key 36 = .ok (.iload_n 3, 1) := by decide +kernel
theorem dX8_key_37 : decode cX8_key 37 = .ok (.iconst 1, 1) := by decide +kernel
theorem dX8_key_38 : decode cX8_key 38 = .ok (.invokestatic 65, 3) := by decide +kernel
theorem dX8_key_41 : decode cX8_key 41 = .ok (.invokevirtual 195, 3) := by decide +kernel
theorem dX8_key_44 : decode cX8_key 44 = .ok (.istore 4, 2) := by decide +kernel
theorem dX8_key_46 : decode cX8_key 46 = .ok (.iload_n 2, 1) := by decide +kernel
theorem dX8_key_47 : decode cX8_key 47 = .ok (.bipush (-9), 2) := by decide +kernel
theorem dX8_key_49 : decode cX8_key 49 = .ok (.if_icmp .ne 7, 3) := by decide +kernel
theorem dX8_key_52 : decode cX8_key 52 = .ok (.iconst 1, 1) := by decide +kernel
theorem dX8_key_53 : decode cX8_key 53 = .ok (.goto 23, 3) := by decide +kernel
theorem dX8_key_56 : decode cX8_key 56 = .ok (.aload_n 0, 1) := by decide +kernel
theorem dX8_key_57 : decode cX8_key 57 = .ok (.getfield 55, 3) := by decide +kernel
theorem dX8_key_60 : decode cX8_key 60 = .ok (.iload 4, 2) := by decide +kernel
theorem dX8_key_62 : decode cX8_key 62 = .ok (.iaload, 1) := by decide +kernel
theorem dX8_key_63 : decode cX8_key 63 = .ok (.ldc 47, 2) := by decide +kernel
theorem dX8_key_65 : decode cX8_key 65 = .ok (.idiv, 1) := by decide +kernel
theorem dX8_key_66 : decode cX8_key 66 = .ok (.aload_n 0, 1) := by decide +kernel
theorem dX8_key_67 : decode cX8_key 67 = .ok (.getfield 55, 3) := by decide +kernel
theorem dX8_key_70 : decode cX8_key 70 = .ok (.iload_n 2, 1) := by decide +kernel
theorem dX8_key_71 : decode cX8_key 71 = .ok (.iaload, 1) := by decide +kernel
theorem dX8_key_72 : decode cX8_key 72 = .ok (.ldc 47, 2) := by decide +kernel
theorem dX8_key_74 : decode cX8_key 74 = .ok (.idiv, 1) := by decide +kernel
theorem dX8_key_75 : decode cX8_key 75 = .ok (.isub, 1) := by decide +kernel
theorem dX8_key_76 : decode cX8_key 76 = .ok (.istore 5, 2) := by decide +kernel
theorem dX8_key_78 : decode cX8_key 78 = .ok (.iload 5, 2) := by decide +kernel
theorem dX8_key_80 : decode cX8_key 80 = .ok (.ifCond .gt 14, 3) := by decide +kernel
theorem dX8_key_83 : decode cX8_key 83 = .ok (.iload 5, 2) := by decide +kernel
theorem dX8_key_85 : decode cX8_key 85 = .ok (.ifCond .ne 14, 3) := by decide +kernel
theorem dX8_key_88 : decode cX8_key 88 = .ok (.iload 4, 2) := by decide +kernel
theorem dX8_key_90 : decode cX8_key 90 = .ok (.iload_n 2, 1) := by decide +kernel
theorem dX8_key_91 : decode cX8_key 91 = .ok (.if_icmp .ge 8, 3) := by decide +kernel
theorem dX8_key_94 : decode cX8_key 94 = .ok (.iload 4, 2) := by decide +kernel
theorem dX8_key_96 : decode cX8_key 96 = .ok (.goto 4, 3) := by decide +kernel
theorem dX8_key_99 : decode cX8_key 99 = .ok (.iload_n 2, 1) := by decide +kernel
theorem dX8_key_100 : decode cX8_key 100 = .ok (.istore_n 2, 1) := by decide +kernel
theorem dX8_key_101 : decode cX8_key 101 = .ok (.iinc 3 1, 3) := by decide +kernel
theorem dX8_key_104 : decode cX8_key 104 = .ok (.goto (-99), 3) := by decide +kernel
theorem dX8_key_107 : decode cX8_key 107 = .ok (.iload_n 2, 1) := by decide +kernel
theorem dX8_key_108 : decode cX8_key 108 = .ok (.ireturn, 1) := by decide +kernel
abbrev mdX8_key : MD := (cX8_key, RX8, 6, (some .int), yX8_key.name, 1, 23, eT)
set_option maxHeartbeats 2000000 in
set_option maxRecDepth 20000 in
theorem p_X8_key_J101 (C : KX) (l0 : Nat) (l1 : Int32) (l2 : Int32) (l3 : Int32) (k5 : Int32 × Int32 → Mo Int32) (hk5 : ∀ s, Cmp C mdX8_key (QM rvI) 5 [(0, .ref (kB C + l0)), (1, .int l1), (2, .int s.1), (3, .int s.2)] [] (k5 s)) : Cmp C mdX8_key (QM rvI) 101 [(0, .ref (kB C + l0)), (1, .int l1), (2, .int l2), (3, .int l3)] [] (m_X8_key_J101 l0 l1 l2 l3 k5) := by
  unfold m_X8_key_J101
  refine C_iinc (D := mdX8_key) (pc' := 104) (j := 3) (v := (l3 + 1)) (ls' := [(3, .int (l3 + 1)), (0, .ref (kB C + l0)), (1, .int l1), (2, .int l2)]) dX8_key_101 rfl rfl rfl (by decide) rfl ?_
  refine C_goto (D := mdX8_key) (pc' := 5) dX8_key_104 (by decide) ?_
  exact C_sub [1, 2, 3, 0] rfl (hk5 (l2, (l3 + 1)))
set_option maxHeartbeats 2000000 in
set_option maxRecDepth 20000 in
theorem p_X8_key_J100 (C : KX) (l0 : Nat) (l1 : Int32) (l3 : Int32) (s0 : Int32) (k5 : Int32 × Int32 → Mo Int32) (hk5 : ∀ s, Cmp C mdX8_key (QM rvI) 5 [(0, .ref (kB C + l0)), (1, .int l1), (2, .int s.1), (3, .int s.2)] [] (k5 s)) : Cmp C mdX8_key (QM rvI) 100 [(0, .ref (kB C + l0)), (1, .int l1), (3, .int l3)] [.int s0] (m_X8_key_J100 l0 l1 l3 s0 k5) := by
  unfold m_X8_key_J100
  refine C_istore_n (D := mdX8_key) (pc' := 101) (ls' := [(2, .int s0), (0, .ref (kB C + l0)), (1, .int l1), (3, .int l3)]) dX8_key_100 rfl rfl (by decide) rfl ?_
  exact C_sub [1, 2, 0, 3] rfl (p_X8_key_J101 C l0 l1 s0 l3 k5 hk5)
set_option maxHeartbeats 2000000 in
set_option maxRecDepth 20000 in
theorem p_X8_key_J94 (C : KX) (l0 : Nat) (l1 : Int32) (l3 : Int32) (l4 : Int32) (k5 : Int32 × Int32 → Mo Int32) (hk5 : ∀ s, Cmp C mdX8_key (QM rvI) 5 [(0, .ref (kB C + l0)), (1, .int l1), (2, .int s.1), (3, .int s.2)] [] (k5 s)) : Cmp C mdX8_key (QM rvI) 94 [(0, .ref (kB C + l0)), (1, .int l1), (3, .int l3), (4, .int l4)] [] (m_X8_key_J94 l0 l1 l3 l4 k5) := by
  unfold m_X8_key_J94
  refine C_iload (D := mdX8_key) (pc' := 96) (x := l4) dX8_key_94 rfl 3 rfl ?_
  refine C_goto (D := mdX8_key) (pc' := 100) dX8_key_96 (by decide) ?_
  exact C_sub [0, 1, 2] rfl (p_X8_key_J100 C l0 l1 l3 l4 k5 hk5)
set_option maxHeartbeats 2000000 in
set_option maxRecDepth 20000 in
theorem p_X8_key_J99 (C : KX) (l0 : Nat) (l1 : Int32) (l2 : Int32) (l3 : Int32) (k5 : Int32 × Int32 → Mo Int32) (hk5 : ∀ s, Cmp C mdX8_key (QM rvI) 5 [(0, .ref (kB C + l0)), (1, .int l1), (2, .int s.1), (3, .int s.2)] [] (k5 s)) : Cmp C mdX8_key (QM rvI) 99 [(0, .ref (kB C + l0)), (1, .int l1), (2, .int l2), (3, .int l3)] [] (m_X8_key_J99 l0 l1 l2 l3 k5) := by
  unfold m_X8_key_J99
  refine C_iload_n (D := mdX8_key) (pc' := 100) (x := l2) dX8_key_99 rfl 2 rfl ?_
  exact C_sub [0, 1, 3] rfl (p_X8_key_J100 C l0 l1 l3 l2 k5 hk5)
set_option maxHeartbeats 2000000 in
set_option maxRecDepth 20000 in
theorem p_X8_key_J76 (C : KX) (l0 : Nat) (l1 : Int32) (l2 : Int32) (l3 : Int32) (l4 : Int32) (s0 : Int32) (k5 : Int32 × Int32 → Mo Int32) (hk5 : ∀ s, Cmp C mdX8_key (QM rvI) 5 [(0, .ref (kB C + l0)), (1, .int l1), (2, .int s.1), (3, .int s.2)] [] (k5 s)) : Cmp C mdX8_key (QM rvI) 76 [(0, .ref (kB C + l0)), (1, .int l1), (2, .int l2), (3, .int l3), (4, .int l4)] [.int s0] (m_X8_key_J76 l0 l1 l2 l3 l4 s0 k5) := by
  unfold m_X8_key_J76
  refine C_istore (D := mdX8_key) (pc' := 78) (ls' := [(5, .int s0), (0, .ref (kB C + l0)), (1, .int l1), (2, .int l2), (3, .int l3), (4, .int l4)]) dX8_key_76 rfl (by decide) rfl ?_
  refine C_iload (D := mdX8_key) (pc' := 80) (x := s0) dX8_key_78 rfl 0 rfl ?_
  refine C_if_gt (D := mdX8_key) (pc' := 83) (tgt := 94) dX8_key_80 (by decide) rfl ?_ ?_
  · exact C_sub [1, 2, 4, 5] rfl (p_X8_key_J94 C l0 l1 l3 l4 k5 hk5)
  · refine C_iload (D := mdX8_key) (pc' := 85) (x := s0) dX8_key_83 rfl 0 rfl ?_
    refine C_if_ne (D := mdX8_key) (pc' := 88) (tgt := 99) dX8_key_85 (by decide) rfl ?_ ?_
    · exact C_sub [1, 2, 3, 4] rfl (p_X8_key_J99 C l0 l1 l2 l3 k5 hk5)
    · refine C_iload (D := mdX8_key) (pc' := 90) (x := l4) dX8_key_88 rfl 5 rfl ?_
      refine C_iload_n (D := mdX8_key) (pc' := 91) (x := l2) dX8_key_90 rfl 3 rfl ?_
      refine C_icmp_ge (D := mdX8_key) (pc' := 94) (tgt := 99) dX8_key_91 (by decide) rfl ?_ ?_
      · exact C_sub [1, 2, 3, 4] rfl (p_X8_key_J99 C l0 l1 l2 l3 k5 hk5)
      · exact C_sub [1, 2, 4, 5] rfl (p_X8_key_J94 C l0 l1 l3 l4 k5 hk5)
set_option maxHeartbeats 2000000 in
set_option maxRecDepth 20000 in
theorem p_X8_key_B5 (C : KX) (l0 : Nat) (l1 : Int32)  (k5 : Int32 × Int32 → Mo Int32) (hk5 : ∀ s, Cmp C mdX8_key (QM rvI) 5 [(0, .ref (kB C + l0)), (1, .int l1), (2, .int s.1), (3, .int s.2)] [] (k5 s)) (l2 : Int32) (l3 : Int32) : Cmp C mdX8_key (QM rvI) 5 [(0, .ref (kB C + l0)), (1, .int l1), (2, .int l2), (3, .int l3)] [] (m_X8_key_B5 l0 l1 k5 l2 l3) := by
  unfold m_X8_key_B5
  refine C_iload_n (D := mdX8_key) (pc' := 6) (x := l3) dX8_key_5 rfl 3 rfl ?_
  refine C_aload_n (D := mdX8_key) (pc' := 7) (x := kB C + l0) dX8_key_6 rfl 0 rfl ?_
  refine C_getR (D := mdX8_key) (pc' := 10) (p := l0) f_X8_87 rfl dX8_key_7 rfl (fun now1 => ?_)
  refine C_iload_n (D := mdX8_key) (pc' := 11) (x := l1) dX8_key_10 rfl 1 rfl ?_
  refine C_callS (D := mdX8_key) (pc' := 14) (st := [.int l3]) [.ref (kB C + now1), .int l1] s_X8_61 (i_X8_parts C now1 l1) dX8_key_11 rfl rfl rfl (Nat.le_of_ble_eq_true rfl) (by decide) (by decide) (fun c2 => ?_)
  refine C_icmp_ge (D := mdX8_key) (pc' := 17) (tgt := 107) dX8_key_14 (by decide) rfl ?_ ?_
  · refine C_iload_n (D := mdX8_key) (pc' := 108) (x := l2) dX8_key_107 rfl 2 rfl ?_
    exact C_iret rfl dX8_key_108
  · refine C_aload_n (D := mdX8_key) (pc' := 18) (x := kB C + l0) dX8_key_17 rfl 0 rfl ?_
    refine C_getR (D := mdX8_key) (pc' := 21) (p := l0) f_X8_87 rfl dX8_key_18 rfl (fun now3 => ?_)
    refine C_iload_n (D := mdX8_key) (pc' := 22) (x := l1) dX8_key_21 rfl 1 rfl ?_
    refine C_iload_n (D := mdX8_key) (pc' := 23) (x := l3) dX8_key_22 rfl 3 rfl ?_
    refine C_iconst (D := mdX8_key) (pc' := 24) (v := 0) dX8_key_23 rfl (by decide) ?_
    refine C_callS (D := mdX8_key) (pc' := 27) (st := []) [.ref (kB C + now3), .int l1, .int l3, .int 0] s_X8_65 (i_X8_of C now3 l1 l3 0) dX8_key_24 rfl rfl rfl (Nat.le_of_ble_eq_true rfl) (by decide) (by decide) (fun c4 => ?_)
    refine C_if_ne (D := mdX8_key) (pc' := 30) (tgt := 101) dX8_key_27 (by decide) rfl ?_ ?_
    · exact C_sub [0, 1, 2, 3] rfl (p_X8_key_J101 C l0 l1 l2 l3 k5 hk5)
    · refine C_aload_n (D := mdX8_key) (pc' := 31) (x := kB C + l0) dX8_key_30 rfl 0 rfl ?_
      refine C_aload_n (D := mdX8_key) (pc' := 32) (x := kB C + l0) dX8_key_31 rfl 0 rfl ?_
      refine C_getR (D := mdX8_key) (pc' := 35) (p := l0) f_X8_87 rfl dX8_key_32 rfl (fun now5 => ?_)
      refine C_iload_n (D := mdX8_key) (pc' := 36) (x := l1) dX8_key_35 rfl 1 rfl ?_
      refine C_iload_n (D := mdX8_key) (pc' := 37) (x := l3) dX8_key_36 rfl 3 rfl ?_
      refine C_iconst (D := mdX8_key) (pc' := 38) (v := 1) dX8_key_37 rfl (by decide) ?_
      refine C_callS (D := mdX8_key) (pc' := 41) (st := [.ref (kB C + l0)]) [.ref (kB C + now5), .int l1, .int l3, .int 1] s_X8_65 (i_X8_of C now5 l1 l3 1) dX8_key_38 rfl rfl rfl (Nat.le_of_ble_eq_true rfl) (by decide) (by decide) (fun c6 => ?_)
      refine C_callV (D := mdX8_key) (pc' := 44) (p := l0) (st := []) [.int c6] v_X8_195 (i_X8_numberOf C l0 c6) dX8_key_41 rfl rfl rfl (Nat.le_of_ble_eq_true rfl) (by decide) (by decide) (fun c7 => ?_)
      refine C_istore (D := mdX8_key) (pc' := 46) (ls' := [(4, .int c7), (0, .ref (kB C + l0)), (1, .int l1), (2, .int l2), (3, .int l3)]) dX8_key_44 rfl (by decide) rfl ?_
      refine C_iload_n (D := mdX8_key) (pc' := 47) (x := l2) dX8_key_46 rfl 3 rfl ?_
      refine C_bipush (D := mdX8_key) (pc' := 49) (v := (-9)) dX8_key_47 rfl (by decide) ?_
      refine C_icmp_ne (D := mdX8_key) (pc' := 52) (tgt := 56) dX8_key_49 (by decide) rfl ?_ ?_
      · refine C_aload_n (D := mdX8_key) (pc' := 57) (x := kB C + l0) dX8_key_56 rfl 1 rfl ?_
        refine C_getR (D := mdX8_key) (pc' := 60) (p := l0) f_X8_55 rfl dX8_key_57 rfl (fun words8 => ?_)
        refine C_iload (D := mdX8_key) (pc' := 62) (x := c7) dX8_key_60 rfl 0 rfl ?_
        refine C_aI (D := mdX8_key) (pc' := 63) (p := words8) dX8_key_62 rfl (fun x9 => ?_)
        refine C_ldc (D := mdX8_key) (pc' := 65) (v := 1048576) c_X8_47 dX8_key_63 rfl ?_
        refine C_idiv (D := mdX8_key) (pc' := 66) dX8_key_65 rfl (by decide) ?_
        refine C_aload_n (D := mdX8_key) (pc' := 67) (x := kB C + l0) dX8_key_66 rfl 1 rfl ?_
        refine C_getR (D := mdX8_key) (pc' := 70) (p := l0) f_X8_55 rfl dX8_key_67 rfl (fun words10 => ?_)
        refine C_iload_n (D := mdX8_key) (pc' := 71) (x := l2) dX8_key_70 rfl 3 rfl ?_
        refine C_aI (D := mdX8_key) (pc' := 72) (p := words10) dX8_key_71 rfl (fun x11 => ?_)
        refine C_ldc (D := mdX8_key) (pc' := 74) (v := 1048576) c_X8_47 dX8_key_72 rfl ?_
        refine C_idiv (D := mdX8_key) (pc' := 75) dX8_key_74 rfl (by decide) ?_
        refine C_isub (D := mdX8_key) (pc' := 76) dX8_key_75 rfl ?_
        exact C_sub [1, 2, 3, 4, 0] rfl (p_X8_key_J76 C l0 l1 l2 l3 c7 ((((x9 / 1048576)) - ((x11 / 1048576)))) k5 hk5)
      · refine C_iconst (D := mdX8_key) (pc' := 53) (v := 1) dX8_key_52 rfl (by decide) ?_
        refine C_goto (D := mdX8_key) (pc' := 76) dX8_key_53 (by decide) ?_
        exact C_sub [1, 2, 3, 4, 0] rfl (p_X8_key_J76 C l0 l1 l2 l3 c7 1 k5 hk5)
set_option maxHeartbeats 2000000 in
set_option maxRecDepth 20000 in
theorem i_X8_key (C : KX) (l0 : Nat) (l1 : Int32) : Imp C yX8_key cX8_key 6 (some .int) 1 23 rvI [.ref (kB C + l0), .int l1] (m_X8_key l0 l1) := by
  refine Imp.of (by decide) (Nat.le_of_ble_eq_true rfl) [(0, .ref (kB C + l0)), (1, .int l1)] rfl ?_
  show Cmp C mdX8_key (QM rvI) 0 [(0, .ref (kB C + l0)), (1, .int l1)] [] (m_X8_key l0 l1)
  unfold m_X8_key
  refine C_bipush (D := mdX8_key) (pc' := 2) (v := (-9)) dX8_key_0 rfl (by decide) ?_
  refine C_istore_n (D := mdX8_key) (pc' := 3) (ls' := [(2, .int (-9)), (0, .ref (kB C + l0)), (1, .int l1)]) dX8_key_2 rfl rfl (by decide) rfl ?_
  refine C_iconst (D := mdX8_key) (pc' := 4) (v := 0) dX8_key_3 rfl (by decide) ?_
  refine C_istore_n (D := mdX8_key) (pc' := 5) (ls' := [(3, .int 0), (2, .int (-9)), (0, .ref (kB C + l0)), (1, .int l1)]) dX8_key_4 rfl rfl (by decide) rfl ?_
  exact C_sub [2, 3, 1, 0] rfl (C_loop (fun s => [(0, .ref (kB C + l0)), (1, .int l1), (2, .int s.1), (3, .int s.2)]) (fun k hk s => p_X8_key_B5 C l0 l1  k hk s.1 s.2) FU ((-9), 0))

-- StandingQueriesModel.isAsked(I)Z
theorem dX8_isAsked_0 : decode cX8_isAsked 0 = .ok (.aload_n 0, 1) := by decide +kernel
theorem dX8_isAsked_1 : decode cX8_isAsked 1 = .ok (.iload_n 1, 1) := by decide +kernel
theorem dX8_isAsked_2 : decode cX8_isAsked 2 = .ok (.invokevirtual 208, 3) := by decide +kernel
theorem dX8_isAsked_5 : decode cX8_isAsked 5 = .ok (.istore_n 2, 1) := by decide +kernel
theorem dX8_isAsked_6 : decode cX8_isAsked 6 = .ok (.iload_n 2, 1) := by decide +kernel
theorem dX8_isAsked_7 : decode cX8_isAsked 7 = .ok (.bipush (-9), 2) := by decide +kernel
theorem dX8_isAsked_9 : decode cX8_isAsked 9 = .ok (.if_icmp .eq 17, 3) := by decide +kernel
theorem dX8_isAsked_12 : decode cX8_isAsked 12 = .ok (.aload_n 0, 1) := by decide +kernel
theorem dX8_isAsked_13 : decode cX8_isAsked 13 = .ok (.iload_n 2, 1) := by decide +kernel
theorem dX8_isAsked_14 : decode cX8_isAsked 14 = .ok (.aload_n 0, 1) := by decide +kernel
theorem dX8_isAsked_15 : decode cX8_isAsked 15 = .ok (.getfield 87, 3) := by decide +kernel
theorem dX8_isAsked_18 : decode cX8_isAsked 18 = .ok (.iconst 1, 1) := by decide +kernel
theorem dX8_isAsked_19 : decode cX8_isAsked 19 = .ok (.iaload, 1) := by decide +kernel
theorem dX8_isAsked_20 : decode cX8_isAsked 20 = .ok (.invokevirtual 198, 3) := by decide +kernel
theorem dX8_isAsked_23 : decode cX8_isAsked 23 = .ok (.ifCond .le 7, 3) := by decide +kernel
theorem dX8_isAsked_26 : decode cX8_isAsked 26 = .ok (.iconst 1, 1) := by decide +kernel
theorem dX8_isAsked_27 : decode cX8_isAsked 27 = .ok (.goto 4, 3) := by decide +kernel
theorem dX8_isAsked_30 : decode cX8_isAsked 30 = .ok (.iconst 0, 1) := by decide +kernel
theorem dX8_isAsked_31 : decode cX8_isAsked 31 = .ok (.ireturn, 1) := by decide +kernel
abbrev mdX8_isAsked : MD := (cX8_isAsked, RX8, 3, (some .boolean), yX8_isAsked.name, 2, 48, eT)
set_option maxHeartbeats 2000000 in
set_option maxRecDepth 20000 in
theorem p_X8_isAsked_J26 (C : KX)   : Cmp C mdX8_isAsked (QM rvI) 26 [] [] (m_X8_isAsked_J26 ) := by
  unfold m_X8_isAsked_J26
  refine C_iconst (D := mdX8_isAsked) (pc' := 27) (v := 1) dX8_isAsked_26 rfl (by decide) ?_
  refine C_goto (D := mdX8_isAsked) (pc' := 31) dX8_isAsked_27 (by decide) ?_
  exact C_zret rfl dX8_isAsked_31
set_option maxHeartbeats 2000000 in
set_option maxRecDepth 20000 in
theorem i_X8_isAsked (C : KX) (l0 : Nat) (l1 : Int32) : Imp C yX8_isAsked cX8_isAsked 3 (some .boolean) 2 48 rvI [.ref (kB C + l0), .int l1] (m_X8_isAsked l0 l1) := by
  refine Imp.of (by decide) (Nat.le_of_ble_eq_true rfl) [(0, .ref (kB C + l0)), (1, .int l1)] rfl ?_
  show Cmp C mdX8_isAsked (QM rvI) 0 [(0, .ref (kB C + l0)), (1, .int l1)] [] (m_X8_isAsked l0 l1)
  unfold m_X8_isAsked
  refine C_aload_n (D := mdX8_isAsked) (pc' := 1) (x := kB C + l0) dX8_isAsked_0 rfl 0 rfl ?_
  refine C_iload_n (D := mdX8_isAsked) (pc' := 2) (x := l1) dX8_isAsked_1 rfl 1 rfl ?_
  refine C_callV (D := mdX8_isAsked) (pc' := 5) (p := l0) (st := []) [.int l1] v_X8_208 (i_X8_key C l0 l1) dX8_isAsked_2 rfl rfl rfl (Nat.le_of_ble_eq_true rfl) (by decide) (by decide) (fun c1 => ?_)
  refine C_istore_n (D := mdX8_isAsked) (pc' := 6) (ls' := [(2, .int c1), (0, .ref (kB C + l0)), (1, .int l1)]) dX8_isAsked_5 rfl rfl (by decide) rfl ?_
  refine C_iload_n (D := mdX8_isAsked) (pc' := 7) (x := c1) dX8_isAsked_6 rfl 0 rfl ?_
  refine C_bipush (D := mdX8_isAsked) (pc' := 9) (v := (-9)) dX8_isAsked_7 rfl (by decide) ?_
  refine C_icmp_eq (D := mdX8_isAsked) (pc' := 12) (tgt := 26) dX8_isAsked_9 (by decide) rfl ?_ ?_
  · exact C_sub [] rfl (p_X8_isAsked_J26 C )
  · refine C_aload_n (D := mdX8_isAsked) (pc' := 13) (x := kB C + l0) dX8_isAsked_12 rfl 1 rfl ?_
    refine C_iload_n (D := mdX8_isAsked) (pc' := 14) (x := c1) dX8_isAsked_13 rfl 0 rfl ?_
    refine C_aload_n (D := mdX8_isAsked) (pc' := 15) (x := kB C + l0) dX8_isAsked_14 rfl 1 rfl ?_
    refine C_getR (D := mdX8_isAsked) (pc' := 18) (p := l0) f_X8_87 rfl dX8_isAsked_15 rfl (fun now2 => ?_)
    refine C_iconst (D := mdX8_isAsked) (pc' := 19) (v := 1) dX8_isAsked_18 rfl (by decide) ?_
    refine C_aI (D := mdX8_isAsked) (pc' := 20) (p := now2) dX8_isAsked_19 rfl (fun x3 => ?_)
    refine C_callV (D := mdX8_isAsked) (pc' := 23) (p := l0) (st := []) [.int c1, .int x3] v_X8_198 (i_X8_hits C l0 c1 x3) dX8_isAsked_20 rfl rfl rfl (Nat.le_of_ble_eq_true rfl) (by decide) (by decide) (fun c4 => ?_)
    refine C_if_le (D := mdX8_isAsked) (pc' := 26) (tgt := 30) dX8_isAsked_23 (by decide) rfl ?_ ?_
    · refine C_iconst (D := mdX8_isAsked) (pc' := 31) (v := 0) dX8_isAsked_30 rfl (by decide) ?_
      exact C_zret rfl dX8_isAsked_31
    · exact C_sub [] rfl (p_X8_isAsked_J26 C )

-- StandingQueriesModel.query(II)I
theorem dX8_query_0 : decode cX8_query 0 = .ok (.aload_n 0, 1) := by decide +kernel
theorem dX8_query_1 : decode cX8_query 1 = .ok (.iconst 0, 1) := by decide +kernel
theorem dX8_query_2 : decode cX8_query 2 = .ok (.putfield 1, 3) := by decide +kernel
theorem dX8_query_5 : decode cX8_query 5 = .ok (.aload_n 0, 1) := by decide +kernel
theorem dX8_query_6 : decode cX8_query 6 = .ok (.iload_n 1, 1) := by decide +kernel
theorem dX8_query_7 : decode cX8_query 7 = .ok (.invokevirtual 183, 3) := by decide +kernel
theorem dX8_query_10 : decode cX8_query 10 = .ok (.ifCond .ne 5, 3) := by decide +kernel
theorem dX8_query_13 : decode cX8_query 13 = .ok (.iconst (-1), 1) := by decide +kernel
theorem dX8_query_14 : decode cX8_query 14 = .ok (.ireturn, 1) := by decide +kernel
theorem dX8_query_15 : decode cX8_query 15 = .ok (.aload_n 0, 1) := by decide +kernel
theorem dX8_query_16 : decode cX8_query 16 = .ok (.invokevirtual 211, 3) := by decide +kernel
theorem dX8_query_19 : decode cX8_query 19 = .ok (.iload_n 2, 1) := by decide +kernel
theorem dX8_query_20 : decode cX8_query 20 = .ok (.tableswitch 91 0 4 #[36, 45, 65, 71, 77], 36) := by decide +kernel
theorem dX8_query_56 : decode cX8_query 56 = .ok (.aload_n 0, 1) := by decide +kernel
theorem dX8_query_57 : decode cX8_query 57 = .ok (.getfield 87, 3) := by decide +kernel
theorem dX8_query_60 : decode cX8_query 60 = .ok (.iload_n 1, 1) := by decide +kernel
theorem dX8_query_61 : decode cX8_query 61 = .ok (.invokestatic 61, 3) := by decide +kernel
theorem dX8_query_64 : decode cX8_query 64 = .ok (.ireturn, 1) := by decide +kernel
theorem dX8_query_65 : decode cX8_query 65 = .ok (.aload_n 0, 1) := by decide +kernel
theorem dX8_query_66 : decode cX8_query 66 = .ok (.iload_n 1, 1) := by decide +kernel
theorem dX8_query_67 : decode cX8_query 67 = .ok (.aload_n 0, 1) := by decide +kernel
theorem dX8_query_68 : decode cX8_query 68 = .ok (.getfield 87, 3) := by decide +kernel
theorem dX8_query_71 : decode cX8_query 71 = .ok (.iconst 1, 1) := by decide +kernel
theorem dX8_query_72 : decode cX8_query 72 = .ok (.iaload, 1) := by decide +kernel
theorem dX8_query_73 : decode cX8_query 73 = .ok (.invokevirtual 205, 3) := by decide +kernel
theorem dX8_query_76 : decode cX8_query 76 = .ok (.ifCond .eq 7, 3) := by decide +kernel
theorem dX8_query_79 : decode cX8_query 79 = .ok (.iconst 1, 1) := by decide +kernel
theorem dX8_query_80 : decode cX8_query 80 = .ok (.goto 4, 3) := by decide +kernel
theorem dX8_query_83 : decode cX8_query 83 = .ok (.iconst 0, 1) := by decide +kernel
theorem dX8_query_84 : decode cX8_query 84 = .ok (.ireturn, 1) := by decide +kernel
theorem dX8_query_85 : decode cX8_query 85 = .ok (.aload_n 0, 1) := by decide +kernel
theorem dX8_query_86 : decode cX8_query 86 = .ok (.iload_n 1, 1) := by decide +kernel
theorem dX8_query_87 : decode cX8_query 87 = .ok (.invokevirtual 214, 3) := by decide +kernel
theorem dX8_query_90 : decode cX8_query 90 = .ok (.ireturn, 1) := by decide +kernel
theorem dX8_query_91 : decode cX8_query 91 = .ok (.aload_n 0, 1) := by decide +kernel
theorem dX8_query_92 : decode cX8_query 92 = .ok (.iload_n 1, 1) := by decide +kernel
theorem dX8_query_93 : decode cX8_query 93 = .ok (.invokevirtual 208, 3) := by decide +kernel
theorem dX8_query_96 : decode cX8_query 96 = .ok (.ireturn, 1) := by decide +kernel
theorem dX8_query_97 : decode cX8_query 97 = .ok (.aload_n 0, 1) := by decide +kernel
theorem dX8_query_98 : decode cX8_query 98 = .ok (.iload_n 1, 1) := by decide +kernel
theorem dX8_query_99 : decode cX8_query 99 = .ok (.invokevirtual 217, 3) := by decide +kernel
theorem dX8_query_102 : decode cX8_query 102 = .ok (.ifCond .eq 7, 3) := by decide +kernel
theorem dX8_query_105 : decode cX8_query 105 = .ok (.iconst 1, 1) := by decide +kernel
theorem dX8_query_106 : decode cX8_query 106 = .ok (.goto 4, 3) := by decide +kernel
theorem dX8_query_109 : decode cX8_query 109 = .ok (.iconst 0, 1) := by decide +kernel
theorem dX8_query_110 : decode cX8_query 110 = .ok (.ireturn, 1) := by decide +kernel
theorem dX8_query_111 : decode cX8_query 111 = .ok (.iconst (-1), 1) := by decide +kernel
theorem dX8_query_112 : decode cX8_query 112 = .ok (.ireturn, 1) := by decide +kernel
abbrev mdX8_query : MD := (cX8_query, RX8, 3, (some .int), yX8_query.name, 5, 120, eT)
set_option maxHeartbeats 2000000 in
set_option maxRecDepth 20000 in
theorem i_X8_query (C : KX) (l0 : Nat) (l1 : Int32) (l2 : Int32) : Imp C yX8_query cX8_query 3 (some .int) 5 120 rvI [.ref (kB C + l0), .int l1, .int l2] (m_X8_query l0 l1 l2) := by
  refine Imp.of (by decide) (Nat.le_of_ble_eq_true rfl) [(0, .ref (kB C + l0)), (1, .int l1), (2, .int l2)] rfl ?_
  show Cmp C mdX8_query (QM rvI) 0 [(0, .ref (kB C + l0)), (1, .int l1), (2, .int l2)] [] (m_X8_query l0 l1 l2)
  unfold m_X8_query
  refine C_aload_n (D := mdX8_query) (pc' := 1) (x := kB C + l0) dX8_query_0 rfl 0 rfl ?_
  refine C_iconst (D := mdX8_query) (pc' := 2) (v := 0) dX8_query_1 rfl (by decide) ?_
  refine C_putI (D := mdX8_query) (pc' := 5) (p := l0) f_X8_1 rfl dX8_query_2 rfl ?_
  refine C_aload_n (D := mdX8_query) (pc' := 6) (x := kB C + l0) dX8_query_5 rfl 0 rfl ?_
  refine C_iload_n (D := mdX8_query) (pc' := 7) (x := l1) dX8_query_6 rfl 1 rfl ?_
  refine C_callV (D := mdX8_query) (pc' := 10) (p := l0) (st := []) [.int l1] v_X8_183 (i_X8_isQuery C l0 l1) dX8_query_7 rfl rfl rfl (Nat.le_of_ble_eq_true rfl) (by decide) (by decide) (fun c1 => ?_)
  refine C_if_ne (D := mdX8_query) (pc' := 13) (tgt := 15) dX8_query_10 (by decide) rfl ?_ ?_
  · refine C_aload_n (D := mdX8_query) (pc' := 16) (x := kB C + l0) dX8_query_15 rfl 0 rfl ?_
    refine C_callV (D := mdX8_query) (pc' := 19) (p := l0) (st := []) [] v_X8_211 (i_X8_layEnds C l0) dX8_query_16 rfl rfl rfl (Nat.le_of_ble_eq_true rfl) (by decide) (by decide) (fun _ => ?_)
    refine C_iload_n (D := mdX8_query) (pc' := 20) (x := l2) dX8_query_19 rfl 2 rfl ?_
    refine C_tcase (D := mdX8_query) (c := 0) 0 (by decide) (tgt := 56) dX8_query_20 (by decide) (by decide) rfl (by decide) ?_ (fun h0 => ?_)
    · refine C_aload_n (D := mdX8_query) (pc' := 57) (x := kB C + l0) dX8_query_56 rfl 0 rfl ?_
      refine C_getR (D := mdX8_query) (pc' := 60) (p := l0) f_X8_87 rfl dX8_query_57 rfl (fun now2 => ?_)
      refine C_iload_n (D := mdX8_query) (pc' := 61) (x := l1) dX8_query_60 rfl 1 rfl ?_
      refine C_callS (D := mdX8_query) (pc' := 64) (st := []) [.ref (kB C + now2), .int l1] s_X8_61 (i_X8_parts C now2 l1) dX8_query_61 rfl rfl rfl (Nat.le_of_ble_eq_true rfl) (by decide) (by decide) (fun c3 => ?_)
      exact C_iret rfl dX8_query_64
    refine C_tcase (D := mdX8_query) (c := 1) 1 (by decide) (tgt := 65) dX8_query_20 (by decide) (by decide) rfl (by decide) ?_ (fun h1 => ?_)
    · refine C_aload_n (D := mdX8_query) (pc' := 66) (x := kB C + l0) dX8_query_65 rfl 0 rfl ?_
      refine C_iload_n (D := mdX8_query) (pc' := 67) (x := l1) dX8_query_66 rfl 1 rfl ?_
      refine C_aload_n (D := mdX8_query) (pc' := 68) (x := kB C + l0) dX8_query_67 rfl 0 rfl ?_
      refine C_getR (D := mdX8_query) (pc' := 71) (p := l0) f_X8_87 rfl dX8_query_68 rfl (fun now4 => ?_)
      refine C_iconst (D := mdX8_query) (pc' := 72) (v := 1) dX8_query_71 rfl (by decide) ?_
      refine C_aI (D := mdX8_query) (pc' := 73) (p := now4) dX8_query_72 rfl (fun x5 => ?_)
      refine C_callV (D := mdX8_query) (pc' := 76) (p := l0) (st := []) [.int l1, .int x5] v_X8_205 (i_X8_matches C l0 l1 x5) dX8_query_73 rfl rfl rfl (Nat.le_of_ble_eq_true rfl) (by decide) (by decide) (fun c6 => ?_)
      refine C_if_eq (D := mdX8_query) (pc' := 79) (tgt := 83) dX8_query_76 (by decide) rfl ?_ ?_
      · refine C_iconst (D := mdX8_query) (pc' := 84) (v := 0) dX8_query_83 rfl (by decide) ?_
        exact C_iret rfl dX8_query_84
      · refine C_iconst (D := mdX8_query) (pc' := 80) (v := 1) dX8_query_79 rfl (by decide) ?_
        refine C_goto (D := mdX8_query) (pc' := 84) dX8_query_80 (by decide) ?_
        exact C_iret rfl dX8_query_84
    refine C_tcase (D := mdX8_query) (c := 2) 2 (by decide) (tgt := 85) dX8_query_20 (by decide) (by decide) rfl (by decide) ?_ (fun h2 => ?_)
    · refine C_aload_n (D := mdX8_query) (pc' := 86) (x := kB C + l0) dX8_query_85 rfl 0 rfl ?_
      refine C_iload_n (D := mdX8_query) (pc' := 87) (x := l1) dX8_query_86 rfl 1 rfl ?_
      refine C_callV (D := mdX8_query) (pc' := 90) (p := l0) (st := []) [.int l1] v_X8_214 (i_X8_since C l0 l1) dX8_query_87 rfl rfl rfl (Nat.le_of_ble_eq_true rfl) (by decide) (by decide) (fun c7 => ?_)
      exact C_iret rfl dX8_query_90
    refine C_tcase (D := mdX8_query) (c := 3) 3 (by decide) (tgt := 91) dX8_query_20 (by decide) (by decide) rfl (by decide) ?_ (fun h3 => ?_)
    · refine C_aload_n (D := mdX8_query) (pc' := 92) (x := kB C + l0) dX8_query_91 rfl 0 rfl ?_
      refine C_iload_n (D := mdX8_query) (pc' := 93) (x := l1) dX8_query_92 rfl 1 rfl ?_
      refine C_callV (D := mdX8_query) (pc' := 96) (p := l0) (st := []) [.int l1] v_X8_208 (i_X8_key C l0 l1) dX8_query_93 rfl rfl rfl (Nat.le_of_ble_eq_true rfl) (by decide) (by decide) (fun c8 => ?_)
      exact C_iret rfl dX8_query_96
    refine C_tcase (D := mdX8_query) (c := 4) 4 (by decide) (tgt := 97) dX8_query_20 (by decide) (by decide) rfl (by decide) ?_ (fun h4 => ?_)
    · refine C_aload_n (D := mdX8_query) (pc' := 98) (x := kB C + l0) dX8_query_97 rfl 0 rfl ?_
      refine C_iload_n (D := mdX8_query) (pc' := 99) (x := l1) dX8_query_98 rfl 1 rfl ?_
      refine C_callV (D := mdX8_query) (pc' := 102) (p := l0) (st := []) [.int l1] v_X8_217 (i_X8_isAsked C l0 l1) dX8_query_99 rfl rfl rfl (Nat.le_of_ble_eq_true rfl) (by decide) (by decide) (fun c9 => ?_)
      refine C_if_eq (D := mdX8_query) (pc' := 105) (tgt := 109) dX8_query_102 (by decide) rfl ?_ ?_
      · refine C_iconst (D := mdX8_query) (pc' := 110) (v := 0) dX8_query_109 rfl (by decide) ?_
        exact C_iret rfl dX8_query_110
      · refine C_iconst (D := mdX8_query) (pc' := 106) (v := 1) dX8_query_105 rfl (by decide) ?_
        refine C_goto (D := mdX8_query) (pc' := 110) dX8_query_106 (by decide) ?_
        exact C_iret rfl dX8_query_110
    refine C_tdef (D := mdX8_query) (tgt := 111) dX8_query_20 (by omega) (by decide) ?_
    refine C_iconst (D := mdX8_query) (pc' := 112) (v := (-1)) dX8_query_111 rfl (by decide) ?_
    exact C_iret rfl dX8_query_112
  · refine C_iconst (D := mdX8_query) (pc' := 14) (v := (-1)) dX8_query_13 rfl (by decide) ?_
    exact C_iret rfl dX8_query_14

-- StandingQueriesModel.part(III)I
theorem dX8_part_0 : decode cX8_part 0 = .ok (.aload_n 0, 1) := by decide +kernel
theorem dX8_part_1 : decode cX8_part 1 = .ok (.iconst 0, 1) := by decide +kernel
theorem dX8_part_2 : decode cX8_part 2 = .ok (.putfield 1, 3) := by decide +kernel
theorem dX8_part_5 : decode cX8_part 5 = .ok (.aload_n 0, 1) := by decide +kernel
theorem dX8_part_6 : decode cX8_part 6 = .ok (.iload_n 1, 1) := by decide +kernel
theorem dX8_part_7 : decode cX8_part 7 = .ok (.invokevirtual 183, 3) := by decide +kernel
theorem dX8_part_10 : decode cX8_part 10 = .ok (.ifCond .eq 23, 3) := by decide +kernel
theorem dX8_part_13 : decode cX8_part 13 = .ok (.iload_n 2, 1) := by decide +kernel
theorem dX8_part_14 : decode cX8_part 14 = .ok (.i2l, 1) := by decide +kernel
theorem dX8_part_15 : decode cX8_part 15 = .ok (.lconst 0, 1) := by decide +kernel
theorem dX8_part_16 : decode cX8_part 16 = .ok (.aload_n 0, 1) := by decide +kernel
theorem dX8_part_17 : decode cX8_part 17 = .ok (.getfield 87, 3) := by decide +kernel
theorem dX8_part_20 : decode cX8_part 20 = .ok (.iload_n 1, 1) := by decide +kernel
theorem dX8_part_21 : decode cX8_part 21 = .ok (.invokestatic 61, 3) := by decide +kernel
theorem dX8_part_24 : decode cX8_part 24 = .ok (.iconst 1, 1) := by decide +kernel
theorem dX8_part_25 : decode cX8_part 25 = .ok (.isub, 1) := by decide +kernel
theorem dX8_part_26 : decode cX8_part 26 = .ok (.i2l, 1) := by decide +kernel
theorem dX8_part_27 : decode cX8_part 27 = .ok (.invokestatic 9, 3) := by decide +kernel
theorem dX8_part_30 : decode cX8_part 30 = .ok (.ifCond .ne 5, 3) := by decide +kernel
theorem dX8_part_33 : decode cX8_part 33 = .ok (.iconst (-1), 1) := by decide +kernel
theorem dX8_part_34 : decode cX8_part 34 = .ok (.ireturn, 1) := by decide +kernel
theorem dX8_part_35 : decode cX8_part 35 = .ok (.aload_n 0, 1) := by decide +kernel
theorem dX8_part_36 : decode cX8_part 36 = .ok (.getfield 87, 3) := by decide +kernel
theorem dX8_part_39 : decode cX8_part 39 = .ok (.iload_n 1, 1) := by decide +kernel
theorem dX8_part_40 : decode cX8_part 40 = .ok (.iload_n 2, 1) := by decide +kernel
theorem dX8_part_41 : decode cX8_part 41 = .ok (.iconst 0, 1) := by decide +kernel
theorem dX8_part_42 : decode cX8_part 42 = .ok (.invokestatic 65, 3) := by decide +kernel
theorem dX8_part_45 : decode cX8_part 45 = .ok (.iconst 2, 1) := by decide +kernel
theorem dX8_part_46 : decode cX8_part 46 = .ok (.if_icmp .ne 7, 3) := by decide +kernel
theorem dX8_part_49 : decode cX8_part 49 = .ok (.iconst 1, 1) := by decide +kernel
theorem dX8_part_50 : decode cX8_part 50 = .ok (.goto 4, 3) := by decide +kernel
theorem dX8_part_53 : decode cX8_part 53 = .ok (.iconst 0, 1) := by decide +kernel
theorem dX8_part_54 : decode cX8_part 54 = .ok (.istore 4, 2) := by decide +kernel
theorem dX8_part_56 : decode cX8_part 56 = .ok (.aload_n 0, 1) := by decide +kernel
theorem dX8_part_57 : decode cX8_part 57 = .ok (.invokevirtual 211, 3) := by decide +kernel
theorem dX8_part_60 : decode cX8_part 60 = .ok (.iload_n 3, 1) := by decide +kernel
theorem dX8_part_61 : decode cX8_part 61 = .ok (.tableswitch 128 0 4 #[35, 46, 61, 86, 107], 35) := by decide +kernel
theorem dX8_part_96 : decode cX8_part 96 = .ok (.aload_n 0, 1) := by decide +kernel
theorem dX8_part_97 : decode cX8_part 97 = .ok (.getfield 87, 3) := by decide +kernel
theorem dX8_part_100 : decode cX8_part 100 = .ok (.iload_n 1, 1) := by decide +kernel
theorem dX8_part_101 : decode cX8_part 101 = .ok (.iload_n 2, 1) := by decide +kernel
theorem dX8_part_102 : decode cX8_part 102 = .ok (.iconst 0, 1) := by decide +kernel
theorem dX8_part_103 : decode cX8_part 103 = .ok (.invokestatic 65, 3) := by decide +kernel
theorem dX8_part_106 : decode cX8_part 106 = .ok (.ireturn, 1) := by decide +kernel
theorem dX8_part_107 : decode cX8_part 107 = .ok (.aload_n 0, 1) := by decide +kernel
theorem dX8_part_108 : decode cX8_part 108 = .ok (.aload_n 0, 1) := by decide +kernel
theorem dX8_part_109 : decode cX8_part 109 = .ok (.getfield 87, 3) := by decide +kernel
theorem dX8_part_112 : decode cX8_part 112 = .ok (.iload_n 1, 1) := by decide +kernel
theorem dX8_part_113 : decode cX8_part 113 = .ok (.iload_n 2, 1) := by decide +kernel
theorem dX8_part_114 : decode cX8_part 114 = .ok (.iconst 1, 1) := by decide +kernel
theorem dX8_part_115 : decode cX8_part 115 = .ok (.invokestatic 65, 3) := by decide +kernel
theorem dX8_part_118 : decode cX8_part 118 = .ok (.invokevirtual 195, 3) := by decide +kernel
theorem dX8_part_121 : decode cX8_part 121 = .ok (.ireturn, 1) := by decide +kernel
theorem dX8_part_122 : decode cX8_part 122 = .ok (.iload 4, 2) := by decide +kernel
theorem dX8_part_124 : decode cX8_part 124 = .ok (.ifCond .eq 20, 3) := by decide +kernel
theorem dX8_part_127 : decode cX8_part 127 = .ok (.aload_n 0, 1) := by decide +kernel
theorem dX8_part_128 : decode cX8_part 128 = .ok (.aload_n 0, 1) := by decide +kernel
theorem dX8_part_129 : decode cX8_part 129 = .ok (.getfield 87, 3) := by decide +kernel
theorem dX8_part_132 : decode cX8_part 132 = .ok (.iload_n 1, 1) := by decide +kernel
theorem dX8_part_133 : decode cX8_part 133 = .ok (.iload_n 2, 1) := by decide +kernel
theorem dX8_part_134 : decode cX8_part 134 = .ok (.iconst 2, 1) := by decide +kernel
theorem dX8_part_135 : decode cX8_part 135 = .ok (.invokestatic 65, 3) := by decide +kernel
theorem dX8_part_138 : decode cX8_part 138 = .ok (.invokevirtual 195, 3) := by decide +kernel
theorem dX8_part_141 : decode cX8_part 141 = .ok (.goto 5, 3) := by decide +kernel
theorem dX8_part_144 : decode cX8_part 144 = .ok (.bipush (-9), 2) := by decide +kernel
theorem dX8_part_146 : decode cX8_part 146 = .ok (.ireturn, 1) := by decide +kernel
theorem dX8_part_147 : decode cX8_part 147 = .ok (.iload 4, 2) := by decide +kernel
theorem dX8_part_149 : decode cX8_part 149 = .ok (.ifCond .eq 16, 3) := by decide +kernel
theorem dX8_part_152 : decode cX8_part 152 = .ok (.aload_n 0, 1) := by decide +kernel
theorem dX8_part_153 : decode cX8_part 153 = .ok (.getfield 87, 3) := by decide +kernel
theorem dX8_part_156 : decode cX8_part 156 = .ok (.iload_n 1, 1) := by decide +kernel
theorem dX8_part_157 : decode cX8_part 157 = .ok (.iload_n 2, 1) := by decide +kernel
theorem dX8_part_158 : decode cX8_part 158 = .ok (.iconst 3, 1) := by decide +kernel
theorem dX8_part_159 : decode cX8_part 159 = .ok (.invokestatic 65, 3) := by decide +kernel
theorem dX8_part_162 : decode cX8_part 162 = .ok (.goto 5, 3) := by decide +kernel
theorem dX8_part_165 : decode cX8_part 165 = .ok (.bipush (-9), 2) := by decide +kernel
theorem dX8_part_167 : decode cX8_part 167 = .ok (.ireturn, 1) := by decide +kernel
theorem dX8_part_168 : decode cX8_part 168 = .ok (.aload_n 0, 1) := by decide +kernel
theorem dX8_part_169 : decode cX8_part 169 = .ok (.iload_n 1, 1) := by decide +kernel
theorem dX8_part_170 : decode cX8_part 170 = .ok (.iload_n 2, 1) := by decide +kernel
theorem dX8_part_171 : decode cX8_part 171 = .ok (.aload_n 0, 1) := by decide +kernel
theorem dX8_part_172 : decode cX8_part 172 = .ok (.getfield 87, 3) := by decide +kernel
theorem dX8_part_175 : decode cX8_part 175 = .ok (.iconst 1, 1) := by decide +kernel
theorem dX8_part_176 : decode cX8_part 176 = .ok (.iaload, 1) := by decide +kernel
theorem dX8_part_177 : decode cX8_part 177 = .ok (.invokevirtual 201, 3) := by decide +kernel
theorem dX8_part_180 : decode cX8_part 180 = .ok (.ifCond .eq 7, 3) := by decide +kernel
theorem dX8_part_183 : decode cX8_part 183 = .ok (.iconst 1, 1) := by decide +kernel
theorem dX8_part_184 : decode cX8_part 184 = .ok (.goto 4, 3) := by decide +kernel
theorem dX8_part_187 : decode cX8_part 187 = .ok (.iconst 0, 1) := by decide +kernel
theorem dX8_part_188 : decode cX8_part 188 = .ok (.ireturn, 1) := by decide +kernel
theorem dX8_part_189 : decode cX8_part 189 = .ok (.iconst (-1), 1) := by decide +kernel
theorem dX8_part_190 : decode cX8_part 190 = .ok (.ireturn, 1) := by decide +kernel
abbrev mdX8_part : MD := (cX8_part, RX8, 5, (some .int), yX8_part.name, 3, 74, eT)
set_option maxHeartbeats 2000000 in
set_option maxRecDepth 20000 in
theorem p_X8_part_J54 (C : KX) (l0 : Nat) (l1 : Int32) (l2 : Int32) (l3 : Int32) (s0 : Int32)  : Cmp C mdX8_part (QM rvI) 54 [(0, .ref (kB C + l0)), (1, .int l1), (2, .int l2), (3, .int l3)] [.int s0] (m_X8_part_J54 l0 l1 l2 l3 s0) := by
  unfold m_X8_part_J54
  refine C_istore (D := mdX8_part) (pc' := 56) (ls' := [(4, .int s0), (0, .ref (kB C + l0)), (1, .int l1), (2, .int l2), (3, .int l3)]) dX8_part_54 rfl (by decide) rfl ?_
  refine C_aload_n (D := mdX8_part) (pc' := 57) (x := kB C + l0) dX8_part_56 rfl 1 rfl ?_
  refine C_callV (D := mdX8_part) (pc' := 60) (p := l0) (st := []) [] v_X8_211 (i_X8_layEnds C l0) dX8_part_57 rfl rfl rfl (Nat.le_of_ble_eq_true rfl) (by decide) (by decide) (fun _ => ?_)
  refine C_iload_n (D := mdX8_part) (pc' := 61) (x := l3) dX8_part_60 rfl 4 rfl ?_
  refine C_tcase (D := mdX8_part) (c := 0) 0 (by decide) (tgt := 96) dX8_part_61 (by decide) (by decide) rfl (by decide) ?_ (fun h0 => ?_)
  · refine C_aload_n (D := mdX8_part) (pc' := 97) (x := kB C + l0) dX8_part_96 rfl 1 rfl ?_
    refine C_getR (D := mdX8_part) (pc' := 100) (p := l0) f_X8_87 rfl dX8_part_97 rfl (fun now7 => ?_)
    refine C_iload_n (D := mdX8_part) (pc' := 101) (x := l1) dX8_part_100 rfl 2 rfl ?_
    refine C_iload_n (D := mdX8_part) (pc' := 102) (x := l2) dX8_part_101 rfl 3 rfl ?_
    refine C_iconst (D := mdX8_part) (pc' := 103) (v := 0) dX8_part_102 rfl (by decide) ?_
    refine C_callS (D := mdX8_part) (pc' := 106) (st := []) [.ref (kB C + now7), .int l1, .int l2, .int 0] s_X8_65 (i_X8_of C now7 l1 l2 0) dX8_part_103 rfl rfl rfl (Nat.le_of_ble_eq_true rfl) (by decide) (by decide) (fun c8 => ?_)
    exact C_iret rfl dX8_part_106
  refine C_tcase (D := mdX8_part) (c := 1) 1 (by decide) (tgt := 107) dX8_part_61 (by decide) (by decide) rfl (by decide) ?_ (fun h1 => ?_)
  · refine C_aload_n (D := mdX8_part) (pc' := 108) (x := kB C + l0) dX8_part_107 rfl 1 rfl ?_
    refine C_aload_n (D := mdX8_part) (pc' := 109) (x := kB C + l0) dX8_part_108 rfl 1 rfl ?_
    refine C_getR (D := mdX8_part) (pc' := 112) (p := l0) f_X8_87 rfl dX8_part_109 rfl (fun now9 => ?_)
    refine C_iload_n (D := mdX8_part) (pc' := 113) (x := l1) dX8_part_112 rfl 2 rfl ?_
    refine C_iload_n (D := mdX8_part) (pc' := 114) (x := l2) dX8_part_113 rfl 3 rfl ?_
    refine C_iconst (D := mdX8_part) (pc' := 115) (v := 1) dX8_part_114 rfl (by decide) ?_
    refine C_callS (D := mdX8_part) (pc' := 118) (st := [.ref (kB C + l0)]) [.ref (kB C + now9), .int l1, .int l2, .int 1] s_X8_65 (i_X8_of C now9 l1 l2 1) dX8_part_115 rfl rfl rfl (Nat.le_of_ble_eq_true rfl) (by decide) (by decide) (fun c10 => ?_)
    refine C_callV (D := mdX8_part) (pc' := 121) (p := l0) (st := []) [.int c10] v_X8_195 (i_X8_numberOf C l0 c10) dX8_part_118 rfl rfl rfl (Nat.le_of_ble_eq_true rfl) (by decide) (by decide) (fun c11 => ?_)
    exact C_iret rfl dX8_part_121
  refine C_tcase (D := mdX8_part) (c := 2) 2 (by decide) (tgt := 122) dX8_part_61 (by decide) (by decide) rfl (by decide) ?_ (fun h2 => ?_)
  · refine C_iload (D := mdX8_part) (pc' := 124) (x := s0) dX8_part_122 rfl 0 rfl ?_
    refine C_if_eq (D := mdX8_part) (pc' := 127) (tgt := 144) dX8_part_124 (by decide) rfl ?_ ?_
    · refine C_bipush (D := mdX8_part) (pc' := 146) (v := (-9)) dX8_part_144 rfl (by decide) ?_
      exact C_iret rfl dX8_part_146
    · refine C_aload_n (D := mdX8_part) (pc' := 128) (x := kB C + l0) dX8_part_127 rfl 1 rfl ?_
      refine C_aload_n (D := mdX8_part) (pc' := 129) (x := kB C + l0) dX8_part_128 rfl 1 rfl ?_
      refine C_getR (D := mdX8_part) (pc' := 132) (p := l0) f_X8_87 rfl dX8_part_129 rfl (fun now12 => ?_)
      refine C_iload_n (D := mdX8_part) (pc' := 133) (x := l1) dX8_part_132 rfl 2 rfl ?_
      refine C_iload_n (D := mdX8_part) (pc' := 134) (x := l2) dX8_part_133 rfl 3 rfl ?_
      refine C_iconst (D := mdX8_part) (pc' := 135) (v := 2) dX8_part_134 rfl (by decide) ?_
      refine C_callS (D := mdX8_part) (pc' := 138) (st := [.ref (kB C + l0)]) [.ref (kB C + now12), .int l1, .int l2, .int 2] s_X8_65 (i_X8_of C now12 l1 l2 2) dX8_part_135 rfl rfl rfl (Nat.le_of_ble_eq_true rfl) (by decide) (by decide) (fun c13 => ?_)
      refine C_callV (D := mdX8_part) (pc' := 141) (p := l0) (st := []) [.int c13] v_X8_195 (i_X8_numberOf C l0 c13) dX8_part_138 rfl rfl rfl (Nat.le_of_ble_eq_true rfl) (by decide) (by decide) (fun c14 => ?_)
      refine C_goto (D := mdX8_part) (pc' := 146) dX8_part_141 (by decide) ?_
      exact C_iret rfl dX8_part_146
  refine C_tcase (D := mdX8_part) (c := 3) 3 (by decide) (tgt := 147) dX8_part_61 (by decide) (by decide) rfl (by decide) ?_ (fun h3 => ?_)
  · refine C_iload (D := mdX8_part) (pc' := 149) (x := s0) dX8_part_147 rfl 0 rfl ?_
    refine C_if_eq (D := mdX8_part) (pc' := 152) (tgt := 165) dX8_part_149 (by decide) rfl ?_ ?_
    · refine C_bipush (D := mdX8_part) (pc' := 167) (v := (-9)) dX8_part_165 rfl (by decide) ?_
      exact C_iret rfl dX8_part_167
    · refine C_aload_n (D := mdX8_part) (pc' := 153) (x := kB C + l0) dX8_part_152 rfl 1 rfl ?_
      refine C_getR (D := mdX8_part) (pc' := 156) (p := l0) f_X8_87 rfl dX8_part_153 rfl (fun now15 => ?_)
      refine C_iload_n (D := mdX8_part) (pc' := 157) (x := l1) dX8_part_156 rfl 2 rfl ?_
      refine C_iload_n (D := mdX8_part) (pc' := 158) (x := l2) dX8_part_157 rfl 3 rfl ?_
      refine C_iconst (D := mdX8_part) (pc' := 159) (v := 3) dX8_part_158 rfl (by decide) ?_
      refine C_callS (D := mdX8_part) (pc' := 162) (st := []) [.ref (kB C + now15), .int l1, .int l2, .int 3] s_X8_65 (i_X8_of C now15 l1 l2 3) dX8_part_159 rfl rfl rfl (Nat.le_of_ble_eq_true rfl) (by decide) (by decide) (fun c16 => ?_)
      refine C_goto (D := mdX8_part) (pc' := 167) dX8_part_162 (by decide) ?_
      exact C_iret rfl dX8_part_167
  refine C_tcase (D := mdX8_part) (c := 4) 4 (by decide) (tgt := 168) dX8_part_61 (by decide) (by decide) rfl (by decide) ?_ (fun h4 => ?_)
  · refine C_aload_n (D := mdX8_part) (pc' := 169) (x := kB C + l0) dX8_part_168 rfl 1 rfl ?_
    refine C_iload_n (D := mdX8_part) (pc' := 170) (x := l1) dX8_part_169 rfl 2 rfl ?_
    refine C_iload_n (D := mdX8_part) (pc' := 171) (x := l2) dX8_part_170 rfl 3 rfl ?_
    refine C_aload_n (D := mdX8_part) (pc' := 172) (x := kB C + l0) dX8_part_171 rfl 1 rfl ?_
    refine C_getR (D := mdX8_part) (pc' := 175) (p := l0) f_X8_87 rfl dX8_part_172 rfl (fun now17 => ?_)
    refine C_iconst (D := mdX8_part) (pc' := 176) (v := 1) dX8_part_175 rfl (by decide) ?_
    refine C_aI (D := mdX8_part) (pc' := 177) (p := now17) dX8_part_176 rfl (fun x18 => ?_)
    refine C_callV (D := mdX8_part) (pc' := 180) (p := l0) (st := []) [.int l1, .int l2, .int x18] v_X8_201 (i_X8_holds C l0 l1 l2 x18) dX8_part_177 rfl rfl rfl (Nat.le_of_ble_eq_true rfl) (by decide) (by decide) (fun c19 => ?_)
    refine C_if_eq (D := mdX8_part) (pc' := 183) (tgt := 187) dX8_part_180 (by decide) rfl ?_ ?_
    · refine C_iconst (D := mdX8_part) (pc' := 188) (v := 0) dX8_part_187 rfl (by decide) ?_
      exact C_iret rfl dX8_part_188
    · refine C_iconst (D := mdX8_part) (pc' := 184) (v := 1) dX8_part_183 rfl (by decide) ?_
      refine C_goto (D := mdX8_part) (pc' := 188) dX8_part_184 (by decide) ?_
      exact C_iret rfl dX8_part_188
  refine C_tdef (D := mdX8_part) (tgt := 189) dX8_part_61 (by omega) (by decide) ?_
  refine C_iconst (D := mdX8_part) (pc' := 190) (v := (-1)) dX8_part_189 rfl (by decide) ?_
  exact C_iret rfl dX8_part_190
set_option maxHeartbeats 2000000 in
set_option maxRecDepth 20000 in
theorem i_X8_part (C : KX) (l0 : Nat) (l1 : Int32) (l2 : Int32) (l3 : Int32) : Imp C yX8_part cX8_part 5 (some .int) 3 74 rvI [.ref (kB C + l0), .int l1, .int l2, .int l3] (m_X8_part l0 l1 l2 l3) := by
  refine Imp.of (by decide) (Nat.le_of_ble_eq_true rfl) [(0, .ref (kB C + l0)), (1, .int l1), (2, .int l2), (3, .int l3)] rfl ?_
  show Cmp C mdX8_part (QM rvI) 0 [(0, .ref (kB C + l0)), (1, .int l1), (2, .int l2), (3, .int l3)] [] (m_X8_part l0 l1 l2 l3)
  unfold m_X8_part
  refine C_aload_n (D := mdX8_part) (pc' := 1) (x := kB C + l0) dX8_part_0 rfl 0 rfl ?_
  refine C_iconst (D := mdX8_part) (pc' := 2) (v := 0) dX8_part_1 rfl (by decide) ?_
  refine C_putI (D := mdX8_part) (pc' := 5) (p := l0) f_X8_1 rfl dX8_part_2 rfl ?_
  refine C_aload_n (D := mdX8_part) (pc' := 6) (x := kB C + l0) dX8_part_5 rfl 0 rfl ?_
  refine C_iload_n (D := mdX8_part) (pc' := 7) (x := l1) dX8_part_6 rfl 1 rfl ?_
  refine C_callV (D := mdX8_part) (pc' := 10) (p := l0) (st := []) [.int l1] v_X8_183 (i_X8_isQuery C l0 l1) dX8_part_7 rfl rfl rfl (Nat.le_of_ble_eq_true rfl) (by decide) (by decide) (fun c1 => ?_)
  refine C_if_eq (D := mdX8_part) (pc' := 13) (tgt := 33) dX8_part_10 (by decide) rfl ?_ ?_
  · refine C_iconst (D := mdX8_part) (pc' := 34) (v := (-1)) dX8_part_33 rfl (by decide) ?_
    exact C_iret rfl dX8_part_34
  · refine C_iload_n (D := mdX8_part) (pc' := 14) (x := l2) dX8_part_13 rfl 2 rfl ?_
    refine C_i2l (D := mdX8_part) (pc' := 15) dX8_part_14 rfl ?_
    refine C_lconst (D := mdX8_part) (pc' := 16) (v := 0) dX8_part_15 rfl (by decide) ?_
    refine C_aload_n (D := mdX8_part) (pc' := 17) (x := kB C + l0) dX8_part_16 rfl 0 rfl ?_
    refine C_getR (D := mdX8_part) (pc' := 20) (p := l0) f_X8_87 rfl dX8_part_17 rfl (fun now2 => ?_)
    refine C_iload_n (D := mdX8_part) (pc' := 21) (x := l1) dX8_part_20 rfl 1 rfl ?_
    refine C_callS (D := mdX8_part) (pc' := 24) (st := [.long 0, .long ((l2 : Int32).toInt64)]) [.ref (kB C + now2), .int l1] s_X8_61 (i_X8_parts C now2 l1) dX8_part_21 rfl rfl rfl (Nat.le_of_ble_eq_true rfl) (by decide) (by decide) (fun c3 => ?_)
    refine C_iconst (D := mdX8_part) (pc' := 25) (v := 1) dX8_part_24 rfl (by decide) ?_
    refine C_isub (D := mdX8_part) (pc' := 26) dX8_part_25 rfl ?_
    refine C_i2l (D := mdX8_part) (pc' := 27) dX8_part_26 rfl ?_
    refine C_callS (D := mdX8_part) (pc' := 30) (st := []) [.long ((l2 : Int32).toInt64), .long 0, .long (((c3 - 1) : Int32).toInt64)] s_X8_9 (i_X8_in C (((l2 : Int32).toInt64)) 0 ((((c3 - 1) : Int32).toInt64))) dX8_part_27 rfl rfl rfl (Nat.le_of_ble_eq_true rfl) (by decide) (by decide) (fun c4 => ?_)
    refine C_if_ne (D := mdX8_part) (pc' := 33) (tgt := 35) dX8_part_30 (by decide) rfl ?_ ?_
    · refine C_aload_n (D := mdX8_part) (pc' := 36) (x := kB C + l0) dX8_part_35 rfl 0 rfl ?_
      refine C_getR (D := mdX8_part) (pc' := 39) (p := l0) f_X8_87 rfl dX8_part_36 rfl (fun now5 => ?_)
      refine C_iload_n (D := mdX8_part) (pc' := 40) (x := l1) dX8_part_39 rfl 1 rfl ?_
      refine C_iload_n (D := mdX8_part) (pc' := 41) (x := l2) dX8_part_40 rfl 2 rfl ?_
      refine C_iconst (D := mdX8_part) (pc' := 42) (v := 0) dX8_part_41 rfl (by decide) ?_
      refine C_callS (D := mdX8_part) (pc' := 45) (st := []) [.ref (kB C + now5), .int l1, .int l2, .int 0] s_X8_65 (i_X8_of C now5 l1 l2 0) dX8_part_42 rfl rfl rfl (Nat.le_of_ble_eq_true rfl) (by decide) (by decide) (fun c6 => ?_)
      refine C_iconst (D := mdX8_part) (pc' := 46) (v := 2) dX8_part_45 rfl (by decide) ?_
      refine C_icmp_ne (D := mdX8_part) (pc' := 49) (tgt := 53) dX8_part_46 (by decide) rfl ?_ ?_
      · refine C_iconst (D := mdX8_part) (pc' := 54) (v := 0) dX8_part_53 rfl (by decide) ?_
        exact C_sub [0, 1, 2, 3] rfl (p_X8_part_J54 C l0 l1 l2 l3 0)
      · refine C_iconst (D := mdX8_part) (pc' := 50) (v := 1) dX8_part_49 rfl (by decide) ?_
        refine C_goto (D := mdX8_part) (pc' := 54) dX8_part_50 (by decide) ?_
        exact C_sub [0, 1, 2, 3] rfl (p_X8_part_J54 C l0 l1 l2 l3 1)
    · refine C_iconst (D := mdX8_part) (pc' := 34) (v := (-1)) dX8_part_33 rfl (by decide) ?_
      exact C_iret rfl dX8_part_34

-- StandingQueriesModel.takes(I)V
theorem dX8_takes_0 : decode cX8_takes 0 = .ok (.aload_n 0, 1) := by decide +kernel
theorem dX8_takes_1 : decode cX8_takes 1 = .ok (.iconst 0, 1) := by decide +kernel
theorem dX8_takes_2 : decode cX8_takes 2 = .ok (.putfield 220, 3) := by decide +kernel
theorem dX8_takes_5 : decode cX8_takes 5 = .ok (.aload_n 0, 1) := by decide +kernel
theorem dX8_takes_6 : decode cX8_takes 6 = .ok (.iconst 0, 1) := by decide +kernel
theorem dX8_takes_7 : decode cX8_takes 7 = .ok (.putfield 223, 3) := by decide +kernel
theorem dX8_takes_10 : decode cX8_takes 10 = .ok (.aload_n 0, 1) := by decide +kernel
theorem dX8_takes_11 : decode cX8_takes 11 = .ok (.bipush (-9), 2) := by decide +kernel
theorem dX8_takes_13 : decode cX8_takes 13 = .ok (.putfield 226, 3) := by decide +kernel
theorem dX8_takes_16 : decode cX8_takes 16 = .ok (.iconst 0, 1) := by decide +kernel
theorem dX8_takes_17 : decode cX8_takes 17 = .ok (.istore_n 2, 1) := by decide +kernel
theorem dX8_takes_18 : decode cX8_takes 18 = .ok (.iload_n 2, 1) := by decide +kernel
theorem dX8_takes_19 : decode cX8_takes 19 = .ok (.aload_n 0, 1) := by decide +kernel
theorem dX8_takes_20 : decode cX8_takes 20 = .ok (.getfield 87, 3) := by decide +kernel
theorem dX8_takes_23 : decode cX8_takes 23 = .ok (.iload_n 1, 1) := by decide +kernel
theorem dX8_takes_24 : decode cX8_takes 24 = .ok (.invokestatic 61, 3) := by decide +kernel
theorem dX8_takes_27 : decode cX8_takes 27 = .ok (.if_icmp .ge 128, 3) := by decide +kernel
theorem dX8_takes_30 : decode cX8_takes 30 = .ok (.aload_n 0, 1) := by decide +kernel
theorem dX8_takes_31 : decode cX8_takes 31 = .ok (.aload_n 0, 1) := by decide +kernel
theorem dX8_takes_32 : decode cX8_takes 32 = .ok (.getfield 87, 3) := by decide +kernel
theorem dX8_takes_35 : decode cX8_takes 35 = .ok (.iload_n 1, 1) := by decide +kernel
theorem dX8_takes_36 : decode cX8_takes 36 = .ok (.iload_n 2, 1) := by decide +kernel
theorem dX8_takes_37 : decode cX8_takes 37 = .ok (.iconst 1, 1) := by decide +kernel
theorem dX8_takes_38 : decode cX8_takes 38 = .ok (.invokestatic 65, 3) := by decide +kernel
theorem dX8_takes_41 : decode cX8_takes 41 = .ok (.invokevirtual 195, 3) := by decide +kernel
theorem dX8_takes_44 : decode cX8_takes 44 = .ok (.istore_n 3, 1) := by decide +kernel
theorem dX8_takes_45 : decode cX8_takes 45 = .ok (.aload_n 0, 1) := by decide +kernel
theorem dX8_takes_46 : decode cX8_takes 46 = .ok (.getfield 87, 3) := by decide +kernel
theorem dX8_takes_49 : decode cX8_takes 49 = .ok (.iload_n 1, 1) := by decide +kernel
theorem dX8_takes_50 : decode cX8_takes 50 = .ok (.iload_n 2, 1) := by decide +kernel
theorem dX8_takes_51 : decode cX8_takes 51 = .ok (.iconst 0, 1) := by decide +kernel
theorem dX8_takes_52 : decode cX8_takes 52 = .ok (.invokestatic 65, 3) := by decide +kernel
theorem dX8_takes_55 : decode cX8_takes 55 = .ok (.istore 4, 2) := by decide +kernel
theorem dX8_takes_57 : decode cX8_takes 57 = .ok (.aload_n 0, 1) := by decide +kernel
theorem dX8_takes_58 : decode cX8_takes 58 = .ok (.dup, 1) := by decide +kernel
theorem dX8_takes_59 : decode cX8_takes 59 = .ok (.getfield 220, 3) := by decide +kernel
theorem dX8_takes_62 : decode cX8_takes 62 = .ok (.iload 4, 2) := by decide +kernel
theorem dX8_takes_64 : decode cX8_takes 64 = .ok (.iconst 1, 1) := by decide +kernel
theorem dX8_takes_65 : decode cX8_takes 65 = .ok (.if_icmp .ne 9, 3) := by decide +kernel
theorem dX8_takes_68 : decode cX8_takes 68 = .ok (.iconst 1, 1) := by decide +kernel
theorem dX8_takes_69 : decode cX8_takes 69 = .ok (.iload_n 3, 1) := by decide +kernel
theorem dX8_takes_70 : decode cX8_takes 70 = .ok (.ishl, 1) := by decide +kernel
theorem dX8_takes_71 : decode cX8_takes 71 = .ok (.goto 4, 3) := by decide +kernel
theorem dX8_takes_74 : decode cX8_takes 74 = .ok (.iconst 0, 1) := by decide +kernel
theorem dX8_takes_75 : decode cX8_takes 75 = .ok (.ior, 1) := by decide +kernel
theorem dX8_takes_76 : decode cX8_takes 76 = .ok (.putfield 220, 3) := by decide +kernel
theorem dX8_takes_79 : decode cX8_takes 79 = .ok (.aload_n 0, 1) := by decide +kernel
theorem dX8_takes_80 : decode cX8_takes 80 = .ok (.dup, 1) := by decide +kernel
theorem dX8_takes_81 : decode cX8_takes 81 = .ok (.getfield 223, 3) := by decide +kernel
theorem dX8_takes_84 : decode cX8_takes 84 = .ok (.iload 4, 2) := by decide +kernel
theorem dX8_takes_86 : decode cX8_takes 86 = .ok (.iconst 1, 1) := by decide +kernel
theorem dX8_takes_87 : decode cX8_takes 87 = .ok (.if_icmp .ne 7, 3) := by decide +kernel
theorem dX8_takes_90 : decode cX8_takes 90 = .ok (.iconst 0, 1) := by decide +kernel
theorem dX8_takes_91 : decode cX8_takes 91 = .ok (.goto 6, 3) := by decide +kernel
theorem dX8_takes_94 : decode cX8_takes 94 = .ok (.iconst 1, 1) := by decide +kernel
theorem dX8_takes_95 : decode cX8_takes 95 = .ok (.iload_n 2, 1) := by decide +kernel
theorem dX8_takes_96 : decode cX8_takes 96 = .ok (.ishl, 1) := by decide +kernel
theorem dX8_takes_97 : decode cX8_takes 97 = .ok (.ior, 1) := by decide +kernel
theorem dX8_takes_98 : decode cX8_takes 98 = .ok (.putfield 223, 3) := by decide +kernel
theorem dX8_takes_101 : decode cX8_takes 101 = .ok (.iload 4, 2) := by decide +kernel
theorem dX8_takes_103 : decode cX8_takes 103 = .ok (.iconst 2, 1) := by decide +kernel
theorem dX8_takes_104 : decode cX8_takes 104 = .ok (.if_icmp .ne 45, 3) := by decide +kernel
theorem dX8_takes_107 : decode cX8_takes 107 = .ok (.aload_n 0, 1) := by decide +kernel
theorem dX8_takes_108 : decode cX8_takes 108 = .ok (.iload_n 2, 1) := by decide +kernel
theorem dX8_takes_109 : decode cX8_takes 109 = .ok (.putfield 226, 3) := by decide +kernel
theorem dX8_takes_112 : decode cX8_takes 112 = .ok (.aload_n 0, 1) := by decide +kernel
theorem dX8_takes_113 : decode cX8_takes 113 = .ok (.iload_n 3, 1) := by decide +kernel
theorem dX8_takes_114 : decode cX8_takes 114 = .ok (.putfield 229, 3) := by decide +kernel
theorem dX8_takes_117 : decode cX8_takes 117 = .ok (.aload_n 0, 1) := by decide +kernel
theorem dX8_takes_118 : decode cX8_takes 118 = .ok (.aload_n 0, 1) := by decide +kernel
theorem dX8_takes_119 : decode cX8_takes 119 = .ok (.aload_n 0, 1) := by decide +kernel
theorem dX8_takes_120 : decode cX8_takes 120 = .ok (.getfield 87, 3) := by decide +kernel
theorem dX8_takes_123 : decode cX8_takes 123 = .ok (.iload_n 1, 1) := by decide +kernel
theorem dX8_takes_124 : decode cX8_takes 124 = .ok (.iload_n 2, 1) := by decide +kernel
theorem dX8_takes_125 : decode cX8_takes 125 = .ok (.iconst 2, 1) := by decide +kernel
theorem dX8_takes_126 : decode cX8_takes 126 = .ok (.invokestatic 65, 3) := by decide +kernel
theorem dX8_takes_129 : decode cX8_takes 129 = .ok (.invokevirtual 195, 3) := by decide +kernel
theorem dX8_takes_132 : decode cX8_takes 132 = .ok (.putfield 232, 3) := by decide +kernel
theorem dX8_takes_135 : decode cX8_takes 135 = .ok (.aload_n 0, 1) := by decide +kernel
theorem dX8_takes_136 : decode cX8_takes 136 = .ok (.aload_n 0, 1) := by decide +kernel
theorem dX8_takes_137 : decode cX8_takes 137 = .ok (.getfield 87, 3) := by decide +kernel
theorem dX8_takes_140 : decode cX8_takes 140 = .ok (.iload_n 1, 1) := by decide +kernel
theorem dX8_takes_141 : decode cX8_takes 141 = .ok (.iload_n 2, 1) := by decide +kernel
theorem dX8_takes_142 : decode cX8_takes 142 = .ok (.iconst 3, 1) := by decide +kernel
theorem dX8_takes_143 : decode cX8_takes 143 = .ok (.invokestatic 65, 3) := by decide +kernel
theorem dX8_takes_146 : decode cX8_takes 146 = .ok (.putfield 235, 3) := by decide +kernel
theorem dX8_takes_149 : decode cX8_takes 149 = .ok (.iinc 2 1, 3) := by decide +kernel
theorem dX8_takes_152 : decode cX8_takes 152 = .ok (.goto (-134), 3) := by decide +kernel
theorem dX8_takes_155 : decode cX8_takes 155 = .ok (.return_, 1) := by decide +kernel
abbrev mdX8_takes : MD := (cX8_takes, RX8, 5, none, yX8_takes.name, 1, 23, eT)
set_option maxHeartbeats 2000000 in
set_option maxRecDepth 20000 in
theorem p_X8_takes_J149 (C : KX) (l0 : Nat) (l1 : Int32) (l2 : Int32) (k18 : Int32 → Mo Unit) (hk18 : ∀ s, Cmp C mdX8_takes (QM rvV) 18 [(0, .ref (kB C + l0)), (1, .int l1), (2, .int s)] [] (k18 s)) : Cmp C mdX8_takes (QM rvV) 149 [(0, .ref (kB C + l0)), (1, .int l1), (2, .int l2)] [] (m_X8_takes_J149 l0 l1 l2 k18) := by
  unfold m_X8_takes_J149
  refine C_iinc (D := mdX8_takes) (pc' := 152) (j := 2) (v := (l2 + 1)) (ls' := [(2, .int (l2 + 1)), (0, .ref (kB C + l0)), (1, .int l1)]) dX8_takes_149 rfl rfl rfl (by decide) rfl ?_
  refine C_goto (D := mdX8_takes) (pc' := 18) dX8_takes_152 (by decide) ?_
  exact C_sub [1, 2, 0] rfl (hk18 ((l2 + 1)))
set_option maxHeartbeats 2000000 in
set_option maxRecDepth 20000 in
theorem p_X8_takes_J97 (C : KX) (l0 : Nat) (l1 : Int32) (l2 : Int32) (l3 : Int32) (l4 : Int32) (s0 : Int32) (s1 : Int32) (s2 : Nat) (k18 : Int32 → Mo Unit) (hk18 : ∀ s, Cmp C mdX8_takes (QM rvV) 18 [(0, .ref (kB C + l0)), (1, .int l1), (2, .int s)] [] (k18 s)) : Cmp C mdX8_takes (QM rvV) 97 [(0, .ref (kB C + l0)), (1, .int l1), (2, .int l2), (3, .int l3), (4, .int l4)] [.int s0, .int s1, .ref (kB C + s2)] (m_X8_takes_J97 l0 l1 l2 l3 l4 s0 s1 s2 k18) := by
  unfold m_X8_takes_J97
  refine C_ior (D := mdX8_takes) (pc' := 98) dX8_takes_97 rfl ?_
  refine C_putI (D := mdX8_takes) (pc' := 101) (p := s2) f_X8_223 rfl dX8_takes_98 rfl ?_
  refine C_iload (D := mdX8_takes) (pc' := 103) (x := l4) dX8_takes_101 rfl 4 rfl ?_
  refine C_iconst (D := mdX8_takes) (pc' := 104) (v := 2) dX8_takes_103 rfl (by decide) ?_
  refine C_icmp_ne (D := mdX8_takes) (pc' := 107) (tgt := 149) dX8_takes_104 (by decide) rfl ?_ ?_
  · exact C_sub [0, 1, 2] rfl (p_X8_takes_J149 C l0 l1 l2 k18 hk18)
  · refine C_aload_n (D := mdX8_takes) (pc' := 108) (x := kB C + l0) dX8_takes_107 rfl 0 rfl ?_
    refine C_iload_n (D := mdX8_takes) (pc' := 109) (x := l2) dX8_takes_108 rfl 2 rfl ?_
    refine C_putI (D := mdX8_takes) (pc' := 112) (p := l0) f_X8_226 rfl dX8_takes_109 rfl ?_
    refine C_aload_n (D := mdX8_takes) (pc' := 113) (x := kB C + l0) dX8_takes_112 rfl 0 rfl ?_
    refine C_iload_n (D := mdX8_takes) (pc' := 114) (x := l3) dX8_takes_113 rfl 3 rfl ?_
    refine C_putI (D := mdX8_takes) (pc' := 117) (p := l0) f_X8_229 rfl dX8_takes_114 rfl ?_
    refine C_aload_n (D := mdX8_takes) (pc' := 118) (x := kB C + l0) dX8_takes_117 rfl 0 rfl ?_
    refine C_aload_n (D := mdX8_takes) (pc' := 119) (x := kB C + l0) dX8_takes_118 rfl 0 rfl ?_
    refine C_aload_n (D := mdX8_takes) (pc' := 120) (x := kB C + l0) dX8_takes_119 rfl 0 rfl ?_
    refine C_getR (D := mdX8_takes) (pc' := 123) (p := l0) f_X8_87 rfl dX8_takes_120 rfl (fun now10 => ?_)
    refine C_iload_n (D := mdX8_takes) (pc' := 124) (x := l1) dX8_takes_123 rfl 1 rfl ?_
    refine C_iload_n (D := mdX8_takes) (pc' := 125) (x := l2) dX8_takes_124 rfl 2 rfl ?_
    refine C_iconst (D := mdX8_takes) (pc' := 126) (v := 2) dX8_takes_125 rfl (by decide) ?_
    refine C_callS (D := mdX8_takes) (pc' := 129) (st := [.ref (kB C + l0), .ref (kB C + l0)]) [.ref (kB C + now10), .int l1, .int l2, .int 2] s_X8_65 (i_X8_of C now10 l1 l2 2) dX8_takes_126 rfl rfl rfl (Nat.le_of_ble_eq_true rfl) (by decide) (by decide) (fun c11 => ?_)
    refine C_callV (D := mdX8_takes) (pc' := 132) (p := l0) (st := [.ref (kB C + l0)]) [.int c11] v_X8_195 (i_X8_numberOf C l0 c11) dX8_takes_129 rfl rfl rfl (Nat.le_of_ble_eq_true rfl) (by decide) (by decide) (fun c12 => ?_)
    refine C_putI (D := mdX8_takes) (pc' := 135) (p := l0) f_X8_232 rfl dX8_takes_132 rfl ?_
    refine C_aload_n (D := mdX8_takes) (pc' := 136) (x := kB C + l0) dX8_takes_135 rfl 0 rfl ?_
    refine C_aload_n (D := mdX8_takes) (pc' := 137) (x := kB C + l0) dX8_takes_136 rfl 0 rfl ?_
    refine C_getR (D := mdX8_takes) (pc' := 140) (p := l0) f_X8_87 rfl dX8_takes_137 rfl (fun now13 => ?_)
    refine C_iload_n (D := mdX8_takes) (pc' := 141) (x := l1) dX8_takes_140 rfl 1 rfl ?_
    refine C_iload_n (D := mdX8_takes) (pc' := 142) (x := l2) dX8_takes_141 rfl 2 rfl ?_
    refine C_iconst (D := mdX8_takes) (pc' := 143) (v := 3) dX8_takes_142 rfl (by decide) ?_
    refine C_callS (D := mdX8_takes) (pc' := 146) (st := [.ref (kB C + l0)]) [.ref (kB C + now13), .int l1, .int l2, .int 3] s_X8_65 (i_X8_of C now13 l1 l2 3) dX8_takes_143 rfl rfl rfl (Nat.le_of_ble_eq_true rfl) (by decide) (by decide) (fun c14 => ?_)
    refine C_putI (D := mdX8_takes) (pc' := 149) (p := l0) f_X8_235 rfl dX8_takes_146 rfl ?_
    exact C_sub [0, 1, 2] rfl (p_X8_takes_J149 C l0 l1 l2 k18 hk18)
set_option maxHeartbeats 2000000 in
set_option maxRecDepth 20000 in
theorem p_X8_takes_J75 (C : KX) (l0 : Nat) (l1 : Int32) (l2 : Int32) (l3 : Int32) (l4 : Int32) (s0 : Int32) (s1 : Int32) (s2 : Nat) (k18 : Int32 → Mo Unit) (hk18 : ∀ s, Cmp C mdX8_takes (QM rvV) 18 [(0, .ref (kB C + l0)), (1, .int l1), (2, .int s)] [] (k18 s)) : Cmp C mdX8_takes (QM rvV) 75 [(0, .ref (kB C + l0)), (1, .int l1), (2, .int l2), (3, .int l3), (4, .int l4)] [.int s0, .int s1, .ref (kB C + s2)] (m_X8_takes_J75 l0 l1 l2 l3 l4 s0 s1 s2 k18) := by
  unfold m_X8_takes_J75
  refine C_ior (D := mdX8_takes) (pc' := 76) dX8_takes_75 rfl ?_
  refine C_putI (D := mdX8_takes) (pc' := 79) (p := s2) f_X8_220 rfl dX8_takes_76 rfl ?_
  refine C_aload_n (D := mdX8_takes) (pc' := 80) (x := kB C + l0) dX8_takes_79 rfl 0 rfl ?_
  refine C_dup (D := mdX8_takes) (pc' := 81) dX8_takes_80 rfl rfl ?_
  refine C_getI (D := mdX8_takes) (pc' := 84) (p := l0) f_X8_223 rfl dX8_takes_81 rfl (fun due9 => ?_)
  refine C_iload (D := mdX8_takes) (pc' := 86) (x := l4) dX8_takes_84 rfl 4 rfl ?_
  refine C_iconst (D := mdX8_takes) (pc' := 87) (v := 1) dX8_takes_86 rfl (by decide) ?_
  refine C_icmp_ne (D := mdX8_takes) (pc' := 90) (tgt := 94) dX8_takes_87 (by decide) rfl ?_ ?_
  · refine C_iconst (D := mdX8_takes) (pc' := 95) (v := 1) dX8_takes_94 rfl (by decide) ?_
    refine C_iload_n (D := mdX8_takes) (pc' := 96) (x := l2) dX8_takes_95 rfl 2 rfl ?_
    refine C_ishl (D := mdX8_takes) (pc' := 97) dX8_takes_96 rfl ?_
    exact C_sub [0, 1, 2, 3, 4] rfl (p_X8_takes_J97 C l0 l1 l2 l3 l4 (((1 : Int32) <<< (l2 &&& 31))) due9 l0 k18 hk18)
  · refine C_iconst (D := mdX8_takes) (pc' := 91) (v := 0) dX8_takes_90 rfl (by decide) ?_
    refine C_goto (D := mdX8_takes) (pc' := 97) dX8_takes_91 (by decide) ?_
    exact C_sub [0, 1, 2, 3, 4] rfl (p_X8_takes_J97 C l0 l1 l2 l3 l4 0 due9 l0 k18 hk18)
set_option maxHeartbeats 2000000 in
set_option maxRecDepth 20000 in
theorem p_X8_takes_B18 (C : KX) (l0 : Nat) (l1 : Int32)  (k18 : Int32 → Mo Unit) (hk18 : ∀ s, Cmp C mdX8_takes (QM rvV) 18 [(0, .ref (kB C + l0)), (1, .int l1), (2, .int s)] [] (k18 s)) (l2 : Int32) : Cmp C mdX8_takes (QM rvV) 18 [(0, .ref (kB C + l0)), (1, .int l1), (2, .int l2)] [] (m_X8_takes_B18 l0 l1 k18 l2) := by
  unfold m_X8_takes_B18
  refine C_iload_n (D := mdX8_takes) (pc' := 19) (x := l2) dX8_takes_18 rfl 2 rfl ?_
  refine C_aload_n (D := mdX8_takes) (pc' := 20) (x := kB C + l0) dX8_takes_19 rfl 0 rfl ?_
  refine C_getR (D := mdX8_takes) (pc' := 23) (p := l0) f_X8_87 rfl dX8_takes_20 rfl (fun now1 => ?_)
  refine C_iload_n (D := mdX8_takes) (pc' := 24) (x := l1) dX8_takes_23 rfl 1 rfl ?_
  refine C_callS (D := mdX8_takes) (pc' := 27) (st := [.int l2]) [.ref (kB C + now1), .int l1] s_X8_61 (i_X8_parts C now1 l1) dX8_takes_24 rfl rfl rfl (Nat.le_of_ble_eq_true rfl) (by decide) (by decide) (fun c2 => ?_)
  refine C_icmp_ge (D := mdX8_takes) (pc' := 30) (tgt := 155) dX8_takes_27 (by decide) rfl ?_ ?_
  · exact C_vret rfl dX8_takes_155
  · refine C_aload_n (D := mdX8_takes) (pc' := 31) (x := kB C + l0) dX8_takes_30 rfl 0 rfl ?_
    refine C_aload_n (D := mdX8_takes) (pc' := 32) (x := kB C + l0) dX8_takes_31 rfl 0 rfl ?_
    refine C_getR (D := mdX8_takes) (pc' := 35) (p := l0) f_X8_87 rfl dX8_takes_32 rfl (fun now3 => ?_)
    refine C_iload_n (D := mdX8_takes) (pc' := 36) (x := l1) dX8_takes_35 rfl 1 rfl ?_
    refine C_iload_n (D := mdX8_takes) (pc' := 37) (x := l2) dX8_takes_36 rfl 2 rfl ?_
    refine C_iconst (D := mdX8_takes) (pc' := 38) (v := 1) dX8_takes_37 rfl (by decide) ?_
    refine C_callS (D := mdX8_takes) (pc' := 41) (st := [.ref (kB C + l0)]) [.ref (kB C + now3), .int l1, .int l2, .int 1] s_X8_65 (i_X8_of C now3 l1 l2 1) dX8_takes_38 rfl rfl rfl (Nat.le_of_ble_eq_true rfl) (by decide) (by decide) (fun c4 => ?_)
    refine C_callV (D := mdX8_takes) (pc' := 44) (p := l0) (st := []) [.int c4] v_X8_195 (i_X8_numberOf C l0 c4) dX8_takes_41 rfl rfl rfl (Nat.le_of_ble_eq_true rfl) (by decide) (by decide) (fun c5 => ?_)
    refine C_istore_n (D := mdX8_takes) (pc' := 45) (ls' := [(3, .int c5), (0, .ref (kB C + l0)), (1, .int l1), (2, .int l2)]) dX8_takes_44 rfl rfl (by decide) rfl ?_
    refine C_aload_n (D := mdX8_takes) (pc' := 46) (x := kB C + l0) dX8_takes_45 rfl 1 rfl ?_
    refine C_getR (D := mdX8_takes) (pc' := 49) (p := l0) f_X8_87 rfl dX8_takes_46 rfl (fun now6 => ?_)
    refine C_iload_n (D := mdX8_takes) (pc' := 50) (x := l1) dX8_takes_49 rfl 2 rfl ?_
    refine C_iload_n (D := mdX8_takes) (pc' := 51) (x := l2) dX8_takes_50 rfl 3 rfl ?_
    refine C_iconst (D := mdX8_takes) (pc' := 52) (v := 0) dX8_takes_51 rfl (by decide) ?_
    refine C_callS (D := mdX8_takes) (pc' := 55) (st := []) [.ref (kB C + now6), .int l1, .int l2, .int 0] s_X8_65 (i_X8_of C now6 l1 l2 0) dX8_takes_52 rfl rfl rfl (Nat.le_of_ble_eq_true rfl) (by decide) (by decide) (fun c7 => ?_)
    refine C_istore (D := mdX8_takes) (pc' := 57) (ls' := [(4, .int c7), (3, .int c5), (0, .ref (kB C + l0)), (1, .int l1), (2, .int l2)]) dX8_takes_55 rfl (by decide) rfl ?_
    refine C_aload_n (D := mdX8_takes) (pc' := 58) (x := kB C + l0) dX8_takes_57 rfl 2 rfl ?_
    refine C_dup (D := mdX8_takes) (pc' := 59) dX8_takes_58 rfl rfl ?_
    refine C_getI (D := mdX8_takes) (pc' := 62) (p := l0) f_X8_220 rfl dX8_takes_59 rfl (fun lacks8 => ?_)
    refine C_iload (D := mdX8_takes) (pc' := 64) (x := c7) dX8_takes_62 rfl 0 rfl ?_
    refine C_iconst (D := mdX8_takes) (pc' := 65) (v := 1) dX8_takes_64 rfl (by decide) ?_
    refine C_icmp_ne (D := mdX8_takes) (pc' := 68) (tgt := 74) dX8_takes_65 (by decide) rfl ?_ ?_
    · refine C_iconst (D := mdX8_takes) (pc' := 75) (v := 0) dX8_takes_74 rfl (by decide) ?_
      exact C_sub [2, 3, 4, 1, 0] rfl (p_X8_takes_J75 C l0 l1 l2 c5 c7 0 lacks8 l0 k18 hk18)
    · refine C_iconst (D := mdX8_takes) (pc' := 69) (v := 1) dX8_takes_68 rfl (by decide) ?_
      refine C_iload_n (D := mdX8_takes) (pc' := 70) (x := c5) dX8_takes_69 rfl 1 rfl ?_
      refine C_ishl (D := mdX8_takes) (pc' := 71) dX8_takes_70 rfl ?_
      refine C_goto (D := mdX8_takes) (pc' := 75) dX8_takes_71 (by decide) ?_
      exact C_sub [2, 3, 4, 1, 0] rfl (p_X8_takes_J75 C l0 l1 l2 c5 c7 (((1 : Int32) <<< (c5 &&& 31))) lacks8 l0 k18 hk18)
set_option maxHeartbeats 2000000 in
set_option maxRecDepth 20000 in
theorem i_X8_takes (C : KX) (l0 : Nat) (l1 : Int32) : Imp C yX8_takes cX8_takes 5 none 1 23 rvV [.ref (kB C + l0), .int l1] (m_X8_takes l0 l1) := by
  refine Imp.of (by decide) (Nat.le_of_ble_eq_true rfl) [(0, .ref (kB C + l0)), (1, .int l1)] rfl ?_
  show Cmp C mdX8_takes (QM rvV) 0 [(0, .ref (kB C + l0)), (1, .int l1)] [] (m_X8_takes l0 l1)
  unfold m_X8_takes
  refine C_aload_n (D := mdX8_takes) (pc' := 1) (x := kB C + l0) dX8_takes_0 rfl 0 rfl ?_
  refine C_iconst (D := mdX8_takes) (pc' := 2) (v := 0) dX8_takes_1 rfl (by decide) ?_
  refine C_putI (D := mdX8_takes) (pc' := 5) (p := l0) f_X8_220 rfl dX8_takes_2 rfl ?_
  refine C_aload_n (D := mdX8_takes) (pc' := 6) (x := kB C + l0) dX8_takes_5 rfl 0 rfl ?_
  refine C_iconst (D := mdX8_takes) (pc' := 7) (v := 0) dX8_takes_6 rfl (by decide) ?_
  refine C_putI (D := mdX8_takes) (pc' := 10) (p := l0) f_X8_223 rfl dX8_takes_7 rfl ?_
  refine C_aload_n (D := mdX8_takes) (pc' := 11) (x := kB C + l0) dX8_takes_10 rfl 0 rfl ?_
  refine C_bipush (D := mdX8_takes) (pc' := 13) (v := (-9)) dX8_takes_11 rfl (by decide) ?_
  refine C_putI (D := mdX8_takes) (pc' := 16) (p := l0) f_X8_226 rfl dX8_takes_13 rfl ?_
  refine C_iconst (D := mdX8_takes) (pc' := 17) (v := 0) dX8_takes_16 rfl (by decide) ?_
  refine C_istore_n (D := mdX8_takes) (pc' := 18) (ls' := [(2, .int 0), (0, .ref (kB C + l0)), (1, .int l1)]) dX8_takes_17 rfl rfl (by decide) rfl ?_
  exact C_sub [1, 2, 0] rfl (C_loop (fun s => [(0, .ref (kB C + l0)), (1, .int l1), (2, .int s)]) (fun k hk s => p_X8_takes_B18 C l0 l1  k hk s) FU 0)
