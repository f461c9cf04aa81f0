-- StandingQueries$Search.stepNear(II)I
theorem dX4_stepNear_0 : decode cX4_stepNear 0 = .ok (.iload_n 1, 1) := by decide +kernel
theorem dX4_stepNear_1 : decode cX4_stepNear 1 = .ok (.bipush 10, 2) := by decide +kernel
theorem dX4_stepNear_3 : decode cX4_stepNear 3 = .ok (.if_icmp .eq 14, 3) := by decide +kernel
theorem dX4_stepNear_6 : decode cX4_stepNear 6 = .ok (.iload_n 1, 1) := by decide +kernel
theorem dX4_stepNear_7 : decode cX4_stepNear 7 = .ok (.ifCond .le 13, 3) := by decide +kernel
theorem dX4_stepNear_10 : decode cX4_stepNear 10 = .ok (.iload_n 2, 1) := by decide +kernel
theorem dX4_stepNear_11 : decode cX4_stepNear 11 = .ok (.bipush 64, 2) := by decide +kernel
theorem dX4_stepNear_13 : decode cX4_stepNear 13 = .ok (.iand, 1) := by decide +kernel
theorem dX4_stepNear_14 : decode cX4_stepNear 14 = .ok (.ifCond .eq 6, 3) := by decide +kernel
theorem dX4_stepNear_17 : decode cX4_stepNear 17 = .ok (.bipush 10, 2) := by decide +kernel
theorem dX4_stepNear_19 : decode cX4_stepNear 19 = .ok (.ireturn, 1) := by decide +kernel
theorem dX4_stepNear_20 : decode cX4_stepNear 20 = .ok (.iload_n 2, 1) := by decide +kernel
theorem dX4_stepNear_21 : decode cX4_stepNear 21 = .ok (.bipush 32, 2) := by decide +kernel
theorem dX4_stepNear_23 : decode cX4_stepNear 23 = .ok (.iand, 1) := by decide +kernel
theorem dX4_stepNear_24 : decode cX4_stepNear 24 = .ok (.ifCond .eq 5, 3) := by decide +kernel
theorem dX4_stepNear_27 : decode cX4_stepNear 27 = .ok (.iconst 1, 1) := by decide +kernel
theorem dX4_stepNear_28 : decode cX4_stepNear 28 = .ok (.ireturn, 1) := by decide +kernel
theorem dX4_stepNear_29 : decode cX4_stepNear 29 = .ok (.iload_n 1, 1) := by decide +kernel
theorem dX4_stepNear_30 : decode cX4_stepNear 30 = .ok (.ifCond .le 17, 3) := by decide +kernel
theorem dX4_stepNear_33 : decode cX4_stepNear 33 = .ok (.iload_n 1, 1) := by decide +kernel
theorem dX4_stepNear_34 : decode cX4_stepNear 34 = .ok (.aload_n 0, 1) := by decide +kernel
theorem dX4_stepNear_35 : decode cX4_stepNear 35 = .ok (.getfield 62, 3) := by decide +kernel
theorem dX4_stepNear_38 : decode cX4_stepNear 38 = .ok (.if_icmp .ge 9, 3) := by decide +kernel
theorem dX4_stepNear_41 : decode cX4_stepNear 41 = .ok (.iload_n 1, 1) := by decide +kernel
theorem dX4_stepNear_42 : decode cX4_stepNear 42 = .ok (.iconst 1, 1) := by decide +kernel
theorem dX4_stepNear_43 : decode cX4_stepNear 43 = .ok (.iadd, 1) := by decide +kernel
theorem dX4_stepNear_44 : decode cX4_stepNear 44 = .ok (.goto 4, 3) := by decide +kernel
theorem dX4_stepNear_47 : decode cX4_stepNear 47 = .ok (.iconst 0, 1) := by decide +kernel
theorem dX4_stepNear_48 : decode cX4_stepNear 48 = .ok (.ireturn, 1) := by decide +kernel
abbrev mdX4_stepNear : MD := (cX4_stepNear, RX4, 3, (some .int), yX4_stepNear.name, 0, 0, eT)
set_option maxHeartbeats 2000000 in
set_option maxRecDepth 20000 in
theorem p_X4_stepNear_J20 (C : KX) (l0 : Nat) (l1 : Int32) (l2 : Int32)  : Cmp C mdX4_stepNear (QM rvI) 20 [(0, .ref (kB C + l0)), (1, .int l1), (2, .int l2)] [] (m_X4_stepNear_J20 l0 l1 l2) := by
  unfold m_X4_stepNear_J20
  refine C_iload_n (D := mdX4_stepNear) (pc' := 21) (x := l2) dX4_stepNear_20 rfl 2 rfl ?_
  refine C_bipush (D := mdX4_stepNear) (pc' := 23) (v := 32) dX4_stepNear_21 rfl (by decide) ?_
  refine C_iand (D := mdX4_stepNear) (pc' := 24) dX4_stepNear_23 rfl ?_
  refine C_if_eq (D := mdX4_stepNear) (pc' := 27) (tgt := 29) dX4_stepNear_24 (by decide) rfl ?_ ?_
  · refine C_iload_n (D := mdX4_stepNear) (pc' := 30) (x := l1) dX4_stepNear_29 rfl 1 rfl ?_
    refine C_if_le (D := mdX4_stepNear) (pc' := 33) (tgt := 47) dX4_stepNear_30 (by decide) rfl ?_ ?_
    · refine C_iconst (D := mdX4_stepNear) (pc' := 48) (v := 0) dX4_stepNear_47 rfl (by decide) ?_
      exact C_iret rfl dX4_stepNear_48
    · refine C_iload_n (D := mdX4_stepNear) (pc' := 34) (x := l1) dX4_stepNear_33 rfl 1 rfl ?_
      refine C_aload_n (D := mdX4_stepNear) (pc' := 35) (x := kB C + l0) dX4_stepNear_34 rfl 0 rfl ?_
      refine C_getI (D := mdX4_stepNear) (pc' := 38) (p := l0) f_X4_62 rfl dX4_stepNear_35 rfl (fun reach1 => ?_)
      refine C_icmp_ge (D := mdX4_stepNear) (pc' := 41) (tgt := 47) dX4_stepNear_38 (by decide) rfl ?_ ?_
      · refine C_iconst (D := mdX4_stepNear) (pc' := 48) (v := 0) dX4_stepNear_47 rfl (by decide) ?_
        exact C_iret rfl dX4_stepNear_48
      · refine C_iload_n (D := mdX4_stepNear) (pc' := 42) (x := l1) dX4_stepNear_41 rfl 1 rfl ?_
        refine C_iconst (D := mdX4_stepNear) (pc' := 43) (v := 1) dX4_stepNear_42 rfl (by decide) ?_
        refine C_iadd (D := mdX4_stepNear) (pc' := 44) dX4_stepNear_43 rfl ?_
        refine C_goto (D := mdX4_stepNear) (pc' := 48) dX4_stepNear_44 (by decide) ?_
        exact C_iret rfl dX4_stepNear_48
  · refine C_iconst (D := mdX4_stepNear) (pc' := 28) (v := 1) dX4_stepNear_27 rfl (by decide) ?_
    exact C_iret rfl dX4_stepNear_28
set_option maxHeartbeats 2000000 in
set_option maxRecDepth 20000 in
theorem i_X4_stepNear (C : KX) (l0 : Nat) (l1 : Int32) (l2 : Int32) : Imp C yX4_stepNear cX4_stepNear 3 (some .int) 0 0 rvI [.ref (kB C + l0), .int l1, .int l2] (m_X4_stepNear l0 l1 l2) := by
  refine Imp.of (by decide) (Nat.le_of_ble_eq_true rfl) [(0, .ref (kB C + l0)), (1, .int l1), (2, .int l2)] rfl ?_
  show Cmp C mdX4_stepNear (QM rvI) 0 [(0, .ref (kB C + l0)), (1, .int l1), (2, .int l2)] [] (m_X4_stepNear l0 l1 l2)
  unfold m_X4_stepNear
  refine C_iload_n (D := mdX4_stepNear) (pc' := 1) (x := l1) dX4_stepNear_0 rfl 1 rfl ?_
  refine C_bipush (D := mdX4_stepNear) (pc' := 3) (v := 10) dX4_stepNear_1 rfl (by decide) ?_
  refine C_icmp_eq (D := mdX4_stepNear) (pc' := 6) (tgt := 17) dX4_stepNear_3 (by decide) rfl ?_ ?_
  · refine C_bipush (D := mdX4_stepNear) (pc' := 19) (v := 10) dX4_stepNear_17 rfl (by decide) ?_
    exact C_iret rfl dX4_stepNear_19
  · refine C_iload_n (D := mdX4_stepNear) (pc' := 7) (x := l1) dX4_stepNear_6 rfl 1 rfl ?_
    refine C_if_le (D := mdX4_stepNear) (pc' := 10) (tgt := 20) dX4_stepNear_7 (by decide) rfl ?_ ?_
    · exact C_sub [0, 1, 2] rfl (p_X4_stepNear_J20 C l0 l1 l2)
    · refine C_iload_n (D := mdX4_stepNear) (pc' := 11) (x := l2) dX4_stepNear_10 rfl 2 rfl ?_
      refine C_bipush (D := mdX4_stepNear) (pc' := 13) (v := 64) dX4_stepNear_11 rfl (by decide) ?_
      refine C_iand (D := mdX4_stepNear) (pc' := 14) dX4_stepNear_13 rfl ?_
      refine C_if_eq (D := mdX4_stepNear) (pc' := 17) (tgt := 20) dX4_stepNear_14 (by decide) rfl ?_ ?_
      · exact C_sub [0, 1, 2] rfl (p_X4_stepNear_J20 C l0 l1 l2)
      · refine C_bipush (D := mdX4_stepNear) (pc' := 19) (v := 10) dX4_stepNear_17 rfl (by decide) ?_
        exact C_iret rfl dX4_stepNear_19

-- StandingQueries$Search.step(II)I
theorem dX4_step_0 : decode cX4_step 0 = .ok (.aload_n 0, 1) := by decide +kernel
theorem dX4_step_1 : decode cX4_step 1 = .ok (.getfield 23, 3) := by decide +kernel
theorem dX4_step_4 : decode cX4_step 4 = .ok (.getfield 113, 3) := by decide +kernel
theorem dX4_step_7 : decode cX4_step 7 = .ok (.iload_n 1, 1) := by decide +kernel
theorem dX4_step_8 : decode cX4_step 8 = .ok (.aload_n 0, 1) := by decide +kernel
theorem dX4_step_9 : decode cX4_step 9 = .ok (.getfield 89, 3) := by decide +kernel
theorem dX4_step_12 : decode cX4_step 12 = .ok (.ishr, 1) := by decide +kernel
theorem dX4_step_13 : decode cX4_step 13 = .ok (.bipush 8, 2) := by decide +kernel
theorem dX4_step_15 : decode cX4_step 15 = .ok (.imul, 1) := by decide +kernel
theorem dX4_step_16 : decode cX4_step 16 = .ok (.iload_n 2, 1) := by decide +kernel
theorem dX4_step_17 : decode cX4_step 17 = .ok (.iadd, 1) := by decide +kernel
theorem dX4_step_18 : decode cX4_step 18 = .ok (.iaload, 1) := by decide +kernel
theorem dX4_step_19 : decode cX4_step 19 = .ok (.istore_n 3, 1) := by decide +kernel
theorem dX4_step_20 : decode cX4_step 20 = .ok (.aload_n 0, 1) := by decide +kernel
theorem dX4_step_21 : decode cX4_step 21 = .ok (.getfield 27, 3) := by decide +kernel
theorem dX4_step_24 : decode cX4_step 24 = .ok (.iload_n 3, 1) := by decide +kernel
theorem dX4_step_25 : decode cX4_step 25 = .ok (.iaload, 1) := by decide +kernel
theorem dX4_step_26 : decode cX4_step 26 = .ok (.istore 4, 2) := by decide +kernel
theorem dX4_step_28 : decode cX4_step 28 = .ok (.iload 4, 2) := by decide +kernel
theorem dX4_step_30 : decode cX4_step 30 = .ok (.bipush 16, 2) := by decide +kernel
theorem dX4_step_32 : decode cX4_step 32 = .ok (.iand, 1) := by decide +kernel
theorem dX4_step_33 : decode cX4_step 33 = .ok (.ifCond .eq 5, 3) := by decide +kernel
theorem dX4_step_36 : decode cX4_step 36 = .ok (.iconst (-1), 1) := by decide +kernel
theorem dX4_step_37 : decode cX4_step 37 = .ok (.ireturn, 1) := by decide +kernel
theorem dX4_step_38 : decode cX4_step 38 = .ok (.iload_n 1, 1) := by decide +kernel
theorem dX4_step_39 : decode cX4_step 39 = .ok (.iconst 1, 1) := by decide +kernel
theorem dX4_step_40 : decode cX4_step 40 = .ok (.aload_n 0, 1) := by decide +kernel
theorem dX4_step_41 : decode cX4_step 41 = .ok (.getfield 89, 3) := by decide +kernel
theorem dX4_step_44 : decode cX4_step 44 = .ok (.ishl, 1) := by decide +kernel
theorem dX4_step_45 : decode cX4_step 45 = .ok (.iconst 1, 1) := by decide +kernel
theorem dX4_step_46 : decode cX4_step 46 = .ok (.isub, 1) := by decide +kernel
theorem dX4_step_47 : decode cX4_step 47 = .ok (.iand, 1) := by decide +kernel
theorem dX4_step_48 : decode cX4_step 48 = .ok (.istore 5, 2) := by decide +kernel
theorem dX4_step_50 : decode cX4_step 50 = .ok (.aload_n 0, 1) := by decide +kernel
theorem dX4_step_51 : decode cX4_step 51 = .ok (.getfield 58, 3) := by decide +kernel
theorem dX4_step_54 : decode cX4_step 54 = .ok (.ifCond .le 17, 3) := by decide +kernel
theorem dX4_step_57 : decode cX4_step 57 = .ok (.aload_n 0, 1) := by decide +kernel
theorem dX4_step_58 : decode cX4_step 58 = .ok (.iload 5, 2) := by decide +kernel
theorem dX4_step_60 : decode cX4_step 60 = .ok (.bipush 15, 2) := by decide +kernel
theorem dX4_step_62 : decode cX4_step 62 = .ok (.iand, 1) := by decide +kernel
theorem dX4_step_63 : decode cX4_step 63 = .ok (.iload 4, 2) := by decide +kernel
theorem dX4_step_65 : decode cX4_step 65 = .ok (.invokevirtual 116, 3) := by decide +kernel
theorem dX4_step_68 : decode cX4_step 68 = .ok (.goto 4, 3) := by decide +kernel
theorem dX4_step_71 : decode cX4_step 71 = .ok (.iconst 0, 1) := by decide +kernel
theorem dX4_step_72 : decode cX4_step 72 = .ok (.istore 6, 2) := by decide +kernel
theorem dX4_step_74 : decode cX4_step 74 = .ok (.iload 5, 2) := by decide +kernel
theorem dX4_step_76 : decode cX4_step 76 = .ok (.aload_n 0, 1) := by decide +kernel
theorem dX4_step_77 : decode cX4_step 77 = .ok (.getfield 58, 3) := by decide +kernel
theorem dX4_step_80 : decode cX4_step 80 = .ok (.ishr, 1) := by decide +kernel
theorem dX4_step_81 : decode cX4_step 81 = .ok (.iload 4, 2) := by decide +kernel
theorem dX4_step_83 : decode cX4_step 83 = .ok (.bipush 15, 2) := by decide +kernel
theorem dX4_step_85 : decode cX4_step 85 = .ok (.iand, 1) := by decide +kernel
theorem dX4_step_86 : decode cX4_step 86 = .ok (.ior, 1) := by decide +kernel
theorem dX4_step_87 : decode cX4_step 87 = .ok (.istore 7, 2) := by decide +kernel
theorem dX4_step_89 : decode cX4_step 89 = .ok (.iload_n 3, 1) := by decide +kernel
theorem dX4_step_90 : decode cX4_step 90 = .ok (.aload_n 0, 1) := by decide +kernel
theorem dX4_step_91 : decode cX4_step 91 = .ok (.getfield 89, 3) := by decide +kernel
theorem dX4_step_94 : decode cX4_step 94 = .ok (.ishl, 1) := by decide +kernel
theorem dX4_step_95 : decode cX4_step 95 = .ok (.iload 7, 2) := by decide +kernel
theorem dX4_step_97 : decode cX4_step 97 = .ok (.aload_n 0, 1) := by decide +kernel
theorem dX4_step_98 : decode cX4_step 98 = .ok (.getfield 58, 3) := by decide +kernel
theorem dX4_step_101 : decode cX4_step 101 = .ok (.ishl, 1) := by decide +kernel
theorem dX4_step_102 : decode cX4_step 102 = .ok (.ior, 1) := by decide +kernel
theorem dX4_step_103 : decode cX4_step 103 = .ok (.iload 6, 2) := by decide +kernel
theorem dX4_step_105 : decode cX4_step 105 = .ok (.ior, 1) := by decide +kernel
theorem dX4_step_106 : decode cX4_step 106 = .ok (.ireturn, 1) := by decide +kernel
abbrev mdX4_step : MD := (cX4_step, RX4, 8, (some .int), yX4_step.name, 1, 22, eT)
set_option maxHeartbeats 2000000 in
set_option maxRecDepth 20000 in
theorem p_X4_step_J72 (C : KX) (l0 : Nat) (l3 : Int32) (l4 : Int32) (l5 : Int32) (s0 : Int32)  : Cmp C mdX4_step (QM rvI) 72 [(0, .ref (kB C + l0)), (3, .int l3), (4, .int l4), (5, .int l5)] [.int s0] (m_X4_step_J72 l0 l3 l4 l5 s0) := by
  unfold m_X4_step_J72
  refine C_istore (D := mdX4_step) (pc' := 74) (ls' := [(6, .int s0), (0, .ref (kB C + l0)), (3, .int l3), (4, .int l4), (5, .int l5)]) dX4_step_72 rfl (by decide) rfl ?_
  refine C_iload (D := mdX4_step) (pc' := 76) (x := l5) dX4_step_74 rfl 4 rfl ?_
  refine C_aload_n (D := mdX4_step) (pc' := 77) (x := kB C + l0) dX4_step_76 rfl 1 rfl ?_
  refine C_getI (D := mdX4_step) (pc' := 80) (p := l0) f_X4_58 rfl dX4_step_77 rfl (fun nearBits10 => ?_)
  refine C_ishr (D := mdX4_step) (pc' := 81) dX4_step_80 rfl ?_
  refine C_iload (D := mdX4_step) (pc' := 83) (x := l4) dX4_step_81 rfl 3 rfl ?_
  refine C_bipush (D := mdX4_step) (pc' := 85) (v := 15) dX4_step_83 rfl (by decide) ?_
  refine C_iand (D := mdX4_step) (pc' := 86) dX4_step_85 rfl ?_
  refine C_ior (D := mdX4_step) (pc' := 87) dX4_step_86 rfl ?_
  refine C_letI (fun v11 => ?_)
  refine C_istore (D := mdX4_step) (pc' := 89) (ls' := [(7, .int v11), (6, .int s0), (0, .ref (kB C + l0)), (3, .int l3), (4, .int l4), (5, .int l5)]) dX4_step_87 rfl (by decide) rfl ?_
  refine C_iload_n (D := mdX4_step) (pc' := 90) (x := l3) dX4_step_89 rfl 3 rfl ?_
  refine C_aload_n (D := mdX4_step) (pc' := 91) (x := kB C + l0) dX4_step_90 rfl 2 rfl ?_
  refine C_getI (D := mdX4_step) (pc' := 94) (p := l0) f_X4_89 rfl dX4_step_91 rfl (fun width12 => ?_)
  refine C_ishl (D := mdX4_step) (pc' := 95) dX4_step_94 rfl ?_
  refine C_iload (D := mdX4_step) (pc' := 97) (x := v11) dX4_step_95 rfl 0 rfl ?_
  refine C_aload_n (D := mdX4_step) (pc' := 98) (x := kB C + l0) dX4_step_97 rfl 2 rfl ?_
  refine C_getI (D := mdX4_step) (pc' := 101) (p := l0) f_X4_58 rfl dX4_step_98 rfl (fun nearBits13 => ?_)
  refine C_ishl (D := mdX4_step) (pc' := 102) dX4_step_101 rfl ?_
  refine C_ior (D := mdX4_step) (pc' := 103) dX4_step_102 rfl ?_
  refine C_iload (D := mdX4_step) (pc' := 105) (x := s0) dX4_step_103 rfl 1 rfl ?_
  refine C_ior (D := mdX4_step) (pc' := 106) dX4_step_105 rfl ?_
  exact C_iret rfl dX4_step_106
set_option maxHeartbeats 2000000 in
set_option maxRecDepth 20000 in
theorem i_X4_step (C : KX) (l0 : Nat) (l1 : Int32) (l2 : Int32) : Imp C yX4_step cX4_step 8 (some .int) 1 22 rvI [.ref (kB C + l0), .int l1, .int l2] (m_X4_step l0 l1 l2) := by
  refine Imp.of (by decide) (Nat.le_of_ble_eq_true rfl) [(0, .ref (kB C + l0)), (1, .int l1), (2, .int l2)] rfl ?_
  show Cmp C mdX4_step (QM rvI) 0 [(0, .ref (kB C + l0)), (1, .int l1), (2, .int l2)] [] (m_X4_step l0 l1 l2)
  unfold m_X4_step
  refine C_aload_n (D := mdX4_step) (pc' := 1) (x := kB C + l0) dX4_step_0 rfl 0 rfl ?_
  refine C_getR (D := mdX4_step) (pc' := 4) (p := l0) f_X4_23 rfl dX4_step_1 rfl (fun automaton1 => ?_)
  refine C_getR (D := mdX4_step) (pc' := 7) (p := automaton1) f_X4_113 rfl dX4_step_4 rfl (fun follow2 => ?_)
  refine C_iload_n (D := mdX4_step) (pc' := 8) (x := l1) dX4_step_7 rfl 1 rfl ?_
  refine C_aload_n (D := mdX4_step) (pc' := 9) (x := kB C + l0) dX4_step_8 rfl 0 rfl ?_
  refine C_getI (D := mdX4_step) (pc' := 12) (p := l0) f_X4_89 rfl dX4_step_9 rfl (fun width3 => ?_)
  refine C_ishr (D := mdX4_step) (pc' := 13) dX4_step_12 rfl ?_
  refine C_bipush (D := mdX4_step) (pc' := 15) (v := 8) dX4_step_13 rfl (by decide) ?_
  refine C_imul (D := mdX4_step) (pc' := 16) dX4_step_15 rfl ?_
  refine C_iload_n (D := mdX4_step) (pc' := 17) (x := l2) dX4_step_16 rfl 2 rfl ?_
  refine C_iadd (D := mdX4_step) (pc' := 18) dX4_step_17 rfl ?_
  refine C_aI (D := mdX4_step) (pc' := 19) (p := follow2) dX4_step_18 rfl (fun x4 => ?_)
  refine C_istore_n (D := mdX4_step) (pc' := 20) (ls' := [(3, .int x4), (0, .ref (kB C + l0)), (1, .int l1), (2, .int l2)]) dX4_step_19 rfl rfl (by decide) rfl ?_
  refine C_aload_n (D := mdX4_step) (pc' := 21) (x := kB C + l0) dX4_step_20 rfl 1 rfl ?_
  refine C_getR (D := mdX4_step) (pc' := 24) (p := l0) f_X4_27 rfl dX4_step_21 rfl (fun marks5 => ?_)
  refine C_iload_n (D := mdX4_step) (pc' := 25) (x := x4) dX4_step_24 rfl 0 rfl ?_
  refine C_aI (D := mdX4_step) (pc' := 26) (p := marks5) dX4_step_25 rfl (fun x6 => ?_)
  refine C_istore (D := mdX4_step) (pc' := 28) (ls' := [(4, .int x6), (3, .int x4), (0, .ref (kB C + l0)), (1, .int l1), (2, .int l2)]) dX4_step_26 rfl (by decide) rfl ?_
  refine C_iload (D := mdX4_step) (pc' := 30) (x := x6) dX4_step_28 rfl 0 rfl ?_
  refine C_bipush (D := mdX4_step) (pc' := 32) (v := 16) dX4_step_30 rfl (by decide) ?_
  refine C_iand (D := mdX4_step) (pc' := 33) dX4_step_32 rfl ?_
  refine C_if_eq (D := mdX4_step) (pc' := 36) (tgt := 38) dX4_step_33 (by decide) rfl ?_ ?_
  · refine C_iload_n (D := mdX4_step) (pc' := 39) (x := l1) dX4_step_38 rfl 3 rfl ?_
    refine C_iconst (D := mdX4_step) (pc' := 40) (v := 1) dX4_step_39 rfl (by decide) ?_
    refine C_aload_n (D := mdX4_step) (pc' := 41) (x := kB C + l0) dX4_step_40 rfl 2 rfl ?_
    refine C_getI (D := mdX4_step) (pc' := 44) (p := l0) f_X4_89 rfl dX4_step_41 rfl (fun width7 => ?_)
    refine C_ishl (D := mdX4_step) (pc' := 45) dX4_step_44 rfl ?_
    refine C_iconst (D := mdX4_step) (pc' := 46) (v := 1) dX4_step_45 rfl (by decide) ?_
    refine C_isub (D := mdX4_step) (pc' := 47) dX4_step_46 rfl ?_
    refine C_iand (D := mdX4_step) (pc' := 48) dX4_step_47 rfl ?_
    refine C_letI (fun v8 => ?_)
    refine C_istore (D := mdX4_step) (pc' := 50) (ls' := [(5, .int v8), (4, .int x6), (3, .int x4), (0, .ref (kB C + l0)), (1, .int l1), (2, .int l2)]) dX4_step_48 rfl (by decide) rfl ?_
    refine C_aload_n (D := mdX4_step) (pc' := 51) (x := kB C + l0) dX4_step_50 rfl 3 rfl ?_
    refine C_getI (D := mdX4_step) (pc' := 54) (p := l0) f_X4_58 rfl dX4_step_51 rfl (fun nearBits9 => ?_)
    refine C_if_le (D := mdX4_step) (pc' := 57) (tgt := 71) dX4_step_54 (by decide) rfl ?_ ?_
    · refine C_iconst (D := mdX4_step) (pc' := 72) (v := 0) dX4_step_71 rfl (by decide) ?_
      exact C_sub [3, 2, 1, 0] rfl (p_X4_step_J72 C l0 x4 x6 v8 0)
    · refine C_aload_n (D := mdX4_step) (pc' := 58) (x := kB C + l0) dX4_step_57 rfl 3 rfl ?_
      refine C_iload (D := mdX4_step) (pc' := 60) (x := v8) dX4_step_58 rfl 0 rfl ?_
      refine C_bipush (D := mdX4_step) (pc' := 62) (v := 15) dX4_step_60 rfl (by decide) ?_
      refine C_iand (D := mdX4_step) (pc' := 63) dX4_step_62 rfl ?_
      refine C_iload (D := mdX4_step) (pc' := 65) (x := x6) dX4_step_63 rfl 1 rfl ?_
      refine C_callV (D := mdX4_step) (pc' := 68) (p := l0) (st := []) [.int (v8 &&& 15), .int x6] v_X4_116 (i_X4_stepNear C l0 ((v8 &&& 15)) x6) dX4_step_65 rfl rfl rfl (Nat.le_of_ble_eq_true rfl) (by decide) (by decide) (fun c14 => ?_)
      refine C_goto (D := mdX4_step) (pc' := 72) dX4_step_68 (by decide) ?_
      exact C_sub [3, 2, 1, 0] rfl (p_X4_step_J72 C l0 x4 x6 v8 c14)
  · refine C_iconst (D := mdX4_step) (pc' := 37) (v := (-1)) dX4_step_36 rfl (by decide) ?_
    exact C_iret rfl dX4_step_37

-- StandingQueries$Search.spread(II)I
theorem dX4_spread_0 : decode cX4_spread 0 = .ok (.iload_n 2, 1) := by decide +kernel
theorem dX4_spread_1 : decode cX4_spread 1 = .ok (.istore_n 3, 1) := by decide +kernel
theorem dX4_spread_2 : decode cX4_spread 2 = .ok (.iconst 0, 1) := by decide +kernel
theorem dX4_spread_3 : decode cX4_spread 3 = .ok (.istore 4, 2) := by decide +kernel
theorem dX4_spread_5 : decode cX4_spread 5 = .ok (.iload 4, 2) := by decide +kernel
theorem dX4_spread_7 : decode cX4_spread 7 = .ok (.bipush 8, 2) := by decide +kernel
theorem dX4_spread_9 : decode cX4_spread 9 = .ok (.if_icmp .ge 78, 3) := by decide +kernel
theorem dX4_spread_12 : decode cX4_spread 12 = .ok (.aload_n 0, 1) := by decide +kernel
theorem dX4_spread_13 : decode cX4_spread 13 = .ok (.iload_n 1, 1) := by decide +kernel
theorem dX4_spread_14 : decode cX4_spread 14 = .ok (.iload 4, 2) := by decide +kernel
theorem dX4_spread_16 : decode cX4_spread 16 = .ok (.invokevirtual 125, 3) := by decide +kernel
theorem dX4_spread_19 : decode cX4_spread 19 = .ok (.istore 5, 2) := by decide +kernel
theorem dX4_spread_21 : decode cX4_spread 21 = .ok (.iload 5, 2) := by decide +kernel
theorem dX4_spread_23 : decode cX4_spread 23 = .ok (.iconst (-1), 1) := by decide +kernel
theorem dX4_spread_24 : decode cX4_spread 24 = .ok (.if_icmp .eq 57, 3) := by decide +kernel
theorem dX4_spread_27 : decode cX4_spread 27 = .ok (.aload_n 0, 1) := by decide +kernel
theorem dX4_spread_28 : decode cX4_spread 28 = .ok (.getfield 31, 3) := by decide +kernel
theorem dX4_spread_31 : decode cX4_spread 31 = .ok (.iload 5, 2) := by decide +kernel
theorem dX4_spread_33 : decode cX4_spread 33 = .ok (.iaload, 1) := by decide +kernel
theorem dX4_spread_34 : decode cX4_spread 34 = .ok (.ifCond .ne 47, 3) := by decide +kernel
theorem dX4_spread_37 : decode cX4_spread 37 = .ok (.aload_n 0, 1) := by decide +kernel
theorem dX4_spread_38 : decode cX4_spread 38 = .ok (.getfield 31, 3) := by decide +kernel
theorem dX4_spread_41 : decode cX4_spread 41 = .ok (.iload 5, 2) := by decide +kernel
theorem dX4_spread_43 : decode cX4_spread 43 = .ok (.iconst 1, 1) := by decide +kernel
theorem dX4_spread_44 : decode cX4_spread 44 = .ok (.iload_n 1, 1) := by decide +kernel
theorem dX4_spread_45 : decode cX4_spread 45 = .ok (.bipush 8, 2) := by decide +kernel
theorem dX4_spread_47 : decode cX4_spread 47 = .ok (.imul, 1) := by decide +kernel
theorem dX4_spread_48 : decode cX4_spread 48 = .ok (.iadd, 1) := by decide +kernel
theorem dX4_spread_49 : decode cX4_spread 49 = .ok (.iload 4, 2) := by decide +kernel
theorem dX4_spread_51 : decode cX4_spread 51 = .ok (.iadd, 1) := by decide +kernel
theorem dX4_spread_52 : decode cX4_spread 52 = .ok (.iastore, 1) := by decide +kernel
theorem dX4_spread_53 : decode cX4_spread 53 = .ok (.aload_n 0, 1) := by decide +kernel
theorem dX4_spread_54 : decode cX4_spread 54 = .ok (.getfield 34, 3) := by decide +kernel
theorem dX4_spread_57 : decode cX4_spread 57 = .ok (.iload_n 3, 1) := by decide +kernel
theorem dX4_spread_58 : decode cX4_spread 58 = .ok (.iload 5, 2) := by decide +kernel
theorem dX4_spread_60 : decode cX4_spread 60 = .ok (.iastore, 1) := by decide +kernel
theorem dX4_spread_61 : decode cX4_spread 61 = .ok (.iinc 3 1, 3) := by decide +kernel
theorem dX4_spread_64 : decode cX4_spread 64 = .ok (.aload_n 0, 1) := by decide +kernel
theorem dX4_spread_65 : decode cX4_spread 65 = .ok (.iload 5, 2) := by decide +kernel
theorem dX4_spread_67 : decode cX4_spread 67 = .ok (.invokevirtual 131, 3) := by decide +kernel
theorem dX4_spread_70 : decode cX4_spread 70 = .ok (.ifCond .eq 11, 3) := by decide +kernel
theorem dX4_spread_73 : decode cX4_spread 73 = .ok (.aload_n 0, 1) := by decide +kernel
theorem dX4_spread_74 : decode cX4_spread 74 = .ok (.iload 5, 2) := by decide +kernel
theorem dX4_spread_76 : decode cX4_spread 76 = .ok (.putfield 128, 3) := by decide +kernel
theorem dX4_spread_79 : decode cX4_spread 79 = .ok (.iload_n 3, 1) := by decide +kernel
theorem dX4_spread_80 : decode cX4_spread 80 = .ok (.ireturn, 1) := by decide +kernel
theorem dX4_spread_81 : decode cX4_spread 81 = .ok (.iinc 4 1, 3) := by decide +kernel
theorem dX4_spread_84 : decode cX4_spread 84 = .ok (.goto (-79), 3) := by decide +kernel
theorem dX4_spread_87 : decode cX4_spread 87 = .ok (.iload_n 3, 1) := by decide +kernel
theorem dX4_spread_88 : decode cX4_spread 88 = .ok (.ireturn, 1) := by decide +kernel
abbrev mdX4_spread : MD := (cX4_spread, RX4, 6, (some .int), yX4_spread.name, 2, 49, eT)
set_option maxHeartbeats 2000000 in
set_option maxRecDepth 20000 in
theorem p_X4_spread_J81 (C : KX) (l0 : Nat) (l1 : Int32) (l3 : Int32) (l4 : Int32) (k5 : Int32 × Int32 → Mo Int32) (hk5 : ∀ s, Cmp C mdX4_spread (QM rvI) 5 [(0, .ref (kB C + l0)), (1, .int l1), (3, .int s.1), (4, .int s.2)] [] (k5 s)) : Cmp C mdX4_spread (QM rvI) 81 [(0, .ref (kB C + l0)), (1, .int l1), (3, .int l3), (4, .int l4)] [] (m_X4_spread_J81 l0 l1 l3 l4 k5) := by
  unfold m_X4_spread_J81
  refine C_iinc (D := mdX4_spread) (pc' := 84) (j := 3) (v := (l4 + 1)) (ls' := [(4, .int (l4 + 1)), (0, .ref (kB C + l0)), (1, .int l1), (3, .int l3)]) dX4_spread_81 rfl rfl rfl (by decide) rfl ?_
  refine C_goto (D := mdX4_spread) (pc' := 5) dX4_spread_84 (by decide) ?_
  exact C_sub [1, 2, 3, 0] rfl (hk5 (l3, (l4 + 1)))
set_option maxHeartbeats 2000000 in
set_option maxRecDepth 20000 in
theorem p_X4_spread_B5 (C : KX) (l0 : Nat) (l1 : Int32)  (k5 : Int32 × Int32 → Mo Int32) (hk5 : ∀ s, Cmp C mdX4_spread (QM rvI) 5 [(0, .ref (kB C + l0)), (1, .int l1), (3, .int s.1), (4, .int s.2)] [] (k5 s)) (l3 : Int32) (l4 : Int32) : Cmp C mdX4_spread (QM rvI) 5 [(0, .ref (kB C + l0)), (1, .int l1), (3, .int l3), (4, .int l4)] [] (m_X4_spread_B5 l0 l1 k5 l3 l4) := by
  unfold m_X4_spread_B5
  refine C_iload (D := mdX4_spread) (pc' := 7) (x := l4) dX4_spread_5 rfl 3 rfl ?_
  refine C_bipush (D := mdX4_spread) (pc' := 9) (v := 8) dX4_spread_7 rfl (by decide) ?_
  refine C_icmp_ge (D := mdX4_spread) (pc' := 12) (tgt := 87) dX4_spread_9 (by decide) rfl ?_ ?_
  · refine C_iload_n (D := mdX4_spread) (pc' := 88) (x := l3) dX4_spread_87 rfl 2 rfl ?_
    exact C_iret rfl dX4_spread_88
  · refine C_aload_n (D := mdX4_spread) (pc' := 13) (x := kB C + l0) dX4_spread_12 rfl 0 rfl ?_
    refine C_iload_n (D := mdX4_spread) (pc' := 14) (x := l1) dX4_spread_13 rfl 1 rfl ?_
    refine C_iload (D := mdX4_spread) (pc' := 16) (x := l4) dX4_spread_14 rfl 3 rfl ?_
    refine C_callV (D := mdX4_spread) (pc' := 19) (p := l0) (st := []) [.int l1, .int l4] v_X4_125 (i_X4_step C l0 l1 l4) dX4_spread_16 rfl rfl rfl (Nat.le_of_ble_eq_true rfl) (by decide) (by decide) (fun c1 => ?_)
    refine C_istore (D := mdX4_spread) (pc' := 21) (ls' := [(5, .int c1), (0, .ref (kB C + l0)), (1, .int l1), (3, .int l3), (4, .int l4)]) dX4_spread_19 rfl (by decide) rfl ?_
    refine C_iload (D := mdX4_spread) (pc' := 23) (x := c1) dX4_spread_21 rfl 0 rfl ?_
    refine C_iconst (D := mdX4_spread) (pc' := 24) (v := (-1)) dX4_spread_23 rfl (by decide) ?_
    refine C_icmp_eq (D := mdX4_spread) (pc' := 27) (tgt := 81) dX4_spread_24 (by decide) rfl ?_ ?_
    · exact C_sub [1, 2, 3, 4] rfl (p_X4_spread_J81 C l0 l1 l3 l4 k5 hk5)
    · refine C_aload_n (D := mdX4_spread) (pc' := 28) (x := kB C + l0) dX4_spread_27 rfl 1 rfl ?_
      refine C_getR (D := mdX4_spread) (pc' := 31) (p := l0) f_X4_31 rfl dX4_spread_28 rfl (fun from2 => ?_)
      refine C_iload (D := mdX4_spread) (pc' := 33) (x := c1) dX4_spread_31 rfl 0 rfl ?_
      refine C_aI (D := mdX4_spread) (pc' := 34) (p := from2) dX4_spread_33 rfl (fun x3 => ?_)
      refine C_if_ne (D := mdX4_spread) (pc' := 37) (tgt := 81) dX4_spread_34 (by decide) rfl ?_ ?_
      · exact C_sub [1, 2, 3, 4] rfl (p_X4_spread_J81 C l0 l1 l3 l4 k5 hk5)
      · refine C_aload_n (D := mdX4_spread) (pc' := 38) (x := kB C + l0) dX4_spread_37 rfl 1 rfl ?_
        refine C_getR (D := mdX4_spread) (pc' := 41) (p := l0) f_X4_31 rfl dX4_spread_38 rfl (fun from4 => ?_)
        refine C_iload (D := mdX4_spread) (pc' := 43) (x := c1) dX4_spread_41 rfl 0 rfl ?_
        refine C_iconst (D := mdX4_spread) (pc' := 44) (v := 1) dX4_spread_43 rfl (by decide) ?_
        refine C_iload_n (D := mdX4_spread) (pc' := 45) (x := l1) dX4_spread_44 rfl 2 rfl ?_
        refine C_bipush (D := mdX4_spread) (pc' := 47) (v := 8) dX4_spread_45 rfl (by decide) ?_
        refine C_imul (D := mdX4_spread) (pc' := 48) dX4_spread_47 rfl ?_
        refine C_iadd (D := mdX4_spread) (pc' := 49) dX4_spread_48 rfl ?_
        refine C_iload (D := mdX4_spread) (pc' := 51) (x := l4) dX4_spread_49 rfl 4 rfl ?_
        refine C_iadd (D := mdX4_spread) (pc' := 52) dX4_spread_51 rfl ?_
        refine C_tI (D := mdX4_spread) (pc' := 53) (p := from4) dX4_spread_52 rfl ?_
        refine C_aload_n (D := mdX4_spread) (pc' := 54) (x := kB C + l0) dX4_spread_53 rfl 1 rfl ?_
        refine C_getR (D := mdX4_spread) (pc' := 57) (p := l0) f_X4_34 rfl dX4_spread_54 rfl (fun queue5 => ?_)
        refine C_iload_n (D := mdX4_spread) (pc' := 58) (x := l3) dX4_spread_57 rfl 3 rfl ?_
        refine C_iload (D := mdX4_spread) (pc' := 60) (x := c1) dX4_spread_58 rfl 0 rfl ?_
        refine C_tI (D := mdX4_spread) (pc' := 61) (p := queue5) dX4_spread_60 rfl ?_
        refine C_iinc (D := mdX4_spread) (pc' := 64) (j := 3) (v := (l3 + 1)) (ls' := [(3, .int (l3 + 1)), (5, .int c1), (0, .ref (kB C + l0)), (1, .int l1), (4, .int l4)]) dX4_spread_61 rfl rfl rfl (by decide) rfl ?_
        refine C_aload_n (D := mdX4_spread) (pc' := 65) (x := kB C + l0) dX4_spread_64 rfl 2 rfl ?_
        refine C_iload (D := mdX4_spread) (pc' := 67) (x := c1) dX4_spread_65 rfl 1 rfl ?_
        refine C_callV (D := mdX4_spread) (pc' := 70) (p := l0) (st := []) [.int c1] v_X4_131 (i_X4_isMatch C l0 c1) dX4_spread_67 rfl rfl rfl (Nat.le_of_ble_eq_true rfl) (by decide) (by decide) (fun c6 => ?_)
        refine C_if_eq (D := mdX4_spread) (pc' := 73) (tgt := 81) dX4_spread_70 (by decide) rfl ?_ ?_
        · exact C_sub [2, 3, 0, 4] rfl (p_X4_spread_J81 C l0 l1 ((l3 + 1)) l4 k5 hk5)
        · refine C_aload_n (D := mdX4_spread) (pc' := 74) (x := kB C + l0) dX4_spread_73 rfl 2 rfl ?_
          refine C_iload (D := mdX4_spread) (pc' := 76) (x := c1) dX4_spread_74 rfl 1 rfl ?_
          refine C_putI (D := mdX4_spread) (pc' := 79) (p := l0) f_X4_128 rfl dX4_spread_76 rfl ?_
          refine C_iload_n (D := mdX4_spread) (pc' := 80) (x := (l3 + 1)) dX4_spread_79 rfl 0 rfl ?_
          exact C_iret rfl dX4_spread_80
set_option maxHeartbeats 2000000 in
set_option maxRecDepth 20000 in
theorem i_X4_spread (C : KX) (l0 : Nat) (l1 : Int32) (l2 : Int32) : Imp C yX4_spread cX4_spread 6 (some .int) 2 49 rvI [.ref (kB C + l0), .int l1, .int l2] (m_X4_spread l0 l1 l2) := by
  refine Imp.of (by decide) (Nat.le_of_ble_eq_true rfl) [(0, .ref (kB C + l0)), (1, .int l1), (2, .int l2)] rfl ?_
  show Cmp C mdX4_spread (QM rvI) 0 [(0, .ref (kB C + l0)), (1, .int l1), (2, .int l2)] [] (m_X4_spread l0 l1 l2)
  unfold m_X4_spread
  refine C_iload_n (D := mdX4_spread) (pc' := 1) (x := l2) dX4_spread_0 rfl 2 rfl ?_
  refine C_istore_n (D := mdX4_spread) (pc' := 2) (ls' := [(3, .int l2), (0, .ref (kB C + l0)), (1, .int l1), (2, .int l2)]) dX4_spread_1 rfl rfl (by decide) rfl ?_
  refine C_iconst (D := mdX4_spread) (pc' := 3) (v := 0) dX4_spread_2 rfl (by decide) ?_
  refine C_istore (D := mdX4_spread) (pc' := 5) (ls' := [(4, .int 0), (3, .int l2), (0, .ref (kB C + l0)), (1, .int l1), (2, .int l2)]) dX4_spread_3 rfl (by decide) rfl ?_
  exact C_sub [2, 3, 1, 0] rfl (C_loop (fun s => [(0, .ref (kB C + l0)), (1, .int l1), (3, .int s.1), (4, .int s.2)]) (fun k hk s => p_X4_spread_B5 C l0 l1  k hk s.1 s.2) FU (l2, 0))

-- StandingQueries$Search.fewestFrom(I)I
theorem dX4_fewestFrom_0 : decode cX4_fewestFrom 0 = .ok (.iload_n 1, 1) := by decide +kernel
theorem dX4_fewestFrom_1 : decode cX4_fewestFrom 1 = .ok (.ifCond .lt 11, 3) := by decide +kernel
theorem dX4_fewestFrom_4 : decode cX4_fewestFrom 4 = .ok (.iload_n 1, 1) := by decide +kernel
theorem dX4_fewestFrom_5 : decode cX4_fewestFrom 5 = .ok (.aload_n 0, 1) := by decide +kernel
theorem dX4_fewestFrom_6 : decode cX4_fewestFrom 6 = .ok (.getfield 103, 3) := by decide +kernel
theorem dX4_fewestFrom_9 : decode cX4_fewestFrom 9 = .ok (.if_icmp .lt 6, 3) := by decide +kernel
theorem dX4_fewestFrom_12 : decode cX4_fewestFrom 12 = .ok (.bipush (-9), 2) := by decide +kernel
theorem dX4_fewestFrom_14 : decode cX4_fewestFrom 14 = .ok (.ireturn, 1) := by decide +kernel
theorem dX4_fewestFrom_15 : decode cX4_fewestFrom 15 = .ok (.iconst 0, 1) := by decide +kernel
theorem dX4_fewestFrom_16 : decode cX4_fewestFrom 16 = .ok (.istore_n 2, 1) := by decide +kernel
theorem dX4_fewestFrom_17 : decode cX4_fewestFrom 17 = .ok (.iload_n 2, 1) := by decide +kernel
theorem dX4_fewestFrom_18 : decode cX4_fewestFrom 18 = .ok (.aload_n 0, 1) := by decide +kernel
theorem dX4_fewestFrom_19 : decode cX4_fewestFrom 19 = .ok (.getfield 103, 3) := by decide +kernel
theorem dX4_fewestFrom_22 : decode cX4_fewestFrom 22 = .ok (.if_icmp .ge 16, 3) := by decide +kernel
theorem dX4_fewestFrom_25 : decode cX4_fewestFrom 25 = .ok (.aload_n 0, 1) := by decide +kernel
theorem dX4_fewestFrom_26 : decode cX4_fewestFrom 26 = .ok (.getfield 31, 3) := by decide +kernel
theorem dX4_fewestFrom_29 : decode cX4_fewestFrom 29 = .ok (.iload_n 2, 1) := by decide +kernel
theorem dX4_fewestFrom_30 : decode cX4_fewestFrom 30 = .ok (.iconst 0, 1) := by decide +kernel
theorem dX4_fewestFrom_31 : decode cX4_fewestFrom 31 = .ok (.iastore, 1) := by decide +kernel
theorem dX4_fewestFrom_32 : decode cX4_fewestFrom 32 = .ok (.iinc 2 1, 3) := by decide +kernel
theorem dX4_fewestFrom_35 : decode cX4_fewestFrom 35 = .ok (.goto (-18), 3) := by decide +kernel
theorem dX4_fewestFrom_38 : decode cX4_fewestFrom 38 = .ok (.aload_n 0, 1) := by decide +kernel
theorem dX4_fewestFrom_39 : decode cX4_fewestFrom 39 = .ok (.getfield 31, 3) := by decide +kernel
theorem dX4_fewestFrom_42 : decode cX4_fewestFrom 42 = .ok (.iload_n 1, 1) := by decide +kernel
theorem dX4_fewestFrom_43 : decode cX4_fewestFrom 43 = .ok (.iconst (-1), 1) := by decide +kernel
theorem dX4_fewestFrom_44 : decode cX4_fewestFrom 44 = .ok (.iastore, 1) := by decide +kernel
theorem dX4_fewestFrom_45 : decode cX4_fewestFrom 45 = .ok (.aload_n 0, 1) := by decide +kernel
theorem dX4_fewestFrom_46 : decode cX4_fewestFrom 46 = .ok (.getfield 34, 3) := by decide +kernel
theorem dX4_fewestFrom_49 : decode cX4_fewestFrom 49 = .ok (.iconst 0, 1) := by decide +kernel
theorem dX4_fewestFrom_50 : decode cX4_fewestFrom 50 = .ok (.iload_n 1, 1) := by decide +kernel
theorem dX4_fewestFrom_51 : decode cX4_fewestFrom 51 = .ok (.iastore, 1) := by decide +kernel
theorem dX4_fewestFrom_52 : decode cX4_fewestFrom 52 = .ok (.aload_n 0, 1) := by decide +kernel
theorem dX4_fewestFrom_53 : decode cX4_fewestFrom 53 = .ok (.iload_n 1, 1) := by decide +kernel
theorem dX4_fewestFrom_54 : decode cX4_fewestFrom 54 = .ok (.putfield 128, 3) := by decide +kernel
theorem dX4_fewestFrom_57 : decode cX4_fewestFrom 57 = .ok (.aload_n 0, 1) := by decide +kernel
theorem dX4_fewestFrom_58 : decode cX4_fewestFrom 58 = .ok (.iload_n 1, 1) := by decide +kernel
theorem dX4_fewestFrom_59 : decode cX4_fewestFrom 59 = .ok (.invokevirtual 131, 3) := by decide +kernel
theorem dX4_fewestFrom_62 : decode cX4_fewestFrom 62 = .ok (.ifCond .eq 5, 3) := by decide +kernel
theorem dX4_fewestFrom_65 : decode cX4_fewestFrom 65 = .ok (.iconst 0, 1) := by decide +kernel
theorem dX4_fewestFrom_66 : decode cX4_fewestFrom 66 = .ok (.ireturn, 1) := by decide +kernel
theorem dX4_fewestFrom_67 : decode cX4_fewestFrom 67 = .ok (.iconst 0, 1) := by decide +kernel
theorem dX4_fewestFrom_68 : decode cX4_fewestFrom 68 = .ok (.istore_n 2, 1) := by decide +kernel
theorem dX4_fewestFrom_69 : decode cX4_fewestFrom 69 = .ok (.iconst 1, 1) := by decide +kernel
theorem dX4_fewestFrom_70 : decode cX4_fewestFrom 70 = .ok (.istore_n 3, 1) := by decide +kernel
theorem dX4_fewestFrom_71 : decode cX4_fewestFrom 71 = .ok (.iconst 1, 1) := by decide +kernel
theorem dX4_fewestFrom_72 : decode cX4_fewestFrom 72 = .ok (.istore 4, 2) := by decide +kernel
theorem dX4_fewestFrom_74 : decode cX4_fewestFrom 74 = .ok (.iload 4, 2) := by decide +kernel
theorem dX4_fewestFrom_76 : decode cX4_fewestFrom 76 = .ok (.bipush 60, 2) := by decide +kernel
theorem dX4_fewestFrom_78 : decode cX4_fewestFrom 78 = .ok (.if_icmp .gt 55, 3) := by decide +kernel
theorem dX4_fewestFrom_81 : decode cX4_fewestFrom 81 = .ok (.iload_n 2, 1) := by decide +kernel
theorem dX4_fewestFrom_82 : decode cX4_fewestFrom 82 = .ok (.iload_n 3, 1) := by decide +kernel
theorem dX4_fewestFrom_83 : decode cX4_fewestFrom 83 = .ok (.if_icmp .ge 50, 3) := by decide +kernel
theorem dX4_fewestFrom_86 : decode cX4_fewestFrom 86 = .ok (.iload_n 3, 1) := by decide +kernel
theorem dX4_fewestFrom_87 : decode cX4_fewestFrom 87 = .ok (.istore 5, 2) := by decide +kernel
theorem dX4_fewestFrom_89 : decode cX4_fewestFrom 89 = .ok (.iload_n 2, 1) := by decide +kernel
theorem dX4_fewestFrom_90 : decode cX4_fewestFrom 90 = .ok (.iload 5, 2) := by decide +kernel
theorem dX4_fewestFrom_92 : decode cX4_fewestFrom 92 = .ok (.if_icmp .ge 35, 3) := by decide +kernel
theorem dX4_fewestFrom_95 : decode cX4_fewestFrom 95 = .ok (.aload_n 0, 1) := by decide +kernel
theorem dX4_fewestFrom_96 : decode cX4_fewestFrom 96 = .ok (.aload_n 0, 1) := by decide +kernel
theorem dX4_fewestFrom_97 : decode cX4_fewestFrom 97 = .ok (.getfield 34, 3) := by decide +kernel
theorem dX4_fewestFrom_100 : decode cX4_fewestFrom 100 = .ok (.iload_n 2, 1) := by decide +kernel
theorem dX4_fewestFrom_101 : decode cX4_fewestFrom 101 = .ok (.iaload, 1) := by decide +kernel
theorem dX4_fewestFrom_102 : decode cX4_fewestFrom 102 = .ok (.iload_n 3, 1) := by decide +kernel
theorem dX4_fewestFrom_103 : decode cX4_fewestFrom 103 = .ok (.invokevirtual 135, 3) := by decide +kernel
theorem dX4_fewestFrom_106 : decode cX4_fewestFrom 106 = .ok (.istore_n 3, 1) := by decide +kernel
theorem dX4_fewestFrom_107 : decode cX4_fewestFrom 107 = .ok (.aload_n 0, 1) := by decide +kernel
theorem dX4_fewestFrom_108 : decode cX4_fewestFrom 108 = .ok (.aload_n 0, 1) := by decide +kernel
theorem dX4_fewestFrom_109 : decode cX4_fewestFrom 109 = .ok (.getfield 128, 3) := by decide +kernel
theorem dX4_fewestFrom_112 : decode cX4_fewestFrom 112 = .ok (.invokevirtual 131, 3) := by decide +kernel
theorem dX4_fewestFrom_115 : decode cX4_fewestFrom 115 = .ok (.ifCond .eq 6, 3) := by decide +kernel
theorem dX4_fewestFrom_118 : decode cX4_fewestFrom 118 = .ok (.iload 4, 2) := by decide +kernel
theorem dX4_fewestFrom_120 : decode cX4_fewestFrom 120 = .ok (.ireturn, 1) := by decide +kernel
theorem dX4_fewestFrom_121 : decode cX4_fewestFrom 121 = .ok (.iinc 2 1, 3) := by decide +kernel
theorem dX4_fewestFrom_124 : decode cX4_fewestFrom 124 = .ok (.goto (-35), 3) := by decide +kernel
theorem dX4_fewestFrom_127 : decode cX4_fewestFrom 127 = .ok (.iinc 4 1, 3) := by decide +kernel
theorem dX4_fewestFrom_130 : decode cX4_fewestFrom 130 = .ok (.goto (-56), 3) := by decide +kernel
theorem dX4_fewestFrom_133 : decode cX4_fewestFrom 133 = .ok (.bipush (-9), 2) := by decide +kernel
theorem dX4_fewestFrom_135 : decode cX4_fewestFrom 135 = .ok (.ireturn, 1) := by decide +kernel
abbrev mdX4_fewestFrom : MD := (cX4_fewestFrom, RX4, 6, (some .int), yX4_fewestFrom.name, 3, 74, eT)
set_option maxHeartbeats 2000000 in
set_option maxRecDepth 20000 in
theorem p_X4_fewestFrom_B89 (C : KX) (l0 : Nat) (l4 : Int32) (l5 : Int32) (k74 : Int32 × Int32 × Int32 → Mo Int32) (hk74 : ∀ s, Cmp C mdX4_fewestFrom (QM rvI) 74 [(0, .ref (kB C + l0)), (2, .int s.1), (3, .int s.2.1), (4, .int s.2.2)] [] (k74 s)) (k89 : Int32 × Int32 → Mo Int32) (hk89 : ∀ s, Cmp C mdX4_fewestFrom (QM rvI) 89 [(0, .ref (kB C + l0)), (2, .int s.1), (3, .int s.2), (4, .int l4), (5, .int l5)] [] (k89 s)) (l2 : Int32) (l3 : Int32) : Cmp C mdX4_fewestFrom (QM rvI) 89 [(0, .ref (kB C + l0)), (2, .int l2), (3, .int l3), (4, .int l4), (5, .int l5)] [] (m_X4_fewestFrom_B89 l0 l4 l5 k74 k89 l2 l3) := by
  unfold m_X4_fewestFrom_B89
  refine C_iload_n (D := mdX4_fewestFrom) (pc' := 90) (x := l2) dX4_fewestFrom_89 rfl 1 rfl ?_
  refine C_iload (D := mdX4_fewestFrom) (pc' := 92) (x := l5) dX4_fewestFrom_90 rfl 4 rfl ?_
  refine C_icmp_ge (D := mdX4_fewestFrom) (pc' := 95) (tgt := 127) dX4_fewestFrom_92 (by decide) rfl ?_ ?_
  · refine C_iinc (D := mdX4_fewestFrom) (pc' := 130) (j := 3) (v := (l4 + 1)) (ls' := [(4, .int (l4 + 1)), (0, .ref (kB C + l0)), (2, .int l2), (3, .int l3), (5, .int l5)]) dX4_fewestFrom_127 rfl rfl rfl (by decide) rfl ?_
    refine C_goto (D := mdX4_fewestFrom) (pc' := 74) dX4_fewestFrom_130 (by decide) ?_
    exact C_sub [1, 2, 3, 0] rfl (hk74 (l2, l3, (l4 + 1)))
  · refine C_aload_n (D := mdX4_fewestFrom) (pc' := 96) (x := kB C + l0) dX4_fewestFrom_95 rfl 0 rfl ?_
    refine C_aload_n (D := mdX4_fewestFrom) (pc' := 97) (x := kB C + l0) dX4_fewestFrom_96 rfl 0 rfl ?_
    refine C_getR (D := mdX4_fewestFrom) (pc' := 100) (p := l0) f_X4_34 rfl dX4_fewestFrom_97 rfl (fun queue6 => ?_)
    refine C_iload_n (D := mdX4_fewestFrom) (pc' := 101) (x := l2) dX4_fewestFrom_100 rfl 1 rfl ?_
    refine C_aI (D := mdX4_fewestFrom) (pc' := 102) (p := queue6) dX4_fewestFrom_101 rfl (fun x7 => ?_)
    refine C_iload_n (D := mdX4_fewestFrom) (pc' := 103) (x := l3) dX4_fewestFrom_102 rfl 2 rfl ?_
    refine C_callV (D := mdX4_fewestFrom) (pc' := 106) (p := l0) (st := []) [.int x7, .int l3] v_X4_135 (i_X4_spread C l0 x7 l3) dX4_fewestFrom_103 rfl rfl rfl (Nat.le_of_ble_eq_true rfl) (by decide) (by decide) (fun c8 => ?_)
    refine C_istore_n (D := mdX4_fewestFrom) (pc' := 107) (ls' := [(3, .int c8), (0, .ref (kB C + l0)), (2, .int l2), (4, .int l4), (5, .int l5)]) dX4_fewestFrom_106 rfl rfl (by decide) rfl ?_
    refine C_aload_n (D := mdX4_fewestFrom) (pc' := 108) (x := kB C + l0) dX4_fewestFrom_107 rfl 1 rfl ?_
    refine C_aload_n (D := mdX4_fewestFrom) (pc' := 109) (x := kB C + l0) dX4_fewestFrom_108 rfl 1 rfl ?_
    refine C_getI (D := mdX4_fewestFrom) (pc' := 112) (p := l0) f_X4_128 rfl dX4_fewestFrom_109 rfl (fun found9 => ?_)
    refine C_callV (D := mdX4_fewestFrom) (pc' := 115) (p := l0) (st := []) [.int found9] v_X4_131 (i_X4_isMatch C l0 found9) dX4_fewestFrom_112 rfl rfl rfl (Nat.le_of_ble_eq_true rfl) (by decide) (by decide) (fun c10 => ?_)
    refine C_if_eq (D := mdX4_fewestFrom) (pc' := 118) (tgt := 121) dX4_fewestFrom_115 (by decide) rfl ?_ ?_
    · refine C_iinc (D := mdX4_fewestFrom) (pc' := 124) (j := 2) (v := (l2 + 1)) (ls' := [(2, .int (l2 + 1)), (3, .int c8), (0, .ref (kB C + l0)), (4, .int l4), (5, .int l5)]) dX4_fewestFrom_121 rfl rfl rfl (by decide) rfl ?_
      refine C_goto (D := mdX4_fewestFrom) (pc' := 89) dX4_fewestFrom_124 (by decide) ?_
      exact C_sub [2, 0, 1, 3, 4] rfl (hk89 ((l2 + 1), c8))
    · refine C_iload (D := mdX4_fewestFrom) (pc' := 120) (x := l4) dX4_fewestFrom_118 rfl 3 rfl ?_
      exact C_iret rfl dX4_fewestFrom_120
set_option maxHeartbeats 2000000 in
set_option maxRecDepth 20000 in
theorem p_X4_fewestFrom_B74 (C : KX) (l0 : Nat)  (k74 : Int32 × Int32 × Int32 → Mo Int32) (hk74 : ∀ s, Cmp C mdX4_fewestFrom (QM rvI) 74 [(0, .ref (kB C + l0)), (2, .int s.1), (3, .int s.2.1), (4, .int s.2.2)] [] (k74 s)) (l2 : Int32) (l3 : Int32) (l4 : Int32) : Cmp C mdX4_fewestFrom (QM rvI) 74 [(0, .ref (kB C + l0)), (2, .int l2), (3, .int l3), (4, .int l4)] [] (m_X4_fewestFrom_B74 l0 k74 l2 l3 l4) := by
  unfold m_X4_fewestFrom_B74
  refine C_iload (D := mdX4_fewestFrom) (pc' := 76) (x := l4) dX4_fewestFrom_74 rfl 3 rfl ?_
  refine C_bipush (D := mdX4_fewestFrom) (pc' := 78) (v := 60) dX4_fewestFrom_76 rfl (by decide) ?_
  refine C_icmp_gt (D := mdX4_fewestFrom) (pc' := 81) (tgt := 133) dX4_fewestFrom_78 (by decide) rfl ?_ ?_
  · refine C_bipush (D := mdX4_fewestFrom) (pc' := 135) (v := (-9)) dX4_fewestFrom_133 rfl (by decide) ?_
    exact C_iret rfl dX4_fewestFrom_135
  · refine C_iload_n (D := mdX4_fewestFrom) (pc' := 82) (x := l2) dX4_fewestFrom_81 rfl 1 rfl ?_
    refine C_iload_n (D := mdX4_fewestFrom) (pc' := 83) (x := l3) dX4_fewestFrom_82 rfl 2 rfl ?_
    refine C_icmp_ge (D := mdX4_fewestFrom) (pc' := 86) (tgt := 133) dX4_fewestFrom_83 (by decide) rfl ?_ ?_
    · refine C_bipush (D := mdX4_fewestFrom) (pc' := 135) (v := (-9)) dX4_fewestFrom_133 rfl (by decide) ?_
      exact C_iret rfl dX4_fewestFrom_135
    · refine C_iload_n (D := mdX4_fewestFrom) (pc' := 87) (x := l3) dX4_fewestFrom_86 rfl 2 rfl ?_
      refine C_istore (D := mdX4_fewestFrom) (pc' := 89) (ls' := [(5, .int l3), (0, .ref (kB C + l0)), (2, .int l2), (3, .int l3), (4, .int l4)]) dX4_fewestFrom_87 rfl (by decide) rfl ?_
      exact C_sub [1, 2, 3, 4, 0] rfl (C_loop (fun s => [(0, .ref (kB C + l0)), (2, .int s.1), (3, .int s.2), (4, .int l4), (5, .int l3)]) (fun k hk s => p_X4_fewestFrom_B89 C l0 l4 l3 k74 hk74 k hk s.1 s.2) FU (l2, l3))
set_option maxHeartbeats 2000000 in
set_option maxRecDepth 20000 in
theorem p_X4_fewestFrom_B17 (C : KX) (l0 : Nat) (l1 : Int32)  (k17 : Int32 → Mo Int32) (hk17 : ∀ s, Cmp C mdX4_fewestFrom (QM rvI) 17 [(0, .ref (kB C + l0)), (1, .int l1), (2, .int s)] [] (k17 s)) (l2 : Int32) : Cmp C mdX4_fewestFrom (QM rvI) 17 [(0, .ref (kB C + l0)), (1, .int l1), (2, .int l2)] [] (m_X4_fewestFrom_B17 l0 l1 k17 l2) := by
  unfold m_X4_fewestFrom_B17
  refine C_iload_n (D := mdX4_fewestFrom) (pc' := 18) (x := l2) dX4_fewestFrom_17 rfl 2 rfl ?_
  refine C_aload_n (D := mdX4_fewestFrom) (pc' := 19) (x := kB C + l0) dX4_fewestFrom_18 rfl 0 rfl ?_
  refine C_getI (D := mdX4_fewestFrom) (pc' := 22) (p := l0) f_X4_103 rfl dX4_fewestFrom_19 rfl (fun states2 => ?_)
  refine C_icmp_ge (D := mdX4_fewestFrom) (pc' := 25) (tgt := 38) dX4_fewestFrom_22 (by decide) rfl ?_ ?_
  · refine C_aload_n (D := mdX4_fewestFrom) (pc' := 39) (x := kB C + l0) dX4_fewestFrom_38 rfl 0 rfl ?_
    refine C_getR (D := mdX4_fewestFrom) (pc' := 42) (p := l0) f_X4_31 rfl dX4_fewestFrom_39 rfl (fun from3 => ?_)
    refine C_iload_n (D := mdX4_fewestFrom) (pc' := 43) (x := l1) dX4_fewestFrom_42 rfl 1 rfl ?_
    refine C_iconst (D := mdX4_fewestFrom) (pc' := 44) (v := (-1)) dX4_fewestFrom_43 rfl (by decide) ?_
    refine C_tI (D := mdX4_fewestFrom) (pc' := 45) (p := from3) dX4_fewestFrom_44 rfl ?_
    refine C_aload_n (D := mdX4_fewestFrom) (pc' := 46) (x := kB C + l0) dX4_fewestFrom_45 rfl 0 rfl ?_
    refine C_getR (D := mdX4_fewestFrom) (pc' := 49) (p := l0) f_X4_34 rfl dX4_fewestFrom_46 rfl (fun queue4 => ?_)
    refine C_iconst (D := mdX4_fewestFrom) (pc' := 50) (v := 0) dX4_fewestFrom_49 rfl (by decide) ?_
    refine C_iload_n (D := mdX4_fewestFrom) (pc' := 51) (x := l1) dX4_fewestFrom_50 rfl 1 rfl ?_
    refine C_tI (D := mdX4_fewestFrom) (pc' := 52) (p := queue4) dX4_fewestFrom_51 rfl ?_
    refine C_aload_n (D := mdX4_fewestFrom) (pc' := 53) (x := kB C + l0) dX4_fewestFrom_52 rfl 0 rfl ?_
    refine C_iload_n (D := mdX4_fewestFrom) (pc' := 54) (x := l1) dX4_fewestFrom_53 rfl 1 rfl ?_
    refine C_putI (D := mdX4_fewestFrom) (pc' := 57) (p := l0) f_X4_128 rfl dX4_fewestFrom_54 rfl ?_
    refine C_aload_n (D := mdX4_fewestFrom) (pc' := 58) (x := kB C + l0) dX4_fewestFrom_57 rfl 0 rfl ?_
    refine C_iload_n (D := mdX4_fewestFrom) (pc' := 59) (x := l1) dX4_fewestFrom_58 rfl 1 rfl ?_
    refine C_callV (D := mdX4_fewestFrom) (pc' := 62) (p := l0) (st := []) [.int l1] v_X4_131 (i_X4_isMatch C l0 l1) dX4_fewestFrom_59 rfl rfl rfl (Nat.le_of_ble_eq_true rfl) (by decide) (by decide) (fun c5 => ?_)
    refine C_if_eq (D := mdX4_fewestFrom) (pc' := 65) (tgt := 67) dX4_fewestFrom_62 (by decide) rfl ?_ ?_
    · refine C_iconst (D := mdX4_fewestFrom) (pc' := 68) (v := 0) dX4_fewestFrom_67 rfl (by decide) ?_
      refine C_istore_n (D := mdX4_fewestFrom) (pc' := 69) (ls' := [(2, .int 0), (0, .ref (kB C + l0)), (1, .int l1)]) dX4_fewestFrom_68 rfl rfl (by decide) rfl ?_
      refine C_iconst (D := mdX4_fewestFrom) (pc' := 70) (v := 1) dX4_fewestFrom_69 rfl (by decide) ?_
      refine C_istore_n (D := mdX4_fewestFrom) (pc' := 71) (ls' := [(3, .int 1), (2, .int 0), (0, .ref (kB C + l0)), (1, .int l1)]) dX4_fewestFrom_70 rfl rfl (by decide) rfl ?_
      refine C_iconst (D := mdX4_fewestFrom) (pc' := 72) (v := 1) dX4_fewestFrom_71 rfl (by decide) ?_
      refine C_istore (D := mdX4_fewestFrom) (pc' := 74) (ls' := [(4, .int 1), (3, .int 1), (2, .int 0), (0, .ref (kB C + l0)), (1, .int l1)]) dX4_fewestFrom_72 rfl (by decide) rfl ?_
      exact C_sub [3, 2, 1, 0] rfl (C_loop (fun s => [(0, .ref (kB C + l0)), (2, .int s.1), (3, .int s.2.1), (4, .int s.2.2)]) (fun k hk s => p_X4_fewestFrom_B74 C l0  k hk s.1 s.2.1 s.2.2) FU (0, 1, 1))
    · refine C_iconst (D := mdX4_fewestFrom) (pc' := 66) (v := 0) dX4_fewestFrom_65 rfl (by decide) ?_
      exact C_iret rfl dX4_fewestFrom_66
  · refine C_aload_n (D := mdX4_fewestFrom) (pc' := 26) (x := kB C + l0) dX4_fewestFrom_25 rfl 0 rfl ?_
    refine C_getR (D := mdX4_fewestFrom) (pc' := 29) (p := l0) f_X4_31 rfl dX4_fewestFrom_26 rfl (fun from11 => ?_)
    refine C_iload_n (D := mdX4_fewestFrom) (pc' := 30) (x := l2) dX4_fewestFrom_29 rfl 2 rfl ?_
    refine C_iconst (D := mdX4_fewestFrom) (pc' := 31) (v := 0) dX4_fewestFrom_30 rfl (by decide) ?_
    refine C_tI (D := mdX4_fewestFrom) (pc' := 32) (p := from11) dX4_fewestFrom_31 rfl ?_
    refine C_iinc (D := mdX4_fewestFrom) (pc' := 35) (j := 2) (v := (l2 + 1)) (ls' := [(2, .int (l2 + 1)), (0, .ref (kB C + l0)), (1, .int l1)]) dX4_fewestFrom_32 rfl rfl rfl (by decide) rfl ?_
    refine C_goto (D := mdX4_fewestFrom) (pc' := 17) dX4_fewestFrom_35 (by decide) ?_
    exact C_sub [1, 2, 0] rfl (hk17 ((l2 + 1)))
set_option maxHeartbeats 2000000 in
set_option maxRecDepth 20000 in
theorem i_X4_fewestFrom (C : KX) (l0 : Nat) (l1 : Int32) : Imp C yX4_fewestFrom cX4_fewestFrom 6 (some .int) 3 74 rvI [.ref (kB C + l0), .int l1] (m_X4_fewestFrom l0 l1) := by
  refine Imp.of (by decide) (Nat.le_of_ble_eq_true rfl) [(0, .ref (kB C + l0)), (1, .int l1)] rfl ?_
  show Cmp C mdX4_fewestFrom (QM rvI) 0 [(0, .ref (kB C + l0)), (1, .int l1)] [] (m_X4_fewestFrom l0 l1)
  unfold m_X4_fewestFrom
  refine C_iload_n (D := mdX4_fewestFrom) (pc' := 1) (x := l1) dX4_fewestFrom_0 rfl 1 rfl ?_
  refine C_if_lt (D := mdX4_fewestFrom) (pc' := 4) (tgt := 12) dX4_fewestFrom_1 (by decide) rfl ?_ ?_
  · refine C_bipush (D := mdX4_fewestFrom) (pc' := 14) (v := (-9)) dX4_fewestFrom_12 rfl (by decide) ?_
    exact C_iret rfl dX4_fewestFrom_14
  · refine C_iload_n (D := mdX4_fewestFrom) (pc' := 5) (x := l1) dX4_fewestFrom_4 rfl 1 rfl ?_
    refine C_aload_n (D := mdX4_fewestFrom) (pc' := 6) (x := kB C + l0) dX4_fewestFrom_5 rfl 0 rfl ?_
    refine C_getI (D := mdX4_fewestFrom) (pc' := 9) (p := l0) f_X4_103 rfl dX4_fewestFrom_6 rfl (fun states1 => ?_)
    refine C_icmp_lt (D := mdX4_fewestFrom) (pc' := 12) (tgt := 15) dX4_fewestFrom_9 (by decide) rfl ?_ ?_
    · refine C_iconst (D := mdX4_fewestFrom) (pc' := 16) (v := 0) dX4_fewestFrom_15 rfl (by decide) ?_
      refine C_istore_n (D := mdX4_fewestFrom) (pc' := 17) (ls' := [(2, .int 0), (0, .ref (kB C + l0)), (1, .int l1)]) dX4_fewestFrom_16 rfl rfl (by decide) rfl ?_
      exact C_sub [1, 2, 0] rfl (C_loop (fun s => [(0, .ref (kB C + l0)), (1, .int l1), (2, .int s)]) (fun k hk s => p_X4_fewestFrom_B17 C l0 l1  k hk s) FU 0)
    · refine C_bipush (D := mdX4_fewestFrom) (pc' := 14) (v := (-9)) dX4_fewestFrom_12 rfl (by decide) ?_
      exact C_iret rfl dX4_fewestFrom_14

-- StandingQueries$Search.letterOfRow(II)I
theorem dX4_letterOfRow_0 : decode cX4_letterOfRow 0 = .ok (.aload_n 0, 1) := by decide +kernel
theorem dX4_letterOfRow_1 : decode cX4_letterOfRow 1 = .ok (.getfield 128, 3) := by decide +kernel
theorem dX4_letterOfRow_4 : decode cX4_letterOfRow 4 = .ok (.istore_n 3, 1) := by decide +kernel
theorem dX4_letterOfRow_5 : decode cX4_letterOfRow 5 = .ok (.iload_n 2, 1) := by decide +kernel
theorem dX4_letterOfRow_6 : decode cX4_letterOfRow 6 = .ok (.iconst 1, 1) := by decide +kernel
theorem dX4_letterOfRow_7 : decode cX4_letterOfRow 7 = .ok (.isub, 1) := by decide +kernel
theorem dX4_letterOfRow_8 : decode cX4_letterOfRow 8 = .ok (.istore 4, 2) := by decide +kernel
theorem dX4_letterOfRow_10 : decode cX4_letterOfRow 10 = .ok (.iload 4, 2) := by decide +kernel
theorem dX4_letterOfRow_12 : decode cX4_letterOfRow 12 = .ok (.iload_n 1, 1) := by decide +kernel
theorem dX4_letterOfRow_13 : decode cX4_letterOfRow 13 = .ok (.if_icmp .le 30, 3) := by decide +kernel
theorem dX4_letterOfRow_16 : decode cX4_letterOfRow 16 = .ok (.aload_n 0, 1) := by decide +kernel
theorem dX4_letterOfRow_17 : decode cX4_letterOfRow 17 = .ok (.getfield 31, 3) := by decide +kernel
theorem dX4_letterOfRow_20 : decode cX4_letterOfRow 20 = .ok (.iload_n 3, 1) := by decide +kernel
theorem dX4_letterOfRow_21 : decode cX4_letterOfRow 21 = .ok (.iaload, 1) := by decide +kernel
theorem dX4_letterOfRow_22 : decode cX4_letterOfRow 22 = .ok (.ifCond .le 21, 3) := by decide +kernel
theorem dX4_letterOfRow_25 : decode cX4_letterOfRow 25 = .ok (.aload_n 0, 1) := by decide +kernel
theorem dX4_letterOfRow_26 : decode cX4_letterOfRow 26 = .ok (.getfield 31, 3) := by decide +kernel
theorem dX4_letterOfRow_29 : decode cX4_letterOfRow 29 = .ok (.iload_n 3, 1) := by decide +kernel
theorem dX4_letterOfRow_30 : decode cX4_letterOfRow 30 = .ok (.iaload, 1) := by decide +kernel
theorem dX4_letterOfRow_31 : decode cX4_letterOfRow 31 = .ok (.iconst 1, 1) := by decide +kernel
theorem dX4_letterOfRow_32 : decode cX4_letterOfRow 32 = .ok (.isub, 1) := by decide +kernel
theorem dX4_letterOfRow_33 : decode cX4_letterOfRow 33 = .ok (.bipush 8, 2) := by decide +kernel
theorem dX4_letterOfRow_35 : decode cX4_letterOfRow 35 = .ok (.idiv, 1) := by decide +kernel
theorem dX4_letterOfRow_36 : decode cX4_letterOfRow 36 = .ok (.istore_n 3, 1) := by decide +kernel
theorem dX4_letterOfRow_37 : decode cX4_letterOfRow 37 = .ok (.iinc 4 (-1), 3) := by decide +kernel
theorem dX4_letterOfRow_40 : decode cX4_letterOfRow 40 = .ok (.goto (-30), 3) := by decide +kernel
theorem dX4_letterOfRow_43 : decode cX4_letterOfRow 43 = .ok (.iconst 0, 1) := by decide +kernel
theorem dX4_letterOfRow_44 : decode cX4_letterOfRow 44 = .ok (.aload_n 0, 1) := by decide +kernel
theorem dX4_letterOfRow_45 : decode cX4_letterOfRow 45 = .ok (.getfield 31, 3) := by decide +kernel
theorem dX4_letterOfRow_48 : decode cX4_letterOfRow 48 = .ok (.iload_n 3, 1) := by decide +kernel
theorem dX4_letterOfRow_49 : decode cX4_letterOfRow 49 = .ok (.iaload, 1) := by decide +kernel
theorem dX4_letterOfRow_50 : decode cX4_letterOfRow 50 = .ok (.iconst 1, 1) := by decide +kernel
theorem dX4_letterOfRow_51 : decode cX4_letterOfRow 51 = .ok (.isub, 1) := by decide +kernel
theorem dX4_letterOfRow_52 : decode cX4_letterOfRow 52 = .ok (.invokestatic 138, 3) := by decide +kernel
theorem dX4_letterOfRow_55 : decode cX4_letterOfRow 55 = .ok (.bipush 8, 2) := by decide +kernel
theorem dX4_letterOfRow_57 : decode cX4_letterOfRow 57 = .ok (.irem, 1) := by decide +kernel
theorem dX4_letterOfRow_58 : decode cX4_letterOfRow 58 = .ok (.ireturn, 1) := by decide +kernel
abbrev mdX4_letterOfRow : MD := (cX4_letterOfRow, RX4, 5, (some .int), yX4_letterOfRow.name, 1, 13, eT)
set_option maxHeartbeats 2000000 in
set_option maxRecDepth 20000 in
theorem p_X4_letterOfRow_J43 (C : KX) (l0 : Nat) (l3 : Int32)  : Cmp C mdX4_letterOfRow (QM rvI) 43 [(0, .ref (kB C + l0)), (3, .int l3)] [] (m_X4_letterOfRow_J43 l0 l3) := by
  unfold m_X4_letterOfRow_J43
  refine C_iconst (D := mdX4_letterOfRow) (pc' := 44) (v := 0) dX4_letterOfRow_43 rfl (by decide) ?_
  refine C_aload_n (D := mdX4_letterOfRow) (pc' := 45) (x := kB C + l0) dX4_letterOfRow_44 rfl 0 rfl ?_
  refine C_getR (D := mdX4_letterOfRow) (pc' := 48) (p := l0) f_X4_31 rfl dX4_letterOfRow_45 rfl (fun from3 => ?_)
  refine C_iload_n (D := mdX4_letterOfRow) (pc' := 49) (x := l3) dX4_letterOfRow_48 rfl 1 rfl ?_
  refine C_aI (D := mdX4_letterOfRow) (pc' := 50) (p := from3) dX4_letterOfRow_49 rfl (fun x4 => ?_)
  refine C_iconst (D := mdX4_letterOfRow) (pc' := 51) (v := 1) dX4_letterOfRow_50 rfl (by decide) ?_
  refine C_isub (D := mdX4_letterOfRow) (pc' := 52) dX4_letterOfRow_51 rfl ?_
  refine C_max (D := mdX4_letterOfRow) (pc' := 55) mm_X4_138 mm_max_s mm_i mm_max_c dX4_letterOfRow_52 rfl (by decide) (Nat.le_of_ble_eq_true rfl) ?_
  refine C_bipush (D := mdX4_letterOfRow) (pc' := 57) (v := 8) dX4_letterOfRow_55 rfl (by decide) ?_
  refine C_irem (D := mdX4_letterOfRow) (pc' := 58) dX4_letterOfRow_57 rfl (by decide) ?_
  exact C_iret rfl dX4_letterOfRow_58
set_option maxHeartbeats 2000000 in
set_option maxRecDepth 20000 in
theorem p_X4_letterOfRow_B10 (C : KX) (l0 : Nat) (l1 : Int32)  (k10 : Int32 × Int32 → Mo Int32) (hk10 : ∀ s, Cmp C mdX4_letterOfRow (QM rvI) 10 [(0, .ref (kB C + l0)), (1, .int l1), (3, .int s.1), (4, .int s.2)] [] (k10 s)) (l3 : Int32) (l4 : Int32) : Cmp C mdX4_letterOfRow (QM rvI) 10 [(0, .ref (kB C + l0)), (1, .int l1), (3, .int l3), (4, .int l4)] [] (m_X4_letterOfRow_B10 l0 l1 k10 l3 l4) := by
  unfold m_X4_letterOfRow_B10
  refine C_iload (D := mdX4_letterOfRow) (pc' := 12) (x := l4) dX4_letterOfRow_10 rfl 3 rfl ?_
  refine C_iload_n (D := mdX4_letterOfRow) (pc' := 13) (x := l1) dX4_letterOfRow_12 rfl 1 rfl ?_
  refine C_icmp_le (D := mdX4_letterOfRow) (pc' := 16) (tgt := 43) dX4_letterOfRow_13 (by decide) rfl ?_ ?_
  · exact C_sub [0, 2] rfl (p_X4_letterOfRow_J43 C l0 l3)
  · refine C_aload_n (D := mdX4_letterOfRow) (pc' := 17) (x := kB C + l0) dX4_letterOfRow_16 rfl 0 rfl ?_
    refine C_getR (D := mdX4_letterOfRow) (pc' := 20) (p := l0) f_X4_31 rfl dX4_letterOfRow_17 rfl (fun from5 => ?_)
    refine C_iload_n (D := mdX4_letterOfRow) (pc' := 21) (x := l3) dX4_letterOfRow_20 rfl 2 rfl ?_
    refine C_aI (D := mdX4_letterOfRow) (pc' := 22) (p := from5) dX4_letterOfRow_21 rfl (fun x6 => ?_)
    refine C_if_le (D := mdX4_letterOfRow) (pc' := 25) (tgt := 43) dX4_letterOfRow_22 (by decide) rfl ?_ ?_
    · exact C_sub [0, 2] rfl (p_X4_letterOfRow_J43 C l0 l3)
    · refine C_aload_n (D := mdX4_letterOfRow) (pc' := 26) (x := kB C + l0) dX4_letterOfRow_25 rfl 0 rfl ?_
      refine C_getR (D := mdX4_letterOfRow) (pc' := 29) (p := l0) f_X4_31 rfl dX4_letterOfRow_26 rfl (fun from7 => ?_)
      refine C_iload_n (D := mdX4_letterOfRow) (pc' := 30) (x := l3) dX4_letterOfRow_29 rfl 2 rfl ?_
      refine C_aI (D := mdX4_letterOfRow) (pc' := 31) (p := from7) dX4_letterOfRow_30 rfl (fun x8 => ?_)
      refine C_iconst (D := mdX4_letterOfRow) (pc' := 32) (v := 1) dX4_letterOfRow_31 rfl (by decide) ?_
      refine C_isub (D := mdX4_letterOfRow) (pc' := 33) dX4_letterOfRow_32 rfl ?_
      refine C_bipush (D := mdX4_letterOfRow) (pc' := 35) (v := 8) dX4_letterOfRow_33 rfl (by decide) ?_
      refine C_idiv (D := mdX4_letterOfRow) (pc' := 36) dX4_letterOfRow_35 rfl (by decide) ?_
      refine C_letI (fun v9 => ?_)
      refine C_istore_n (D := mdX4_letterOfRow) (pc' := 37) (ls' := [(3, .int v9), (0, .ref (kB C + l0)), (1, .int l1), (4, .int l4)]) dX4_letterOfRow_36 rfl rfl (by decide) rfl ?_
      refine C_iinc (D := mdX4_letterOfRow) (pc' := 40) (j := 3) (v := (l4 + (-1))) (ls' := [(4, .int (l4 + (-1))), (3, .int v9), (0, .ref (kB C + l0)), (1, .int l1)]) dX4_letterOfRow_37 rfl rfl rfl (by decide) rfl ?_
      refine C_goto (D := mdX4_letterOfRow) (pc' := 10) dX4_letterOfRow_40 (by decide) ?_
      exact C_sub [2, 3, 1, 0] rfl (hk10 (v9, (l4 + (-1))))
set_option maxHeartbeats 2000000 in
set_option maxRecDepth 20000 in
theorem i_X4_letterOfRow (C : KX) (l0 : Nat) (l1 : Int32) (l2 : Int32) : Imp C yX4_letterOfRow cX4_letterOfRow 5 (some .int) 1 13 rvI [.ref (kB C + l0), .int l1, .int l2] (m_X4_letterOfRow l0 l1 l2) := by
  refine Imp.of (by decide) (Nat.le_of_ble_eq_true rfl) [(0, .ref (kB C + l0)), (1, .int l1), (2, .int l2)] rfl ?_
  show Cmp C mdX4_letterOfRow (QM rvI) 0 [(0, .ref (kB C + l0)), (1, .int l1), (2, .int l2)] [] (m_X4_letterOfRow l0 l1 l2)
  unfold m_X4_letterOfRow
  refine C_aload_n (D := mdX4_letterOfRow) (pc' := 1) (x := kB C + l0) dX4_letterOfRow_0 rfl 0 rfl ?_
  refine C_getI (D := mdX4_letterOfRow) (pc' := 4) (p := l0) f_X4_128 rfl dX4_letterOfRow_1 rfl (fun found1 => ?_)
  refine C_istore_n (D := mdX4_letterOfRow) (pc' := 5) (ls' := [(3, .int found1), (0, .ref (kB C + l0)), (1, .int l1), (2, .int l2)]) dX4_letterOfRow_4 rfl rfl (by decide) rfl ?_
  refine C_iload_n (D := mdX4_letterOfRow) (pc' := 6) (x := l2) dX4_letterOfRow_5 rfl 3 rfl ?_
  refine C_iconst (D := mdX4_letterOfRow) (pc' := 7) (v := 1) dX4_letterOfRow_6 rfl (by decide) ?_
  refine C_isub (D := mdX4_letterOfRow) (pc' := 8) dX4_letterOfRow_7 rfl ?_
  refine C_letI (fun v2 => ?_)
  refine C_istore (D := mdX4_letterOfRow) (pc' := 10) (ls' := [(4, .int v2), (3, .int found1), (0, .ref (kB C + l0)), (1, .int l1), (2, .int l2)]) dX4_letterOfRow_8 rfl (by decide) rfl ?_
  exact C_sub [2, 3, 1, 0] rfl (C_loop (fun s => [(0, .ref (kB C + l0)), (1, .int l1), (3, .int s.1), (4, .int s.2)]) (fun k hk s => p_X4_letterOfRow_B10 C l0 l1  k hk s.1 s.2) FU (found1, v2))

-- StandingQueries.shortest(II)I
theorem dX7_shortest_0 : decode cX7_shortest 0 = .ok (.aload_n 0, 1) := by decide +kernel
theorem dX7_shortest_1 : decode cX7_shortest 1 = .ok (.iload_n 1, 1) := by decide +kernel
theorem dX7_shortest_2 : decode cX7_shortest 2 = .ok (.invokevirtual 82, 3) := by decide +kernel
theorem dX7_shortest_5 : decode cX7_shortest 5 = .ok (.ifCond .eq 8, 3) := by decide +kernel
theorem dX7_shortest_8 : decode cX7_shortest 8 = .ok (.iload_n 2, 1) := by decide +kernel
theorem dX7_shortest_9 : decode cX7_shortest 9 = .ok (.iconst (-1), 1) := by decide +kernel
theorem dX7_shortest_10 : decode cX7_shortest 10 = .ok (.if_icmp .ge 5, 3) := by decide +kernel
theorem dX7_shortest_13 : decode cX7_shortest 13 = .ok (.iconst (-1), 1) := by decide +kernel
theorem dX7_shortest_14 : decode cX7_shortest 14 = .ok (.ireturn, 1) := by decide +kernel
theorem dX7_shortest_15 : decode cX7_shortest 15 = .ok (.aload_n 0, 1) := by decide +kernel
theorem dX7_shortest_16 : decode cX7_shortest 16 = .ok (.iload_n 1, 1) := by decide +kernel
theorem dX7_shortest_17 : decode cX7_shortest 17 = .ok (.invokevirtual 150, 3) := by decide +kernel
theorem dX7_shortest_20 : decode cX7_shortest 20 = .ok (.astore_n 3, 1) := by decide +kernel
theorem dX7_shortest_21 : decode cX7_shortest 21 = .ok (.aload_n 3, 1) := by decide +kernel
theorem dX7_shortest_22 : decode cX7_shortest 22 = .ok (.iconst 0, 1) := by decide +kernel
theorem dX7_shortest_23 : decode cX7_shortest 23 = .ok (.invokevirtual 154, 3) := by decide +kernel
theorem dX7_shortest_26 : decode cX7_shortest 26 = .ok (.istore 4, 2) := by decide +kernel
theorem dX7_shortest_28 : decode cX7_shortest 28 = .ok (.iload_n 2, 1) := by decide +kernel
theorem dX7_shortest_29 : decode cX7_shortest 29 = .ok (.iconst (-1), 1) := by decide +kernel
theorem dX7_shortest_30 : decode cX7_shortest 30 = .ok (.if_icmp .eq 8, 3) := by decide +kernel
theorem dX7_shortest_33 : decode cX7_shortest 33 = .ok (.iload 4, 2) := by decide +kernel
theorem dX7_shortest_35 : decode cX7_shortest 35 = .ok (.ifCond .ge 6, 3) := by decide +kernel
theorem dX7_shortest_38 : decode cX7_shortest 38 = .ok (.iload 4, 2) := by decide +kernel
theorem dX7_shortest_40 : decode cX7_shortest 40 = .ok (.ireturn, 1) := by decide +kernel
theorem dX7_shortest_41 : decode cX7_shortest 41 = .ok (.iload_n 2, 1) := by decide +kernel
theorem dX7_shortest_42 : decode cX7_shortest 42 = .ok (.iload 4, 2) := by decide +kernel
theorem dX7_shortest_44 : decode cX7_shortest 44 = .ok (.if_icmp .ge 16, 3) := by decide +kernel
theorem dX7_shortest_47 : decode cX7_shortest 47 = .ok (.aload_n 3, 1) := by decide +kernel
theorem dX7_shortest_48 : decode cX7_shortest 48 = .ok (.iload_n 2, 1) := by decide +kernel
theorem dX7_shortest_49 : decode cX7_shortest 49 = .ok (.iload 4, 2) := by decide +kernel
theorem dX7_shortest_51 : decode cX7_shortest 51 = .ok (.invokevirtual 159, 3) := by decide +kernel
theorem dX7_shortest_54 : decode cX7_shortest 54 = .ok (.bipush 97, 2) := by decide +kernel
theorem dX7_shortest_56 : decode cX7_shortest 56 = .ok (.iadd, 1) := by decide +kernel
theorem dX7_shortest_57 : decode cX7_shortest 57 = .ok (.goto 5, 3) := by decide +kernel
theorem dX7_shortest_60 : decode cX7_shortest 60 = .ok (.bipush (-9), 2) := by decide +kernel
theorem dX7_shortest_62 : decode cX7_shortest 62 = .ok (.ireturn, 1) := by decide +kernel
abbrev mdX7_shortest : MD := (cX7_shortest, RX7, 5, (some .int), yX7_shortest.name, 6, 137, eT)
set_option maxHeartbeats 2000000 in
set_option maxRecDepth 20000 in
theorem i_X7_shortest (C : KX) (l0 : Nat) (l1 : Int32) (l2 : Int32) : Imp C yX7_shortest cX7_shortest 5 (some .int) 6 137 rvI [.ref (kB C + l0), .int l1, .int l2] (m_X7_shortest l0 l1 l2) := by
  refine Imp.of (by decide) (Nat.le_of_ble_eq_true rfl) [(0, .ref (kB C + l0)), (1, .int l1), (2, .int l2)] rfl ?_
  show Cmp C mdX7_shortest (QM rvI) 0 [(0, .ref (kB C + l0)), (1, .int l1), (2, .int l2)] [] (m_X7_shortest l0 l1 l2)
  unfold m_X7_shortest
  refine C_aload_n (D := mdX7_shortest) (pc' := 1) (x := kB C + l0) dX7_shortest_0 rfl 0 rfl ?_
  refine C_iload_n (D := mdX7_shortest) (pc' := 2) (x := l1) dX7_shortest_1 rfl 1 rfl ?_
  refine C_callV (D := mdX7_shortest) (pc' := 5) (p := l0) (st := []) [.int l1] v_X7_82 (i_X7_isQuery C l0 l1) dX7_shortest_2 rfl rfl rfl (Nat.le_of_ble_eq_true rfl) (by decide) (by decide) (fun c1 => ?_)
  refine C_if_eq (D := mdX7_shortest) (pc' := 8) (tgt := 13) dX7_shortest_5 (by decide) rfl ?_ ?_
  · refine C_iconst (D := mdX7_shortest) (pc' := 14) (v := (-1)) dX7_shortest_13 rfl (by decide) ?_
    exact C_iret rfl dX7_shortest_14
  · refine C_iload_n (D := mdX7_shortest) (pc' := 9) (x := l2) dX7_shortest_8 rfl 2 rfl ?_
    refine C_iconst (D := mdX7_shortest) (pc' := 10) (v := (-1)) dX7_shortest_9 rfl (by decide) ?_
    refine C_icmp_ge (D := mdX7_shortest) (pc' := 13) (tgt := 15) dX7_shortest_10 (by decide) rfl ?_ ?_
    · refine C_aload_n (D := mdX7_shortest) (pc' := 16) (x := kB C + l0) dX7_shortest_15 rfl 0 rfl ?_
      refine C_iload_n (D := mdX7_shortest) (pc' := 17) (x := l1) dX7_shortest_16 rfl 1 rfl ?_
      refine C_callV (D := mdX7_shortest) (pc' := 20) (p := l0) (st := []) [.int l1] v_X7_150 (i_X7_searchFor C l0 l1) dX7_shortest_17 rfl rfl rfl (Nat.le_of_ble_eq_true rfl) (by decide) (by decide) (fun c2 => ?_)
      refine C_astore_n (D := mdX7_shortest) (pc' := 21) (ls' := [(3, .ref (kB C + c2)), (0, .ref (kB C + l0)), (1, .int l1), (2, .int l2)]) dX7_shortest_20 rfl rfl (by decide) rfl ?_
      refine C_aload_n (D := mdX7_shortest) (pc' := 22) (x := kB C + c2) dX7_shortest_21 rfl 0 rfl ?_
      refine C_iconst (D := mdX7_shortest) (pc' := 23) (v := 0) dX7_shortest_22 rfl (by decide) ?_
      refine C_callV (D := mdX7_shortest) (pc' := 26) (p := c2) (st := []) [.int 0] v_X7_154 (i_X4_fewestFrom C c2 0) dX7_shortest_23 rfl rfl rfl (Nat.le_of_ble_eq_true rfl) (by decide) (by decide) (fun c3 => ?_)
      refine C_istore (D := mdX7_shortest) (pc' := 28) (ls' := [(4, .int c3), (3, .ref (kB C + c2)), (0, .ref (kB C + l0)), (1, .int l1), (2, .int l2)]) dX7_shortest_26 rfl (by decide) rfl ?_
      refine C_iload_n (D := mdX7_shortest) (pc' := 29) (x := l2) dX7_shortest_28 rfl 4 rfl ?_
      refine C_iconst (D := mdX7_shortest) (pc' := 30) (v := (-1)) dX7_shortest_29 rfl (by decide) ?_
      refine C_icmp_eq (D := mdX7_shortest) (pc' := 33) (tgt := 38) dX7_shortest_30 (by decide) rfl ?_ ?_
      · refine C_iload (D := mdX7_shortest) (pc' := 40) (x := c3) dX7_shortest_38 rfl 0 rfl ?_
        exact C_iret rfl dX7_shortest_40
      · refine C_iload (D := mdX7_shortest) (pc' := 35) (x := c3) dX7_shortest_33 rfl 0 rfl ?_
        refine C_if_ge (D := mdX7_shortest) (pc' := 38) (tgt := 41) dX7_shortest_35 (by decide) rfl ?_ ?_
        · refine C_iload_n (D := mdX7_shortest) (pc' := 42) (x := l2) dX7_shortest_41 rfl 4 rfl ?_
          refine C_iload (D := mdX7_shortest) (pc' := 44) (x := c3) dX7_shortest_42 rfl 0 rfl ?_
          refine C_icmp_ge (D := mdX7_shortest) (pc' := 47) (tgt := 60) dX7_shortest_44 (by decide) rfl ?_ ?_
          · refine C_bipush (D := mdX7_shortest) (pc' := 62) (v := (-9)) dX7_shortest_60 rfl (by decide) ?_
            exact C_iret rfl dX7_shortest_62
          · refine C_aload_n (D := mdX7_shortest) (pc' := 48) (x := kB C + c2) dX7_shortest_47 rfl 1 rfl ?_
            refine C_iload_n (D := mdX7_shortest) (pc' := 49) (x := l2) dX7_shortest_48 rfl 4 rfl ?_
            refine C_iload (D := mdX7_shortest) (pc' := 51) (x := c3) dX7_shortest_49 rfl 0 rfl ?_
            refine C_callV (D := mdX7_shortest) (pc' := 54) (p := c2) (st := []) [.int l2, .int c3] v_X7_159 (i_X4_letterOfRow C c2 l2 c3) dX7_shortest_51 rfl rfl rfl (Nat.le_of_ble_eq_true rfl) (by decide) (by decide) (fun c4 => ?_)
            refine C_bipush (D := mdX7_shortest) (pc' := 56) (v := 97) dX7_shortest_54 rfl (by decide) ?_
            refine C_iadd (D := mdX7_shortest) (pc' := 57) dX7_shortest_56 rfl ?_
            refine C_goto (D := mdX7_shortest) (pc' := 62) dX7_shortest_57 (by decide) ?_
            exact C_iret rfl dX7_shortest_62
        · refine C_iload (D := mdX7_shortest) (pc' := 40) (x := c3) dX7_shortest_38 rfl 0 rfl ?_
          exact C_iret rfl dX7_shortest_40
    · refine C_iconst (D := mdX7_shortest) (pc' := 14) (v := (-1)) dX7_shortest_13 rfl (by decide) ?_
      exact C_iret rfl dX7_shortest_14

-- StandingQueries$Search.stateBehind(LStandingQueries$Held;)I
theorem dX4_stateBehind_0 : decode cX4_stateBehind 0 = .ok (.iconst 0, 1) := by decide +kernel
theorem dX4_stateBehind_1 : decode cX4_stateBehind 1 = .ok (.istore_n 2, 1) := by decide +kernel
theorem dX4_stateBehind_2 : decode cX4_stateBehind 2 = .ok (.iconst 0, 1) := by decide +kernel
theorem dX4_stateBehind_3 : decode cX4_stateBehind 3 = .ok (.istore_n 3, 1) := by decide +kernel
theorem dX4_stateBehind_4 : decode cX4_stateBehind 4 = .ok (.iload_n 3, 1) := by decide +kernel
theorem dX4_stateBehind_5 : decode cX4_stateBehind 5 = .ok (.aload_n 1, 1) := by decide +kernel
theorem dX4_stateBehind_6 : decode cX4_stateBehind 6 = .ok (.getfield 119, 3) := by decide +kernel
theorem dX4_stateBehind_9 : decode cX4_stateBehind 9 = .ok (.if_icmp .ge 26, 3) := by decide +kernel
theorem dX4_stateBehind_12 : decode cX4_stateBehind 12 = .ok (.iload_n 2, 1) := by decide +kernel
theorem dX4_stateBehind_13 : decode cX4_stateBehind 13 = .ok (.iconst (-1), 1) := by decide +kernel
theorem dX4_stateBehind_14 : decode cX4_stateBehind 14 = .ok (.if_icmp .eq 21, 3) := by decide +kernel
theorem dX4_stateBehind_17 : decode cX4_stateBehind 17 = .ok (.aload_n 0, 1) := by decide +kernel
theorem dX4_stateBehind_18 : decode cX4_stateBehind 18 = .ok (.iload_n 2, 1) := by decide +kernel
theorem dX4_stateBehind_19 : decode cX4_stateBehind 19 = .ok (.aload_n 1, 1) := by decide +kernel
theorem dX4_stateBehind_20 : decode cX4_stateBehind 20 = .ok (.getfield 122, 3) := by decide +kernel
theorem dX4_stateBehind_23 : decode cX4_stateBehind 23 = .ok (.iload_n 3, 1) := by decide +kernel
theorem dX4_stateBehind_24 : decode cX4_stateBehind 24 = .ok (.iaload, 1) := by decide +kernel
theorem dX4_stateBehind_25 : decode cX4_stateBehind 25 = .ok (.invokevirtual 125, 3) := by decide +kernel
theorem dX4_stateBehind_28 : decode cX4_stateBehind 28 = .ok (.istore_n 2, 1) := by decide +kernel
theorem dX4_stateBehind_29 : decode cX4_stateBehind 29 = .ok (.iinc 3 1, 3) := by decide +kernel
theorem dX4_stateBehind_32 : decode cX4_stateBehind 32 = .ok (.goto (-28), 3) := by decide +kernel
theorem dX4_stateBehind_35 : decode cX4_stateBehind 35 = .ok (.iload_n 2, 1) := by decide +kernel
theorem dX4_stateBehind_36 : decode cX4_stateBehind 36 = .ok (.ireturn, 1) := by decide +kernel
abbrev mdX4_stateBehind : MD := (cX4_stateBehind, RX4, 4, (some .int), yX4_stateBehind.name, 2, 49, eT)
set_option maxHeartbeats 2000000 in
set_option maxRecDepth 20000 in
theorem p_X4_stateBehind_B4 (C : KX) (l0 : Nat) (l1 : Nat)  (k4 : Int32 × Int32 → Mo Int32) (hk4 : ∀ s, Cmp C mdX4_stateBehind (QM rvI) 4 [(0, .ref (kB C + l0)), (1, .ref (kB C + l1)), (2, .int s.1), (3, .int s.2)] [] (k4 s)) (l2 : Int32) (l3 : Int32) : Cmp C mdX4_stateBehind (QM rvI) 4 [(0, .ref (kB C + l0)), (1, .ref (kB C + l1)), (2, .int l2), (3, .int l3)] [] (m_X4_stateBehind_B4 l0 l1 k4 l2 l3) := by
  unfold m_X4_stateBehind_B4
  refine C_iload_n (D := mdX4_stateBehind) (pc' := 5) (x := l3) dX4_stateBehind_4 rfl 3 rfl ?_
  refine C_aload_n (D := mdX4_stateBehind) (pc' := 6) (x := kB C + l1) dX4_stateBehind_5 rfl 1 rfl ?_
  refine C_getI (D := mdX4_stateBehind) (pc' := 9) (p := l1) f_X4_119 rfl dX4_stateBehind_6 rfl (fun letters1 => ?_)
  refine C_icmp_ge (D := mdX4_stateBehind) (pc' := 12) (tgt := 35) dX4_stateBehind_9 (by decide) rfl ?_ ?_
  · refine C_iload_n (D := mdX4_stateBehind) (pc' := 36) (x := l2) dX4_stateBehind_35 rfl 2 rfl ?_
    exact C_iret rfl dX4_stateBehind_36
  · refine C_iload_n (D := mdX4_stateBehind) (pc' := 13) (x := l2) dX4_stateBehind_12 rfl 2 rfl ?_
    refine C_iconst (D := mdX4_stateBehind) (pc' := 14) (v := (-1)) dX4_stateBehind_13 rfl (by decide) ?_
    refine C_icmp_eq (D := mdX4_stateBehind) (pc' := 17) (tgt := 35) dX4_stateBehind_14 (by decide) rfl ?_ ?_
    · refine C_iload_n (D := mdX4_stateBehind) (pc' := 36) (x := l2) dX4_stateBehind_35 rfl 2 rfl ?_
      exact C_iret rfl dX4_stateBehind_36
    · refine C_aload_n (D := mdX4_stateBehind) (pc' := 18) (x := kB C + l0) dX4_stateBehind_17 rfl 0 rfl ?_
      refine C_iload_n (D := mdX4_stateBehind) (pc' := 19) (x := l2) dX4_stateBehind_18 rfl 2 rfl ?_
      refine C_aload_n (D := mdX4_stateBehind) (pc' := 20) (x := kB C + l1) dX4_stateBehind_19 rfl 1 rfl ?_
      refine C_getR (D := mdX4_stateBehind) (pc' := 23) (p := l1) f_X4_122 rfl dX4_stateBehind_20 rfl (fun row2 => ?_)
      refine C_iload_n (D := mdX4_stateBehind) (pc' := 24) (x := l3) dX4_stateBehind_23 rfl 3 rfl ?_
      refine C_aI (D := mdX4_stateBehind) (pc' := 25) (p := row2) dX4_stateBehind_24 rfl (fun x3 => ?_)
      refine C_callV (D := mdX4_stateBehind) (pc' := 28) (p := l0) (st := []) [.int l2, .int x3] v_X4_125 (i_X4_step C l0 l2 x3) dX4_stateBehind_25 rfl rfl rfl (Nat.le_of_ble_eq_true rfl) (by decide) (by decide) (fun c4 => ?_)
      refine C_istore_n (D := mdX4_stateBehind) (pc' := 29) (ls' := [(2, .int c4), (0, .ref (kB C + l0)), (1, .ref (kB C + l1)), (3, .int l3)]) dX4_stateBehind_28 rfl rfl (by decide) rfl ?_
      refine C_iinc (D := mdX4_stateBehind) (pc' := 32) (j := 3) (v := (l3 + 1)) (ls' := [(3, .int (l3 + 1)), (2, .int c4), (0, .ref (kB C + l0)), (1, .ref (kB C + l1))]) dX4_stateBehind_29 rfl rfl rfl (by decide) rfl ?_
      refine C_goto (D := mdX4_stateBehind) (pc' := 4) dX4_stateBehind_32 (by decide) ?_
      exact C_sub [2, 3, 1, 0] rfl (hk4 (c4, (l3 + 1)))
set_option maxHeartbeats 2000000 in
set_option maxRecDepth 20000 in
theorem i_X4_stateBehind (C : KX) (l0 : Nat) (l1 : Nat) : Imp C yX4_stateBehind cX4_stateBehind 4 (some .int) 2 49 rvI [.ref (kB C + l0), .ref (kB C + l1)] (m_X4_stateBehind l0 l1) := by
  refine Imp.of (by decide) (Nat.le_of_ble_eq_true rfl) [(0, .ref (kB C + l0)), (1, .ref (kB C + l1))] rfl ?_
  show Cmp C mdX4_stateBehind (QM rvI) 0 [(0, .ref (kB C + l0)), (1, .ref (kB C + l1))] [] (m_X4_stateBehind l0 l1)
  unfold m_X4_stateBehind
  refine C_iconst (D := mdX4_stateBehind) (pc' := 1) (v := 0) dX4_stateBehind_0 rfl (by decide) ?_
  refine C_istore_n (D := mdX4_stateBehind) (pc' := 2) (ls' := [(2, .int 0), (0, .ref (kB C + l0)), (1, .ref (kB C + l1))]) dX4_stateBehind_1 rfl rfl (by decide) rfl ?_
  refine C_iconst (D := mdX4_stateBehind) (pc' := 3) (v := 0) dX4_stateBehind_2 rfl (by decide) ?_
  refine C_istore_n (D := mdX4_stateBehind) (pc' := 4) (ls' := [(3, .int 0), (2, .int 0), (0, .ref (kB C + l0)), (1, .ref (kB C + l1))]) dX4_stateBehind_3 rfl rfl (by decide) rfl ?_
  exact C_sub [2, 3, 1, 0] rfl (C_loop (fun s => [(0, .ref (kB C + l0)), (1, .ref (kB C + l1)), (2, .int s.1), (3, .int s.2)]) (fun k hk s => p_X4_stateBehind_B4 C l0 l1  k hk s.1 s.2) FU (0, 0))

-- StandingQueries.more(I)I
theorem dX7_more_0 : decode cX7_more 0 = .ok (.aload_n 0, 1) := by decide +kernel
theorem dX7_more_1 : decode cX7_more 1 = .ok (.iload_n 1, 1) := by decide +kernel
theorem dX7_more_2 : decode cX7_more 2 = .ok (.invokevirtual 82, 3) := by decide +kernel
theorem dX7_more_5 : decode cX7_more 5 = .ok (.ifCond .ne 5, 3) := by decide +kernel
theorem dX7_more_8 : decode cX7_more 8 = .ok (.iconst (-1), 1) := by decide +kernel
theorem dX7_more_9 : decode cX7_more 9 = .ok (.ireturn, 1) := by decide +kernel
theorem dX7_more_10 : decode cX7_more 10 = .ok (.aload_n 0, 1) := by decide +kernel
theorem dX7_more_11 : decode cX7_more 11 = .ok (.iload_n 1, 1) := by decide +kernel
theorem dX7_more_12 : decode cX7_more 12 = .ok (.invokevirtual 150, 3) := by decide +kernel
theorem dX7_more_15 : decode cX7_more 15 = .ok (.astore_n 2, 1) := by decide +kernel
theorem dX7_more_16 : decode cX7_more 16 = .ok (.aload_n 2, 1) := by decide +kernel
theorem dX7_more_17 : decode cX7_more 17 = .ok (.aload_n 2, 1) := by decide +kernel
theorem dX7_more_18 : decode cX7_more 18 = .ok (.aload_n 0, 1) := by decide +kernel
theorem dX7_more_19 : decode cX7_more 19 = .ok (.getfield 19, 3) := by decide +kernel
theorem dX7_more_22 : decode cX7_more 22 = .ok (.invokevirtual 162, 3) := by decide +kernel
theorem dX7_more_25 : decode cX7_more 25 = .ok (.invokevirtual 154, 3) := by decide +kernel
theorem dX7_more_28 : decode cX7_more 28 = .ok (.ireturn, 1) := by decide +kernel
abbrev mdX7_more : MD := (cX7_more, RX7, 3, (some .int), yX7_more.name, 6, 137, eT)
set_option maxHeartbeats 2000000 in
set_option maxRecDepth 20000 in
theorem i_X7_more (C : KX) (l0 : Nat) (l1 : Int32) : Imp C yX7_more cX7_more 3 (some .int) 6 137 rvI [.ref (kB C + l0), .int l1] (m_X7_more l0 l1) := by
  refine Imp.of (by decide) (Nat.le_of_ble_eq_true rfl) [(0, .ref (kB C + l0)), (1, .int l1)] rfl ?_
  show Cmp C mdX7_more (QM rvI) 0 [(0, .ref (kB C + l0)), (1, .int l1)] [] (m_X7_more l0 l1)
  unfold m_X7_more
  refine C_aload_n (D := mdX7_more) (pc' := 1) (x := kB C + l0) dX7_more_0 rfl 0 rfl ?_
  refine C_iload_n (D := mdX7_more) (pc' := 2) (x := l1) dX7_more_1 rfl 1 rfl ?_
  refine C_callV (D := mdX7_more) (pc' := 5) (p := l0) (st := []) [.int l1] v_X7_82 (i_X7_isQuery C l0 l1) dX7_more_2 rfl rfl rfl (Nat.le_of_ble_eq_true rfl) (by decide) (by decide) (fun c1 => ?_)
  refine C_if_ne (D := mdX7_more) (pc' := 8) (tgt := 10) dX7_more_5 (by decide) rfl ?_ ?_
  · refine C_aload_n (D := mdX7_more) (pc' := 11) (x := kB C + l0) dX7_more_10 rfl 0 rfl ?_
    refine C_iload_n (D := mdX7_more) (pc' := 12) (x := l1) dX7_more_11 rfl 1 rfl ?_
    refine C_callV (D := mdX7_more) (pc' := 15) (p := l0) (st := []) [.int l1] v_X7_150 (i_X7_searchFor C l0 l1) dX7_more_12 rfl rfl rfl (Nat.le_of_ble_eq_true rfl) (by decide) (by decide) (fun c2 => ?_)
    refine C_astore_n (D := mdX7_more) (pc' := 16) (ls' := [(2, .ref (kB C + c2)), (0, .ref (kB C + l0)), (1, .int l1)]) dX7_more_15 rfl rfl (by decide) rfl ?_
    refine C_aload_n (D := mdX7_more) (pc' := 17) (x := kB C + c2) dX7_more_16 rfl 0 rfl ?_
    refine C_aload_n (D := mdX7_more) (pc' := 18) (x := kB C + c2) dX7_more_17 rfl 0 rfl ?_
    refine C_aload_n (D := mdX7_more) (pc' := 19) (x := kB C + l0) dX7_more_18 rfl 1 rfl ?_
    refine C_getR (D := mdX7_more) (pc' := 22) (p := l0) f_X7_19 rfl dX7_more_19 rfl (fun held3 => ?_)
    refine C_callV (D := mdX7_more) (pc' := 25) (p := c2) (st := [.ref (kB C + c2)]) [.ref (kB C + held3)] v_X7_162 (i_X4_stateBehind C c2 held3) dX7_more_22 rfl rfl rfl (Nat.le_of_ble_eq_true rfl) (by decide) (by decide) (fun c4 => ?_)
    refine C_callV (D := mdX7_more) (pc' := 28) (p := c2) (st := []) [.int c4] v_X7_154 (i_X4_fewestFrom C c2 c4) dX7_more_25 rfl rfl rfl (Nat.le_of_ble_eq_true rfl) (by decide) (by decide) (fun c5 => ?_)
    exact C_iret rfl dX7_more_28
  · refine C_iconst (D := mdX7_more) (pc' := 9) (v := (-1)) dX7_more_8 rfl (by decide) ?_
    exact C_iret rfl dX7_more_9

-- StandingQueries$Search.lengthenRows()V
theorem dX4_lengthenRows_0 : decode cX4_lengthenRows 0 = .ok (.iconst 0, 1) := by decide +kernel
theorem dX4_lengthenRows_1 : decode cX4_lengthenRows 1 = .ok (.istore_n 1, 1) := by decide +kernel
theorem dX4_lengthenRows_2 : decode cX4_lengthenRows 2 = .ok (.iload_n 1, 1) := by decide +kernel
theorem dX4_lengthenRows_3 : decode cX4_lengthenRows 3 = .ok (.aload_n 0, 1) := by decide +kernel
theorem dX4_lengthenRows_4 : decode cX4_lengthenRows 4 = .ok (.getfield 103, 3) := by decide +kernel
theorem dX4_lengthenRows_7 : decode cX4_lengthenRows 7 = .ok (.if_icmp .ge 16, 3) := by decide +kernel
theorem dX4_lengthenRows_10 : decode cX4_lengthenRows 10 = .ok (.aload_n 0, 1) := by decide +kernel
theorem dX4_lengthenRows_11 : decode cX4_lengthenRows 11 = .ok (.getfield 41, 3) := by decide +kernel
theorem dX4_lengthenRows_14 : decode cX4_lengthenRows 14 = .ok (.iload_n 1, 1) := by decide +kernel
theorem dX4_lengthenRows_15 : decode cX4_lengthenRows 15 = .ok (.lconst 0, 1) := by decide +kernel
theorem dX4_lengthenRows_16 : decode cX4_lengthenRows 16 = .ok (.lastore, 1) := by decide +kernel
theorem dX4_lengthenRows_17 : decode cX4_lengthenRows 17 = .ok (.iinc 1 1, 3) := by decide +kernel
theorem dX4_lengthenRows_20 : decode cX4_lengthenRows 20 = .ok (.goto (-18), 3) := by decide +kernel
theorem dX4_lengthenRows_23 : decode cX4_lengthenRows 23 = .ok (.iconst 0, 1) := by decide +kernel
theorem dX4_lengthenRows_24 : decode cX4_lengthenRows 24 = .ok (.istore_n 1, 1) := by decide +kernel
theorem dX4_lengthenRows_25 : decode cX4_lengthenRows 25 = .ok (.iload_n 1, 1) := by decide +kernel
theorem dX4_lengthenRows_26 : decode cX4_lengthenRows 26 = .ok (.aload_n 0, 1) := by decide +kernel
theorem dX4_lengthenRows_27 : decode cX4_lengthenRows 27 = .ok (.getfield 103, 3) := by decide +kernel
theorem dX4_lengthenRows_30 : decode cX4_lengthenRows 30 = .ok (.if_icmp .ge 61, 3) := by decide +kernel
theorem dX4_lengthenRows_33 : decode cX4_lengthenRows 33 = .ok (.iconst 0, 1) := by decide +kernel
theorem dX4_lengthenRows_34 : decode cX4_lengthenRows 34 = .ok (.istore_n 2, 1) := by decide +kernel
theorem dX4_lengthenRows_35 : decode cX4_lengthenRows 35 = .ok (.aload_n 0, 1) := by decide +kernel
theorem dX4_lengthenRows_36 : decode cX4_lengthenRows 36 = .ok (.getfield 37, 3) := by decide +kernel
theorem dX4_lengthenRows_39 : decode cX4_lengthenRows 39 = .ok (.iload_n 1, 1) := by decide +kernel
theorem dX4_lengthenRows_40 : decode cX4_lengthenRows 40 = .ok (.laload, 1) := by decide +kernel
theorem dX4_lengthenRows_41 : decode cX4_lengthenRows 41 = .ok (.lconst 0, 1) := by decide +kernel
theorem dX4_lengthenRows_42 : decode cX4_lengthenRows 42 = .ok (.lcmp, 1) := by decide +kernel
theorem dX4_lengthenRows_43 : decode cX4_lengthenRows 43 = .ok (.ifCond .eq 42, 3) := by decide +kernel
theorem dX4_lengthenRows_46 : decode cX4_lengthenRows 46 = .ok (.iload_n 2, 1) := by decide +kernel
theorem dX4_lengthenRows_47 : decode cX4_lengthenRows 47 = .ok (.bipush 8, 2) := by decide +kernel
theorem dX4_lengthenRows_49 : decode cX4_lengthenRows 49 = .ok (.if_icmp .ge 36, 3) := by decide +kernel
theorem dX4_lengthenRows_52 : decode cX4_lengthenRows 52 = .ok (.aload_n 0, 1) := by decide +kernel
theorem dX4_lengthenRows_53 : decode cX4_lengthenRows 53 = .ok (.iload_n 1, 1) := by decide +kernel
theorem dX4_lengthenRows_54 : decode cX4_lengthenRows 54 = .ok (.iload_n 2, 1) := by decide +kernel
theorem dX4_lengthenRows_55 : decode cX4_lengthenRows 55 = .ok (.invokevirtual 125, 3) := by decide +kernel
theorem dX4_lengthenRows_58 : decode cX4_lengthenRows 58 = .ok (.istore_n 3, 1) := by decide +kernel
theorem dX4_lengthenRows_59 : decode cX4_lengthenRows 59 = .ok (.iload_n 3, 1) := by decide +kernel
theorem dX4_lengthenRows_60 : decode cX4_lengthenRows 60 = .ok (.iconst (-1), 1) := by decide +kernel
theorem dX4_lengthenRows_61 : decode cX4_lengthenRows 61 = .ok (.if_icmp .eq 18, 3) := by decide +kernel
theorem dX4_lengthenRows_64 : decode cX4_lengthenRows 64 = .ok (.aload_n 0, 1) := by decide +kernel
theorem dX4_lengthenRows_65 : decode cX4_lengthenRows 65 = .ok (.getfield 41, 3) := by decide +kernel
theorem dX4_lengthenRows_68 : decode cX4_lengthenRows 68 = .ok (.iload_n 3, 1) := by decide +kernel
theorem dX4_lengthenRows_69 : decode cX4_lengthenRows 69 = .ok (.dup2, 1) := by decide +kernel
theorem dX4_lengthenRows_70 : decode cX4_lengthenRows 70 = .ok (.laload, 1) := by decide +kernel
theorem dX4_lengthenRows_71 : decode cX4_lengthenRows 71 = .ok (.aload_n 0, 1) := by decide +kernel
theorem dX4_lengthenRows_72 : decode cX4_lengthenRows 72 = .ok (.getfield 37, 3) := by decide +kernel
theorem dX4_lengthenRows_75 : decode cX4_lengthenRows 75 = .ok (.iload_n 1, 1) := by decide +kernel
theorem dX4_lengthenRows_76 : decode cX4_lengthenRows 76 = .ok (.laload, 1) := by decide +kernel
theorem dX4_lengthenRows_77 : decode cX4_lengthenRows 77 = .ok (.ladd, 1) := by decide +kernel
theorem dX4_lengthenRows_78 : decode cX4_lengthenRows 78 = .ok (.lastore, 1) := by decide +kernel
theorem dX4_lengthenRows_79 : decode cX4_lengthenRows 79 = .ok (.iinc 2 1, 3) := by decide +kernel
theorem dX4_lengthenRows_82 : decode cX4_lengthenRows 82 = .ok (.goto (-47), 3) := by decide +kernel
theorem dX4_lengthenRows_85 : decode cX4_lengthenRows 85 = .ok (.iinc 1 1, 3) := by decide +kernel
theorem dX4_lengthenRows_88 : decode cX4_lengthenRows 88 = .ok (.goto (-63), 3) := by decide +kernel
theorem dX4_lengthenRows_91 : decode cX4_lengthenRows 91 = .ok (.aload_n 0, 1) := by decide +kernel
theorem dX4_lengthenRows_92 : decode cX4_lengthenRows 92 = .ok (.getfield 37, 3) := by decide +kernel
theorem dX4_lengthenRows_95 : decode cX4_lengthenRows 95 = .ok (.astore_n 1, 1) := by decide +kernel
theorem dX4_lengthenRows_96 : decode cX4_lengthenRows 96 = .ok (.aload_n 0, 1) := by decide +kernel
theorem dX4_lengthenRows_97 : decode cX4_lengthenRows 97 = .ok (.aload_n 0, 1) := by decide +kernel
theorem dX4_lengthenRows_98 : decode cX4_lengthenRows 98 = .ok (.getfield 41, 3) := by decide +kernel
theorem dX4_lengthenRows_101 : decode cX4_lengthenRows 101 = .ok (.putfield 37, 3) := by decide +kernel
theorem dX4_lengthenRows_104 : decode cX4_lengthenRows 104 = .ok (.aload_n 0, 1) := by decide +kernel
theorem dX4_lengthenRows_105 : decode cX4_lengthenRows 105 = .ok (.aload_n 1, 1) := by decide +kernel
theorem dX4_lengthenRows_106 : decode cX4_lengthenRows 106 = .ok (.putfield 41, 3) := by decide +kernel
theorem dX4_lengthenRows_109 : decode cX4_lengthenRows 109 = .ok (.return_, 1) := by decide +kernel
abbrev mdX4_lengthenRows : MD := (cX4_lengthenRows, RX4, 4, none, yX4_lengthenRows.name, 2, 49, eT)
set_option maxHeartbeats 2000000 in
set_option maxRecDepth 20000 in
theorem p_X4_lengthenRows_J85 (C : KX) (l0 : Nat) (l1 : Int32) (k25 : Int32 → Mo Unit) (hk25 : ∀ s, Cmp C mdX4_lengthenRows (QM rvV) 25 [(0, .ref (kB C + l0)), (1, .int s)] [] (k25 s)) : Cmp C mdX4_lengthenRows (QM rvV) 85 [(0, .ref (kB C + l0)), (1, .int l1)] [] (m_X4_lengthenRows_J85 l0 l1 k25) := by
  unfold m_X4_lengthenRows_J85
  refine C_iinc (D := mdX4_lengthenRows) (pc' := 88) (j := 1) (v := (l1 + 1)) (ls' := [(1, .int (l1 + 1)), (0, .ref (kB C + l0))]) dX4_lengthenRows_85 rfl rfl rfl (by decide) rfl ?_
  refine C_goto (D := mdX4_lengthenRows) (pc' := 25) dX4_lengthenRows_88 (by decide) ?_
  exact C_sub [1, 0] rfl (hk25 ((l1 + 1)))
set_option maxHeartbeats 2000000 in
set_option maxRecDepth 20000 in
theorem p_X4_lengthenRows_J79 (C : KX) (l0 : Nat) (l1 : Int32) (l2 : Int32) (k25 : Int32 → Mo Unit) (hk25 : ∀ s, Cmp C mdX4_lengthenRows (QM rvV) 25 [(0, .ref (kB C + l0)), (1, .int s)] [] (k25 s)) (k35 : Int32 → Mo Unit) (hk35 : ∀ s, Cmp C mdX4_lengthenRows (QM rvV) 35 [(0, .ref (kB C + l0)), (1, .int l1), (2, .int s)] [] (k35 s)) : Cmp C mdX4_lengthenRows (QM rvV) 79 [(0, .ref (kB C + l0)), (1, .int l1), (2, .int l2)] [] (m_X4_lengthenRows_J79 l0 l1 l2 k25 k35) := by
  unfold m_X4_lengthenRows_J79
  refine C_iinc (D := mdX4_lengthenRows) (pc' := 82) (j := 2) (v := (l2 + 1)) (ls' := [(2, .int (l2 + 1)), (0, .ref (kB C + l0)), (1, .int l1)]) dX4_lengthenRows_79 rfl rfl rfl (by decide) rfl ?_
  refine C_goto (D := mdX4_lengthenRows) (pc' := 35) dX4_lengthenRows_82 (by decide) ?_
  exact C_sub [1, 2, 0] rfl (hk35 ((l2 + 1)))
set_option maxHeartbeats 2000000 in
set_option maxRecDepth 20000 in
theorem p_X4_lengthenRows_B35 (C : KX) (l0 : Nat) (l1 : Int32) (k25 : Int32 → Mo Unit) (hk25 : ∀ s, Cmp C mdX4_lengthenRows (QM rvV) 25 [(0, .ref (kB C + l0)), (1, .int s)] [] (k25 s)) (k35 : Int32 → Mo Unit) (hk35 : ∀ s, Cmp C mdX4_lengthenRows (QM rvV) 35 [(0, .ref (kB C + l0)), (1, .int l1), (2, .int s)] [] (k35 s)) (l2 : Int32) : Cmp C mdX4_lengthenRows (QM rvV) 35 [(0, .ref (kB C + l0)), (1, .int l1), (2, .int l2)] [] (m_X4_lengthenRows_B35 l0 l1 k25 k35 l2) := by
  unfold m_X4_lengthenRows_B35
  refine C_aload_n (D := mdX4_lengthenRows) (pc' := 36) (x := kB C + l0) dX4_lengthenRows_35 rfl 0 rfl ?_
  refine C_getR (D := mdX4_lengthenRows) (pc' := 39) (p := l0) f_X4_37 rfl dX4_lengthenRows_36 rfl (fun ways5 => ?_)
  refine C_iload_n (D := mdX4_lengthenRows) (pc' := 40) (x := l1) dX4_lengthenRows_39 rfl 1 rfl ?_
  refine C_aJ (D := mdX4_lengthenRows) (pc' := 41) (p := ways5) dX4_lengthenRows_40 rfl (fun x6 => ?_)
  refine C_lconst (D := mdX4_lengthenRows) (pc' := 42) (v := 0) dX4_lengthenRows_41 rfl (by decide) ?_
  refine C_lcmp (D := mdX4_lengthenRows) (pc' := 43) dX4_lengthenRows_42 rfl ?_
  refine C_if_eq (D := mdX4_lengthenRows) (pc' := 46) (tgt := 85) dX4_lengthenRows_43 (by decide) rfl ?_ ?_
  · exact C_sub [0, 1] rfl (p_X4_lengthenRows_J85 C l0 l1 k25 hk25)
  · refine C_iload_n (D := mdX4_lengthenRows) (pc' := 47) (x := l2) dX4_lengthenRows_46 rfl 2 rfl ?_
    refine C_bipush (D := mdX4_lengthenRows) (pc' := 49) (v := 8) dX4_lengthenRows_47 rfl (by decide) ?_
    refine C_icmp_ge (D := mdX4_lengthenRows) (pc' := 52) (tgt := 85) dX4_lengthenRows_49 (by decide) rfl ?_ ?_
    · exact C_sub [0, 1] rfl (p_X4_lengthenRows_J85 C l0 l1 k25 hk25)
    · refine C_aload_n (D := mdX4_lengthenRows) (pc' := 53) (x := kB C + l0) dX4_lengthenRows_52 rfl 0 rfl ?_
      refine C_iload_n (D := mdX4_lengthenRows) (pc' := 54) (x := l1) dX4_lengthenRows_53 rfl 1 rfl ?_
      refine C_iload_n (D := mdX4_lengthenRows) (pc' := 55) (x := l2) dX4_lengthenRows_54 rfl 2 rfl ?_
      refine C_callV (D := mdX4_lengthenRows) (pc' := 58) (p := l0) (st := []) [.int l1, .int l2] v_X4_125 (i_X4_step C l0 l1 l2) dX4_lengthenRows_55 rfl rfl rfl (Nat.le_of_ble_eq_true rfl) (by decide) (by decide) (fun c7 => ?_)
      refine C_istore_n (D := mdX4_lengthenRows) (pc' := 59) (ls' := [(3, .int c7), (0, .ref (kB C + l0)), (1, .int l1), (2, .int l2)]) dX4_lengthenRows_58 rfl rfl (by decide) rfl ?_
      refine C_iload_n (D := mdX4_lengthenRows) (pc' := 60) (x := c7) dX4_lengthenRows_59 rfl 0 rfl ?_
      refine C_iconst (D := mdX4_lengthenRows) (pc' := 61) (v := (-1)) dX4_lengthenRows_60 rfl (by decide) ?_
      refine C_icmp_eq (D := mdX4_lengthenRows) (pc' := 64) (tgt := 79) dX4_lengthenRows_61 (by decide) rfl ?_ ?_
      · exact C_sub [1, 2, 3] rfl (p_X4_lengthenRows_J79 C l0 l1 l2 k25 hk25 k35 hk35)
      · refine C_aload_n (D := mdX4_lengthenRows) (pc' := 65) (x := kB C + l0) dX4_lengthenRows_64 rfl 1 rfl ?_
        refine C_getR (D := mdX4_lengthenRows) (pc' := 68) (p := l0) f_X4_41 rfl dX4_lengthenRows_65 rfl (fun waysThen8 => ?_)
        refine C_iload_n (D := mdX4_lengthenRows) (pc' := 69) (x := c7) dX4_lengthenRows_68 rfl 0 rfl ?_
        refine C_dup2 (D := mdX4_lengthenRows) (pc' := 70) dX4_lengthenRows_69 rfl rfl rfl ?_
        refine C_aJ (D := mdX4_lengthenRows) (pc' := 71) (p := waysThen8) dX4_lengthenRows_70 rfl (fun x9 => ?_)
        refine C_aload_n (D := mdX4_lengthenRows) (pc' := 72) (x := kB C + l0) dX4_lengthenRows_71 rfl 1 rfl ?_
        refine C_getR (D := mdX4_lengthenRows) (pc' := 75) (p := l0) f_X4_37 rfl dX4_lengthenRows_72 rfl (fun ways10 => ?_)
        refine C_iload_n (D := mdX4_lengthenRows) (pc' := 76) (x := l1) dX4_lengthenRows_75 rfl 2 rfl ?_
        refine C_aJ (D := mdX4_lengthenRows) (pc' := 77) (p := ways10) dX4_lengthenRows_76 rfl (fun x11 => ?_)
        refine C_ladd (D := mdX4_lengthenRows) (pc' := 78) dX4_lengthenRows_77 rfl ?_
        refine C_tJ (D := mdX4_lengthenRows) (pc' := 79) (p := waysThen8) dX4_lengthenRows_78 rfl ?_
        exact C_sub [1, 2, 3] rfl (p_X4_lengthenRows_J79 C l0 l1 l2 k25 hk25 k35 hk35)
set_option maxHeartbeats 2000000 in
set_option maxRecDepth 20000 in
theorem p_X4_lengthenRows_B25 (C : KX) (l0 : Nat)  (k25 : Int32 → Mo Unit) (hk25 : ∀ s, Cmp C mdX4_lengthenRows (QM rvV) 25 [(0, .ref (kB C + l0)), (1, .int s)] [] (k25 s)) (l1 : Int32) : Cmp C mdX4_lengthenRows (QM rvV) 25 [(0, .ref (kB C + l0)), (1, .int l1)] [] (m_X4_lengthenRows_B25 l0 k25 l1) := by
  unfold m_X4_lengthenRows_B25
  refine C_iload_n (D := mdX4_lengthenRows) (pc' := 26) (x := l1) dX4_lengthenRows_25 rfl 1 rfl ?_
  refine C_aload_n (D := mdX4_lengthenRows) (pc' := 27) (x := kB C + l0) dX4_lengthenRows_26 rfl 0 rfl ?_
  refine C_getI (D := mdX4_lengthenRows) (pc' := 30) (p := l0) f_X4_103 rfl dX4_lengthenRows_27 rfl (fun states2 => ?_)
  refine C_icmp_ge (D := mdX4_lengthenRows) (pc' := 33) (tgt := 91) dX4_lengthenRows_30 (by decide) rfl ?_ ?_
  · refine C_aload_n (D := mdX4_lengthenRows) (pc' := 92) (x := kB C + l0) dX4_lengthenRows_91 rfl 0 rfl ?_
    refine C_getR (D := mdX4_lengthenRows) (pc' := 95) (p := l0) f_X4_37 rfl dX4_lengthenRows_92 rfl (fun ways3 => ?_)
    refine C_astore_n (D := mdX4_lengthenRows) (pc' := 96) (ls' := [(1, .ref (kB C + ways3)), (0, .ref (kB C + l0))]) dX4_lengthenRows_95 rfl rfl (by decide) rfl ?_
    refine C_aload_n (D := mdX4_lengthenRows) (pc' := 97) (x := kB C + l0) dX4_lengthenRows_96 rfl 1 rfl ?_
    refine C_aload_n (D := mdX4_lengthenRows) (pc' := 98) (x := kB C + l0) dX4_lengthenRows_97 rfl 1 rfl ?_
    refine C_getR (D := mdX4_lengthenRows) (pc' := 101) (p := l0) f_X4_41 rfl dX4_lengthenRows_98 rfl (fun waysThen4 => ?_)
    refine C_putR (D := mdX4_lengthenRows) (pc' := 104) (p := l0) (q := waysThen4) f_X4_37 (by first | exact Or.inl rfl | exact Or.inr ⟨rfl, rfl⟩) rfl dX4_lengthenRows_101 rfl ?_
    refine C_aload_n (D := mdX4_lengthenRows) (pc' := 105) (x := kB C + l0) dX4_lengthenRows_104 rfl 1 rfl ?_
    refine C_aload_n (D := mdX4_lengthenRows) (pc' := 106) (x := kB C + ways3) dX4_lengthenRows_105 rfl 0 rfl ?_
    refine C_putR (D := mdX4_lengthenRows) (pc' := 109) (p := l0) (q := ways3) f_X4_41 (by first | exact Or.inl rfl | exact Or.inr ⟨rfl, rfl⟩) rfl dX4_lengthenRows_106 rfl ?_
    exact C_vret rfl dX4_lengthenRows_109
  · refine C_iconst (D := mdX4_lengthenRows) (pc' := 34) (v := 0) dX4_lengthenRows_33 rfl (by decide) ?_
    refine C_istore_n (D := mdX4_lengthenRows) (pc' := 35) (ls' := [(2, .int 0), (0, .ref (kB C + l0)), (1, .int l1)]) dX4_lengthenRows_34 rfl rfl (by decide) rfl ?_
    exact C_sub [1, 2, 0] rfl (C_loop (fun s => [(0, .ref (kB C + l0)), (1, .int l1), (2, .int s)]) (fun k hk s => p_X4_lengthenRows_B35 C l0 l1 k25 hk25 k hk s) FU 0)
set_option maxHeartbeats 2000000 in
set_option maxRecDepth 20000 in
theorem p_X4_lengthenRows_B2 (C : KX) (l0 : Nat)  (k2 : Int32 → Mo Unit) (hk2 : ∀ s, Cmp C mdX4_lengthenRows (QM rvV) 2 [(0, .ref (kB C + l0)), (1, .int s)] [] (k2 s)) (l1 : Int32) : Cmp C mdX4_lengthenRows (QM rvV) 2 [(0, .ref (kB C + l0)), (1, .int l1)] [] (m_X4_lengthenRows_B2 l0 k2 l1) := by
  unfold m_X4_lengthenRows_B2
  refine C_iload_n (D := mdX4_lengthenRows) (pc' := 3) (x := l1) dX4_lengthenRows_2 rfl 1 rfl ?_
  refine C_aload_n (D := mdX4_lengthenRows) (pc' := 4) (x := kB C + l0) dX4_lengthenRows_3 rfl 0 rfl ?_
  refine C_getI (D := mdX4_lengthenRows) (pc' := 7) (p := l0) f_X4_103 rfl dX4_lengthenRows_4 rfl (fun states1 => ?_)
  refine C_icmp_ge (D := mdX4_lengthenRows) (pc' := 10) (tgt := 23) dX4_lengthenRows_7 (by decide) rfl ?_ ?_
  · refine C_iconst (D := mdX4_lengthenRows) (pc' := 24) (v := 0) dX4_lengthenRows_23 rfl (by decide) ?_
    refine C_istore_n (D := mdX4_lengthenRows) (pc' := 25) (ls' := [(1, .int 0), (0, .ref (kB C + l0))]) dX4_lengthenRows_24 rfl rfl (by decide) rfl ?_
    exact C_sub [1, 0] rfl (C_loop (fun s => [(0, .ref (kB C + l0)), (1, .int s)]) (fun k hk s => p_X4_lengthenRows_B25 C l0  k hk s) FU 0)
  · refine C_aload_n (D := mdX4_lengthenRows) (pc' := 11) (x := kB C + l0) dX4_lengthenRows_10 rfl 0 rfl ?_
    refine C_getR (D := mdX4_lengthenRows) (pc' := 14) (p := l0) f_X4_41 rfl dX4_lengthenRows_11 rfl (fun waysThen12 => ?_)
    refine C_iload_n (D := mdX4_lengthenRows) (pc' := 15) (x := l1) dX4_lengthenRows_14 rfl 1 rfl ?_
    refine C_lconst (D := mdX4_lengthenRows) (pc' := 16) (v := 0) dX4_lengthenRows_15 rfl (by decide) ?_
    refine C_tJ (D := mdX4_lengthenRows) (pc' := 17) (p := waysThen12) dX4_lengthenRows_16 rfl ?_
    refine C_iinc (D := mdX4_lengthenRows) (pc' := 20) (j := 1) (v := (l1 + 1)) (ls' := [(1, .int (l1 + 1)), (0, .ref (kB C + l0))]) dX4_lengthenRows_17 rfl rfl rfl (by decide) rfl ?_
    refine C_goto (D := mdX4_lengthenRows) (pc' := 2) dX4_lengthenRows_20 (by decide) ?_
    exact C_sub [1, 0] rfl (hk2 ((l1 + 1)))
set_option maxHeartbeats 2000000 in
set_option maxRecDepth 20000 in
theorem i_X4_lengthenRows (C : KX) (l0 : Nat) : Imp C yX4_lengthenRows cX4_lengthenRows 4 none 2 49 rvV [.ref (kB C + l0)] (m_X4_lengthenRows l0) := by
  refine Imp.of (by decide) (Nat.le_of_ble_eq_true rfl) [(0, .ref (kB C + l0))] rfl ?_
  show Cmp C mdX4_lengthenRows (QM rvV) 0 [(0, .ref (kB C + l0))] [] (m_X4_lengthenRows l0)
  unfold m_X4_lengthenRows
  refine C_iconst (D := mdX4_lengthenRows) (pc' := 1) (v := 0) dX4_lengthenRows_0 rfl (by decide) ?_
  refine C_istore_n (D := mdX4_lengthenRows) (pc' := 2) (ls' := [(1, .int 0), (0, .ref (kB C + l0))]) dX4_lengthenRows_1 rfl rfl (by decide) rfl ?_
  exact C_sub [1, 0] rfl (C_loop (fun s => [(0, .ref (kB C + l0)), (1, .int s)]) (fun k hk s => p_X4_lengthenRows_B2 C l0  k hk s) FU 0)

-- StandingQueries$Search.rowsOf(I)J
theorem dX4_rowsOf_0 : decode cX4_rowsOf 0 = .ok (.iconst 0, 1) := by decide +kernel
theorem dX4_rowsOf_1 : decode cX4_rowsOf 1 = .ok (.istore_n 2, 1) := by decide +kernel
theorem dX4_rowsOf_2 : decode cX4_rowsOf 2 = .ok (.iload_n 2, 1) := by decide +kernel
theorem dX4_rowsOf_3 : decode cX4_rowsOf 3 = .ok (.aload_n 0, 1) := by decide +kernel
theorem dX4_rowsOf_4 : decode cX4_rowsOf 4 = .ok (.getfield 103, 3) := by decide +kernel
theorem dX4_rowsOf_7 : decode cX4_rowsOf 7 = .ok (.if_icmp .ge 16, 3) := by decide +kernel
theorem dX4_rowsOf_10 : decode cX4_rowsOf 10 = .ok (.aload_n 0, 1) := by decide +kernel
theorem dX4_rowsOf_11 : decode cX4_rowsOf 11 = .ok (.getfield 37, 3) := by decide +kernel
theorem dX4_rowsOf_14 : decode cX4_rowsOf 14 = .ok (.iload_n 2, 1) := by decide +kernel
theorem dX4_rowsOf_15 : decode cX4_rowsOf 15 = .ok (.lconst 0, 1) := by decide +kernel
theorem dX4_rowsOf_16 : decode cX4_rowsOf 16 = .ok (.lastore, 1) := by decide +kernel
theorem dX4_rowsOf_17 : decode cX4_rowsOf 17 = .ok (.iinc 2 1, 3) := by decide +kernel
theorem dX4_rowsOf_20 : decode cX4_rowsOf 20 = .ok (.goto (-18), 3) := by decide +kernel
theorem dX4_rowsOf_23 : decode cX4_rowsOf 23 = .ok (.aload_n 0, 1) := by decide +kernel
theorem dX4_rowsOf_24 : decode cX4_rowsOf 24 = .ok (.getfield 37, 3) := by decide +kernel
theorem dX4_rowsOf_27 : decode cX4_rowsOf 27 = .ok (.iconst 0, 1) := by decide +kernel
theorem dX4_rowsOf_28 : decode cX4_rowsOf 28 = .ok (.lconst 1, 1) := by decide +kernel
theorem dX4_rowsOf_29 : decode cX4_rowsOf 29 = .ok (.lastore, 1) := by decide +kernel
theorem dX4_rowsOf_30 : decode cX4_rowsOf 30 = .ok (.iconst 0, 1) := by decide +kernel
theorem dX4_rowsOf_31 : decode cX4_rowsOf 31 = .ok (.istore_n 2, 1) := by decide +kernel
theorem dX4_rowsOf_32 : decode cX4_rowsOf 32 = .ok (.iload_n 2, 1) := by decide +kernel
theorem dX4_rowsOf_33 : decode cX4_rowsOf 33 = .ok (.iload_n 1, 1) := by decide +kernel
theorem dX4_rowsOf_34 : decode cX4_rowsOf 34 = .ok (.if_icmp .ge 13, 3) := by decide +kernel
theorem dX4_rowsOf_37 : decode cX4_rowsOf 37 = .ok (.aload_n 0, 1) := by decide +kernel
theorem dX4_rowsOf_38 : decode cX4_rowsOf 38 = .ok (.invokevirtual 141, 3) := by decide +kernel
theorem dX4_rowsOf_41 : decode cX4_rowsOf 41 = .ok (.iinc 2 1, 3) := by decide +kernel
theorem dX4_rowsOf_44 : decode cX4_rowsOf 44 = .ok (.goto (-12), 3) := by decide +kernel
theorem dX4_rowsOf_47 : decode cX4_rowsOf 47 = .ok (.lconst 0, 1) := by decide +kernel
theorem dX4_rowsOf_48 : decode cX4_rowsOf 48 = .ok (.lstore_n 2, 1) := by decide +kernel
theorem dX4_rowsOf_49 : decode cX4_rowsOf 49 = .ok (.iconst 0, 1) := by decide +kernel
theorem dX4_rowsOf_50 : decode cX4_rowsOf 50 = .ok (.istore 4, 2) := by decide +kernel
theorem dX4_rowsOf_52 : decode cX4_rowsOf 52 = .ok (.iload 4, 2) := by decide +kernel
theorem dX4_rowsOf_54 : decode cX4_rowsOf 54 = .ok (.aload_n 0, 1) := by decide +kernel
theorem dX4_rowsOf_55 : decode cX4_rowsOf 55 = .ok (.getfield 103, 3) := by decide +kernel
theorem dX4_rowsOf_58 : decode cX4_rowsOf 58 = .ok (.if_icmp .ge 28, 3) := by decide +kernel
theorem dX4_rowsOf_61 : decode cX4_rowsOf 61 = .ok (.aload_n 0, 1) := by decide +kernel
theorem dX4_rowsOf_62 : decode cX4_rowsOf 62 = .ok (.iload 4, 2) := by decide +kernel
theorem dX4_rowsOf_64 : decode cX4_rowsOf 64 = .ok (.invokevirtual 131, 3) := by decide +kernel
theorem dX4_rowsOf_67 : decode cX4_rowsOf 67 = .ok (.ifCond .eq 13, 3) := by decide +kernel
theorem dX4_rowsOf_70 : decode cX4_rowsOf 70 = .ok (.lload_n 2, 1) := by decide +kernel
theorem dX4_rowsOf_71 : decode cX4_rowsOf 71 = .ok (.aload_n 0, 1) := by decide +kernel
theorem dX4_rowsOf_72 : decode cX4_rowsOf 72 = .ok (.getfield 37, 3) := by decide +kernel
theorem dX4_rowsOf_75 : decode cX4_rowsOf 75 = .ok (.iload 4, 2) := by decide +kernel
theorem dX4_rowsOf_77 : decode cX4_rowsOf 77 = .ok (.laload, 1) := by decide +kernel
theorem dX4_rowsOf_78 : decode cX4_rowsOf 78 = .ok (.ladd, 1) := by decide +kernel
theorem dX4_rowsOf_79 : decode cX4_rowsOf 79 = .ok (.lstore_n 2, 1) := by decide +kernel
theorem dX4_rowsOf_80 : decode cX4_rowsOf 80 = .ok (.iinc 4 1, 3) := by decide +kernel
theorem dX4_rowsOf_83 : decode cX4_rowsOf 83 = .ok (.goto (-31), 3) := by decide +kernel
theorem dX4_rowsOf_86 : decode cX4_rowsOf 86 = .ok (.lload_n 2, 1) := by decide +kernel
theorem dX4_rowsOf_87 : decode cX4_rowsOf 87 = .ok (.lreturn, 1) := by decide +kernel
abbrev mdX4_rowsOf : MD := (cX4_rowsOf, RX4, 5, (some .long), yX4_rowsOf.name, 3, 72, eT)
set_option maxHeartbeats 2000000 in
set_option maxRecDepth 20000 in
theorem p_X4_rowsOf_J80 (C : KX) (l0 : Nat) (l2 : Int64) (l4 : Int32) (k52 : Int64 × Int32 → Mo Int64) (hk52 : ∀ s, Cmp C mdX4_rowsOf (QM rvL) 52 [(0, .ref (kB C + l0)), (2, .long s.1), (4, .int s.2)] [] (k52 s)) : Cmp C mdX4_rowsOf (QM rvL) 80 [(0, .ref (kB C + l0)), (2, .long l2), (4, .int l4)] [] (m_X4_rowsOf_J80 l0 l2 l4 k52) := by
  unfold m_X4_rowsOf_J80
  refine C_iinc (D := mdX4_rowsOf) (pc' := 83) (j := 2) (v := (l4 + 1)) (ls' := [(4, .int (l4 + 1)), (0, .ref (kB C + l0)), (2, .long l2)]) dX4_rowsOf_80 rfl rfl rfl (by decide) rfl ?_
  refine C_goto (D := mdX4_rowsOf) (pc' := 52) dX4_rowsOf_83 (by decide) ?_
  exact C_sub [1, 2, 0] rfl (hk52 (l2, (l4 + 1)))
set_option maxHeartbeats 2000000 in
set_option maxRecDepth 20000 in
theorem p_X4_rowsOf_B52 (C : KX) (l0 : Nat)  (k52 : Int64 × Int32 → Mo Int64) (hk52 : ∀ s, Cmp C mdX4_rowsOf (QM rvL) 52 [(0, .ref (kB C + l0)), (2, .long s.1), (4, .int s.2)] [] (k52 s)) (l2 : Int64) (l4 : Int32) : Cmp C mdX4_rowsOf (QM rvL) 52 [(0, .ref (kB C + l0)), (2, .long l2), (4, .int l4)] [] (m_X4_rowsOf_B52 l0 k52 l2 l4) := by
  unfold m_X4_rowsOf_B52
  refine C_iload (D := mdX4_rowsOf) (pc' := 54) (x := l4) dX4_rowsOf_52 rfl 2 rfl ?_
  refine C_aload_n (D := mdX4_rowsOf) (pc' := 55) (x := kB C + l0) dX4_rowsOf_54 rfl 0 rfl ?_
  refine C_getI (D := mdX4_rowsOf) (pc' := 58) (p := l0) f_X4_103 rfl dX4_rowsOf_55 rfl (fun states3 => ?_)
  refine C_icmp_ge (D := mdX4_rowsOf) (pc' := 61) (tgt := 86) dX4_rowsOf_58 (by decide) rfl ?_ ?_
  · refine C_lload_n (D := mdX4_rowsOf) (pc' := 87) (x := l2) dX4_rowsOf_86 rfl 1 rfl ?_
    exact C_lret rfl dX4_rowsOf_87
  · refine C_aload_n (D := mdX4_rowsOf) (pc' := 62) (x := kB C + l0) dX4_rowsOf_61 rfl 0 rfl ?_
    refine C_iload (D := mdX4_rowsOf) (pc' := 64) (x := l4) dX4_rowsOf_62 rfl 2 rfl ?_
    refine C_callV (D := mdX4_rowsOf) (pc' := 67) (p := l0) (st := []) [.int l4] v_X4_131 (i_X4_isMatch C l0 l4) dX4_rowsOf_64 rfl rfl rfl (Nat.le_of_ble_eq_true rfl) (by decide) (by decide) (fun c4 => ?_)
    refine C_if_eq (D := mdX4_rowsOf) (pc' := 70) (tgt := 80) dX4_rowsOf_67 (by decide) rfl ?_ ?_
    · exact C_sub [0, 1, 2] rfl (p_X4_rowsOf_J80 C l0 l2 l4 k52 hk52)
    · refine C_lload_n (D := mdX4_rowsOf) (pc' := 71) (x := l2) dX4_rowsOf_70 rfl 1 rfl ?_
      refine C_aload_n (D := mdX4_rowsOf) (pc' := 72) (x := kB C + l0) dX4_rowsOf_71 rfl 0 rfl ?_
      refine C_getR (D := mdX4_rowsOf) (pc' := 75) (p := l0) f_X4_37 rfl dX4_rowsOf_72 rfl (fun ways5 => ?_)
      refine C_iload (D := mdX4_rowsOf) (pc' := 77) (x := l4) dX4_rowsOf_75 rfl 2 rfl ?_
      refine C_aJ (D := mdX4_rowsOf) (pc' := 78) (p := ways5) dX4_rowsOf_77 rfl (fun x6 => ?_)
      refine C_ladd (D := mdX4_rowsOf) (pc' := 79) dX4_rowsOf_78 rfl ?_
      refine C_letL (fun v7 => ?_)
      refine C_lstore_n (D := mdX4_rowsOf) (pc' := 80) (ls' := [(2, .long v7), (0, .ref (kB C + l0)), (4, .int l4)]) dX4_rowsOf_79 rfl rfl (by decide) rfl ?_
      exact C_sub [1, 0, 2] rfl (p_X4_rowsOf_J80 C l0 v7 l4 k52 hk52)
set_option maxHeartbeats 2000000 in
set_option maxRecDepth 20000 in
theorem p_X4_rowsOf_B32 (C : KX) (l0 : Nat) (l1 : Int32)  (k32 : Int32 → Mo Int64) (hk32 : ∀ s, Cmp C mdX4_rowsOf (QM rvL) 32 [(0, .ref (kB C + l0)), (1, .int l1), (2, .int s)] [] (k32 s)) (l2 : Int32) : Cmp C mdX4_rowsOf (QM rvL) 32 [(0, .ref (kB C + l0)), (1, .int l1), (2, .int l2)] [] (m_X4_rowsOf_B32 l0 l1 k32 l2) := by
  unfold m_X4_rowsOf_B32
  refine C_iload_n (D := mdX4_rowsOf) (pc' := 33) (x := l2) dX4_rowsOf_32 rfl 2 rfl ?_
  refine C_iload_n (D := mdX4_rowsOf) (pc' := 34) (x := l1) dX4_rowsOf_33 rfl 1 rfl ?_
  refine C_icmp_ge (D := mdX4_rowsOf) (pc' := 37) (tgt := 47) dX4_rowsOf_34 (by decide) rfl ?_ ?_
  · refine C_lconst (D := mdX4_rowsOf) (pc' := 48) (v := 0) dX4_rowsOf_47 rfl (by decide) ?_
    refine C_lstore_n (D := mdX4_rowsOf) (pc' := 49) (ls' := [(2, .long 0), (0, .ref (kB C + l0)), (1, .int l1)]) dX4_rowsOf_48 rfl rfl (by decide) rfl ?_
    refine C_iconst (D := mdX4_rowsOf) (pc' := 50) (v := 0) dX4_rowsOf_49 rfl (by decide) ?_
    refine C_istore (D := mdX4_rowsOf) (pc' := 52) (ls' := [(4, .int 0), (2, .long 0), (0, .ref (kB C + l0)), (1, .int l1)]) dX4_rowsOf_50 rfl (by decide) rfl ?_
    exact C_sub [2, 1, 0] rfl (C_loop (fun s => [(0, .ref (kB C + l0)), (2, .long s.1), (4, .int s.2)]) (fun k hk s => p_X4_rowsOf_B52 C l0  k hk s.1 s.2) FU (0, 0))
  · refine C_aload_n (D := mdX4_rowsOf) (pc' := 38) (x := kB C + l0) dX4_rowsOf_37 rfl 0 rfl ?_
    refine C_callV (D := mdX4_rowsOf) (pc' := 41) (p := l0) (st := []) [] v_X4_141 (i_X4_lengthenRows C l0) dX4_rowsOf_38 rfl rfl rfl (Nat.le_of_ble_eq_true rfl) (by decide) (by decide) (fun _ => ?_)
    refine C_iinc (D := mdX4_rowsOf) (pc' := 44) (j := 2) (v := (l2 + 1)) (ls' := [(2, .int (l2 + 1)), (0, .ref (kB C + l0)), (1, .int l1)]) dX4_rowsOf_41 rfl rfl rfl (by decide) rfl ?_
    refine C_goto (D := mdX4_rowsOf) (pc' := 32) dX4_rowsOf_44 (by decide) ?_
    exact C_sub [1, 2, 0] rfl (hk32 ((l2 + 1)))
set_option maxHeartbeats 2000000 in
set_option maxRecDepth 20000 in
theorem p_X4_rowsOf_B2 (C : KX) (l0 : Nat) (l1 : Int32)  (k2 : Int32 → Mo Int64) (hk2 : ∀ s, Cmp C mdX4_rowsOf (QM rvL) 2 [(0, .ref (kB C + l0)), (1, .int l1), (2, .int s)] [] (k2 s)) (l2 : Int32) : Cmp C mdX4_rowsOf (QM rvL) 2 [(0, .ref (kB C + l0)), (1, .int l1), (2, .int l2)] [] (m_X4_rowsOf_B2 l0 l1 k2 l2) := by
  unfold m_X4_rowsOf_B2
  refine C_iload_n (D := mdX4_rowsOf) (pc' := 3) (x := l2) dX4_rowsOf_2 rfl 2 rfl ?_
  refine C_aload_n (D := mdX4_rowsOf) (pc' := 4) (x := kB C + l0) dX4_rowsOf_3 rfl 0 rfl ?_
  refine C_getI (D := mdX4_rowsOf) (pc' := 7) (p := l0) f_X4_103 rfl dX4_rowsOf_4 rfl (fun states1 => ?_)
  refine C_icmp_ge (D := mdX4_rowsOf) (pc' := 10) (tgt := 23) dX4_rowsOf_7 (by decide) rfl ?_ ?_
  · refine C_aload_n (D := mdX4_rowsOf) (pc' := 24) (x := kB C + l0) dX4_rowsOf_23 rfl 0 rfl ?_
    refine C_getR (D := mdX4_rowsOf) (pc' := 27) (p := l0) f_X4_37 rfl dX4_rowsOf_24 rfl (fun ways2 => ?_)
    refine C_iconst (D := mdX4_rowsOf) (pc' := 28) (v := 0) dX4_rowsOf_27 rfl (by decide) ?_
    refine C_lconst (D := mdX4_rowsOf) (pc' := 29) (v := 1) dX4_rowsOf_28 rfl (by decide) ?_
    refine C_tJ (D := mdX4_rowsOf) (pc' := 30) (p := ways2) dX4_rowsOf_29 rfl ?_
    refine C_iconst (D := mdX4_rowsOf) (pc' := 31) (v := 0) dX4_rowsOf_30 rfl (by decide) ?_
    refine C_istore_n (D := mdX4_rowsOf) (pc' := 32) (ls' := [(2, .int 0), (0, .ref (kB C + l0)), (1, .int l1)]) dX4_rowsOf_31 rfl rfl (by decide) rfl ?_
    exact C_sub [1, 2, 0] rfl (C_loop (fun s => [(0, .ref (kB C + l0)), (1, .int l1), (2, .int s)]) (fun k hk s => p_X4_rowsOf_B32 C l0 l1  k hk s) FU 0)
  · refine C_aload_n (D := mdX4_rowsOf) (pc' := 11) (x := kB C + l0) dX4_rowsOf_10 rfl 0 rfl ?_
    refine C_getR (D := mdX4_rowsOf) (pc' := 14) (p := l0) f_X4_37 rfl dX4_rowsOf_11 rfl (fun ways8 => ?_)
    refine C_iload_n (D := mdX4_rowsOf) (pc' := 15) (x := l2) dX4_rowsOf_14 rfl 2 rfl ?_
    refine C_lconst (D := mdX4_rowsOf) (pc' := 16) (v := 0) dX4_rowsOf_15 rfl (by decide) ?_
    refine C_tJ (D := mdX4_rowsOf) (pc' := 17) (p := ways8) dX4_rowsOf_16 rfl ?_
    refine C_iinc (D := mdX4_rowsOf) (pc' := 20) (j := 2) (v := (l2 + 1)) (ls' := [(2, .int (l2 + 1)), (0, .ref (kB C + l0)), (1, .int l1)]) dX4_rowsOf_17 rfl rfl rfl (by decide) rfl ?_
    refine C_goto (D := mdX4_rowsOf) (pc' := 2) dX4_rowsOf_20 (by decide) ?_
    exact C_sub [1, 2, 0] rfl (hk2 ((l2 + 1)))
set_option maxHeartbeats 2000000 in
set_option maxRecDepth 20000 in
theorem i_X4_rowsOf (C : KX) (l0 : Nat) (l1 : Int32) : Imp C yX4_rowsOf cX4_rowsOf 5 (some .long) 3 72 rvL [.ref (kB C + l0), .int l1] (m_X4_rowsOf l0 l1) := by
  refine Imp.of (by decide) (Nat.le_of_ble_eq_true rfl) [(0, .ref (kB C + l0)), (1, .int l1)] rfl ?_
  show Cmp C mdX4_rowsOf (QM rvL) 0 [(0, .ref (kB C + l0)), (1, .int l1)] [] (m_X4_rowsOf l0 l1)
  unfold m_X4_rowsOf
  refine C_iconst (D := mdX4_rowsOf) (pc' := 1) (v := 0) dX4_rowsOf_0 rfl (by decide) ?_
  refine C_istore_n (D := mdX4_rowsOf) (pc' := 2) (ls' := [(2, .int 0), (0, .ref (kB C + l0)), (1, .int l1)]) dX4_rowsOf_1 rfl rfl (by decide) rfl ?_
  exact C_sub [1, 2, 0] rfl (C_loop (fun s => [(0, .ref (kB C + l0)), (1, .int l1), (2, .int s)]) (fun k hk s => p_X4_rowsOf_B2 C l0 l1  k hk s) FU 0)

-- StandingQueries.many(II)J
theorem dX7_many_0 : decode cX7_many 0 = .ok (.aload_n 0, 1) := by decide +kernel
theorem dX7_many_1 : decode cX7_many 1 = .ok (.iload_n 1, 1) := by decide +kernel
theorem dX7_many_2 : decode cX7_many 2 = .ok (.invokevirtual 82, 3) := by decide +kernel
theorem dX7_many_5 : decode cX7_many 5 = .ok (.ifCond .eq 13, 3) := by decide +kernel
theorem dX7_many_8 : decode cX7_many 8 = .ok (.iload_n 2, 1) := by decide +kernel
theorem dX7_many_9 : decode cX7_many 9 = .ok (.ifCond .lt 9, 3) := by decide +kernel
theorem dX7_many_12 : decode cX7_many 12 = .ok (.iload_n 2, 1) := by decide +kernel
theorem dX7_many_13 : decode cX7_many 13 = .ok (.bipush 12, 2) := by decide +kernel
theorem dX7_many_15 : decode cX7_many 15 = .ok (.if_icmp .le 7, 3) := by decide +kernel
theorem dX7_many_18 : decode cX7_many 18 = .ok (.ldc2_w 165, 3) := by decide +kernel
theorem dX7_many_21 : decode cX7_many 21 = .ok (.lreturn, 1) := by decide +kernel
theorem dX7_many_22 : decode cX7_many 22 = .ok (.aload_n 0, 1) := by decide +kernel
theorem dX7_many_23 : decode cX7_many 23 = .ok (.iload_n 1, 1) := by decide +kernel
theorem dX7_many_24 : decode cX7_many 24 = .ok (.invokevirtual 150, 3) := by decide +kernel
theorem dX7_many_27 : decode cX7_many 27 = .ok (.iload_n 2, 1) := by decide +kernel
theorem dX7_many_28 : decode cX7_many 28 = .ok (.invokevirtual 167, 3) := by decide +kernel
theorem dX7_many_31 : decode cX7_many 31 = .ok (.lreturn, 1) := by decide +kernel
abbrev mdX7_many : MD := (cX7_many, RX7, 3, (some .long), yX7_many.name, 6, 137, eT)
set_option maxHeartbeats 2000000 in
set_option maxRecDepth 20000 in
theorem p_X7_many_J18 (C : KX)   : Cmp C mdX7_many (QM rvL) 18 [] [] (m_X7_many_J18 ) := by
  unfold m_X7_many_J18
  refine C_ldc2 (D := mdX7_many) (pc' := 21) (v := (-1)) c_X7_165 dX7_many_18 rfl ?_
  exact C_lret rfl dX7_many_21
set_option maxHeartbeats 2000000 in
set_option maxRecDepth 20000 in
theorem i_X7_many (C : KX) (l0 : Nat) (l1 : Int32) (l2 : Int32) : Imp C yX7_many cX7_many 3 (some .long) 6 137 rvL [.ref (kB C + l0), .int l1, .int l2] (m_X7_many l0 l1 l2) := by
  refine Imp.of (by decide) (Nat.le_of_ble_eq_true rfl) [(0, .ref (kB C + l0)), (1, .int l1), (2, .int l2)] rfl ?_
  show Cmp C mdX7_many (QM rvL) 0 [(0, .ref (kB C + l0)), (1, .int l1), (2, .int l2)] [] (m_X7_many l0 l1 l2)
  unfold m_X7_many
  refine C_aload_n (D := mdX7_many) (pc' := 1) (x := kB C + l0) dX7_many_0 rfl 0 rfl ?_
  refine C_iload_n (D := mdX7_many) (pc' := 2) (x := l1) dX7_many_1 rfl 1 rfl ?_
  refine C_callV (D := mdX7_many) (pc' := 5) (p := l0) (st := []) [.int l1] v_X7_82 (i_X7_isQuery C l0 l1) dX7_many_2 rfl rfl rfl (Nat.le_of_ble_eq_true rfl) (by decide) (by decide) (fun c1 => ?_)
  refine C_if_eq (D := mdX7_many) (pc' := 8) (tgt := 18) dX7_many_5 (by decide) rfl ?_ ?_
  · exact C_sub [] rfl (p_X7_many_J18 C )
  · refine C_iload_n (D := mdX7_many) (pc' := 9) (x := l2) dX7_many_8 rfl 2 rfl ?_
    refine C_if_lt (D := mdX7_many) (pc' := 12) (tgt := 18) dX7_many_9 (by decide) rfl ?_ ?_
    · exact C_sub [] rfl (p_X7_many_J18 C )
    · refine C_iload_n (D := mdX7_many) (pc' := 13) (x := l2) dX7_many_12 rfl 2 rfl ?_
      refine C_bipush (D := mdX7_many) (pc' := 15) (v := 12) dX7_many_13 rfl (by decide) ?_
      refine C_icmp_le (D := mdX7_many) (pc' := 18) (tgt := 22) dX7_many_15 (by decide) rfl ?_ ?_
      · refine C_aload_n (D := mdX7_many) (pc' := 23) (x := kB C + l0) dX7_many_22 rfl 0 rfl ?_
        refine C_iload_n (D := mdX7_many) (pc' := 24) (x := l1) dX7_many_23 rfl 1 rfl ?_
        refine C_callV (D := mdX7_many) (pc' := 27) (p := l0) (st := []) [.int l1] v_X7_150 (i_X7_searchFor C l0 l1) dX7_many_24 rfl rfl rfl (Nat.le_of_ble_eq_true rfl) (by decide) (by decide) (fun c2 => ?_)
        refine C_iload_n (D := mdX7_many) (pc' := 28) (x := l2) dX7_many_27 rfl 2 rfl ?_
        refine C_callV (D := mdX7_many) (pc' := 31) (p := c2) (st := []) [.int l2] v_X7_167 (i_X4_rowsOf C c2 l2) dX7_many_28 rfl rfl rfl (Nat.le_of_ble_eq_true rfl) (by decide) (by decide) (fun c3 => ?_)
        exact C_lret rfl dX7_many_31
      · exact C_sub [] rfl (p_X7_many_J18 C )

-- StandingQueries.isWord(I)Z
theorem dX7_isWord_0 : decode cX7_isWord 0 = .ok (.iload_n 1, 1) := by decide +kernel
theorem dX7_isWord_1 : decode cX7_isWord 1 = .ok (.ifCond .lt 18, 3) := by decide +kernel
theorem dX7_isWord_4 : decode cX7_isWord 4 = .ok (.iload_n 1, 1) := by decide +kernel
theorem dX7_isWord_5 : decode cX7_isWord 5 = .ok (.aload_n 0, 1) := by decide +kernel
theorem dX7_isWord_6 : decode cX7_isWord 6 = .ok (.getfield 39, 3) := by decide +kernel
theorem dX7_isWord_9 : decode cX7_isWord 9 = .ok (.getfield 231, 3) := by decide +kernel
theorem dX7_isWord_12 : decode cX7_isWord 12 = .ok (.if_icmp .ge 7, 3) := by decide +kernel
theorem dX7_isWord_15 : decode cX7_isWord 15 = .ok (.iconst 1, 1) := by decide +kernel
theorem dX7_isWord_16 : decode cX7_isWord 16 = .ok (.goto 4, 3) := by decide +kernel
theorem dX7_isWord_19 : decode cX7_isWord 19 = .ok (.iconst 0, 1) := by decide +kernel
theorem dX7_isWord_20 : decode cX7_isWord 20 = .ok (.ireturn, 1) := by decide +kernel
abbrev mdX7_isWord : MD := (cX7_isWord, RX7, 2, (some .boolean), yX7_isWord.name, 0, 0, eT)
set_option maxHeartbeats 2000000 in
set_option maxRecDepth 20000 in
theorem i_X7_isWord (C : KX) (l0 : Nat) (l1 : Int32) : Imp C yX7_isWord cX7_isWord 2 (some .boolean) 0 0 rvI [.ref (kB C + l0), .int l1] (m_X7_isWord l0 l1) := by
  refine Imp.of (by decide) (Nat.le_of_ble_eq_true rfl) [(0, .ref (kB C + l0)), (1, .int l1)] rfl ?_
  show Cmp C mdX7_isWord (QM rvI) 0 [(0, .ref (kB C + l0)), (1, .int l1)] [] (m_X7_isWord l0 l1)
  unfold m_X7_isWord
  refine C_iload_n (D := mdX7_isWord) (pc' := 1) (x := l1) dX7_isWord_0 rfl 1 rfl ?_
  refine C_if_lt (D := mdX7_isWord) (pc' := 4) (tgt := 19) dX7_isWord_1 (by decide) rfl ?_ ?_
  · refine C_iconst (D := mdX7_isWord) (pc' := 20) (v := 0) dX7_isWord_19 rfl (by decide) ?_
    exact C_zret rfl dX7_isWord_20
  · refine C_iload_n (D := mdX7_isWord) (pc' := 5) (x := l1) dX7_isWord_4 rfl 1 rfl ?_
    refine C_aload_n (D := mdX7_isWord) (pc' := 6) (x := kB C + l0) dX7_isWord_5 rfl 0 rfl ?_
    refine C_getR (D := mdX7_isWord) (pc' := 9) (p := l0) f_X7_39 rfl dX7_isWord_6 rfl (fun words1 => ?_)
    refine C_getI (D := mdX7_isWord) (pc' := 12) (p := words1) f_X7_231 rfl dX7_isWord_9 rfl (fun count2 => ?_)
    refine C_icmp_ge (D := mdX7_isWord) (pc' := 15) (tgt := 19) dX7_isWord_12 (by decide) rfl ?_ ?_
    · refine C_iconst (D := mdX7_isWord) (pc' := 20) (v := 0) dX7_isWord_19 rfl (by decide) ?_
      exact C_zret rfl dX7_isWord_20
    · refine C_iconst (D := mdX7_isWord) (pc' := 16) (v := 1) dX7_isWord_15 rfl (by decide) ?_
      refine C_goto (D := mdX7_isWord) (pc' := 20) dX7_isWord_16 (by decide) ?_
      exact C_zret rfl dX7_isWord_20

-- StandingQueries.word(II)I
theorem dX7_word_0 : decode cX7_word 0 = .ok (.aload_n 0, 1) := by decide +kernel
theorem dX7_word_1 : decode cX7_word 1 = .ok (.iload_n 1, 1) := by decide +kernel
theorem dX7_word_2 : decode cX7_word 2 = .ok (.invokevirtual 171, 3) := by decide +kernel
theorem dX7_word_5 : decode cX7_word 5 = .ok (.ifCond .eq 8, 3) := by decide +kernel
theorem dX7_word_8 : decode cX7_word 8 = .ok (.iload_n 2, 1) := by decide +kernel
theorem dX7_word_9 : decode cX7_word 9 = .ok (.iconst (-1), 1) := by decide +kernel
theorem dX7_word_10 : decode cX7_word 10 = .ok (.if_icmp .ge 5, 3) := by decide +kernel
theorem dX7_word_13 : decode cX7_word 13 = .ok (.iconst (-1), 1) := by decide +kernel
theorem dX7_word_14 : decode cX7_word 14 = .ok (.ireturn, 1) := by decide +kernel
theorem dX7_word_15 : decode cX7_word 15 = .ok (.aload_n 0, 1) := by decide +kernel
theorem dX7_word_16 : decode cX7_word 16 = .ok (.getfield 39, 3) := by decide +kernel
theorem dX7_word_19 : decode cX7_word 19 = .ok (.getfield 174, 3) := by decide +kernel
theorem dX7_word_22 : decode cX7_word 22 = .ok (.iload_n 1, 1) := by decide +kernel
theorem dX7_word_23 : decode cX7_word 23 = .ok (.iaload, 1) := by decide +kernel
theorem dX7_word_24 : decode cX7_word 24 = .ok (.istore_n 3, 1) := by decide +kernel
theorem dX7_word_25 : decode cX7_word 25 = .ok (.iload_n 3, 1) := by decide +kernel
theorem dX7_word_26 : decode cX7_word 26 = .ok (.invokestatic 177, 3) := by decide +kernel
theorem dX7_word_29 : decode cX7_word 29 = .ok (.istore 4, 2) := by decide +kernel
theorem dX7_word_31 : decode cX7_word 31 = .ok (.iload_n 2, 1) := by decide +kernel
theorem dX7_word_32 : decode cX7_word 32 = .ok (.iconst (-1), 1) := by decide +kernel
theorem dX7_word_33 : decode cX7_word 33 = .ok (.if_icmp .ne 6, 3) := by decide +kernel
theorem dX7_word_36 : decode cX7_word 36 = .ok (.iload 4, 2) := by decide +kernel
theorem dX7_word_38 : decode cX7_word 38 = .ok (.ireturn, 1) := by decide +kernel
theorem dX7_word_39 : decode cX7_word 39 = .ok (.iload_n 2, 1) := by decide +kernel
theorem dX7_word_40 : decode cX7_word 40 = .ok (.iload 4, 2) := by decide +kernel
theorem dX7_word_42 : decode cX7_word 42 = .ok (.if_icmp .ge 14, 3) := by decide +kernel
theorem dX7_word_45 : decode cX7_word 45 = .ok (.iload_n 3, 1) := by decide +kernel
theorem dX7_word_46 : decode cX7_word 46 = .ok (.iload_n 2, 1) := by decide +kernel
theorem dX7_word_47 : decode cX7_word 47 = .ok (.invokestatic 182, 3) := by decide +kernel
theorem dX7_word_50 : decode cX7_word 50 = .ok (.bipush 97, 2) := by decide +kernel
theorem dX7_word_52 : decode cX7_word 52 = .ok (.iadd, 1) := by decide +kernel
theorem dX7_word_53 : decode cX7_word 53 = .ok (.goto 5, 3) := by decide +kernel
theorem dX7_word_56 : decode cX7_word 56 = .ok (.bipush (-9), 2) := by decide +kernel
theorem dX7_word_58 : decode cX7_word 58 = .ok (.ireturn, 1) := by decide +kernel
abbrev mdX7_word : MD := (cX7_word, RX7, 5, (some .int), yX7_word.name, 2, 42, eT)
set_option maxHeartbeats 2000000 in
set_option maxRecDepth 20000 in
theorem i_X7_word (C : KX) (l0 : Nat) (l1 : Int32) (l2 : Int32) : Imp C yX7_word cX7_word 5 (some .int) 2 42 rvI [.ref (kB C + l0), .int l1, .int l2] (m_X7_word l0 l1 l2) := by
  refine Imp.of (by decide) (Nat.le_of_ble_eq_true rfl) [(0, .ref (kB C + l0)), (1, .int l1), (2, .int l2)] rfl ?_
  show Cmp C mdX7_word (QM rvI) 0 [(0, .ref (kB C + l0)), (1, .int l1), (2, .int l2)] [] (m_X7_word l0 l1 l2)
  unfold m_X7_word
  refine C_aload_n (D := mdX7_word) (pc' := 1) (x := kB C + l0) dX7_word_0 rfl 0 rfl ?_
  refine C_iload_n (D := mdX7_word) (pc' := 2) (x := l1) dX7_word_1 rfl 1 rfl ?_
  refine C_callV (D := mdX7_word) (pc' := 5) (p := l0) (st := []) [.int l1] v_X7_171 (i_X7_isWord C l0 l1) dX7_word_2 rfl rfl rfl (Nat.le_of_ble_eq_true rfl) (by decide) (by decide) (fun c1 => ?_)
  refine C_if_eq (D := mdX7_word) (pc' := 8) (tgt := 13) dX7_word_5 (by decide) rfl ?_ ?_
  · refine C_iconst (D := mdX7_word) (pc' := 14) (v := (-1)) dX7_word_13 rfl (by decide) ?_
    exact C_iret rfl dX7_word_14
  · refine C_iload_n (D := mdX7_word) (pc' := 9) (x := l2) dX7_word_8 rfl 2 rfl ?_
    refine C_iconst (D := mdX7_word) (pc' := 10) (v := (-1)) dX7_word_9 rfl (by decide) ?_
    refine C_icmp_ge (D := mdX7_word) (pc' := 13) (tgt := 15) dX7_word_10 (by decide) rfl ?_ ?_
    · refine C_aload_n (D := mdX7_word) (pc' := 16) (x := kB C + l0) dX7_word_15 rfl 0 rfl ?_
      refine C_getR (D := mdX7_word) (pc' := 19) (p := l0) f_X7_39 rfl dX7_word_16 rfl (fun words2 => ?_)
      refine C_getR (D := mdX7_word) (pc' := 22) (p := words2) f_X7_174 rfl dX7_word_19 rfl (fun codes3 => ?_)
      refine C_iload_n (D := mdX7_word) (pc' := 23) (x := l1) dX7_word_22 rfl 1 rfl ?_
      refine C_aI (D := mdX7_word) (pc' := 24) (p := codes3) dX7_word_23 rfl (fun x4 => ?_)
      refine C_istore_n (D := mdX7_word) (pc' := 25) (ls' := [(3, .int x4), (0, .ref (kB C + l0)), (1, .int l1), (2, .int l2)]) dX7_word_24 rfl rfl (by decide) rfl ?_
      refine C_iload_n (D := mdX7_word) (pc' := 26) (x := x4) dX7_word_25 rfl 0 rfl ?_
      refine C_callS (D := mdX7_word) (pc' := 29) (st := []) [.int x4] s_X7_177 (i_X3_sizeOf C x4) dX7_word_26 rfl rfl rfl (Nat.le_of_ble_eq_true rfl) (by decide) (by decide) (fun c5 => ?_)
      refine C_istore (D := mdX7_word) (pc' := 31) (ls' := [(4, .int c5), (3, .int x4), (0, .ref (kB C + l0)), (1, .int l1), (2, .int l2)]) dX7_word_29 rfl (by decide) rfl ?_
      refine C_iload_n (D := mdX7_word) (pc' := 32) (x := l2) dX7_word_31 rfl 4 rfl ?_
      refine C_iconst (D := mdX7_word) (pc' := 33) (v := (-1)) dX7_word_32 rfl (by decide) ?_
      refine C_icmp_ne (D := mdX7_word) (pc' := 36) (tgt := 39) dX7_word_33 (by decide) rfl ?_ ?_
      · refine C_iload_n (D := mdX7_word) (pc' := 40) (x := l2) dX7_word_39 rfl 4 rfl ?_
        refine C_iload (D := mdX7_word) (pc' := 42) (x := c5) dX7_word_40 rfl 0 rfl ?_
        refine C_icmp_ge (D := mdX7_word) (pc' := 45) (tgt := 56) dX7_word_42 (by decide) rfl ?_ ?_
        · refine C_bipush (D := mdX7_word) (pc' := 58) (v := (-9)) dX7_word_56 rfl (by decide) ?_
          exact C_iret rfl dX7_word_58
        · refine C_iload_n (D := mdX7_word) (pc' := 46) (x := x4) dX7_word_45 rfl 1 rfl ?_
          refine C_iload_n (D := mdX7_word) (pc' := 47) (x := l2) dX7_word_46 rfl 4 rfl ?_
          refine C_callS (D := mdX7_word) (pc' := 50) (st := []) [.int x4, .int l2] s_X7_182 (i_X3_letterAt C x4 l2) dX7_word_47 rfl rfl rfl (Nat.le_of_ble_eq_true rfl) (by decide) (by decide) (fun c6 => ?_)
          refine C_bipush (D := mdX7_word) (pc' := 52) (v := 97) dX7_word_50 rfl (by decide) ?_
          refine C_iadd (D := mdX7_word) (pc' := 53) dX7_word_52 rfl ?_
          refine C_goto (D := mdX7_word) (pc' := 58) dX7_word_53 (by decide) ?_
          exact C_iret rfl dX7_word_58
      · refine C_iload (D := mdX7_word) (pc' := 38) (x := c5) dX7_word_36 rfl 0 rfl ?_
        exact C_iret rfl dX7_word_38
    · refine C_iconst (D := mdX7_word) (pc' := 14) (v := (-1)) dX7_word_13 rfl (by decide) ?_
      exact C_iret rfl dX7_word_14

-- StandingQueries.placeOfBit(JI)I
theorem dX7_placeOfBit_0 : decode cX7_placeOfBit 0 = .ok (.iconst 0, 1) := by decide +kernel
theorem dX7_placeOfBit_1 : decode cX7_placeOfBit 1 = .ok (.istore_n 3, 1) := by decide +kernel
theorem dX7_placeOfBit_2 : decode cX7_placeOfBit 2 = .ok (.iconst 0, 1) := by decide +kernel
theorem dX7_placeOfBit_3 : decode cX7_placeOfBit 3 = .ok (.istore 4, 2) := by decide +kernel
theorem dX7_placeOfBit_5 : decode cX7_placeOfBit 5 = .ok (.iload 4, 2) := by decide +kernel
theorem dX7_placeOfBit_7 : decode cX7_placeOfBit 7 = .ok (.bipush 40, 2) := by decide +kernel
theorem dX7_placeOfBit_9 : decode cX7_placeOfBit 9 = .ok (.if_icmp .ge 31, 3) := by decide +kernel
theorem dX7_placeOfBit_12 : decode cX7_placeOfBit 12 = .ok (.lload_n 0, 1) := by decide +kernel
theorem dX7_placeOfBit_13 : decode cX7_placeOfBit 13 = .ok (.iload 4, 2) := by decide +kernel
theorem dX7_placeOfBit_15 : decode cX7_placeOfBit 15 = .ok (.lshr, 1) := by decide +kernel
theorem dX7_placeOfBit_16 : decode cX7_placeOfBit 16 = .ok (.lconst 1, 1) := by decide +kernel
theorem dX7_placeOfBit_17 : decode cX7_placeOfBit 17 = .ok (.land, 1) := by decide +kernel
theorem dX7_placeOfBit_18 : decode cX7_placeOfBit 18 = .ok (.lconst 0, 1) := by decide +kernel
theorem dX7_placeOfBit_19 : decode cX7_placeOfBit 19 = .ok (.lcmp, 1) := by decide +kernel
theorem dX7_placeOfBit_20 : decode cX7_placeOfBit 20 = .ok (.ifCond .eq 14, 3) := by decide +kernel
theorem dX7_placeOfBit_23 : decode cX7_placeOfBit 23 = .ok (.iload_n 3, 1) := by decide +kernel
theorem dX7_placeOfBit_24 : decode cX7_placeOfBit 24 = .ok (.iload_n 2, 1) := by decide +kernel
theorem dX7_placeOfBit_25 : decode cX7_placeOfBit 25 = .ok (.if_icmp .ne 6, 3) := by decide +kernel
theorem dX7_placeOfBit_28 : decode cX7_placeOfBit 28 = .ok (.iload 4, 2) := by decide +kernel
theorem dX7_placeOfBit_30 : decode cX7_placeOfBit 30 = .ok (.ireturn, 1) := by decide +kernel
theorem dX7_placeOfBit_31 : decode cX7_placeOfBit 31 = .ok (.iinc 3 1, 3) := by decide +kernel
theorem dX7_placeOfBit_34 : decode cX7_placeOfBit 34 = .ok (.iinc 4 1, 3) := by decide +kernel
theorem dX7_placeOfBit_37 : decode cX7_placeOfBit 37 = .ok (.goto (-32), 3) := by decide +kernel
theorem dX7_placeOfBit_40 : decode cX7_placeOfBit 40 = .ok (.bipush (-9), 2) := by decide +kernel
theorem dX7_placeOfBit_42 : decode cX7_placeOfBit 42 = .ok (.ireturn, 1) := by decide +kernel
abbrev mdX7_placeOfBit : MD := (cX7_placeOfBit, RX7, 5, (some .int), yX7_placeOfBit.name, 0, 0, eT)
set_option maxHeartbeats 2000000 in
set_option maxRecDepth 20000 in
theorem p_X7_placeOfBit_J34 (C : KX) (l0 : Int64) (l2 : Int32) (l3 : Int32) (l4 : Int32) (k5 : Int32 × Int32 → Mo Int32) (hk5 : ∀ s, Cmp C mdX7_placeOfBit (QM rvI) 5 [(0, .long l0), (2, .int l2), (3, .int s.1), (4, .int s.2)] [] (k5 s)) : Cmp C mdX7_placeOfBit (QM rvI) 34 [(0, .long l0), (2, .int l2), (3, .int l3), (4, .int l4)] [] (m_X7_placeOfBit_J34 l0 l2 l3 l4 k5) := by
  unfold m_X7_placeOfBit_J34
  refine C_iinc (D := mdX7_placeOfBit) (pc' := 37) (j := 3) (v := (l4 + 1)) (ls' := [(4, .int (l4 + 1)), (0, .long l0), (2, .int l2), (3, .int l3)]) dX7_placeOfBit_34 rfl rfl rfl (by decide) rfl ?_
  refine C_goto (D := mdX7_placeOfBit) (pc' := 5) dX7_placeOfBit_37 (by decide) ?_
  exact C_sub [1, 2, 3, 0] rfl (hk5 (l3, (l4 + 1)))
set_option maxHeartbeats 2000000 in
set_option maxRecDepth 20000 in
theorem p_X7_placeOfBit_B5 (C : KX) (l0 : Int64) (l2 : Int32)  (k5 : Int32 × Int32 → Mo Int32) (hk5 : ∀ s, Cmp C mdX7_placeOfBit (QM rvI) 5 [(0, .long l0), (2, .int l2), (3, .int s.1), (4, .int s.2)] [] (k5 s)) (l3 : Int32) (l4 : Int32) : Cmp C mdX7_placeOfBit (QM rvI) 5 [(0, .long l0), (2, .int l2), (3, .int l3), (4, .int l4)] [] (m_X7_placeOfBit_B5 l0 l2 k5 l3 l4) := by
  unfold m_X7_placeOfBit_B5
  refine C_iload (D := mdX7_placeOfBit) (pc' := 7) (x := l4) dX7_placeOfBit_5 rfl 3 rfl ?_
  refine C_bipush (D := mdX7_placeOfBit) (pc' := 9) (v := 40) dX7_placeOfBit_7 rfl (by decide) ?_
  refine C_icmp_ge (D := mdX7_placeOfBit) (pc' := 12) (tgt := 40) dX7_placeOfBit_9 (by decide) rfl ?_ ?_
  · refine C_bipush (D := mdX7_placeOfBit) (pc' := 42) (v := (-9)) dX7_placeOfBit_40 rfl (by decide) ?_
    exact C_iret rfl dX7_placeOfBit_42
  · refine C_lload_n (D := mdX7_placeOfBit) (pc' := 13) (x := l0) dX7_placeOfBit_12 rfl 0 rfl ?_
    refine C_iload (D := mdX7_placeOfBit) (pc' := 15) (x := l4) dX7_placeOfBit_13 rfl 3 rfl ?_
    refine C_lshr (D := mdX7_placeOfBit) (pc' := 16) dX7_placeOfBit_15 rfl ?_
    refine C_lconst (D := mdX7_placeOfBit) (pc' := 17) (v := 1) dX7_placeOfBit_16 rfl (by decide) ?_
    refine C_land (D := mdX7_placeOfBit) (pc' := 18) dX7_placeOfBit_17 rfl ?_
    refine C_lconst (D := mdX7_placeOfBit) (pc' := 19) (v := 0) dX7_placeOfBit_18 rfl (by decide) ?_
    refine C_lcmp (D := mdX7_placeOfBit) (pc' := 20) dX7_placeOfBit_19 rfl ?_
    refine C_if_eq (D := mdX7_placeOfBit) (pc' := 23) (tgt := 34) dX7_placeOfBit_20 (by decide) rfl ?_ ?_
    · exact C_sub [0, 1, 2, 3] rfl (p_X7_placeOfBit_J34 C l0 l2 l3 l4 k5 hk5)
    · refine C_iload_n (D := mdX7_placeOfBit) (pc' := 24) (x := l3) dX7_placeOfBit_23 rfl 2 rfl ?_
      refine C_iload_n (D := mdX7_placeOfBit) (pc' := 25) (x := l2) dX7_placeOfBit_24 rfl 1 rfl ?_
      refine C_icmp_ne (D := mdX7_placeOfBit) (pc' := 28) (tgt := 31) dX7_placeOfBit_25 (by decide) rfl ?_ ?_
      · refine C_iinc (D := mdX7_placeOfBit) (pc' := 34) (j := 2) (v := (l3 + 1)) (ls' := [(3, .int (l3 + 1)), (0, .long l0), (2, .int l2), (4, .int l4)]) dX7_placeOfBit_31 rfl rfl rfl (by decide) rfl ?_
        exact C_sub [1, 2, 0, 3] rfl (p_X7_placeOfBit_J34 C l0 l2 ((l3 + 1)) l4 k5 hk5)
      · refine C_iload (D := mdX7_placeOfBit) (pc' := 30) (x := l4) dX7_placeOfBit_28 rfl 3 rfl ?_
        exact C_iret rfl dX7_placeOfBit_30
set_option maxHeartbeats 2000000 in
set_option maxRecDepth 20000 in
theorem i_X7_placeOfBit (C : KX) (l0 : Int64) (l2 : Int32) : Imp C yX7_placeOfBit cX7_placeOfBit 5 (some .int) 0 0 rvI [.long l0, .int l2] (m_X7_placeOfBit l0 l2) := by
  refine Imp.of (by decide) (Nat.le_of_ble_eq_true rfl) [(0, .long l0), (2, .int l2)] rfl ?_
  show Cmp C mdX7_placeOfBit (QM rvI) 0 [(0, .long l0), (2, .int l2)] [] (m_X7_placeOfBit l0 l2)
  unfold m_X7_placeOfBit
  refine C_iconst (D := mdX7_placeOfBit) (pc' := 1) (v := 0) dX7_placeOfBit_0 rfl (by decide) ?_
  refine C_istore_n (D := mdX7_placeOfBit) (pc' := 2) (ls' := [(3, .int 0), (0, .long l0), (2, .int l2)]) dX7_placeOfBit_1 rfl rfl (by decide) rfl ?_
  refine C_iconst (D := mdX7_placeOfBit) (pc' := 3) (v := 0) dX7_placeOfBit_2 rfl (by decide) ?_
  refine C_istore (D := mdX7_placeOfBit) (pc' := 5) (ls' := [(4, .int 0), (3, .int 0), (0, .long l0), (2, .int l2)]) dX7_placeOfBit_3 rfl (by decide) rfl ?_
  exact C_sub [2, 3, 1, 0] rfl (C_loop (fun s => [(0, .long l0), (2, .int l2), (3, .int s.1), (4, .int s.2)]) (fun k hk s => p_X7_placeOfBit_B5 C l0 l2  k hk s.1 s.2) FU (0, 0))

-- java/lang/Long.bitCount(J)I
theorem dJ13_bitCount_95d88_0 : decode cJ13_bitCount_95d88 0 = .ok (.lload_n 0, 1) := by decide +kernel
theorem dJ13_bitCount_95d88_1 : decode cJ13_bitCount_95d88 1 = .ok (.lload_n 0, 1) := by decide +kernel
theorem dJ13_bitCount_95d88_2 : decode cJ13_bitCount_95d88 2 = .ok (.iconst 1, 1) := by decide +kernel
theorem dJ13_bitCount_95d88_3 : decode cJ13_bitCount_95d88 3 = .ok (.lushr, 1) := by decide +kernel
theorem dJ13_bitCount_95d88_4 : decode cJ13_bitCount_95d88 4 = .ok (.ldc2_w 314, 3) := by decide +kernel
theorem dJ13_bitCount_95d88_7 : decode cJ13_bitCount_95d88 7 = .ok (.land, 1) := by decide +kernel
theorem dJ13_bitCount_95d88_8 : decode cJ13_bitCount_95d88 8 = .ok (.lsub, 1) := by decide +kernel
theorem dJ13_bitCount_95d88_9 : decode cJ13_bitCount_95d88 9 = .ok (.lstore_n 0, 1) := by decide +kernel
theorem dJ13_bitCount_95d88_10 : decode cJ13_bitCount_95d88 10 = .ok (.lload_n 0, 1) := by decide +kernel
theorem dJ13_bitCount_95d88_11 : decode cJ13_bitCount_95d88 11 = .ok (.ldc2_w 316, 3) := by decide +kernel
theorem dJ13_bitCount_95d88_14 : decode cJ13_bitCount_95d88 14 = .ok (.land, 1) := by decide +kernel
theorem dJ13_bitCount_95d88_15 : decode cJ13_bitCount_95d88 15 = .ok (.lload_n 0, 1) := by decide +kernel
theorem dJ13_bitCount_95d88_16 : decode cJ13_bitCount_95d88 16 = .ok (.iconst 2, 1) := by decide +kernel
theorem dJ13_bitCount_95d88_17 : decode cJ13_bitCount_95d88 17 = .ok (.lushr, 1) := by decide +kernel
theorem dJ13_bitCount_95d88_18 : decode cJ13_bitCount_95d88 18 = .ok (.ldc2_w 316, 3) := by decide +kernel
theorem dJ13_bitCount_95d88_21 : decode cJ13_bitCount_95d88 21 = .ok (.land, 1) := by decide +kernel
theorem dJ13_bitCount_95d88_22 : decode cJ13_bitCount_95d88 22 = .ok (.ladd, 1) := by decide +kernel
theorem dJ13_bitCount_95d88_23 : decode cJ13_bitCount_95d88 23 = .ok (.lstore_n 0, 1) := by decide +kernel
theorem dJ13_bitCount_95d88_24 : decode cJ13_bitCount_95d88 24 = .ok (.lload_n 0, 1) := by decide +kernel
theorem dJ13_bitCount_95d88_25 : decode cJ13_bitCount_95d88 25 = .ok (.lload_n 0, 1) := by decide +kernel
theorem dJ13_bitCount_95d88_26 : decode cJ13_bitCount_95d88 26 = .ok (.iconst 4, 1) := by decide +kernel
theorem dJ13_bitCount_95d88_27 : decode cJ13_bitCount_95d88 27 = .ok (.lushr, 1) := by decide +kernel
theorem dJ13_bitCount_95d88_28 : decode cJ13_bitCount_95d88 28 = .ok (.ladd, 1) := by decide +kernel
theorem dJ13_bitCount_95d88_29 : decode cJ13_bitCount_95d88 29 = .ok (.ldc2_w 318, 3) := by decide +kernel
theorem dJ13_bitCount_95d88_32 : decode cJ13_bitCount_95d88 32 = .ok (.land, 1) := by decide +kernel
theorem dJ13_bitCount_95d88_33 : decode cJ13_bitCount_95d88 33 = .ok (.lstore_n 0, 1) := by decide +kernel
theorem dJ13_bitCount_95d88_34 : decode cJ13_bitCount_95d88 34 = .ok (.lload_n 0, 1) := by decide +kernel
theorem dJ13_bitCount_95d88_35 : decode cJ13_bitCount_95d88 35 = .ok (.lload_n 0, 1) := by decide +kernel
theorem dJ13_bitCount_95d88_36 : decode cJ13_bitCount_95d88 36 = .ok (.bipush 8, 2) := by decide +kernel
theorem dJ13_bitCount_95d88_38 : decode cJ13_bitCount_95d88 38 = .ok (.lushr, 1) := by decide +kernel
theorem dJ13_bitCount_95d88_39 : decode cJ13_bitCount_95d88 39 = .ok (.ladd, 1) := by decide +kernel
theorem dJ13_bitCount_95d88_40 : decode cJ13_bitCount_95d88 40 = .ok (.lstore_n 0, 1) := by decide +kernel
theorem dJ13_bitCount_95d88_41 : decode cJ13_bitCount_95d88 41 = .ok (.lload_n 0, 1) := by decide +kernel
theorem dJ13_bitCount_95d88_42 : decode cJ13_bitCount_95d88 42 = .ok (.lload_n 0, 1) := by decide +kernel
theorem dJ13_bitCount_95d88_43 : decode cJ13_bitCount_95d88 43 = .ok (.bipush 16, 2) := by decide +kernel
theorem dJ13_bitCount_95d88_45 : decode cJ13_bitCount_95d88 45 = .ok (.lushr, 1) := by decide +kernel
theorem dJ13_bitCount_95d88_46 : decode cJ13_bitCount_95d88 46 = .ok (.ladd, 1) := by decide +kernel
theorem dJ13_bitCount_95d88_47 : decode cJ13_bitCount_95d88 47 = .ok (.lstore_n 0, 1) := by decide +kernel
theorem dJ13_bitCount_95d88_48 : decode cJ13_bitCount_95d88 48 = .ok (.lload_n 0, 1) := by decide +kernel
theorem dJ13_bitCount_95d88_49 : decode cJ13_bitCount_95d88 49 = .ok (.lload_n 0, 1) := by decide +kernel
theorem dJ13_bitCount_95d88_50 : decode cJ13_bitCount_95d88 50 = .ok (.bipush 32, 2) := by decide +kernel
theorem dJ13_bitCount_95d88_52 : decode cJ13_bitCount_95d88 52 = .ok (.lushr, 1) := by decide +kernel
theorem dJ13_bitCount_95d88_53 : decode cJ13_bitCount_95d88 53 = .ok (.ladd, 1) := by decide +kernel
theorem dJ13_bitCount_95d88_54 : decode cJ13_bitCount_95d88 54 = .ok (.lstore_n 0, 1) := by decide +kernel
theorem dJ13_bitCount_95d88_55 : decode cJ13_bitCount_95d88 55 = .ok (.lload_n 0, 1) := by decide +kernel
theorem dJ13_bitCount_95d88_56 : decode cJ13_bitCount_95d88 56 = .ok (.l2i, 1) := by decide +kernel
theorem dJ13_bitCount_95d88_57 : decode cJ13_bitCount_95d88 57 = .ok (.bipush 127, 2) := by decide +kernel
theorem dJ13_bitCount_95d88_59 : decode cJ13_bitCount_95d88 59 = .ok (.iand, 1) := by decide +kernel
theorem dJ13_bitCount_95d88_60 : decode cJ13_bitCount_95d88 60 = .ok (.ireturn, 1) := by decide +kernel
abbrev mdJ13_bitCount_95d88 : MD := (cJ13_bitCount_95d88, RJ13, 2, (some .int), yJ13_bitCount_95d88.name, 0, 0, eT)
set_option maxHeartbeats 2000000 in
set_option maxRecDepth 20000 in
theorem i_J13_bitCount_95d88 (C : KX) (l0 : Int64) : Imp C yJ13_bitCount_95d88 cJ13_bitCount_95d88 2 (some .int) 0 0 rvI [.long l0] (m_J13_bitCount_95d88 l0) := by
  refine Imp.of (by decide) (Nat.le_of_ble_eq_true rfl) [(0, .long l0)] rfl ?_
  show Cmp C mdJ13_bitCount_95d88 (QM rvI) 0 [(0, .long l0)] [] (m_J13_bitCount_95d88 l0)
  unfold m_J13_bitCount_95d88
  refine C_lload_n (D := mdJ13_bitCount_95d88) (pc' := 1) (x := l0) dJ13_bitCount_95d88_0 rfl 0 rfl ?_
  refine C_lload_n (D := mdJ13_bitCount_95d88) (pc' := 2) (x := l0) dJ13_bitCount_95d88_1 rfl 0 rfl ?_
  refine C_iconst (D := mdJ13_bitCount_95d88) (pc' := 3) (v := 1) dJ13_bitCount_95d88_2 rfl (by decide) ?_
  refine C_lushr (D := mdJ13_bitCount_95d88) (pc' := 4) dJ13_bitCount_95d88_3 rfl ?_
  refine C_ldc2 (D := mdJ13_bitCount_95d88) (pc' := 7) (v := 6148914691236517205) c_J13_314 dJ13_bitCount_95d88_4 rfl ?_
  refine C_land (D := mdJ13_bitCount_95d88) (pc' := 8) dJ13_bitCount_95d88_7 rfl ?_
  refine C_lsub (D := mdJ13_bitCount_95d88) (pc' := 9) dJ13_bitCount_95d88_8 rfl ?_
  refine C_letL (fun v1 => ?_)
  refine C_lstore_n (D := mdJ13_bitCount_95d88) (pc' := 10) (ls' := [(0, .long v1)]) dJ13_bitCount_95d88_9 rfl rfl (by decide) rfl ?_
  refine C_lload_n (D := mdJ13_bitCount_95d88) (pc' := 11) (x := v1) dJ13_bitCount_95d88_10 rfl 0 rfl ?_
  refine C_ldc2 (D := mdJ13_bitCount_95d88) (pc' := 14) (v := 3689348814741910323) c_J13_316 dJ13_bitCount_95d88_11 rfl ?_
  refine C_land (D := mdJ13_bitCount_95d88) (pc' := 15) dJ13_bitCount_95d88_14 rfl ?_
  refine C_lload_n (D := mdJ13_bitCount_95d88) (pc' := 16) (x := v1) dJ13_bitCount_95d88_15 rfl 0 rfl ?_
  refine C_iconst (D := mdJ13_bitCount_95d88) (pc' := 17) (v := 2) dJ13_bitCount_95d88_16 rfl (by decide) ?_
  refine C_lushr (D := mdJ13_bitCount_95d88) (pc' := 18) dJ13_bitCount_95d88_17 rfl ?_
  refine C_ldc2 (D := mdJ13_bitCount_95d88) (pc' := 21) (v := 3689348814741910323) c_J13_316 dJ13_bitCount_95d88_18 rfl ?_
  refine C_land (D := mdJ13_bitCount_95d88) (pc' := 22) dJ13_bitCount_95d88_21 rfl ?_
  refine C_ladd (D := mdJ13_bitCount_95d88) (pc' := 23) dJ13_bitCount_95d88_22 rfl ?_
  refine C_letL (fun v2 => ?_)
  refine C_lstore_n (D := mdJ13_bitCount_95d88) (pc' := 24) (ls' := [(0, .long v2)]) dJ13_bitCount_95d88_23 rfl rfl (by decide) rfl ?_
  refine C_lload_n (D := mdJ13_bitCount_95d88) (pc' := 25) (x := v2) dJ13_bitCount_95d88_24 rfl 0 rfl ?_
  refine C_lload_n (D := mdJ13_bitCount_95d88) (pc' := 26) (x := v2) dJ13_bitCount_95d88_25 rfl 0 rfl ?_
  refine C_iconst (D := mdJ13_bitCount_95d88) (pc' := 27) (v := 4) dJ13_bitCount_95d88_26 rfl (by decide) ?_
  refine C_lushr (D := mdJ13_bitCount_95d88) (pc' := 28) dJ13_bitCount_95d88_27 rfl ?_
  refine C_ladd (D := mdJ13_bitCount_95d88) (pc' := 29) dJ13_bitCount_95d88_28 rfl ?_
  refine C_ldc2 (D := mdJ13_bitCount_95d88) (pc' := 32) (v := 1085102592571150095) c_J13_318 dJ13_bitCount_95d88_29 rfl ?_
  refine C_land (D := mdJ13_bitCount_95d88) (pc' := 33) dJ13_bitCount_95d88_32 rfl ?_
  refine C_letL (fun v3 => ?_)
  refine C_lstore_n (D := mdJ13_bitCount_95d88) (pc' := 34) (ls' := [(0, .long v3)]) dJ13_bitCount_95d88_33 rfl rfl (by decide) rfl ?_
  refine C_lload_n (D := mdJ13_bitCount_95d88) (pc' := 35) (x := v3) dJ13_bitCount_95d88_34 rfl 0 rfl ?_
  refine C_lload_n (D := mdJ13_bitCount_95d88) (pc' := 36) (x := v3) dJ13_bitCount_95d88_35 rfl 0 rfl ?_
  refine C_bipush (D := mdJ13_bitCount_95d88) (pc' := 38) (v := 8) dJ13_bitCount_95d88_36 rfl (by decide) ?_
  refine C_lushr (D := mdJ13_bitCount_95d88) (pc' := 39) dJ13_bitCount_95d88_38 rfl ?_
  refine C_ladd (D := mdJ13_bitCount_95d88) (pc' := 40) dJ13_bitCount_95d88_39 rfl ?_
  refine C_letL (fun v4 => ?_)
  refine C_lstore_n (D := mdJ13_bitCount_95d88) (pc' := 41) (ls' := [(0, .long v4)]) dJ13_bitCount_95d88_40 rfl rfl (by decide) rfl ?_
  refine C_lload_n (D := mdJ13_bitCount_95d88) (pc' := 42) (x := v4) dJ13_bitCount_95d88_41 rfl 0 rfl ?_
  refine C_lload_n (D := mdJ13_bitCount_95d88) (pc' := 43) (x := v4) dJ13_bitCount_95d88_42 rfl 0 rfl ?_
  refine C_bipush (D := mdJ13_bitCount_95d88) (pc' := 45) (v := 16) dJ13_bitCount_95d88_43 rfl (by decide) ?_
  refine C_lushr (D := mdJ13_bitCount_95d88) (pc' := 46) dJ13_bitCount_95d88_45 rfl ?_
  refine C_ladd (D := mdJ13_bitCount_95d88) (pc' := 47) dJ13_bitCount_95d88_46 rfl ?_
  refine C_letL (fun v5 => ?_)
  refine C_lstore_n (D := mdJ13_bitCount_95d88) (pc' := 48) (ls' := [(0, .long v5)]) dJ13_bitCount_95d88_47 rfl rfl (by decide) rfl ?_
  refine C_lload_n (D := mdJ13_bitCount_95d88) (pc' := 49) (x := v5) dJ13_bitCount_95d88_48 rfl 0 rfl ?_
  refine C_lload_n (D := mdJ13_bitCount_95d88) (pc' := 50) (x := v5) dJ13_bitCount_95d88_49 rfl 0 rfl ?_
  refine C_bipush (D := mdJ13_bitCount_95d88) (pc' := 52) (v := 32) dJ13_bitCount_95d88_50 rfl (by decide) ?_
  refine C_lushr (D := mdJ13_bitCount_95d88) (pc' := 53) dJ13_bitCount_95d88_52 rfl ?_
  refine C_ladd (D := mdJ13_bitCount_95d88) (pc' := 54) dJ13_bitCount_95d88_53 rfl ?_
  refine C_letL (fun v6 => ?_)
  refine C_lstore_n (D := mdJ13_bitCount_95d88) (pc' := 55) (ls' := [(0, .long v6)]) dJ13_bitCount_95d88_54 rfl rfl (by decide) rfl ?_
  refine C_lload_n (D := mdJ13_bitCount_95d88) (pc' := 56) (x := v6) dJ13_bitCount_95d88_55 rfl 0 rfl ?_
  refine C_l2i (D := mdJ13_bitCount_95d88) (pc' := 57) dJ13_bitCount_95d88_56 rfl ?_
  refine C_bipush (D := mdJ13_bitCount_95d88) (pc' := 59) (v := 127) dJ13_bitCount_95d88_57 rfl (by decide) ?_
  refine C_iand (D := mdJ13_bitCount_95d88) (pc' := 60) dJ13_bitCount_95d88_59 rfl ?_
  exact C_iret rfl dJ13_bitCount_95d88_60

-- StandingQueries.hit(II)I
theorem dX7_hit_0 : decode cX7_hit 0 = .ok (.aload_n 0, 1) := by decide +kernel
theorem dX7_hit_1 : decode cX7_hit 1 = .ok (.iload_n 1, 1) := by decide +kernel
theorem dX7_hit_2 : decode cX7_hit 2 = .ok (.invokevirtual 171, 3) := by decide +kernel
theorem dX7_hit_5 : decode cX7_hit 5 = .ok (.ifCond .eq 8, 3) := by decide +kernel
theorem dX7_hit_8 : decode cX7_hit 8 = .ok (.iload_n 2, 1) := by decide +kernel
theorem dX7_hit_9 : decode cX7_hit 9 = .ok (.iconst (-1), 1) := by decide +kernel
theorem dX7_hit_10 : decode cX7_hit 10 = .ok (.if_icmp .ge 5, 3) := by decide +kernel
theorem dX7_hit_13 : decode cX7_hit 13 = .ok (.iconst (-1), 1) := by decide +kernel
theorem dX7_hit_14 : decode cX7_hit 14 = .ok (.ireturn, 1) := by decide +kernel
theorem dX7_hit_15 : decode cX7_hit 15 = .ok (.iload_n 2, 1) := by decide +kernel
theorem dX7_hit_16 : decode cX7_hit 16 = .ok (.iconst (-1), 1) := by decide +kernel
theorem dX7_hit_17 : decode cX7_hit 17 = .ok (.if_icmp .ne 15, 3) := by decide +kernel
theorem dX7_hit_20 : decode cX7_hit 20 = .ok (.aload_n 0, 1) := by decide +kernel
theorem dX7_hit_21 : decode cX7_hit 21 = .ok (.getfield 50, 3) := by decide +kernel
theorem dX7_hit_24 : decode cX7_hit 24 = .ok (.iload_n 1, 1) := by decide +kernel
theorem dX7_hit_25 : decode cX7_hit 25 = .ok (.laload, 1) := by decide +kernel
theorem dX7_hit_26 : decode cX7_hit 26 = .ok (.invokestatic 185, 3) := by decide +kernel
theorem dX7_hit_29 : decode cX7_hit 29 = .ok (.goto 13, 3) := by decide +kernel
theorem dX7_hit_32 : decode cX7_hit 32 = .ok (.aload_n 0, 1) := by decide +kernel
theorem dX7_hit_33 : decode cX7_hit 33 = .ok (.getfield 50, 3) := by decide +kernel
theorem dX7_hit_36 : decode cX7_hit 36 = .ok (.iload_n 1, 1) := by decide +kernel
theorem dX7_hit_37 : decode cX7_hit 37 = .ok (.laload, 1) := by decide +kernel
theorem dX7_hit_38 : decode cX7_hit 38 = .ok (.iload_n 2, 1) := by decide +kernel
theorem dX7_hit_39 : decode cX7_hit 39 = .ok (.invokestatic 191, 3) := by decide +kernel
theorem dX7_hit_42 : decode cX7_hit 42 = .ok (.ireturn, 1) := by decide +kernel
abbrev mdX7_hit : MD := (cX7_hit, RX7, 3, (some .int), yX7_hit.name, 1, 24, eT)
set_option maxHeartbeats 2000000 in
set_option maxRecDepth 20000 in
theorem i_X7_hit (C : KX) (l0 : Nat) (l1 : Int32) (l2 : Int32) : Imp C yX7_hit cX7_hit 3 (some .int) 1 24 rvI [.ref (kB C + l0), .int l1, .int l2] (m_X7_hit l0 l1 l2) := by
  refine Imp.of (by decide) (Nat.le_of_ble_eq_true rfl) [(0, .ref (kB C + l0)), (1, .int l1), (2, .int l2)] rfl ?_
  show Cmp C mdX7_hit (QM rvI) 0 [(0, .ref (kB C + l0)), (1, .int l1), (2, .int l2)] [] (m_X7_hit l0 l1 l2)
  unfold m_X7_hit
  refine C_aload_n (D := mdX7_hit) (pc' := 1) (x := kB C + l0) dX7_hit_0 rfl 0 rfl ?_
  refine C_iload_n (D := mdX7_hit) (pc' := 2) (x := l1) dX7_hit_1 rfl 1 rfl ?_
  refine C_callV (D := mdX7_hit) (pc' := 5) (p := l0) (st := []) [.int l1] v_X7_171 (i_X7_isWord C l0 l1) dX7_hit_2 rfl rfl rfl (Nat.le_of_ble_eq_true rfl) (by decide) (by decide) (fun c1 => ?_)
  refine C_if_eq (D := mdX7_hit) (pc' := 8) (tgt := 13) dX7_hit_5 (by decide) rfl ?_ ?_
  · refine C_iconst (D := mdX7_hit) (pc' := 14) (v := (-1)) dX7_hit_13 rfl (by decide) ?_
    exact C_iret rfl dX7_hit_14
  · refine C_iload_n (D := mdX7_hit) (pc' := 9) (x := l2) dX7_hit_8 rfl 2 rfl ?_
    refine C_iconst (D := mdX7_hit) (pc' := 10) (v := (-1)) dX7_hit_9 rfl (by decide) ?_
    refine C_icmp_ge (D := mdX7_hit) (pc' := 13) (tgt := 15) dX7_hit_10 (by decide) rfl ?_ ?_
    · refine C_iload_n (D := mdX7_hit) (pc' := 16) (x := l2) dX7_hit_15 rfl 2 rfl ?_
      refine C_iconst (D := mdX7_hit) (pc' := 17) (v := (-1)) dX7_hit_16 rfl (by decide) ?_
      refine C_icmp_ne (D := mdX7_hit) (pc' := 20) (tgt := 32) dX7_hit_17 (by decide) rfl ?_ ?_
      · refine C_aload_n (D := mdX7_hit) (pc' := 33) (x := kB C + l0) dX7_hit_32 rfl 0 rfl ?_
        refine C_getR (D := mdX7_hit) (pc' := 36) (p := l0) f_X7_50 rfl dX7_hit_33 rfl (fun hits2 => ?_)
        refine C_iload_n (D := mdX7_hit) (pc' := 37) (x := l1) dX7_hit_36 rfl 1 rfl ?_
        refine C_aJ (D := mdX7_hit) (pc' := 38) (p := hits2) dX7_hit_37 rfl (fun x3 => ?_)
        refine C_iload_n (D := mdX7_hit) (pc' := 39) (x := l2) dX7_hit_38 rfl 2 rfl ?_
        refine C_callS (D := mdX7_hit) (pc' := 42) (st := []) [.long x3, .int l2] s_X7_191 (i_X7_placeOfBit C x3 l2) dX7_hit_39 rfl rfl rfl (Nat.le_of_ble_eq_true rfl) (by decide) (by decide) (fun c4 => ?_)
        exact C_iret rfl dX7_hit_42
      · refine C_aload_n (D := mdX7_hit) (pc' := 21) (x := kB C + l0) dX7_hit_20 rfl 0 rfl ?_
        refine C_getR (D := mdX7_hit) (pc' := 24) (p := l0) f_X7_50 rfl dX7_hit_21 rfl (fun hits5 => ?_)
        refine C_iload_n (D := mdX7_hit) (pc' := 25) (x := l1) dX7_hit_24 rfl 1 rfl ?_
        refine C_aJ (D := mdX7_hit) (pc' := 26) (p := hits5) dX7_hit_25 rfl (fun x6 => ?_)
        refine C_callS (D := mdX7_hit) (pc' := 29) (st := []) [.long x6] s_X7_185 (i_J13_bitCount_95d88 C x6) dX7_hit_26 rfl rfl rfl (Nat.le_of_ble_eq_true rfl) (by decide) (by decide) (fun c7 => ?_)
        refine C_goto (D := mdX7_hit) (pc' := 42) dX7_hit_29 (by decide) ?_
        exact C_iret rfl dX7_hit_42
    · refine C_iconst (D := mdX7_hit) (pc' := 14) (v := (-1)) dX7_hit_13 rfl (by decide) ?_
      exact C_iret rfl dX7_hit_14

-- StandingQueries.isNode(I)Z
theorem dX7_isNode_0 : decode cX7_isNode 0 = .ok (.iload_n 1, 1) := by decide +kernel
theorem dX7_isNode_1 : decode cX7_isNode 1 = .ok (.ifCond .lt 18, 3) := by decide +kernel
theorem dX7_isNode_4 : decode cX7_isNode 4 = .ok (.iload_n 1, 1) := by decide +kernel
theorem dX7_isNode_5 : decode cX7_isNode 5 = .ok (.aload_n 0, 1) := by decide +kernel
theorem dX7_isNode_6 : decode cX7_isNode 6 = .ok (.getfield 46, 3) := by decide +kernel
theorem dX7_isNode_9 : decode cX7_isNode 9 = .ok (.getfield 234, 3) := by decide +kernel
theorem dX7_isNode_12 : decode cX7_isNode 12 = .ok (.if_icmp .ge 7, 3) := by decide +kernel
theorem dX7_isNode_15 : decode cX7_isNode 15 = .ok (.iconst 1, 1) := by decide +kernel
theorem dX7_isNode_16 : decode cX7_isNode 16 = .ok (.goto 4, 3) := by decide +kernel
theorem dX7_isNode_19 : decode cX7_isNode 19 = .ok (.iconst 0, 1) := by decide +kernel
theorem dX7_isNode_20 : decode cX7_isNode 20 = .ok (.ireturn, 1) := by decide +kernel
abbrev mdX7_isNode : MD := (cX7_isNode, RX7, 2, (some .boolean), yX7_isNode.name, 0, 0, eT)
set_option maxHeartbeats 2000000 in
set_option maxRecDepth 20000 in
theorem i_X7_isNode (C : KX) (l0 : Nat) (l1 : Int32) : Imp C yX7_isNode cX7_isNode 2 (some .boolean) 0 0 rvI [.ref (kB C + l0), .int l1] (m_X7_isNode l0 l1) := by
  refine Imp.of (by decide) (Nat.le_of_ble_eq_true rfl) [(0, .ref (kB C + l0)), (1, .int l1)] rfl ?_
  show Cmp C mdX7_isNode (QM rvI) 0 [(0, .ref (kB C + l0)), (1, .int l1)] [] (m_X7_isNode l0 l1)
  unfold m_X7_isNode
  refine C_iload_n (D := mdX7_isNode) (pc' := 1) (x := l1) dX7_isNode_0 rfl 1 rfl ?_
  refine C_if_lt (D := mdX7_isNode) (pc' := 4) (tgt := 19) dX7_isNode_1 (by decide) rfl ?_ ?_
  · refine C_iconst (D := mdX7_isNode) (pc' := 20) (v := 0) dX7_isNode_19 rfl (by decide) ?_
    exact C_zret rfl dX7_isNode_20
  · refine C_iload_n (D := mdX7_isNode) (pc' := 5) (x := l1) dX7_isNode_4 rfl 1 rfl ?_
    refine C_aload_n (D := mdX7_isNode) (pc' := 6) (x := kB C + l0) dX7_isNode_5 rfl 0 rfl ?_
    refine C_getR (D := mdX7_isNode) (pc' := 9) (p := l0) f_X7_46 rfl dX7_isNode_6 rfl (fun automaton1 => ?_)
    refine C_getI (D := mdX7_isNode) (pc' := 12) (p := automaton1) f_X7_234 rfl dX7_isNode_9 rfl (fun nodes2 => ?_)
    refine C_icmp_ge (D := mdX7_isNode) (pc' := 15) (tgt := 19) dX7_isNode_12 (by decide) rfl ?_ ?_
    · refine C_iconst (D := mdX7_isNode) (pc' := 20) (v := 0) dX7_isNode_19 rfl (by decide) ?_
      exact C_zret rfl dX7_isNode_20
    · refine C_iconst (D := mdX7_isNode) (pc' := 16) (v := 1) dX7_isNode_15 rfl (by decide) ?_
      refine C_goto (D := mdX7_isNode) (pc' := 20) dX7_isNode_16 (by decide) ?_
      exact C_zret rfl dX7_isNode_20

-- StandingQueries.node(II)I
theorem dX7_node_0 : decode cX7_node 0 = .ok (.aload_n 0, 1) := by decide +kernel
theorem dX7_node_1 : decode cX7_node 1 = .ok (.iload_n 1, 1) := by decide +kernel
theorem dX7_node_2 : decode cX7_node 2 = .ok (.invokevirtual 195, 3) := by decide +kernel
theorem dX7_node_5 : decode cX7_node 5 = .ok (.ifCond .ne 5, 3) := by decide +kernel
theorem dX7_node_8 : decode cX7_node 8 = .ok (.iconst (-1), 1) := by decide +kernel
theorem dX7_node_9 : decode cX7_node 9 = .ok (.ireturn, 1) := by decide +kernel
theorem dX7_node_10 : decode cX7_node 10 = .ok (.iload_n 2, 1) := by decide +kernel
theorem dX7_node_11 : decode cX7_node 11 = .ok (.tableswitch 113 0 4 #[33, 43, 65, 84, 103], 33) := by decide +kernel
theorem dX7_node_44 : decode cX7_node 44 = .ok (.aload_n 0, 1) := by decide +kernel
theorem dX7_node_45 : decode cX7_node 45 = .ok (.getfield 46, 3) := by decide +kernel
theorem dX7_node_48 : decode cX7_node 48 = .ok (.getfield 198, 3) := by decide +kernel
theorem dX7_node_51 : decode cX7_node 51 = .ok (.iload_n 1, 1) := by decide +kernel
theorem dX7_node_52 : decode cX7_node 52 = .ok (.iaload, 1) := by decide +kernel
theorem dX7_node_53 : decode cX7_node 53 = .ok (.ireturn, 1) := by decide +kernel
theorem dX7_node_54 : decode cX7_node 54 = .ok (.iload_n 1, 1) := by decide +kernel
theorem dX7_node_55 : decode cX7_node 55 = .ok (.ifCond .ne 8, 3) := by decide +kernel
theorem dX7_node_58 : decode cX7_node 58 = .ok (.bipush (-9), 2) := by decide +kernel
theorem dX7_node_60 : decode cX7_node 60 = .ok (.goto 15, 3) := by decide +kernel
theorem dX7_node_63 : decode cX7_node 63 = .ok (.aload_n 0, 1) := by decide +kernel
theorem dX7_node_64 : decode cX7_node 64 = .ok (.getfield 46, 3) := by decide +kernel
theorem dX7_node_67 : decode cX7_node 67 = .ok (.getfield 200, 3) := by decide +kernel
theorem dX7_node_70 : decode cX7_node 70 = .ok (.iload_n 1, 1) := by decide +kernel
theorem dX7_node_71 : decode cX7_node 71 = .ok (.iaload, 1) := by decide +kernel
theorem dX7_node_72 : decode cX7_node 72 = .ok (.bipush 97, 2) := by decide +kernel
theorem dX7_node_74 : decode cX7_node 74 = .ok (.iadd, 1) := by decide +kernel
theorem dX7_node_75 : decode cX7_node 75 = .ok (.ireturn, 1) := by decide +kernel
theorem dX7_node_76 : decode cX7_node 76 = .ok (.iload_n 1, 1) := by decide +kernel
theorem dX7_node_77 : decode cX7_node 77 = .ok (.ifCond .ne 8, 3) := by decide +kernel
theorem dX7_node_80 : decode cX7_node 80 = .ok (.bipush (-9), 2) := by decide +kernel
theorem dX7_node_82 : decode cX7_node 82 = .ok (.goto 12, 3) := by decide +kernel
theorem dX7_node_85 : decode cX7_node 85 = .ok (.aload_n 0, 1) := by decide +kernel
theorem dX7_node_86 : decode cX7_node 86 = .ok (.getfield 46, 3) := by decide +kernel
theorem dX7_node_89 : decode cX7_node 89 = .ok (.getfield 203, 3) := by decide +kernel
theorem dX7_node_92 : decode cX7_node 92 = .ok (.iload_n 1, 1) := by decide +kernel
theorem dX7_node_93 : decode cX7_node 93 = .ok (.iaload, 1) := by decide +kernel
theorem dX7_node_94 : decode cX7_node 94 = .ok (.ireturn, 1) := by decide +kernel
theorem dX7_node_95 : decode cX7_node 95 = .ok (.iload_n 1, 1) := by decide +kernel
theorem dX7_node_96 : decode cX7_node 96 = .ok (.ifCond .ne 8, 3) := by decide +kernel
theorem dX7_node_99 : decode cX7_node 99 = .ok (.bipush (-9), 2) := by decide +kernel
theorem dX7_node_101 : decode cX7_node 101 = .ok (.goto 12, 3) := by decide +kernel
theorem dX7_node_104 : decode cX7_node 104 = .ok (.aload_n 0, 1) := by decide +kernel
theorem dX7_node_105 : decode cX7_node 105 = .ok (.getfield 46, 3) := by decide +kernel
theorem dX7_node_108 : decode cX7_node 108 = .ok (.getfield 206, 3) := by decide +kernel
theorem dX7_node_111 : decode cX7_node 111 = .ok (.iload_n 1, 1) := by decide +kernel
theorem dX7_node_112 : decode cX7_node 112 = .ok (.iaload, 1) := by decide +kernel
theorem dX7_node_113 : decode cX7_node 113 = .ok (.ireturn, 1) := by decide +kernel
theorem dX7_node_114 : decode cX7_node 114 = .ok (.aload_n 0, 1) := by decide +kernel
theorem dX7_node_115 : decode cX7_node 115 = .ok (.getfield 46, 3) := by decide +kernel
theorem dX7_node_118 : decode cX7_node 118 = .ok (.getfield 209, 3) := by decide +kernel
theorem dX7_node_121 : decode cX7_node 121 = .ok (.iload_n 1, 1) := by decide +kernel
theorem dX7_node_122 : decode cX7_node 122 = .ok (.iaload, 1) := by decide +kernel
theorem dX7_node_123 : decode cX7_node 123 = .ok (.ireturn, 1) := by decide +kernel
theorem dX7_node_124 : decode cX7_node 124 = .ok (.iconst (-1), 1) := by decide +kernel
theorem dX7_node_125 : decode cX7_node 125 = .ok (.ireturn, 1) := by decide +kernel
abbrev mdX7_node : MD := (cX7_node, RX7, 3, (some .int), yX7_node.name, 1, 21, eT)
set_option maxHeartbeats 2000000 in
set_option maxRecDepth 20000 in
theorem i_X7_node (C : KX) (l0 : Nat) (l1 : Int32) (l2 : Int32) : Imp C yX7_node cX7_node 3 (some .int) 1 21 rvI [.ref (kB C + l0), .int l1, .int l2] (m_X7_node l0 l1 l2) := by
  refine Imp.of (by decide) (Nat.le_of_ble_eq_true rfl) [(0, .ref (kB C + l0)), (1, .int l1), (2, .int l2)] rfl ?_
  show Cmp C mdX7_node (QM rvI) 0 [(0, .ref (kB C + l0)), (1, .int l1), (2, .int l2)] [] (m_X7_node l0 l1 l2)
  unfold m_X7_node
  refine C_aload_n (D := mdX7_node) (pc' := 1) (x := kB C + l0) dX7_node_0 rfl 0 rfl ?_
  refine C_iload_n (D := mdX7_node) (pc' := 2) (x := l1) dX7_node_1 rfl 1 rfl ?_
  refine C_callV (D := mdX7_node) (pc' := 5) (p := l0) (st := []) [.int l1] v_X7_195 (i_X7_isNode C l0 l1) dX7_node_2 rfl rfl rfl (Nat.le_of_ble_eq_true rfl) (by decide) (by decide) (fun c1 => ?_)
  refine C_if_ne (D := mdX7_node) (pc' := 8) (tgt := 10) dX7_node_5 (by decide) rfl ?_ ?_
  · refine C_iload_n (D := mdX7_node) (pc' := 11) (x := l2) dX7_node_10 rfl 2 rfl ?_
    refine C_tcase (D := mdX7_node) (c := 0) 0 (by decide) (tgt := 44) dX7_node_11 (by decide) (by decide) rfl (by decide) ?_ (fun h0 => ?_)
    · refine C_aload_n (D := mdX7_node) (pc' := 45) (x := kB C + l0) dX7_node_44 rfl 0 rfl ?_
      refine C_getR (D := mdX7_node) (pc' := 48) (p := l0) f_X7_46 rfl dX7_node_45 rfl (fun automaton2 => ?_)
      refine C_getR (D := mdX7_node) (pc' := 51) (p := automaton2) f_X7_198 rfl dX7_node_48 rfl (fun size3 => ?_)
      refine C_iload_n (D := mdX7_node) (pc' := 52) (x := l1) dX7_node_51 rfl 1 rfl ?_
      refine C_aI (D := mdX7_node) (pc' := 53) (p := size3) dX7_node_52 rfl (fun x4 => ?_)
      exact C_iret rfl dX7_node_53
    refine C_tcase (D := mdX7_node) (c := 1) 1 (by decide) (tgt := 54) dX7_node_11 (by decide) (by decide) rfl (by decide) ?_ (fun h1 => ?_)
    · refine C_iload_n (D := mdX7_node) (pc' := 55) (x := l1) dX7_node_54 rfl 1 rfl ?_
      refine C_if_ne (D := mdX7_node) (pc' := 58) (tgt := 63) dX7_node_55 (by decide) rfl ?_ ?_
      · refine C_aload_n (D := mdX7_node) (pc' := 64) (x := kB C + l0) dX7_node_63 rfl 0 rfl ?_
        refine C_getR (D := mdX7_node) (pc' := 67) (p := l0) f_X7_46 rfl dX7_node_64 rfl (fun automaton5 => ?_)
        refine C_getR (D := mdX7_node) (pc' := 70) (p := automaton5) f_X7_200 rfl dX7_node_67 rfl (fun last6 => ?_)
        refine C_iload_n (D := mdX7_node) (pc' := 71) (x := l1) dX7_node_70 rfl 1 rfl ?_
        refine C_aI (D := mdX7_node) (pc' := 72) (p := last6) dX7_node_71 rfl (fun x7 => ?_)
        refine C_bipush (D := mdX7_node) (pc' := 74) (v := 97) dX7_node_72 rfl (by decide) ?_
        refine C_iadd (D := mdX7_node) (pc' := 75) dX7_node_74 rfl ?_
        exact C_iret rfl dX7_node_75
      · refine C_bipush (D := mdX7_node) (pc' := 60) (v := (-9)) dX7_node_58 rfl (by decide) ?_
        refine C_goto (D := mdX7_node) (pc' := 75) dX7_node_60 (by decide) ?_
        exact C_iret rfl dX7_node_75
    refine C_tcase (D := mdX7_node) (c := 2) 2 (by decide) (tgt := 76) dX7_node_11 (by decide) (by decide) rfl (by decide) ?_ (fun h2 => ?_)
    · refine C_iload_n (D := mdX7_node) (pc' := 77) (x := l1) dX7_node_76 rfl 1 rfl ?_
      refine C_if_ne (D := mdX7_node) (pc' := 80) (tgt := 85) dX7_node_77 (by decide) rfl ?_ ?_
      · refine C_aload_n (D := mdX7_node) (pc' := 86) (x := kB C + l0) dX7_node_85 rfl 0 rfl ?_
        refine C_getR (D := mdX7_node) (pc' := 89) (p := l0) f_X7_46 rfl dX7_node_86 rfl (fun automaton8 => ?_)
        refine C_getR (D := mdX7_node) (pc' := 92) (p := automaton8) f_X7_203 rfl dX7_node_89 rfl (fun parent9 => ?_)
        refine C_iload_n (D := mdX7_node) (pc' := 93) (x := l1) dX7_node_92 rfl 1 rfl ?_
        refine C_aI (D := mdX7_node) (pc' := 94) (p := parent9) dX7_node_93 rfl (fun x10 => ?_)
        exact C_iret rfl dX7_node_94
      · refine C_bipush (D := mdX7_node) (pc' := 82) (v := (-9)) dX7_node_80 rfl (by decide) ?_
        refine C_goto (D := mdX7_node) (pc' := 94) dX7_node_82 (by decide) ?_
        exact C_iret rfl dX7_node_94
    refine C_tcase (D := mdX7_node) (c := 3) 3 (by decide) (tgt := 95) dX7_node_11 (by decide) (by decide) rfl (by decide) ?_ (fun h3 => ?_)
    · refine C_iload_n (D := mdX7_node) (pc' := 96) (x := l1) dX7_node_95 rfl 1 rfl ?_
      refine C_if_ne (D := mdX7_node) (pc' := 99) (tgt := 104) dX7_node_96 (by decide) rfl ?_ ?_
      · refine C_aload_n (D := mdX7_node) (pc' := 105) (x := kB C + l0) dX7_node_104 rfl 0 rfl ?_
        refine C_getR (D := mdX7_node) (pc' := 108) (p := l0) f_X7_46 rfl dX7_node_105 rfl (fun automaton11 => ?_)
        refine C_getR (D := mdX7_node) (pc' := 111) (p := automaton11) f_X7_206 rfl dX7_node_108 rfl (fun fail12 => ?_)
        refine C_iload_n (D := mdX7_node) (pc' := 112) (x := l1) dX7_node_111 rfl 1 rfl ?_
        refine C_aI (D := mdX7_node) (pc' := 113) (p := fail12) dX7_node_112 rfl (fun x13 => ?_)
        exact C_iret rfl dX7_node_113
      · refine C_bipush (D := mdX7_node) (pc' := 101) (v := (-9)) dX7_node_99 rfl (by decide) ?_
        refine C_goto (D := mdX7_node) (pc' := 113) dX7_node_101 (by decide) ?_
        exact C_iret rfl dX7_node_113
    refine C_tcase (D := mdX7_node) (c := 4) 4 (by decide) (tgt := 114) dX7_node_11 (by decide) (by decide) rfl (by decide) ?_ (fun h4 => ?_)
    · refine C_aload_n (D := mdX7_node) (pc' := 115) (x := kB C + l0) dX7_node_114 rfl 0 rfl ?_
      refine C_getR (D := mdX7_node) (pc' := 118) (p := l0) f_X7_46 rfl dX7_node_115 rfl (fun automaton14 => ?_)
      refine C_getR (D := mdX7_node) (pc' := 121) (p := automaton14) f_X7_209 rfl dX7_node_118 rfl (fun ends15 => ?_)
      refine C_iload_n (D := mdX7_node) (pc' := 122) (x := l1) dX7_node_121 rfl 1 rfl ?_
      refine C_aI (D := mdX7_node) (pc' := 123) (p := ends15) dX7_node_122 rfl (fun x16 => ?_)
      exact C_iret rfl dX7_node_123
    refine C_tdef (D := mdX7_node) (tgt := 124) dX7_node_11 (by omega) (by decide) ?_
    refine C_iconst (D := mdX7_node) (pc' := 125) (v := (-1)) dX7_node_124 rfl (by decide) ?_
    exact C_iret rfl dX7_node_125
  · refine C_iconst (D := mdX7_node) (pc' := 9) (v := (-1)) dX7_node_8 rfl (by decide) ?_
    exact C_iret rfl dX7_node_9

-- StandingQueries.next(II)I
theorem dX7_next_0 : decode cX7_next 0 = .ok (.aload_n 0, 1) := by decide +kernel
theorem dX7_next_1 : decode cX7_next 1 = .ok (.iload_n 1, 1) := by decide +kernel
theorem dX7_next_2 : decode cX7_next 2 = .ok (.invokevirtual 195, 3) := by decide +kernel
theorem dX7_next_5 : decode cX7_next 5 = .ok (.ifCond .eq 10, 3) := by decide +kernel
theorem dX7_next_8 : decode cX7_next 8 = .ok (.iload_n 2, 1) := by decide +kernel
theorem dX7_next_9 : decode cX7_next 9 = .ok (.invokestatic 88, 3) := by decide +kernel
theorem dX7_next_12 : decode cX7_next 12 = .ok (.ifCond .ne 5, 3) := by decide +kernel
theorem dX7_next_15 : decode cX7_next 15 = .ok (.iconst (-1), 1) := by decide +kernel
theorem dX7_next_16 : decode cX7_next 16 = .ok (.ireturn, 1) := by decide +kernel
theorem dX7_next_17 : decode cX7_next 17 = .ok (.aload_n 0, 1) := by decide +kernel
theorem dX7_next_18 : decode cX7_next 18 = .ok (.getfield 46, 3) := by decide +kernel
theorem dX7_next_21 : decode cX7_next 21 = .ok (.getfield 212, 3) := by decide +kernel
theorem dX7_next_24 : decode cX7_next 24 = .ok (.iload_n 1, 1) := by decide +kernel
theorem dX7_next_25 : decode cX7_next 25 = .ok (.bipush 8, 2) := by decide +kernel
theorem dX7_next_27 : decode cX7_next 27 = .ok (.imul, 1) := by decide +kernel
theorem dX7_next_28 : decode cX7_next 28 = .ok (.iload_n 2, 1) := by decide +kernel
theorem dX7_next_29 : decode cX7_next 29 = .ok (.iadd, 1) := by decide +kernel
theorem dX7_next_30 : decode cX7_next 30 = .ok (.bipush 97, 2) := by decide +kernel
theorem dX7_next_32 : decode cX7_next 32 = .ok (.isub, 1) := by decide +kernel
theorem dX7_next_33 : decode cX7_next 33 = .ok (.iaload, 1) := by decide +kernel
theorem dX7_next_34 : decode cX7_next 34 = .ok (.ireturn, 1) := by decide +kernel
abbrev mdX7_next : MD := (cX7_next, RX7, 3, (some .int), yX7_next.name, 1, 21, eT)
set_option maxHeartbeats 2000000 in
set_option maxRecDepth 20000 in
theorem i_X7_next (C : KX) (l0 : Nat) (l1 : Int32) (l2 : Int32) : Imp C yX7_next cX7_next 3 (some .int) 1 21 rvI [.ref (kB C + l0), .int l1, .int l2] (m_X7_next l0 l1 l2) := by
  refine Imp.of (by decide) (Nat.le_of_ble_eq_true rfl) [(0, .ref (kB C + l0)), (1, .int l1), (2, .int l2)] rfl ?_
  show Cmp C mdX7_next (QM rvI) 0 [(0, .ref (kB C + l0)), (1, .int l1), (2, .int l2)] [] (m_X7_next l0 l1 l2)
  unfold m_X7_next
  refine C_aload_n (D := mdX7_next) (pc' := 1) (x := kB C + l0) dX7_next_0 rfl 0 rfl ?_
  refine C_iload_n (D := mdX7_next) (pc' := 2) (x := l1) dX7_next_1 rfl 1 rfl ?_
  refine C_callV (D := mdX7_next) (pc' := 5) (p := l0) (st := []) [.int l1] v_X7_195 (i_X7_isNode C l0 l1) dX7_next_2 rfl rfl rfl (Nat.le_of_ble_eq_true rfl) (by decide) (by decide) (fun c1 => ?_)
  refine C_if_eq (D := mdX7_next) (pc' := 8) (tgt := 15) dX7_next_5 (by decide) rfl ?_ ?_
  · refine C_iconst (D := mdX7_next) (pc' := 16) (v := (-1)) dX7_next_15 rfl (by decide) ?_
    exact C_iret rfl dX7_next_16
  · refine C_iload_n (D := mdX7_next) (pc' := 9) (x := l2) dX7_next_8 rfl 2 rfl ?_
    refine C_callS (D := mdX7_next) (pc' := 12) (st := []) [.int l2] s_X7_88 (i_X7_isLetter C l2) dX7_next_9 rfl rfl rfl (Nat.le_of_ble_eq_true rfl) (by decide) (by decide) (fun c2 => ?_)
    refine C_if_ne (D := mdX7_next) (pc' := 15) (tgt := 17) dX7_next_12 (by decide) rfl ?_ ?_
    · refine C_aload_n (D := mdX7_next) (pc' := 18) (x := kB C + l0) dX7_next_17 rfl 0 rfl ?_
      refine C_getR (D := mdX7_next) (pc' := 21) (p := l0) f_X7_46 rfl dX7_next_18 rfl (fun automaton3 => ?_)
      refine C_getR (D := mdX7_next) (pc' := 24) (p := automaton3) f_X7_212 rfl dX7_next_21 rfl (fun follow4 => ?_)
      refine C_iload_n (D := mdX7_next) (pc' := 25) (x := l1) dX7_next_24 rfl 1 rfl ?_
      refine C_bipush (D := mdX7_next) (pc' := 27) (v := 8) dX7_next_25 rfl (by decide) ?_
      refine C_imul (D := mdX7_next) (pc' := 28) dX7_next_27 rfl ?_
      refine C_iload_n (D := mdX7_next) (pc' := 29) (x := l2) dX7_next_28 rfl 2 rfl ?_
      refine C_iadd (D := mdX7_next) (pc' := 30) dX7_next_29 rfl ?_
      refine C_bipush (D := mdX7_next) (pc' := 32) (v := 97) dX7_next_30 rfl (by decide) ?_
      refine C_isub (D := mdX7_next) (pc' := 33) dX7_next_32 rfl ?_
      refine C_aI (D := mdX7_next) (pc' := 34) (p := follow4) dX7_next_33 rfl (fun x5 => ?_)
      exact C_iret rfl dX7_next_34
    · refine C_iconst (D := mdX7_next) (pc' := 16) (v := (-1)) dX7_next_15 rfl (by decide) ?_
      exact C_iret rfl dX7_next_16

-- StandingQueries.letter(I)I
theorem dX7_letter_0 : decode cX7_letter 0 = .ok (.iload_n 1, 1) := by decide +kernel
theorem dX7_letter_1 : decode cX7_letter 1 = .ok (.ifCond .lt 14, 3) := by decide +kernel
theorem dX7_letter_4 : decode cX7_letter 4 = .ok (.iload_n 1, 1) := by decide +kernel
theorem dX7_letter_5 : decode cX7_letter 5 = .ok (.aload_n 0, 1) := by decide +kernel
theorem dX7_letter_6 : decode cX7_letter 6 = .ok (.getfield 19, 3) := by decide +kernel
theorem dX7_letter_9 : decode cX7_letter 9 = .ok (.getfield 91, 3) := by decide +kernel
theorem dX7_letter_12 : decode cX7_letter 12 = .ok (.if_icmp .lt 5, 3) := by decide +kernel
theorem dX7_letter_15 : decode cX7_letter 15 = .ok (.iconst (-1), 1) := by decide +kernel
theorem dX7_letter_16 : decode cX7_letter 16 = .ok (.ireturn, 1) := by decide +kernel
theorem dX7_letter_17 : decode cX7_letter 17 = .ok (.aload_n 0, 1) := by decide +kernel
theorem dX7_letter_18 : decode cX7_letter 18 = .ok (.getfield 19, 3) := by decide +kernel
theorem dX7_letter_21 : decode cX7_letter 21 = .ok (.getfield 94, 3) := by decide +kernel
theorem dX7_letter_24 : decode cX7_letter 24 = .ok (.iload_n 1, 1) := by decide +kernel
theorem dX7_letter_25 : decode cX7_letter 25 = .ok (.iaload, 1) := by decide +kernel
theorem dX7_letter_26 : decode cX7_letter 26 = .ok (.bipush 97, 2) := by decide +kernel
theorem dX7_letter_28 : decode cX7_letter 28 = .ok (.iadd, 1) := by decide +kernel
theorem dX7_letter_29 : decode cX7_letter 29 = .ok (.ireturn, 1) := by decide +kernel
abbrev mdX7_letter : MD := (cX7_letter, RX7, 2, (some .int), yX7_letter.name, 0, 0, eT)
set_option maxHeartbeats 2000000 in
set_option maxRecDepth 20000 in
theorem i_X7_letter (C : KX) (l0 : Nat) (l1 : Int32) : Imp C yX7_letter cX7_letter 2 (some .int) 0 0 rvI [.ref (kB C + l0), .int l1] (m_X7_letter l0 l1) := by
  refine Imp.of (by decide) (Nat.le_of_ble_eq_true rfl) [(0, .ref (kB C + l0)), (1, .int l1)] rfl ?_
  show Cmp C mdX7_letter (QM rvI) 0 [(0, .ref (kB C + l0)), (1, .int l1)] [] (m_X7_letter l0 l1)
  unfold m_X7_letter
  refine C_iload_n (D := mdX7_letter) (pc' := 1) (x := l1) dX7_letter_0 rfl 1 rfl ?_
  refine C_if_lt (D := mdX7_letter) (pc' := 4) (tgt := 15) dX7_letter_1 (by decide) rfl ?_ ?_
  · refine C_iconst (D := mdX7_letter) (pc' := 16) (v := (-1)) dX7_letter_15 rfl (by decide) ?_
    exact C_iret rfl dX7_letter_16
  · refine C_iload_n (D := mdX7_letter) (pc' := 5) (x := l1) dX7_letter_4 rfl 1 rfl ?_
    refine C_aload_n (D := mdX7_letter) (pc' := 6) (x := kB C + l0) dX7_letter_5 rfl 0 rfl ?_
    refine C_getR (D := mdX7_letter) (pc' := 9) (p := l0) f_X7_19 rfl dX7_letter_6 rfl (fun held1 => ?_)
    refine C_getI (D := mdX7_letter) (pc' := 12) (p := held1) f_X7_91 rfl dX7_letter_9 rfl (fun letters2 => ?_)
    refine C_icmp_lt (D := mdX7_letter) (pc' := 15) (tgt := 17) dX7_letter_12 (by decide) rfl ?_ ?_
    · refine C_aload_n (D := mdX7_letter) (pc' := 18) (x := kB C + l0) dX7_letter_17 rfl 0 rfl ?_
      refine C_getR (D := mdX7_letter) (pc' := 21) (p := l0) f_X7_19 rfl dX7_letter_18 rfl (fun held3 => ?_)
      refine C_getR (D := mdX7_letter) (pc' := 24) (p := held3) f_X7_94 rfl dX7_letter_21 rfl (fun row4 => ?_)
      refine C_iload_n (D := mdX7_letter) (pc' := 25) (x := l1) dX7_letter_24 rfl 1 rfl ?_
      refine C_aI (D := mdX7_letter) (pc' := 26) (p := row4) dX7_letter_25 rfl (fun x5 => ?_)
      refine C_bipush (D := mdX7_letter) (pc' := 28) (v := 97) dX7_letter_26 rfl (by decide) ?_
      refine C_iadd (D := mdX7_letter) (pc' := 29) dX7_letter_28 rfl ?_
      exact C_iret rfl dX7_letter_29
    · refine C_iconst (D := mdX7_letter) (pc' := 16) (v := (-1)) dX7_letter_15 rfl (by decide) ?_
      exact C_iret rfl dX7_letter_16
