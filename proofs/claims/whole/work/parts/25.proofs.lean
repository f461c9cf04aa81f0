-- StandingQueriesModel.addNode(I)V
theorem dX8_addNode_0 : decode cX8_addNode 0 = .ok (.iconst 0, 1) := by decide +kernel
theorem dX8_addNode_1 : decode cX8_addNode 1 = .ok (.istore_n 2, 1) := by decide +kernel
theorem dX8_addNode_2 : decode cX8_addNode 2 = .ok (.iload_n 2, 1) := by decide +kernel
theorem dX8_addNode_3 : decode cX8_addNode 3 = .ok (.aload_n 0, 1) := by decide +kernel
theorem dX8_addNode_4 : decode cX8_addNode 4 = .ok (.getfield 73, 3) := by decide +kernel
theorem dX8_addNode_7 : decode cX8_addNode 7 = .ok (.if_icmp .ge 19, 3) := by decide +kernel
theorem dX8_addNode_10 : decode cX8_addNode 10 = .ok (.aload_n 0, 1) := by decide +kernel
theorem dX8_addNode_11 : decode cX8_addNode 11 = .ok (.getfield 76, 3) := by decide +kernel
theorem dX8_addNode_14 : decode cX8_addNode 14 = .ok (.iload_n 2, 1) := by decide +kernel
theorem dX8_addNode_15 : decode cX8_addNode 15 = .ok (.iaload, 1) := by decide +kernel
theorem dX8_addNode_16 : decode cX8_addNode 16 = .ok (.iload_n 1, 1) := by decide +kernel
theorem dX8_addNode_17 : decode cX8_addNode 17 = .ok (.if_icmp .ge 9, 3) := by decide +kernel
theorem dX8_addNode_20 : decode cX8_addNode 20 = .ok (.iinc 2 1, 3) := by decide +kernel
theorem dX8_addNode_23 : decode cX8_addNode 23 = .ok (.goto (-21), 3) := by decide +kernel
theorem dX8_addNode_26 : decode cX8_addNode 26 = .ok (.iload_n 2, 1) := by decide +kernel
theorem dX8_addNode_27 : decode cX8_addNode 27 = .ok (.aload_n 0, 1) := by decide +kernel
theorem dX8_addNode_28 : decode cX8_addNode 28 = .ok (.getfield 73, 3) := by decide +kernel
theorem dX8_addNode_31 : decode cX8_addNode 31 = .ok (.if_icmp .ge 14, 3) := by decide +kernel
theorem dX8_addNode_34 : decode cX8_addNode 34 = .ok (.aload_n 0, 1) := by decide +kernel
theorem dX8_addNode_35 : decode cX8_addNode 35 = .ok (.getfield 76, 3) := by decide +kernel
theorem dX8_addNode_38 : decode cX8_addNode 38 = .ok (.iload_n 2, 1) := by decide +kernel
theorem dX8_addNode_39 : decode cX8_addNode 39 = .ok (.iaload, 1) := by decide +kernel
theorem dX8_addNode_40 : decode cX8_addNode 40 = .ok (.iload_n 1, 1) := by decide +kernel
theorem dX8_addNode_41 : decode cX8_addNode 41 = .ok (.if_icmp .ne 4, 3) := by decide +kernel
theorem dX8_addNode_44 : decode cX8_addNode 44 = .ok (.return_, 1) := by decide +kernel
theorem dX8_addNode_45 : decode cX8_addNode 45 = .ok (.aload_n 0, 1) := by decide +kernel
theorem dX8_addNode_46 : decode cX8_addNode 46 = .ok (.getfield 73, 3) := by decide +kernel
theorem dX8_addNode_49 : decode cX8_addNode 49 = .ok (.istore_n 3, 1) := by decide +kernel
theorem dX8_addNode_50 : decode cX8_addNode 50 = .ok (.iload_n 3, 1) := by decide +kernel
theorem dX8_addNode_51 : decode cX8_addNode 51 = .ok (.iload_n 2, 1) := by decide +kernel
theorem dX8_addNode_52 : decode cX8_addNode 52 = .ok (.if_icmp .le 23, 3) := by decide +kernel
theorem dX8_addNode_55 : decode cX8_addNode 55 = .ok (.aload_n 0, 1) := by decide +kernel
theorem dX8_addNode_56 : decode cX8_addNode 56 = .ok (.getfield 76, 3) := by decide +kernel
theorem dX8_addNode_59 : decode cX8_addNode 59 = .ok (.iload_n 3, 1) := by decide +kernel
theorem dX8_addNode_60 : decode cX8_addNode 60 = .ok (.aload_n 0, 1) := by decide +kernel
theorem dX8_addNode_61 : decode cX8_addNode 61 = .ok (.getfield 76, 3) := by decide +kernel
theorem dX8_addNode_64 : decode cX8_addNode 64 = .ok (.iload_n 3, 1) := by decide +kernel
theorem dX8_addNode_65 : decode cX8_addNode 65 = .ok (.iconst 1, 1) := by decide +kernel
theorem dX8_addNode_66 : decode cX8_addNode 66 = .ok (.isub, 1) := by decide +kernel
theorem dX8_addNode_67 : decode cX8_addNode 67 = .ok (.iaload, 1) := by decide +kernel
theorem dX8_addNode_68 : decode cX8_addNode 68 = .ok (.iastore, 1) := by decide +kernel
theorem dX8_addNode_69 : decode cX8_addNode 69 = .ok (.iinc 3 (-1), 3) := by decide +kernel
theorem dX8_addNode_72 : decode cX8_addNode 72 = .ok (.goto (-22), 3) := by decide +kernel
theorem dX8_addNode_75 : decode cX8_addNode 75 = .ok (.aload_n 0, 1) := by decide +kernel
theorem dX8_addNode_76 : decode cX8_addNode 76 = .ok (.getfield 76, 3) := by decide +kernel
theorem dX8_addNode_79 : decode cX8_addNode 79 = .ok (.iload_n 2, 1) := by decide +kernel
theorem dX8_addNode_80 : decode cX8_addNode 80 = .ok (.iload_n 1, 1) := by decide +kernel
theorem dX8_addNode_81 : decode cX8_addNode 81 = .ok (.iastore, 1) := by decide +kernel
theorem dX8_addNode_82 : decode cX8_addNode 82 = .ok (.aload_n 0, 1) := by decide +kernel
theorem dX8_addNode_83 : decode cX8_addNode 83 = .ok (.dup, 1) := by decide +kernel
theorem dX8_addNode_84 : decode cX8_addNode 84 = .ok (.getfield 73, 3) := by decide +kernel
theorem dX8_addNode_87 : decode cX8_addNode 87 = .ok (.iconst 1, 1) := by decide +kernel
theorem dX8_addNode_88 : decode cX8_addNode 88 = .ok (.iadd, 1) := by decide +kernel
theorem dX8_addNode_89 : decode cX8_addNode 89 = .ok (.putfield 73, 3) := by decide +kernel
theorem dX8_addNode_92 : decode cX8_addNode 92 = .ok (.return_, 1) := by decide +kernel
abbrev mdX8_addNode : MD := (cX8_addNode, RX8, 4, none, yX8_addNode.name, 0, 0, eT)
set_option maxHeartbeats 2000000 in
set_option maxRecDepth 20000 in
theorem p_X8_addNode_B50 (C : KX) (l0 : Nat) (l1 : Int32) (l2 : Int32)  (k50 : Int32 → Mo Unit) (hk50 : ∀ s, Cmp C mdX8_addNode (QM rvV) 50 [(0, .ref (kB C + l0)), (1, .int l1), (2, .int l2), (3, .int s)] [] (k50 s)) (l3 : Int32) : Cmp C mdX8_addNode (QM rvV) 50 [(0, .ref (kB C + l0)), (1, .int l1), (2, .int l2), (3, .int l3)] [] (m_X8_addNode_B50 l0 l1 l2 k50 l3) := by
  unfold m_X8_addNode_B50
  refine C_iload_n (D := mdX8_addNode) (pc' := 51) (x := l3) dX8_addNode_50 rfl 3 rfl ?_
  refine C_iload_n (D := mdX8_addNode) (pc' := 52) (x := l2) dX8_addNode_51 rfl 2 rfl ?_
  refine C_icmp_le (D := mdX8_addNode) (pc' := 55) (tgt := 75) dX8_addNode_52 (by decide) rfl ?_ ?_
  · refine C_aload_n (D := mdX8_addNode) (pc' := 76) (x := kB C + l0) dX8_addNode_75 rfl 0 rfl ?_
    refine C_getR (D := mdX8_addNode) (pc' := 79) (p := l0) f_X8_76 rfl dX8_addNode_76 rfl (fun nodes4 => ?_)
    refine C_iload_n (D := mdX8_addNode) (pc' := 80) (x := l2) dX8_addNode_79 rfl 2 rfl ?_
    refine C_iload_n (D := mdX8_addNode) (pc' := 81) (x := l1) dX8_addNode_80 rfl 1 rfl ?_
    refine C_tI (D := mdX8_addNode) (pc' := 82) (p := nodes4) dX8_addNode_81 rfl ?_
    refine C_aload_n (D := mdX8_addNode) (pc' := 83) (x := kB C + l0) dX8_addNode_82 rfl 0 rfl ?_
    refine C_dup (D := mdX8_addNode) (pc' := 84) dX8_addNode_83 rfl rfl ?_
    refine C_getI (D := mdX8_addNode) (pc' := 87) (p := l0) f_X8_73 rfl dX8_addNode_84 rfl (fun nodeMany5 => ?_)
    refine C_iconst (D := mdX8_addNode) (pc' := 88) (v := 1) dX8_addNode_87 rfl (by decide) ?_
    refine C_iadd (D := mdX8_addNode) (pc' := 89) dX8_addNode_88 rfl ?_
    refine C_putI (D := mdX8_addNode) (pc' := 92) (p := l0) f_X8_73 rfl dX8_addNode_89 rfl ?_
    exact C_vret rfl dX8_addNode_92
  · refine C_aload_n (D := mdX8_addNode) (pc' := 56) (x := kB C + l0) dX8_addNode_55 rfl 0 rfl ?_
    refine C_getR (D := mdX8_addNode) (pc' := 59) (p := l0) f_X8_76 rfl dX8_addNode_56 rfl (fun nodes6 => ?_)
    refine C_iload_n (D := mdX8_addNode) (pc' := 60) (x := l3) dX8_addNode_59 rfl 3 rfl ?_
    refine C_aload_n (D := mdX8_addNode) (pc' := 61) (x := kB C + l0) dX8_addNode_60 rfl 0 rfl ?_
    refine C_getR (D := mdX8_addNode) (pc' := 64) (p := l0) f_X8_76 rfl dX8_addNode_61 rfl (fun nodes7 => ?_)
    refine C_iload_n (D := mdX8_addNode) (pc' := 65) (x := l3) dX8_addNode_64 rfl 3 rfl ?_
    refine C_iconst (D := mdX8_addNode) (pc' := 66) (v := 1) dX8_addNode_65 rfl (by decide) ?_
    refine C_isub (D := mdX8_addNode) (pc' := 67) dX8_addNode_66 rfl ?_
    refine C_aI (D := mdX8_addNode) (pc' := 68) (p := nodes7) dX8_addNode_67 rfl (fun x8 => ?_)
    refine C_tI (D := mdX8_addNode) (pc' := 69) (p := nodes6) dX8_addNode_68 rfl ?_
    refine C_iinc (D := mdX8_addNode) (pc' := 72) (j := 3) (v := (l3 + (-1))) (ls' := [(3, .int (l3 + (-1))), (0, .ref (kB C + l0)), (1, .int l1), (2, .int l2)]) dX8_addNode_69 rfl rfl rfl (by decide) rfl ?_
    refine C_goto (D := mdX8_addNode) (pc' := 50) dX8_addNode_72 (by decide) ?_
    exact C_sub [1, 2, 3, 0] rfl (hk50 ((l3 + (-1))))
set_option maxHeartbeats 2000000 in
set_option maxRecDepth 20000 in
theorem p_X8_addNode_J45 (C : KX) (l0 : Nat) (l1 : Int32) (l2 : Int32)  : Cmp C mdX8_addNode (QM rvV) 45 [(0, .ref (kB C + l0)), (1, .int l1), (2, .int l2)] [] (m_X8_addNode_J45 l0 l1 l2) := by
  unfold m_X8_addNode_J45
  refine C_aload_n (D := mdX8_addNode) (pc' := 46) (x := kB C + l0) dX8_addNode_45 rfl 0 rfl ?_
  refine C_getI (D := mdX8_addNode) (pc' := 49) (p := l0) f_X8_73 rfl dX8_addNode_46 rfl (fun nodeMany3 => ?_)
  refine C_istore_n (D := mdX8_addNode) (pc' := 50) (ls' := [(3, .int nodeMany3), (0, .ref (kB C + l0)), (1, .int l1), (2, .int l2)]) dX8_addNode_49 rfl rfl (by decide) rfl ?_
  exact C_sub [1, 2, 3, 0] rfl (C_loop (fun s => [(0, .ref (kB C + l0)), (1, .int l1), (2, .int l2), (3, .int s)]) (fun k hk s => p_X8_addNode_B50 C l0 l1 l2  k hk s) FU nodeMany3)
set_option maxHeartbeats 2000000 in
set_option maxRecDepth 20000 in
theorem p_X8_addNode_J26 (C : KX) (l0 : Nat) (l1 : Int32) (l2 : Int32)  : Cmp C mdX8_addNode (QM rvV) 26 [(0, .ref (kB C + l0)), (1, .int l1), (2, .int l2)] [] (m_X8_addNode_J26 l0 l1 l2) := by
  unfold m_X8_addNode_J26
  refine C_iload_n (D := mdX8_addNode) (pc' := 27) (x := l2) dX8_addNode_26 rfl 2 rfl ?_
  refine C_aload_n (D := mdX8_addNode) (pc' := 28) (x := kB C + l0) dX8_addNode_27 rfl 0 rfl ?_
  refine C_getI (D := mdX8_addNode) (pc' := 31) (p := l0) f_X8_73 rfl dX8_addNode_28 rfl (fun nodeMany2 => ?_)
  refine C_icmp_ge (D := mdX8_addNode) (pc' := 34) (tgt := 45) dX8_addNode_31 (by decide) rfl ?_ ?_
  · exact C_sub [0, 1, 2] rfl (p_X8_addNode_J45 C l0 l1 l2)
  · refine C_aload_n (D := mdX8_addNode) (pc' := 35) (x := kB C + l0) dX8_addNode_34 rfl 0 rfl ?_
    refine C_getR (D := mdX8_addNode) (pc' := 38) (p := l0) f_X8_76 rfl dX8_addNode_35 rfl (fun nodes9 => ?_)
    refine C_iload_n (D := mdX8_addNode) (pc' := 39) (x := l2) dX8_addNode_38 rfl 2 rfl ?_
    refine C_aI (D := mdX8_addNode) (pc' := 40) (p := nodes9) dX8_addNode_39 rfl (fun x10 => ?_)
    refine C_iload_n (D := mdX8_addNode) (pc' := 41) (x := l1) dX8_addNode_40 rfl 1 rfl ?_
    refine C_icmp_ne (D := mdX8_addNode) (pc' := 44) (tgt := 45) dX8_addNode_41 (by decide) rfl ?_ ?_
    · exact C_sub [0, 1, 2] rfl (p_X8_addNode_J45 C l0 l1 l2)
    · exact C_vret rfl dX8_addNode_44
set_option maxHeartbeats 2000000 in
set_option maxRecDepth 20000 in
theorem p_X8_addNode_B2 (C : KX) (l0 : Nat) (l1 : Int32)  (k2 : Int32 → Mo Unit) (hk2 : ∀ s, Cmp C mdX8_addNode (QM rvV) 2 [(0, .ref (kB C + l0)), (1, .int l1), (2, .int s)] [] (k2 s)) (l2 : Int32) : Cmp C mdX8_addNode (QM rvV) 2 [(0, .ref (kB C + l0)), (1, .int l1), (2, .int l2)] [] (m_X8_addNode_B2 l0 l1 k2 l2) := by
  unfold m_X8_addNode_B2
  refine C_iload_n (D := mdX8_addNode) (pc' := 3) (x := l2) dX8_addNode_2 rfl 2 rfl ?_
  refine C_aload_n (D := mdX8_addNode) (pc' := 4) (x := kB C + l0) dX8_addNode_3 rfl 0 rfl ?_
  refine C_getI (D := mdX8_addNode) (pc' := 7) (p := l0) f_X8_73 rfl dX8_addNode_4 rfl (fun nodeMany1 => ?_)
  refine C_icmp_ge (D := mdX8_addNode) (pc' := 10) (tgt := 26) dX8_addNode_7 (by decide) rfl ?_ ?_
  · exact C_sub [0, 1, 2] rfl (p_X8_addNode_J26 C l0 l1 l2)
  · refine C_aload_n (D := mdX8_addNode) (pc' := 11) (x := kB C + l0) dX8_addNode_10 rfl 0 rfl ?_
    refine C_getR (D := mdX8_addNode) (pc' := 14) (p := l0) f_X8_76 rfl dX8_addNode_11 rfl (fun nodes11 => ?_)
    refine C_iload_n (D := mdX8_addNode) (pc' := 15) (x := l2) dX8_addNode_14 rfl 2 rfl ?_
    refine C_aI (D := mdX8_addNode) (pc' := 16) (p := nodes11) dX8_addNode_15 rfl (fun x12 => ?_)
    refine C_iload_n (D := mdX8_addNode) (pc' := 17) (x := l1) dX8_addNode_16 rfl 1 rfl ?_
    refine C_icmp_ge (D := mdX8_addNode) (pc' := 20) (tgt := 26) dX8_addNode_17 (by decide) rfl ?_ ?_
    · exact C_sub [0, 1, 2] rfl (p_X8_addNode_J26 C l0 l1 l2)
    · refine C_iinc (D := mdX8_addNode) (pc' := 23) (j := 2) (v := (l2 + 1)) (ls' := [(2, .int (l2 + 1)), (0, .ref (kB C + l0)), (1, .int l1)]) dX8_addNode_20 rfl rfl rfl (by decide) rfl ?_
      refine C_goto (D := mdX8_addNode) (pc' := 2) dX8_addNode_23 (by decide) ?_
      exact C_sub [1, 2, 0] rfl (hk2 ((l2 + 1)))
set_option maxHeartbeats 2000000 in
set_option maxRecDepth 20000 in
theorem i_X8_addNode (C : KX) (l0 : Nat) (l1 : Int32) : Imp C yX8_addNode cX8_addNode 4 none 0 0 rvV [.ref (kB C + l0), .int l1] (m_X8_addNode l0 l1) := by
  refine Imp.of (by decide) (Nat.le_of_ble_eq_true rfl) [(0, .ref (kB C + l0)), (1, .int l1)] rfl ?_
  show Cmp C mdX8_addNode (QM rvV) 0 [(0, .ref (kB C + l0)), (1, .int l1)] [] (m_X8_addNode l0 l1)
  unfold m_X8_addNode
  refine C_iconst (D := mdX8_addNode) (pc' := 1) (v := 0) dX8_addNode_0 rfl (by decide) ?_
  refine C_istore_n (D := mdX8_addNode) (pc' := 2) (ls' := [(2, .int 0), (0, .ref (kB C + l0)), (1, .int l1)]) dX8_addNode_1 rfl rfl (by decide) rfl ?_
  exact C_sub [1, 2, 0] rfl (C_loop (fun s => [(0, .ref (kB C + l0)), (1, .int l1), (2, .int s)]) (fun k hk s => p_X8_addNode_B2 C l0 l1  k hk s) FU 0)

-- StandingQueriesModel.longest(II)I
theorem dX8_longest_0 : decode cX8_longest 0 = .ok (.iload_n 2, 1) := by decide +kernel
theorem dX8_longest_1 : decode cX8_longest 1 = .ok (.istore_n 3, 1) := by decide +kernel
theorem dX8_longest_2 : decode cX8_longest 2 = .ok (.iload_n 3, 1) := by decide +kernel
theorem dX8_longest_3 : decode cX8_longest 3 = .ok (.ifCond .le 30, 3) := by decide +kernel
theorem dX8_longest_6 : decode cX8_longest 6 = .ok (.aload_n 0, 1) := by decide +kernel
theorem dX8_longest_7 : decode cX8_longest 7 = .ok (.iload_n 1, 1) := by decide +kernel
theorem dX8_longest_8 : decode cX8_longest 8 = .ok (.iload_n 3, 1) := by decide +kernel
theorem dX8_longest_9 : decode cX8_longest 9 = .ok (.invokestatic 81, 3) := by decide +kernel
theorem dX8_longest_12 : decode cX8_longest 12 = .ok (.invokevirtual 84, 3) := by decide +kernel
theorem dX8_longest_15 : decode cX8_longest 15 = .ok (.istore 4, 2) := by decide +kernel
theorem dX8_longest_17 : decode cX8_longest 17 = .ok (.iload 4, 2) := by decide +kernel
theorem dX8_longest_19 : decode cX8_longest 19 = .ok (.bipush (-9), 2) := by decide +kernel
theorem dX8_longest_21 : decode cX8_longest 21 = .ok (.if_icmp .eq 6, 3) := by decide +kernel
theorem dX8_longest_24 : decode cX8_longest 24 = .ok (.iload 4, 2) := by decide +kernel
theorem dX8_longest_26 : decode cX8_longest 26 = .ok (.ireturn, 1) := by decide +kernel
theorem dX8_longest_27 : decode cX8_longest 27 = .ok (.iinc 3 (-1), 3) := by decide +kernel
theorem dX8_longest_30 : decode cX8_longest 30 = .ok (.goto (-28), 3) := by decide +kernel
theorem dX8_longest_33 : decode cX8_longest 33 = .ok (.iconst 0, 1) := by decide +kernel
theorem dX8_longest_34 : decode cX8_longest 34 = .ok (.ireturn, 1) := by decide +kernel
abbrev mdX8_longest : MD := (cX8_longest, RX8, 5, (some .int), yX8_longest.name, 1, 22, eT)
set_option maxHeartbeats 2000000 in
set_option maxRecDepth 20000 in
theorem p_X8_longest_B2 (C : KX) (l0 : Nat) (l1 : Int32)  (k2 : Int32 → Mo Int32) (hk2 : ∀ s, Cmp C mdX8_longest (QM rvI) 2 [(0, .ref (kB C + l0)), (1, .int l1), (3, .int s)] [] (k2 s)) (l3 : Int32) : Cmp C mdX8_longest (QM rvI) 2 [(0, .ref (kB C + l0)), (1, .int l1), (3, .int l3)] [] (m_X8_longest_B2 l0 l1 k2 l3) := by
  unfold m_X8_longest_B2
  refine C_iload_n (D := mdX8_longest) (pc' := 3) (x := l3) dX8_longest_2 rfl 2 rfl ?_
  refine C_if_le (D := mdX8_longest) (pc' := 6) (tgt := 33) dX8_longest_3 (by decide) rfl ?_ ?_
  · refine C_iconst (D := mdX8_longest) (pc' := 34) (v := 0) dX8_longest_33 rfl (by decide) ?_
    exact C_iret rfl dX8_longest_34
  · refine C_aload_n (D := mdX8_longest) (pc' := 7) (x := kB C + l0) dX8_longest_6 rfl 0 rfl ?_
    refine C_iload_n (D := mdX8_longest) (pc' := 8) (x := l1) dX8_longest_7 rfl 1 rfl ?_
    refine C_iload_n (D := mdX8_longest) (pc' := 9) (x := l3) dX8_longest_8 rfl 2 rfl ?_
    refine C_callS (D := mdX8_longest) (pc' := 12) (st := [.ref (kB C + l0)]) [.int l1, .int l3] s_X8_81 (i_X8_lasts C l1 l3) dX8_longest_9 rfl rfl rfl (Nat.le_of_ble_eq_true rfl) (by decide) (by decide) (fun c1 => ?_)
    refine C_callV (D := mdX8_longest) (pc' := 15) (p := l0) (st := []) [.int c1] v_X8_84 (i_X8_nodeOf C l0 c1) dX8_longest_12 rfl rfl rfl (Nat.le_of_ble_eq_true rfl) (by decide) (by decide) (fun c2 => ?_)
    refine C_istore (D := mdX8_longest) (pc' := 17) (ls' := [(4, .int c2), (0, .ref (kB C + l0)), (1, .int l1), (3, .int l3)]) dX8_longest_15 rfl (by decide) rfl ?_
    refine C_iload (D := mdX8_longest) (pc' := 19) (x := c2) dX8_longest_17 rfl 0 rfl ?_
    refine C_bipush (D := mdX8_longest) (pc' := 21) (v := (-9)) dX8_longest_19 rfl (by decide) ?_
    refine C_icmp_eq (D := mdX8_longest) (pc' := 24) (tgt := 27) dX8_longest_21 (by decide) rfl ?_ ?_
    · refine C_iinc (D := mdX8_longest) (pc' := 30) (j := 3) (v := (l3 + (-1))) (ls' := [(3, .int (l3 + (-1))), (4, .int c2), (0, .ref (kB C + l0)), (1, .int l1)]) dX8_longest_27 rfl rfl rfl (by decide) rfl ?_
      refine C_goto (D := mdX8_longest) (pc' := 2) dX8_longest_30 (by decide) ?_
      exact C_sub [2, 3, 0] rfl (hk2 ((l3 + (-1))))
    · refine C_iload (D := mdX8_longest) (pc' := 26) (x := c2) dX8_longest_24 rfl 0 rfl ?_
      exact C_iret rfl dX8_longest_26
set_option maxHeartbeats 2000000 in
set_option maxRecDepth 20000 in
theorem i_X8_longest (C : KX) (l0 : Nat) (l1 : Int32) (l2 : Int32) : Imp C yX8_longest cX8_longest 5 (some .int) 1 22 rvI [.ref (kB C + l0), .int l1, .int l2] (m_X8_longest l0 l1 l2) := by
  refine Imp.of (by decide) (Nat.le_of_ble_eq_true rfl) [(0, .ref (kB C + l0)), (1, .int l1), (2, .int l2)] rfl ?_
  show Cmp C mdX8_longest (QM rvI) 0 [(0, .ref (kB C + l0)), (1, .int l1), (2, .int l2)] [] (m_X8_longest l0 l1 l2)
  unfold m_X8_longest
  refine C_iload_n (D := mdX8_longest) (pc' := 1) (x := l2) dX8_longest_0 rfl 2 rfl ?_
  refine C_istore_n (D := mdX8_longest) (pc' := 2) (ls' := [(3, .int l2), (0, .ref (kB C + l0)), (1, .int l1), (2, .int l2)]) dX8_longest_1 rfl rfl (by decide) rfl ?_
  exact C_sub [1, 2, 0] rfl (C_loop (fun s => [(0, .ref (kB C + l0)), (1, .int l1), (3, .int s)]) (fun k hk s => p_X8_longest_B2 C l0 l1  k hk s) FU l2)

-- StandingQueriesModel.make()V
theorem dX8_make_0 : decode cX8_make 0 = .ok (.aload_n 0, 1) := by decide +kernel
theorem dX8_make_1 : decode cX8_make 1 = .ok (.aload_n 0, 1) := by decide +kernel
theorem dX8_make_2 : decode cX8_make 2 = .ok (.getfield 87, 3) := by decide +kernel
theorem dX8_make_5 : decode cX8_make 5 = .ok (.invokevirtual 90, 3) := by decide +kernel
theorem dX8_make_8 : decode cX8_make 8 = .ok (.aload_n 0, 1) := by decide +kernel
theorem dX8_make_9 : decode cX8_make 9 = .ok (.iconst 0, 1) := by decide +kernel
theorem dX8_make_10 : decode cX8_make 10 = .ok (.putfield 73, 3) := by decide +kernel
theorem dX8_make_13 : decode cX8_make 13 = .ok (.aload_n 0, 1) := by decide +kernel
theorem dX8_make_14 : decode cX8_make 14 = .ok (.iconst 0, 1) := by decide +kernel
theorem dX8_make_15 : decode cX8_make 15 = .ok (.invokevirtual 94, 3) := by decide +kernel
theorem dX8_make_18 : decode cX8_make 18 = .ok (.iconst 0, 1) := by decide +kernel
theorem dX8_make_19 : decode cX8_make 19 = .ok (.istore_n 1, 1) := by decide +kernel
theorem dX8_make_20 : decode cX8_make 20 = .ok (.iload_n 1, 1) := by decide +kernel
theorem dX8_make_21 : decode cX8_make 21 = .ok (.aload_n 0, 1) := by decide +kernel
theorem dX8_make_22 : decode cX8_make 22 = .ok (.getfield 52, 3) := by decide +kernel
theorem dX8_make_25 : decode cX8_make 25 = .ok (.if_icmp .ge 44, 3) := by decide +kernel
theorem dX8_make_28 : decode cX8_make 28 = .ok (.iconst 1, 1) := by decide +kernel
theorem dX8_make_29 : decode cX8_make 29 = .ok (.istore_n 2, 1) := by decide +kernel
theorem dX8_make_30 : decode cX8_make 30 = .ok (.iload_n 2, 1) := by decide +kernel
theorem dX8_make_31 : decode cX8_make 31 = .ok (.aload_n 0, 1) := by decide +kernel
theorem dX8_make_32 : decode cX8_make 32 = .ok (.getfield 55, 3) := by decide +kernel
theorem dX8_make_35 : decode cX8_make 35 = .ok (.iload_n 1, 1) := by decide +kernel
theorem dX8_make_36 : decode cX8_make 36 = .ok (.iaload, 1) := by decide +kernel
theorem dX8_make_37 : decode cX8_make 37 = .ok (.ldc 47, 2) := by decide +kernel
theorem dX8_make_39 : decode cX8_make 39 = .ok (.idiv, 1) := by decide +kernel
theorem dX8_make_40 : decode cX8_make 40 = .ok (.if_icmp .gt 23, 3) := by decide +kernel
theorem dX8_make_43 : decode cX8_make 43 = .ok (.aload_n 0, 1) := by decide +kernel
theorem dX8_make_44 : decode cX8_make 44 = .ok (.aload_n 0, 1) := by decide +kernel
theorem dX8_make_45 : decode cX8_make 45 = .ok (.getfield 55, 3) := by decide +kernel
theorem dX8_make_48 : decode cX8_make 48 = .ok (.iload_n 1, 1) := by decide +kernel
theorem dX8_make_49 : decode cX8_make 49 = .ok (.iaload, 1) := by decide +kernel
theorem dX8_make_50 : decode cX8_make 50 = .ok (.iload_n 2, 1) := by decide +kernel
theorem dX8_make_51 : decode cX8_make 51 = .ok (.invokestatic 97, 3) := by decide +kernel
theorem dX8_make_54 : decode cX8_make 54 = .ok (.invokevirtual 94, 3) := by decide +kernel
theorem dX8_make_57 : decode cX8_make 57 = .ok (.iinc 2 1, 3) := by decide +kernel
theorem dX8_make_60 : decode cX8_make 60 = .ok (.goto (-30), 3) := by decide +kernel
theorem dX8_make_63 : decode cX8_make 63 = .ok (.iinc 1 1, 3) := by decide +kernel
theorem dX8_make_66 : decode cX8_make 66 = .ok (.goto (-46), 3) := by decide +kernel
theorem dX8_make_69 : decode cX8_make 69 = .ok (.iconst 0, 1) := by decide +kernel
theorem dX8_make_70 : decode cX8_make 70 = .ok (.istore_n 1, 1) := by decide +kernel
theorem dX8_make_71 : decode cX8_make 71 = .ok (.iload_n 1, 1) := by decide +kernel
theorem dX8_make_72 : decode cX8_make 72 = .ok (.aload_n 0, 1) := by decide +kernel
theorem dX8_make_73 : decode cX8_make 73 = .ok (.getfield 73, 3) := by decide +kernel
theorem dX8_make_76 : decode cX8_make 76 = .ok (.if_icmp .ge 178, 3) := by decide +kernel
theorem dX8_make_79 : decode cX8_make 79 = .ok (.aload_n 0, 1) := by decide +kernel
theorem dX8_make_80 : decode cX8_make 80 = .ok (.getfield 76, 3) := by decide +kernel
theorem dX8_make_83 : decode cX8_make 83 = .ok (.iload_n 1, 1) := by decide +kernel
theorem dX8_make_84 : decode cX8_make 84 = .ok (.iaload, 1) := by decide +kernel
theorem dX8_make_85 : decode cX8_make 85 = .ok (.ldc 47, 2) := by decide +kernel
theorem dX8_make_87 : decode cX8_make 87 = .ok (.idiv, 1) := by decide +kernel
theorem dX8_make_88 : decode cX8_make 88 = .ok (.istore_n 2, 1) := by decide +kernel
theorem dX8_make_89 : decode cX8_make 89 = .ok (.aload_n 0, 1) := by decide +kernel
theorem dX8_make_90 : decode cX8_make 90 = .ok (.getfield 100, 3) := by decide +kernel
theorem dX8_make_93 : decode cX8_make 93 = .ok (.iload_n 1, 1) := by decide +kernel
theorem dX8_make_94 : decode cX8_make 94 = .ok (.iload_n 1, 1) := by decide +kernel
theorem dX8_make_95 : decode cX8_make 95 = .ok (.ifCond .ne 8, 3) := by decide +kernel
theorem dX8_make_98 : decode cX8_make 98 = .ok (.bipush (-9), 2) := by decide +kernel
theorem dX8_make_100 : decode cX8_make 100 = .ok (.goto 16, 3) := by decide +kernel
theorem dX8_make_103 : decode cX8_make 103 = .ok (.aload_n 0, 1) := by decide +kernel
theorem dX8_make_104 : decode cX8_make 104 = .ok (.aload_n 0, 1) := by decide +kernel
theorem dX8_make_105 : decode cX8_make 105 = .ok (.getfield 76, 3) := by decide +kernel
theorem dX8_make_108 : decode cX8_make 108 = .ok (.iload_n 1, 1) := by decide +kernel
theorem dX8_make_109 : decode cX8_make 109 = .ok (.iaload, 1) := by decide +kernel
theorem dX8_make_110 : decode cX8_make 110 = .ok (.iload_n 2, 1) := by decide +kernel
theorem dX8_make_111 : decode cX8_make 111 = .ok (.iconst 1, 1) := by decide +kernel
theorem dX8_make_112 : decode cX8_make 112 = .ok (.isub, 1) := by decide +kernel
theorem dX8_make_113 : decode cX8_make 113 = .ok (.invokevirtual 103, 3) := by decide +kernel
theorem dX8_make_116 : decode cX8_make 116 = .ok (.iastore, 1) := by decide +kernel
theorem dX8_make_117 : decode cX8_make 117 = .ok (.aload_n 0, 1) := by decide +kernel
theorem dX8_make_118 : decode cX8_make 118 = .ok (.getfield 106, 3) := by decide +kernel
theorem dX8_make_121 : decode cX8_make 121 = .ok (.iload_n 1, 1) := by decide +kernel
theorem dX8_make_122 : decode cX8_make 122 = .ok (.iconst 0, 1) := by decide +kernel
theorem dX8_make_123 : decode cX8_make 123 = .ok (.iastore, 1) := by decide +kernel
theorem dX8_make_124 : decode cX8_make 124 = .ok (.iconst 0, 1) := by decide +kernel
theorem dX8_make_125 : decode cX8_make 125 = .ok (.istore_n 3, 1) := by decide +kernel
theorem dX8_make_126 : decode cX8_make 126 = .ok (.iload_n 3, 1) := by decide +kernel
theorem dX8_make_127 : decode cX8_make 127 = .ok (.aload_n 0, 1) := by decide +kernel
theorem dX8_make_128 : decode cX8_make 128 = .ok (.getfield 52, 3) := by decide +kernel
theorem dX8_make_131 : decode cX8_make 131 = .ok (.if_icmp .ge 62, 3) := by decide +kernel
theorem dX8_make_134 : decode cX8_make 134 = .ok (.aload_n 0, 1) := by decide +kernel
theorem dX8_make_135 : decode cX8_make 135 = .ok (.getfield 55, 3) := by decide +kernel
theorem dX8_make_138 : decode cX8_make 138 = .ok (.iload_n 3, 1) := by decide +kernel
theorem dX8_make_139 : decode cX8_make 139 = .ok (.iaload, 1) := by decide +kernel
theorem dX8_make_140 : decode cX8_make 140 = .ok (.ldc 47, 2) := by decide +kernel
theorem dX8_make_142 : decode cX8_make 142 = .ok (.idiv, 1) := by decide +kernel
theorem dX8_make_143 : decode cX8_make 143 = .ok (.istore 4, 2) := by decide +kernel
theorem dX8_make_145 : decode cX8_make 145 = .ok (.aload_n 0, 1) := by decide +kernel
theorem dX8_make_146 : decode cX8_make 146 = .ok (.getfield 106, 3) := by decide +kernel
theorem dX8_make_149 : decode cX8_make 149 = .ok (.iload_n 1, 1) := by decide +kernel
theorem dX8_make_150 : decode cX8_make 150 = .ok (.dup2, 1) := by decide +kernel
theorem dX8_make_151 : decode cX8_make 151 = .ok (.iaload, 1) := by decide +kernel
theorem dX8_make_152 : decode cX8_make 152 = .ok (.iload 4, 2) := by decide +kernel
theorem dX8_make_154 : decode cX8_make 154 = .ok (.iload_n 2, 1) := by decide +kernel
theorem dX8_make_155 : decode cX8_make 155 = .ok (.if_icmp .gt 29, 3) := by decide +kernel
theorem dX8_make_158 : decode cX8_make 158 = .ok (.aload_n 0, 1) := by decide +kernel
theorem dX8_make_159 : decode cX8_make 159 = .ok (.getfield 76, 3) := by decide +kernel
theorem dX8_make_162 : decode cX8_make 162 = .ok (.iload_n 1, 1) := by decide +kernel
theorem dX8_make_163 : decode cX8_make 163 = .ok (.iaload, 1) := by decide +kernel
theorem dX8_make_164 : decode cX8_make 164 = .ok (.iload 4, 2) := by decide +kernel
theorem dX8_make_166 : decode cX8_make 166 = .ok (.invokestatic 81, 3) := by decide +kernel
theorem dX8_make_169 : decode cX8_make 169 = .ok (.aload_n 0, 1) := by decide +kernel
theorem dX8_make_170 : decode cX8_make 170 = .ok (.getfield 55, 3) := by decide +kernel
theorem dX8_make_173 : decode cX8_make 173 = .ok (.iload_n 3, 1) := by decide +kernel
theorem dX8_make_174 : decode cX8_make 174 = .ok (.iaload, 1) := by decide +kernel
theorem dX8_make_175 : decode cX8_make 175 = .ok (.if_icmp .ne 9, 3) := by decide +kernel
theorem dX8_make_178 : decode cX8_make 178 = .ok (.iconst 1, 1) := by decide +kernel
theorem dX8_make_179 : decode cX8_make 179 = .ok (.iload_n 3, 1) := by decide +kernel
theorem dX8_make_180 : decode cX8_make 180 = .ok (.ishl, 1) := by decide +kernel
theorem dX8_make_181 : decode cX8_make 181 = .ok (.goto 4, 3) := by decide +kernel
theorem dX8_make_184 : decode cX8_make 184 = .ok (.iconst 0, 1) := by decide +kernel
theorem dX8_make_185 : decode cX8_make 185 = .ok (.ior, 1) := by decide +kernel
theorem dX8_make_186 : decode cX8_make 186 = .ok (.iastore, 1) := by decide +kernel
theorem dX8_make_187 : decode cX8_make 187 = .ok (.iinc 3 1, 3) := by decide +kernel
theorem dX8_make_190 : decode cX8_make 190 = .ok (.goto (-64), 3) := by decide +kernel
theorem dX8_make_193 : decode cX8_make 193 = .ok (.iconst 0, 1) := by decide +kernel
theorem dX8_make_194 : decode cX8_make 194 = .ok (.istore_n 3, 1) := by decide +kernel
theorem dX8_make_195 : decode cX8_make 195 = .ok (.iload_n 3, 1) := by decide +kernel
theorem dX8_make_196 : decode cX8_make 196 = .ok (.bipush 8, 2) := by decide +kernel
theorem dX8_make_198 : decode cX8_make 198 = .ok (.if_icmp .ge 50, 3) := by decide +kernel
theorem dX8_make_201 : decode cX8_make 201 = .ok (.aload_n 0, 1) := by decide +kernel
theorem dX8_make_202 : decode cX8_make 202 = .ok (.getfield 109, 3) := by decide +kernel
theorem dX8_make_205 : decode cX8_make 205 = .ok (.bipush 8, 2) := by decide +kernel
theorem dX8_make_207 : decode cX8_make 207 = .ok (.iload_n 1, 1) := by decide +kernel
theorem dX8_make_208 : decode cX8_make 208 = .ok (.imul, 1) := by decide +kernel
theorem dX8_make_209 : decode cX8_make 209 = .ok (.iload_n 3, 1) := by decide +kernel
theorem dX8_make_210 : decode cX8_make 210 = .ok (.iadd, 1) := by decide +kernel
theorem dX8_make_211 : decode cX8_make 211 = .ok (.aload_n 0, 1) := by decide +kernel
theorem dX8_make_212 : decode cX8_make 212 = .ok (.aload_n 0, 1) := by decide +kernel
theorem dX8_make_213 : decode cX8_make 213 = .ok (.getfield 76, 3) := by decide +kernel
theorem dX8_make_216 : decode cX8_make 216 = .ok (.iload_n 1, 1) := by decide +kernel
theorem dX8_make_217 : decode cX8_make 217 = .ok (.iaload, 1) := by decide +kernel
theorem dX8_make_218 : decode cX8_make 218 = .ok (.iload_n 3, 1) := by decide +kernel
theorem dX8_make_219 : decode cX8_make 219 = .ok (.invokestatic 112, 3) := by decide +kernel
theorem dX8_make_222 : decode cX8_make 222 = .ok (.iload_n 2, 1) := by decide +kernel
theorem dX8_make_223 : decode cX8_make 223 = .ok (.iconst 1, 1) := by decide +kernel
theorem dX8_make_224 : decode cX8_make 224 = .ok (.iadd, 1) := by decide +kernel
theorem dX8_make_225 : decode cX8_make 225 = .ok (.bipush 6, 2) := by decide +kernel
theorem dX8_make_227 : decode cX8_make 227 = .ok (.if_icmp .le 8, 3) := by decide +kernel
theorem dX8_make_230 : decode cX8_make 230 = .ok (.bipush 6, 2) := by decide +kernel
theorem dX8_make_232 : decode cX8_make 232 = .ok (.goto 6, 3) := by decide +kernel
theorem dX8_make_235 : decode cX8_make 235 = .ok (.iload_n 2, 1) := by decide +kernel
theorem dX8_make_236 : decode cX8_make 236 = .ok (.iconst 1, 1) := by decide +kernel
theorem dX8_make_237 : decode cX8_make 237 = .ok (.iadd, 1) := by decide +kernel
theorem dX8_make_238 : decode cX8_make 238 = .ok (.invokevirtual 103, 3) := by decide +kernel
theorem dX8_make_241 : decode cX8_make 241 = .ok (.iastore, 1) := by decide +kernel
theorem dX8_make_242 : decode cX8_make 242 = .ok (.iinc 3 1, 3) := by decide +kernel
theorem dX8_make_245 : decode cX8_make 245 = .ok (.goto (-50), 3) := by decide +kernel
theorem dX8_make_248 : decode cX8_make 248 = .ok (.iinc 1 1, 3) := by decide +kernel
theorem dX8_make_251 : decode cX8_make 251 = .ok (.goto (-180), 3) := by decide +kernel
theorem dX8_make_254 : decode cX8_make 254 = .ok (.return_, 1) := by decide +kernel
abbrev mdX8_make : MD := (cX8_make, RX8, 5, none, yX8_make.name, 4, 92, eT)
set_option maxHeartbeats 2000000 in
set_option maxRecDepth 20000 in
theorem p_X8_make_J238 (C : KX) (l0 : Nat) (l1 : Int32) (l2 : Int32) (l3 : Int32) (s0 : Int32) (s1 : Int32) (s2 : Nat) (s3 : Int32) (s4 : Nat) (k71 : Int32 → Mo Unit) (hk71 : ∀ s, Cmp C mdX8_make (QM rvV) 71 [(0, .ref (kB C + l0)), (1, .int s)] [] (k71 s)) (k195 : Int32 → Mo Unit) (hk195 : ∀ s, Cmp C mdX8_make (QM rvV) 195 [(0, .ref (kB C + l0)), (1, .int l1), (2, .int l2), (3, .int s)] [] (k195 s)) : Cmp C mdX8_make (QM rvV) 238 [(0, .ref (kB C + l0)), (1, .int l1), (2, .int l2), (3, .int l3)] [.int s0, .int s1, .ref (kB C + s2), .int s3, .ref (kB C + s4)] (m_X8_make_J238 l0 l1 l2 l3 s0 s1 s2 s3 s4 k71 k195) := by
  unfold m_X8_make_J238
  refine C_callV (D := mdX8_make) (pc' := 241) (p := s2) (st := [.int s3, .ref (kB C + s4)]) [.int s1, .int s0] v_X8_103 (i_X8_longest C s2 s1 s0) dX8_make_238 rfl rfl rfl (Nat.le_of_ble_eq_true rfl) (by decide) (by decide) (fun c17 => ?_)
  refine C_tI (D := mdX8_make) (pc' := 242) (p := s4) dX8_make_241 rfl ?_
  refine C_iinc (D := mdX8_make) (pc' := 245) (j := 3) (v := (l3 + 1)) (ls' := [(3, .int (l3 + 1)), (0, .ref (kB C + l0)), (1, .int l1), (2, .int l2)]) dX8_make_242 rfl rfl rfl (by decide) rfl ?_
  refine C_goto (D := mdX8_make) (pc' := 195) dX8_make_245 (by decide) ?_
  exact C_sub [1, 2, 3, 0] rfl (hk195 ((l3 + 1)))
set_option maxHeartbeats 2000000 in
set_option maxRecDepth 20000 in
theorem p_X8_make_B195 (C : KX) (l0 : Nat) (l1 : Int32) (l2 : Int32) (k71 : Int32 → Mo Unit) (hk71 : ∀ s, Cmp C mdX8_make (QM rvV) 71 [(0, .ref (kB C + l0)), (1, .int s)] [] (k71 s)) (k195 : Int32 → Mo Unit) (hk195 : ∀ s, Cmp C mdX8_make (QM rvV) 195 [(0, .ref (kB C + l0)), (1, .int l1), (2, .int l2), (3, .int s)] [] (k195 s)) (l3 : Int32) : Cmp C mdX8_make (QM rvV) 195 [(0, .ref (kB C + l0)), (1, .int l1), (2, .int l2), (3, .int l3)] [] (m_X8_make_B195 l0 l1 l2 k71 k195 l3) := by
  unfold m_X8_make_B195
  refine C_iload_n (D := mdX8_make) (pc' := 196) (x := l3) dX8_make_195 rfl 3 rfl ?_
  refine C_bipush (D := mdX8_make) (pc' := 198) (v := 8) dX8_make_196 rfl (by decide) ?_
  refine C_icmp_ge (D := mdX8_make) (pc' := 201) (tgt := 248) dX8_make_198 (by decide) rfl ?_ ?_
  · refine C_iinc (D := mdX8_make) (pc' := 251) (j := 1) (v := (l1 + 1)) (ls' := [(1, .int (l1 + 1)), (0, .ref (kB C + l0)), (2, .int l2), (3, .int l3)]) dX8_make_248 rfl rfl rfl (by decide) rfl ?_
    refine C_goto (D := mdX8_make) (pc' := 71) dX8_make_251 (by decide) ?_
    exact C_sub [1, 0] rfl (hk71 ((l1 + 1)))
  · refine C_aload_n (D := mdX8_make) (pc' := 202) (x := kB C + l0) dX8_make_201 rfl 0 rfl ?_
    refine C_getR (D := mdX8_make) (pc' := 205) (p := l0) f_X8_109 rfl dX8_make_202 rfl (fun nexts13 => ?_)
    refine C_bipush (D := mdX8_make) (pc' := 207) (v := 8) dX8_make_205 rfl (by decide) ?_
    refine C_iload_n (D := mdX8_make) (pc' := 208) (x := l1) dX8_make_207 rfl 1 rfl ?_
    refine C_imul (D := mdX8_make) (pc' := 209) dX8_make_208 rfl ?_
    refine C_iload_n (D := mdX8_make) (pc' := 210) (x := l3) dX8_make_209 rfl 3 rfl ?_
    refine C_iadd (D := mdX8_make) (pc' := 211) dX8_make_210 rfl ?_
    refine C_aload_n (D := mdX8_make) (pc' := 212) (x := kB C + l0) dX8_make_211 rfl 0 rfl ?_
    refine C_aload_n (D := mdX8_make) (pc' := 213) (x := kB C + l0) dX8_make_212 rfl 0 rfl ?_
    refine C_getR (D := mdX8_make) (pc' := 216) (p := l0) f_X8_76 rfl dX8_make_213 rfl (fun nodes14 => ?_)
    refine C_iload_n (D := mdX8_make) (pc' := 217) (x := l1) dX8_make_216 rfl 1 rfl ?_
    refine C_aI (D := mdX8_make) (pc' := 218) (p := nodes14) dX8_make_217 rfl (fun x15 => ?_)
    refine C_iload_n (D := mdX8_make) (pc' := 219) (x := l3) dX8_make_218 rfl 3 rfl ?_
    refine C_callS (D := mdX8_make) (pc' := 222) (st := [.ref (kB C + l0), .int (((8 * l1)) + l3), .ref (kB C + nexts13)]) [.int x15, .int l3] s_X8_112 (i_X8_withLetter C x15 l3) dX8_make_219 rfl rfl rfl (Nat.le_of_ble_eq_true rfl) (by decide) (by decide) (fun c16 => ?_)
    refine C_iload_n (D := mdX8_make) (pc' := 223) (x := l2) dX8_make_222 rfl 2 rfl ?_
    refine C_iconst (D := mdX8_make) (pc' := 224) (v := 1) dX8_make_223 rfl (by decide) ?_
    refine C_iadd (D := mdX8_make) (pc' := 225) dX8_make_224 rfl ?_
    refine C_bipush (D := mdX8_make) (pc' := 227) (v := 6) dX8_make_225 rfl (by decide) ?_
    refine C_icmp_le (D := mdX8_make) (pc' := 230) (tgt := 235) dX8_make_227 (by decide) rfl ?_ ?_
    · refine C_iload_n (D := mdX8_make) (pc' := 236) (x := l2) dX8_make_235 rfl 2 rfl ?_
      refine C_iconst (D := mdX8_make) (pc' := 237) (v := 1) dX8_make_236 rfl (by decide) ?_
      refine C_iadd (D := mdX8_make) (pc' := 238) dX8_make_237 rfl ?_
      exact C_sub [0, 1, 2, 3] rfl (p_X8_make_J238 C l0 l1 l2 l3 ((l2 + 1)) c16 l0 ((((8 * l1)) + l3)) nexts13 k71 hk71 k195 hk195)
    · refine C_bipush (D := mdX8_make) (pc' := 232) (v := 6) dX8_make_230 rfl (by decide) ?_
      refine C_goto (D := mdX8_make) (pc' := 238) dX8_make_232 (by decide) ?_
      exact C_sub [0, 1, 2, 3] rfl (p_X8_make_J238 C l0 l1 l2 l3 6 c16 l0 ((((8 * l1)) + l3)) nexts13 k71 hk71 k195 hk195)
set_option maxHeartbeats 2000000 in
set_option maxRecDepth 20000 in
theorem p_X8_make_J185 (C : KX) (l0 : Nat) (l1 : Int32) (l2 : Int32) (l3 : Int32) (s0 : Int32) (s1 : Int32) (s2 : Int32) (s3 : Nat) (k71 : Int32 → Mo Unit) (hk71 : ∀ s, Cmp C mdX8_make (QM rvV) 71 [(0, .ref (kB C + l0)), (1, .int s)] [] (k71 s)) (k126 : Int32 → Mo Unit) (hk126 : ∀ s, Cmp C mdX8_make (QM rvV) 126 [(0, .ref (kB C + l0)), (1, .int l1), (2, .int l2), (3, .int s)] [] (k126 s)) : Cmp C mdX8_make (QM rvV) 185 [(0, .ref (kB C + l0)), (1, .int l1), (2, .int l2), (3, .int l3)] [.int s0, .int s1, .int s2, .ref (kB C + s3)] (m_X8_make_J185 l0 l1 l2 l3 s0 s1 s2 s3 k71 k126) := by
  unfold m_X8_make_J185
  refine C_ior (D := mdX8_make) (pc' := 186) dX8_make_185 rfl ?_
  refine C_tI (D := mdX8_make) (pc' := 187) (p := s3) dX8_make_186 rfl ?_
  refine C_iinc (D := mdX8_make) (pc' := 190) (j := 3) (v := (l3 + 1)) (ls' := [(3, .int (l3 + 1)), (0, .ref (kB C + l0)), (1, .int l1), (2, .int l2)]) dX8_make_187 rfl rfl rfl (by decide) rfl ?_
  refine C_goto (D := mdX8_make) (pc' := 126) dX8_make_190 (by decide) ?_
  exact C_sub [1, 2, 3, 0] rfl (hk126 ((l3 + 1)))
set_option maxHeartbeats 2000000 in
set_option maxRecDepth 20000 in
theorem p_X8_make_J184 (C : KX) (l0 : Nat) (l1 : Int32) (l2 : Int32) (l3 : Int32) (s0 : Int32) (s1 : Int32) (s2 : Nat) (k71 : Int32 → Mo Unit) (hk71 : ∀ s, Cmp C mdX8_make (QM rvV) 71 [(0, .ref (kB C + l0)), (1, .int s)] [] (k71 s)) (k126 : Int32 → Mo Unit) (hk126 : ∀ s, Cmp C mdX8_make (QM rvV) 126 [(0, .ref (kB C + l0)), (1, .int l1), (2, .int l2), (3, .int s)] [] (k126 s)) : Cmp C mdX8_make (QM rvV) 184 [(0, .ref (kB C + l0)), (1, .int l1), (2, .int l2), (3, .int l3)] [.int s0, .int s1, .ref (kB C + s2)] (m_X8_make_J184 l0 l1 l2 l3 s0 s1 s2 k71 k126) := by
  unfold m_X8_make_J184
  refine C_iconst (D := mdX8_make) (pc' := 185) (v := 0) dX8_make_184 rfl (by decide) ?_
  exact C_sub [0, 1, 2, 3] rfl (p_X8_make_J185 C l0 l1 l2 l3 0 s0 s1 s2 k71 hk71 k126 hk126)
set_option maxHeartbeats 2000000 in
set_option maxRecDepth 20000 in
theorem p_X8_make_B126 (C : KX) (l0 : Nat) (l1 : Int32) (l2 : Int32) (k71 : Int32 → Mo Unit) (hk71 : ∀ s, Cmp C mdX8_make (QM rvV) 71 [(0, .ref (kB C + l0)), (1, .int s)] [] (k71 s)) (k126 : Int32 → Mo Unit) (hk126 : ∀ s, Cmp C mdX8_make (QM rvV) 126 [(0, .ref (kB C + l0)), (1, .int l1), (2, .int l2), (3, .int s)] [] (k126 s)) (l3 : Int32) : Cmp C mdX8_make (QM rvV) 126 [(0, .ref (kB C + l0)), (1, .int l1), (2, .int l2), (3, .int l3)] [] (m_X8_make_B126 l0 l1 l2 k71 k126 l3) := by
  unfold m_X8_make_B126
  refine C_iload_n (D := mdX8_make) (pc' := 127) (x := l3) dX8_make_126 rfl 3 rfl ?_
  refine C_aload_n (D := mdX8_make) (pc' := 128) (x := kB C + l0) dX8_make_127 rfl 0 rfl ?_
  refine C_getI (D := mdX8_make) (pc' := 131) (p := l0) f_X8_52 rfl dX8_make_128 rfl (fun wordMany12 => ?_)
  refine C_icmp_ge (D := mdX8_make) (pc' := 134) (tgt := 193) dX8_make_131 (by decide) rfl ?_ ?_
  · refine C_iconst (D := mdX8_make) (pc' := 194) (v := 0) dX8_make_193 rfl (by decide) ?_
    refine C_istore_n (D := mdX8_make) (pc' := 195) (ls' := [(3, .int 0), (0, .ref (kB C + l0)), (1, .int l1), (2, .int l2)]) dX8_make_194 rfl rfl (by decide) rfl ?_
    exact C_sub [1, 2, 3, 0] rfl (C_loop (fun s => [(0, .ref (kB C + l0)), (1, .int l1), (2, .int l2), (3, .int s)]) (fun k hk s => p_X8_make_B195 C l0 l1 l2 k71 hk71 k hk s) FU 0)
  · refine C_aload_n (D := mdX8_make) (pc' := 135) (x := kB C + l0) dX8_make_134 rfl 0 rfl ?_
    refine C_getR (D := mdX8_make) (pc' := 138) (p := l0) f_X8_55 rfl dX8_make_135 rfl (fun words18 => ?_)
    refine C_iload_n (D := mdX8_make) (pc' := 139) (x := l3) dX8_make_138 rfl 3 rfl ?_
    refine C_aI (D := mdX8_make) (pc' := 140) (p := words18) dX8_make_139 rfl (fun x19 => ?_)
    refine C_ldc (D := mdX8_make) (pc' := 142) (v := 1048576) c_X8_47 dX8_make_140 rfl ?_
    refine C_idiv (D := mdX8_make) (pc' := 143) dX8_make_142 rfl (by decide) ?_
    refine C_letI (fun v20 => ?_)
    refine C_istore (D := mdX8_make) (pc' := 145) (ls' := [(4, .int v20), (0, .ref (kB C + l0)), (1, .int l1), (2, .int l2), (3, .int l3)]) dX8_make_143 rfl (by decide) rfl ?_
    refine C_aload_n (D := mdX8_make) (pc' := 146) (x := kB C + l0) dX8_make_145 rfl 1 rfl ?_
    refine C_getR (D := mdX8_make) (pc' := 149) (p := l0) f_X8_106 rfl dX8_make_146 rfl (fun ends21 => ?_)
    refine C_iload_n (D := mdX8_make) (pc' := 150) (x := l1) dX8_make_149 rfl 2 rfl ?_
    refine C_dup2 (D := mdX8_make) (pc' := 151) dX8_make_150 rfl rfl rfl ?_
    refine C_aI (D := mdX8_make) (pc' := 152) (p := ends21) dX8_make_151 rfl (fun x22 => ?_)
    refine C_iload (D := mdX8_make) (pc' := 154) (x := v20) dX8_make_152 rfl 0 rfl ?_
    refine C_iload_n (D := mdX8_make) (pc' := 155) (x := l2) dX8_make_154 rfl 3 rfl ?_
    refine C_icmp_gt (D := mdX8_make) (pc' := 158) (tgt := 184) dX8_make_155 (by decide) rfl ?_ ?_
    · exact C_sub [1, 2, 3, 4] rfl (p_X8_make_J184 C l0 l1 l2 l3 x22 l1 ends21 k71 hk71 k126 hk126)
    · refine C_aload_n (D := mdX8_make) (pc' := 159) (x := kB C + l0) dX8_make_158 rfl 1 rfl ?_
      refine C_getR (D := mdX8_make) (pc' := 162) (p := l0) f_X8_76 rfl dX8_make_159 rfl (fun nodes23 => ?_)
      refine C_iload_n (D := mdX8_make) (pc' := 163) (x := l1) dX8_make_162 rfl 2 rfl ?_
      refine C_aI (D := mdX8_make) (pc' := 164) (p := nodes23) dX8_make_163 rfl (fun x24 => ?_)
      refine C_iload (D := mdX8_make) (pc' := 166) (x := v20) dX8_make_164 rfl 0 rfl ?_
      refine C_callS (D := mdX8_make) (pc' := 169) (st := [.int x22, .int l1, .ref (kB C + ends21)]) [.int x24, .int v20] s_X8_81 (i_X8_lasts C x24 v20) dX8_make_166 rfl rfl rfl (Nat.le_of_ble_eq_true rfl) (by decide) (by decide) (fun c25 => ?_)
      refine C_aload_n (D := mdX8_make) (pc' := 170) (x := kB C + l0) dX8_make_169 rfl 1 rfl ?_
      refine C_getR (D := mdX8_make) (pc' := 173) (p := l0) f_X8_55 rfl dX8_make_170 rfl (fun words26 => ?_)
      refine C_iload_n (D := mdX8_make) (pc' := 174) (x := l3) dX8_make_173 rfl 4 rfl ?_
      refine C_aI (D := mdX8_make) (pc' := 175) (p := words26) dX8_make_174 rfl (fun x27 => ?_)
      refine C_icmp_ne (D := mdX8_make) (pc' := 178) (tgt := 184) dX8_make_175 (by decide) rfl ?_ ?_
      · exact C_sub [1, 2, 3, 4] rfl (p_X8_make_J184 C l0 l1 l2 l3 x22 l1 ends21 k71 hk71 k126 hk126)
      · refine C_iconst (D := mdX8_make) (pc' := 179) (v := 1) dX8_make_178 rfl (by decide) ?_
        refine C_iload_n (D := mdX8_make) (pc' := 180) (x := l3) dX8_make_179 rfl 4 rfl ?_
        refine C_ishl (D := mdX8_make) (pc' := 181) dX8_make_180 rfl ?_
        refine C_goto (D := mdX8_make) (pc' := 185) dX8_make_181 (by decide) ?_
        exact C_sub [1, 2, 3, 4] rfl (p_X8_make_J185 C l0 l1 l2 l3 (((1 : Int32) <<< (l3 &&& 31))) x22 l1 ends21 k71 hk71 k126 hk126)
set_option maxHeartbeats 2000000 in
set_option maxRecDepth 20000 in
theorem p_X8_make_J116 (C : KX) (l0 : Nat) (l1 : Int32) (l2 : Int32) (s0 : Int32) (s1 : Int32) (s2 : Nat) (k71 : Int32 → Mo Unit) (hk71 : ∀ s, Cmp C mdX8_make (QM rvV) 71 [(0, .ref (kB C + l0)), (1, .int s)] [] (k71 s)) : Cmp C mdX8_make (QM rvV) 116 [(0, .ref (kB C + l0)), (1, .int l1), (2, .int l2)] [.int s0, .int s1, .ref (kB C + s2)] (m_X8_make_J116 l0 l1 l2 s0 s1 s2 k71) := by
  unfold m_X8_make_J116
  refine C_tI (D := mdX8_make) (pc' := 117) (p := s2) dX8_make_116 rfl ?_
  refine C_aload_n (D := mdX8_make) (pc' := 118) (x := kB C + l0) dX8_make_117 rfl 0 rfl ?_
  refine C_getR (D := mdX8_make) (pc' := 121) (p := l0) f_X8_106 rfl dX8_make_118 rfl (fun ends11 => ?_)
  refine C_iload_n (D := mdX8_make) (pc' := 122) (x := l1) dX8_make_121 rfl 1 rfl ?_
  refine C_iconst (D := mdX8_make) (pc' := 123) (v := 0) dX8_make_122 rfl (by decide) ?_
  refine C_tI (D := mdX8_make) (pc' := 124) (p := ends11) dX8_make_123 rfl ?_
  refine C_iconst (D := mdX8_make) (pc' := 125) (v := 0) dX8_make_124 rfl (by decide) ?_
  refine C_istore_n (D := mdX8_make) (pc' := 126) (ls' := [(3, .int 0), (0, .ref (kB C + l0)), (1, .int l1), (2, .int l2)]) dX8_make_125 rfl rfl (by decide) rfl ?_
  exact C_sub [1, 2, 3, 0] rfl (C_loop (fun s => [(0, .ref (kB C + l0)), (1, .int l1), (2, .int l2), (3, .int s)]) (fun k hk s => p_X8_make_B126 C l0 l1 l2 k71 hk71 k hk s) FU 0)
set_option maxHeartbeats 2000000 in
set_option maxRecDepth 20000 in
theorem p_X8_make_B71 (C : KX) (l0 : Nat)  (k71 : Int32 → Mo Unit) (hk71 : ∀ s, Cmp C mdX8_make (QM rvV) 71 [(0, .ref (kB C + l0)), (1, .int s)] [] (k71 s)) (l1 : Int32) : Cmp C mdX8_make (QM rvV) 71 [(0, .ref (kB C + l0)), (1, .int l1)] [] (m_X8_make_B71 l0 k71 l1) := by
  unfold m_X8_make_B71
  refine C_iload_n (D := mdX8_make) (pc' := 72) (x := l1) dX8_make_71 rfl 1 rfl ?_
  refine C_aload_n (D := mdX8_make) (pc' := 73) (x := kB C + l0) dX8_make_72 rfl 0 rfl ?_
  refine C_getI (D := mdX8_make) (pc' := 76) (p := l0) f_X8_73 rfl dX8_make_73 rfl (fun nodeMany3 => ?_)
  refine C_icmp_ge (D := mdX8_make) (pc' := 79) (tgt := 254) dX8_make_76 (by decide) rfl ?_ ?_
  · exact C_vret rfl dX8_make_254
  · refine C_aload_n (D := mdX8_make) (pc' := 80) (x := kB C + l0) dX8_make_79 rfl 0 rfl ?_
    refine C_getR (D := mdX8_make) (pc' := 83) (p := l0) f_X8_76 rfl dX8_make_80 rfl (fun nodes4 => ?_)
    refine C_iload_n (D := mdX8_make) (pc' := 84) (x := l1) dX8_make_83 rfl 1 rfl ?_
    refine C_aI (D := mdX8_make) (pc' := 85) (p := nodes4) dX8_make_84 rfl (fun x5 => ?_)
    refine C_ldc (D := mdX8_make) (pc' := 87) (v := 1048576) c_X8_47 dX8_make_85 rfl ?_
    refine C_idiv (D := mdX8_make) (pc' := 88) dX8_make_87 rfl (by decide) ?_
    refine C_letI (fun v6 => ?_)
    refine C_istore_n (D := mdX8_make) (pc' := 89) (ls' := [(2, .int v6), (0, .ref (kB C + l0)), (1, .int l1)]) dX8_make_88 rfl rfl (by decide) rfl ?_
    refine C_aload_n (D := mdX8_make) (pc' := 90) (x := kB C + l0) dX8_make_89 rfl 1 rfl ?_
    refine C_getR (D := mdX8_make) (pc' := 93) (p := l0) f_X8_100 rfl dX8_make_90 rfl (fun fails7 => ?_)
    refine C_iload_n (D := mdX8_make) (pc' := 94) (x := l1) dX8_make_93 rfl 2 rfl ?_
    refine C_iload_n (D := mdX8_make) (pc' := 95) (x := l1) dX8_make_94 rfl 2 rfl ?_
    refine C_if_ne (D := mdX8_make) (pc' := 98) (tgt := 103) dX8_make_95 (by decide) rfl ?_ ?_
    · refine C_aload_n (D := mdX8_make) (pc' := 104) (x := kB C + l0) dX8_make_103 rfl 1 rfl ?_
      refine C_aload_n (D := mdX8_make) (pc' := 105) (x := kB C + l0) dX8_make_104 rfl 1 rfl ?_
      refine C_getR (D := mdX8_make) (pc' := 108) (p := l0) f_X8_76 rfl dX8_make_105 rfl (fun nodes8 => ?_)
      refine C_iload_n (D := mdX8_make) (pc' := 109) (x := l1) dX8_make_108 rfl 2 rfl ?_
      refine C_aI (D := mdX8_make) (pc' := 110) (p := nodes8) dX8_make_109 rfl (fun x9 => ?_)
      refine C_iload_n (D := mdX8_make) (pc' := 111) (x := v6) dX8_make_110 rfl 0 rfl ?_
      refine C_iconst (D := mdX8_make) (pc' := 112) (v := 1) dX8_make_111 rfl (by decide) ?_
      refine C_isub (D := mdX8_make) (pc' := 113) dX8_make_112 rfl ?_
      refine C_callV (D := mdX8_make) (pc' := 116) (p := l0) (st := [.int l1, .ref (kB C + fails7)]) [.int x9, .int (v6 - 1)] v_X8_103 (i_X8_longest C l0 x9 ((v6 - 1))) dX8_make_113 rfl rfl rfl (Nat.le_of_ble_eq_true rfl) (by decide) (by decide) (fun c10 => ?_)
      exact C_sub [1, 2, 0] rfl (p_X8_make_J116 C l0 l1 v6 c10 l1 fails7 k71 hk71)
    · refine C_bipush (D := mdX8_make) (pc' := 100) (v := (-9)) dX8_make_98 rfl (by decide) ?_
      refine C_goto (D := mdX8_make) (pc' := 116) dX8_make_100 (by decide) ?_
      exact C_sub [1, 2, 0] rfl (p_X8_make_J116 C l0 l1 v6 ((-9)) l1 fails7 k71 hk71)
set_option maxHeartbeats 2000000 in
set_option maxRecDepth 20000 in
theorem p_X8_make_B30 (C : KX) (l0 : Nat) (l1 : Int32) (k20 : Int32 → Mo Unit) (hk20 : ∀ s, Cmp C mdX8_make (QM rvV) 20 [(0, .ref (kB C + l0)), (1, .int s)] [] (k20 s)) (k30 : Int32 → Mo Unit) (hk30 : ∀ s, Cmp C mdX8_make (QM rvV) 30 [(0, .ref (kB C + l0)), (1, .int l1), (2, .int s)] [] (k30 s)) (l2 : Int32) : Cmp C mdX8_make (QM rvV) 30 [(0, .ref (kB C + l0)), (1, .int l1), (2, .int l2)] [] (m_X8_make_B30 l0 l1 k20 k30 l2) := by
  unfold m_X8_make_B30
  refine C_iload_n (D := mdX8_make) (pc' := 31) (x := l2) dX8_make_30 rfl 2 rfl ?_
  refine C_aload_n (D := mdX8_make) (pc' := 32) (x := kB C + l0) dX8_make_31 rfl 0 rfl ?_
  refine C_getR (D := mdX8_make) (pc' := 35) (p := l0) f_X8_55 rfl dX8_make_32 rfl (fun words28 => ?_)
  refine C_iload_n (D := mdX8_make) (pc' := 36) (x := l1) dX8_make_35 rfl 1 rfl ?_
  refine C_aI (D := mdX8_make) (pc' := 37) (p := words28) dX8_make_36 rfl (fun x29 => ?_)
  refine C_ldc (D := mdX8_make) (pc' := 39) (v := 1048576) c_X8_47 dX8_make_37 rfl ?_
  refine C_idiv (D := mdX8_make) (pc' := 40) dX8_make_39 rfl (by decide) ?_
  refine C_icmp_gt (D := mdX8_make) (pc' := 43) (tgt := 63) dX8_make_40 (by decide) rfl ?_ ?_
  · refine C_iinc (D := mdX8_make) (pc' := 66) (j := 1) (v := (l1 + 1)) (ls' := [(1, .int (l1 + 1)), (0, .ref (kB C + l0)), (2, .int l2)]) dX8_make_63 rfl rfl rfl (by decide) rfl ?_
    refine C_goto (D := mdX8_make) (pc' := 20) dX8_make_66 (by decide) ?_
    exact C_sub [1, 0] rfl (hk20 ((l1 + 1)))
  · refine C_aload_n (D := mdX8_make) (pc' := 44) (x := kB C + l0) dX8_make_43 rfl 0 rfl ?_
    refine C_aload_n (D := mdX8_make) (pc' := 45) (x := kB C + l0) dX8_make_44 rfl 0 rfl ?_
    refine C_getR (D := mdX8_make) (pc' := 48) (p := l0) f_X8_55 rfl dX8_make_45 rfl (fun words30 => ?_)
    refine C_iload_n (D := mdX8_make) (pc' := 49) (x := l1) dX8_make_48 rfl 1 rfl ?_
    refine C_aI (D := mdX8_make) (pc' := 50) (p := words30) dX8_make_49 rfl (fun x31 => ?_)
    refine C_iload_n (D := mdX8_make) (pc' := 51) (x := l2) dX8_make_50 rfl 2 rfl ?_
    refine C_callS (D := mdX8_make) (pc' := 54) (st := [.ref (kB C + l0)]) [.int x31, .int l2] s_X8_97 (i_X8_firsts C x31 l2) dX8_make_51 rfl rfl rfl (Nat.le_of_ble_eq_true rfl) (by decide) (by decide) (fun c32 => ?_)
    refine C_callV (D := mdX8_make) (pc' := 57) (p := l0) (st := []) [.int c32] v_X8_94 (i_X8_addNode C l0 c32) dX8_make_54 rfl rfl rfl (Nat.le_of_ble_eq_true rfl) (by decide) (by decide) (fun _ => ?_)
    refine C_iinc (D := mdX8_make) (pc' := 60) (j := 2) (v := (l2 + 1)) (ls' := [(2, .int (l2 + 1)), (0, .ref (kB C + l0)), (1, .int l1)]) dX8_make_57 rfl rfl rfl (by decide) rfl ?_
    refine C_goto (D := mdX8_make) (pc' := 30) dX8_make_60 (by decide) ?_
    exact C_sub [1, 2, 0] rfl (hk30 ((l2 + 1)))
set_option maxHeartbeats 2000000 in
set_option maxRecDepth 20000 in
theorem p_X8_make_B20 (C : KX) (l0 : Nat)  (k20 : Int32 → Mo Unit) (hk20 : ∀ s, Cmp C mdX8_make (QM rvV) 20 [(0, .ref (kB C + l0)), (1, .int s)] [] (k20 s)) (l1 : Int32) : Cmp C mdX8_make (QM rvV) 20 [(0, .ref (kB C + l0)), (1, .int l1)] [] (m_X8_make_B20 l0 k20 l1) := by
  unfold m_X8_make_B20
  refine C_iload_n (D := mdX8_make) (pc' := 21) (x := l1) dX8_make_20 rfl 1 rfl ?_
  refine C_aload_n (D := mdX8_make) (pc' := 22) (x := kB C + l0) dX8_make_21 rfl 0 rfl ?_
  refine C_getI (D := mdX8_make) (pc' := 25) (p := l0) f_X8_52 rfl dX8_make_22 rfl (fun wordMany2 => ?_)
  refine C_icmp_ge (D := mdX8_make) (pc' := 28) (tgt := 69) dX8_make_25 (by decide) rfl ?_ ?_
  · refine C_iconst (D := mdX8_make) (pc' := 70) (v := 0) dX8_make_69 rfl (by decide) ?_
    refine C_istore_n (D := mdX8_make) (pc' := 71) (ls' := [(1, .int 0), (0, .ref (kB C + l0))]) dX8_make_70 rfl rfl (by decide) rfl ?_
    exact C_sub [1, 0] rfl (C_loop (fun s => [(0, .ref (kB C + l0)), (1, .int s)]) (fun k hk s => p_X8_make_B71 C l0  k hk s) FU 0)
  · refine C_iconst (D := mdX8_make) (pc' := 29) (v := 1) dX8_make_28 rfl (by decide) ?_
    refine C_istore_n (D := mdX8_make) (pc' := 30) (ls' := [(2, .int 1), (0, .ref (kB C + l0)), (1, .int l1)]) dX8_make_29 rfl rfl (by decide) rfl ?_
    exact C_sub [1, 2, 0] rfl (C_loop (fun s => [(0, .ref (kB C + l0)), (1, .int l1), (2, .int s)]) (fun k hk s => p_X8_make_B30 C l0 l1 k20 hk20 k hk s) FU 1)
set_option maxHeartbeats 2000000 in
set_option maxRecDepth 20000 in
theorem i_X8_make (C : KX) (l0 : Nat) : Imp C yX8_make cX8_make 5 none 4 92 rvV [.ref (kB C + l0)] (m_X8_make l0) := by
  refine Imp.of (by decide) (Nat.le_of_ble_eq_true rfl) [(0, .ref (kB C + l0))] rfl ?_
  show Cmp C mdX8_make (QM rvV) 0 [(0, .ref (kB C + l0))] [] (m_X8_make l0)
  unfold m_X8_make
  refine C_aload_n (D := mdX8_make) (pc' := 1) (x := kB C + l0) dX8_make_0 rfl 0 rfl ?_
  refine C_aload_n (D := mdX8_make) (pc' := 2) (x := kB C + l0) dX8_make_1 rfl 0 rfl ?_
  refine C_getR (D := mdX8_make) (pc' := 5) (p := l0) f_X8_87 rfl dX8_make_2 rfl (fun now1 => ?_)
  refine C_callV (D := mdX8_make) (pc' := 8) (p := l0) (st := []) [.ref (kB C + now1)] v_X8_90 (i_X8_layWords C l0 now1) dX8_make_5 rfl rfl rfl (Nat.le_of_ble_eq_true rfl) (by decide) (by decide) (fun _ => ?_)
  refine C_aload_n (D := mdX8_make) (pc' := 9) (x := kB C + l0) dX8_make_8 rfl 0 rfl ?_
  refine C_iconst (D := mdX8_make) (pc' := 10) (v := 0) dX8_make_9 rfl (by decide) ?_
  refine C_putI (D := mdX8_make) (pc' := 13) (p := l0) f_X8_73 rfl dX8_make_10 rfl ?_
  refine C_aload_n (D := mdX8_make) (pc' := 14) (x := kB C + l0) dX8_make_13 rfl 0 rfl ?_
  refine C_iconst (D := mdX8_make) (pc' := 15) (v := 0) dX8_make_14 rfl (by decide) ?_
  refine C_callV (D := mdX8_make) (pc' := 18) (p := l0) (st := []) [.int 0] v_X8_94 (i_X8_addNode C l0 0) dX8_make_15 rfl rfl rfl (Nat.le_of_ble_eq_true rfl) (by decide) (by decide) (fun _ => ?_)
  refine C_iconst (D := mdX8_make) (pc' := 19) (v := 0) dX8_make_18 rfl (by decide) ?_
  refine C_istore_n (D := mdX8_make) (pc' := 20) (ls' := [(1, .int 0), (0, .ref (kB C + l0))]) dX8_make_19 rfl rfl (by decide) rfl ?_
  exact C_sub [1, 0] rfl (C_loop (fun s => [(0, .ref (kB C + l0)), (1, .int s)]) (fun k hk s => p_X8_make_B20 C l0  k hk s) FU 0)

-- StandingQueriesModel.<init>()V
theorem dX8_init_0 : decode cX8_init 0 = .ok (.aload_n 0, 1) := by decide +kernel
theorem dX8_init_1 : decode cX8_init 1 = .ok (.invokespecial 115, 3) := by decide +kernel
theorem dX8_init_4 : decode cX8_init 4 = .ok (.aload_n 0, 1) := by decide +kernel
theorem dX8_init_5 : decode cX8_init 5 = .ok (.sipush 150, 3) := by decide +kernel
theorem dX8_init_8 : decode cX8_init 8 = .ok (.newarray .int, 2) := by decide +kernel
theorem dX8_init_10 : decode cX8_init 10 = .ok (.putfield 16, 3) := by decide +kernel
theorem dX8_init_13 : decode cX8_init 13 = .ok (.aload_n 0, 1) := by decide +kernel
theorem dX8_init_14 : decode cX8_init 14 = .ok (.sipush 178, 3) := by decide +kernel
theorem dX8_init_17 : decode cX8_init 17 = .ok (.newarray .int, 2) := by decide +kernel
theorem dX8_init_19 : decode cX8_init 19 = .ok (.putfield 87, 3) := by decide +kernel
theorem dX8_init_22 : decode cX8_init 22 = .ok (.aload_n 0, 1) := by decide +kernel
theorem dX8_init_23 : decode cX8_init 23 = .ok (.sipush 178, 3) := by decide +kernel
theorem dX8_init_26 : decode cX8_init 26 = .ok (.newarray .int, 2) := by decide +kernel
theorem dX8_init_28 : decode cX8_init 28 = .ok (.putfield 121, 3) := by decide +kernel
theorem dX8_init_31 : decode cX8_init 31 = .ok (.aload_n 0, 1) := by decide +kernel
theorem dX8_init_32 : decode cX8_init 32 = .ok (.sipush 1780, 3) := by decide +kernel
theorem dX8_init_35 : decode cX8_init 35 = .ok (.newarray .int, 2) := by decide +kernel
theorem dX8_init_37 : decode cX8_init 37 = .ok (.putfield 124, 3) := by decide +kernel
theorem dX8_init_40 : decode cX8_init 40 = .ok (.aload_n 0, 1) := by decide +kernel
theorem dX8_init_41 : decode cX8_init 41 = .ok (.iconst 2, 1) := by decide +kernel
theorem dX8_init_42 : decode cX8_init 42 = .ok (.newarray .boolean, 2) := by decide +kernel
theorem dX8_init_44 : decode cX8_init 44 = .ok (.putfield 127, 3) := by decide +kernel
theorem dX8_init_47 : decode cX8_init 47 = .ok (.aload_n 0, 1) := by decide +kernel
theorem dX8_init_48 : decode cX8_init 48 = .ok (.sipush 356, 3) := by decide +kernel
theorem dX8_init_51 : decode cX8_init 51 = .ok (.newarray .int, 2) := by decide +kernel
theorem dX8_init_53 : decode cX8_init 53 = .ok (.putfield 131, 3) := by decide +kernel
theorem dX8_init_56 : decode cX8_init 56 = .ok (.aload_n 0, 1) := by decide +kernel
theorem dX8_init_57 : decode cX8_init 57 = .ok (.bipush 64, 2) := by decide +kernel
theorem dX8_init_59 : decode cX8_init 59 = .ok (.newarray .int, 2) := by decide +kernel
theorem dX8_init_61 : decode cX8_init 61 = .ok (.putfield 55, 3) := by decide +kernel
theorem dX8_init_64 : decode cX8_init 64 = .ok (.aload_n 0, 1) := by decide +kernel
theorem dX8_init_65 : decode cX8_init 65 = .ok (.bipush 100, 2) := by decide +kernel
theorem dX8_init_67 : decode cX8_init 67 = .ok (.newarray .int, 2) := by decide +kernel
theorem dX8_init_69 : decode cX8_init 69 = .ok (.putfield 76, 3) := by decide +kernel
theorem dX8_init_72 : decode cX8_init 72 = .ok (.aload_n 0, 1) := by decide +kernel
theorem dX8_init_73 : decode cX8_init 73 = .ok (.bipush 100, 2) := by decide +kernel
theorem dX8_init_75 : decode cX8_init 75 = .ok (.newarray .int, 2) := by decide +kernel
theorem dX8_init_77 : decode cX8_init 77 = .ok (.putfield 100, 3) := by decide +kernel
theorem dX8_init_80 : decode cX8_init 80 = .ok (.aload_n 0, 1) := by decide +kernel
theorem dX8_init_81 : decode cX8_init 81 = .ok (.bipush 100, 2) := by decide +kernel
theorem dX8_init_83 : decode cX8_init 83 = .ok (.newarray .int, 2) := by decide +kernel
theorem dX8_init_85 : decode cX8_init 85 = .ok (.putfield 106, 3) := by decide +kernel
theorem dX8_init_88 : decode cX8_init 88 = .ok (.aload_n 0, 1) := by decide +kernel
theorem dX8_init_89 : decode cX8_init 89 = .ok (.sipush 800, 3) := by decide +kernel
theorem dX8_init_92 : decode cX8_init 92 = .ok (.newarray .int, 2) := by decide +kernel
theorem dX8_init_94 : decode cX8_init 94 = .ok (.putfield 109, 3) := by decide +kernel
theorem dX8_init_97 : decode cX8_init 97 = .ok (.aload_n 0, 1) := by decide +kernel
theorem dX8_init_98 : decode cX8_init 98 = .ok (.bipush 40, 2) := by decide +kernel
theorem dX8_init_100 : decode cX8_init 100 = .ok (.newarray .int, 2) := by decide +kernel
theorem dX8_init_102 : decode cX8_init 102 = .ok (.putfield 134, 3) := by decide +kernel
theorem dX8_init_105 : decode cX8_init 105 = .ok (.aload_n 0, 1) := by decide +kernel
theorem dX8_init_106 : decode cX8_init 106 = .ok (.sipush 15520, 3) := by decide +kernel
theorem dX8_init_109 : decode cX8_init 109 = .ok (.newarray .long, 2) := by decide +kernel
theorem dX8_init_111 : decode cX8_init 111 = .ok (.putfield 137, 3) := by decide +kernel
theorem dX8_init_114 : decode cX8_init 114 = .ok (.aload_n 0, 1) := by decide +kernel
theorem dX8_init_115 : decode cX8_init 115 = .ok (.sipush 15520, 3) := by decide +kernel
theorem dX8_init_118 : decode cX8_init 118 = .ok (.newarray .long, 2) := by decide +kernel
theorem dX8_init_120 : decode cX8_init 120 = .ok (.putfield 141, 3) := by decide +kernel
theorem dX8_init_123 : decode cX8_init 123 = .ok (.aload_n 0, 1) := by decide +kernel
theorem dX8_init_124 : decode cX8_init 124 = .ok (.invokevirtual 144, 3) := by decide +kernel
theorem dX8_init_127 : decode cX8_init 127 = .ok (.return_, 1) := by decide +kernel
abbrev mdX8_init : MD := (cX8_init, RX8, 1, none, yX8_init.name, 5, 116, eT)
set_option maxHeartbeats 2000000 in
set_option maxRecDepth 20000 in
theorem i_X8_init (C : KX) (l0 : Nat) : Imp C yX8_init cX8_init 1 none 5 116 rvV [.ref (kB C + l0)] (m_X8_init l0) := by
  refine Imp.of (by decide) (Nat.le_of_ble_eq_true rfl) [(0, .ref (kB C + l0))] rfl ?_
  show Cmp C mdX8_init (QM rvV) 0 [(0, .ref (kB C + l0))] [] (m_X8_init l0)
  unfold m_X8_init
  refine C_aload_n (D := mdX8_init) (pc' := 1) (x := kB C + l0) dX8_init_0 rfl 0 rfl ?_
  refine C_objInit (D := mdX8_init) (pc' := 4) (p := l0) oi_X8_115 oi_i oi_c dX8_init_1 rfl (by decide) (Nat.le_of_ble_eq_true rfl) ?_
  refine C_aload_n (D := mdX8_init) (pc' := 5) (x := kB C + l0) dX8_init_4 rfl 0 rfl ?_
  refine C_sipush (D := mdX8_init) (pc' := 8) (v := 150) dX8_init_5 rfl (by decide) ?_
  refine C_newarr (D := mdX8_init) (pc' := 10) (kd := 100) (by decide) ac_int dX8_init_8 rfl (fun p1 => ?_)
  refine C_putR (D := mdX8_init) (pc' := 13) (p := l0) (q := p1) f_X8_16 (by first | exact Or.inl rfl | exact Or.inr ⟨rfl, rfl⟩) rfl dX8_init_10 rfl ?_
  refine C_aload_n (D := mdX8_init) (pc' := 14) (x := kB C + l0) dX8_init_13 rfl 0 rfl ?_
  refine C_sipush (D := mdX8_init) (pc' := 17) (v := 178) dX8_init_14 rfl (by decide) ?_
  refine C_newarr (D := mdX8_init) (pc' := 19) (kd := 100) (by decide) ac_int dX8_init_17 rfl (fun p2 => ?_)
  refine C_putR (D := mdX8_init) (pc' := 22) (p := l0) (q := p2) f_X8_87 (by first | exact Or.inl rfl | exact Or.inr ⟨rfl, rfl⟩) rfl dX8_init_19 rfl ?_
  refine C_aload_n (D := mdX8_init) (pc' := 23) (x := kB C + l0) dX8_init_22 rfl 0 rfl ?_
  refine C_sipush (D := mdX8_init) (pc' := 26) (v := 178) dX8_init_23 rfl (by decide) ?_
  refine C_newarr (D := mdX8_init) (pc' := 28) (kd := 100) (by decide) ac_int dX8_init_26 rfl (fun p3 => ?_)
  refine C_putR (D := mdX8_init) (pc' := 31) (p := l0) (q := p3) f_X8_121 (by first | exact Or.inl rfl | exact Or.inr ⟨rfl, rfl⟩) rfl dX8_init_28 rfl ?_
  refine C_aload_n (D := mdX8_init) (pc' := 32) (x := kB C + l0) dX8_init_31 rfl 0 rfl ?_
  refine C_sipush (D := mdX8_init) (pc' := 35) (v := 1780) dX8_init_32 rfl (by decide) ?_
  refine C_newarr (D := mdX8_init) (pc' := 37) (kd := 100) (by decide) ac_int dX8_init_35 rfl (fun p4 => ?_)
  refine C_putR (D := mdX8_init) (pc' := 40) (p := l0) (q := p4) f_X8_124 (by first | exact Or.inl rfl | exact Or.inr ⟨rfl, rfl⟩) rfl dX8_init_37 rfl ?_
  refine C_aload_n (D := mdX8_init) (pc' := 41) (x := kB C + l0) dX8_init_40 rfl 0 rfl ?_
  refine C_iconst (D := mdX8_init) (pc' := 42) (v := 2) dX8_init_41 rfl (by decide) ?_
  refine C_newarr (D := mdX8_init) (pc' := 44) (kd := 102) (by decide) ac_boolean dX8_init_42 rfl (fun p5 => ?_)
  refine C_putR (D := mdX8_init) (pc' := 47) (p := l0) (q := p5) f_X8_127 (by first | exact Or.inl rfl | exact Or.inr ⟨rfl, rfl⟩) rfl dX8_init_44 rfl ?_
  refine C_aload_n (D := mdX8_init) (pc' := 48) (x := kB C + l0) dX8_init_47 rfl 0 rfl ?_
  refine C_sipush (D := mdX8_init) (pc' := 51) (v := 356) dX8_init_48 rfl (by decide) ?_
  refine C_newarr (D := mdX8_init) (pc' := 53) (kd := 100) (by decide) ac_int dX8_init_51 rfl (fun p6 => ?_)
  refine C_putR (D := mdX8_init) (pc' := 56) (p := l0) (q := p6) f_X8_131 (by first | exact Or.inl rfl | exact Or.inr ⟨rfl, rfl⟩) rfl dX8_init_53 rfl ?_
  refine C_aload_n (D := mdX8_init) (pc' := 57) (x := kB C + l0) dX8_init_56 rfl 0 rfl ?_
  refine C_bipush (D := mdX8_init) (pc' := 59) (v := 64) dX8_init_57 rfl (by decide) ?_
  refine C_newarr (D := mdX8_init) (pc' := 61) (kd := 100) (by decide) ac_int dX8_init_59 rfl (fun p7 => ?_)
  refine C_putR (D := mdX8_init) (pc' := 64) (p := l0) (q := p7) f_X8_55 (by first | exact Or.inl rfl | exact Or.inr ⟨rfl, rfl⟩) rfl dX8_init_61 rfl ?_
  refine C_aload_n (D := mdX8_init) (pc' := 65) (x := kB C + l0) dX8_init_64 rfl 0 rfl ?_
  refine C_bipush (D := mdX8_init) (pc' := 67) (v := 100) dX8_init_65 rfl (by decide) ?_
  refine C_newarr (D := mdX8_init) (pc' := 69) (kd := 100) (by decide) ac_int dX8_init_67 rfl (fun p8 => ?_)
  refine C_putR (D := mdX8_init) (pc' := 72) (p := l0) (q := p8) f_X8_76 (by first | exact Or.inl rfl | exact Or.inr ⟨rfl, rfl⟩) rfl dX8_init_69 rfl ?_
  refine C_aload_n (D := mdX8_init) (pc' := 73) (x := kB C + l0) dX8_init_72 rfl 0 rfl ?_
  refine C_bipush (D := mdX8_init) (pc' := 75) (v := 100) dX8_init_73 rfl (by decide) ?_
  refine C_newarr (D := mdX8_init) (pc' := 77) (kd := 100) (by decide) ac_int dX8_init_75 rfl (fun p9 => ?_)
  refine C_putR (D := mdX8_init) (pc' := 80) (p := l0) (q := p9) f_X8_100 (by first | exact Or.inl rfl | exact Or.inr ⟨rfl, rfl⟩) rfl dX8_init_77 rfl ?_
  refine C_aload_n (D := mdX8_init) (pc' := 81) (x := kB C + l0) dX8_init_80 rfl 0 rfl ?_
  refine C_bipush (D := mdX8_init) (pc' := 83) (v := 100) dX8_init_81 rfl (by decide) ?_
  refine C_newarr (D := mdX8_init) (pc' := 85) (kd := 100) (by decide) ac_int dX8_init_83 rfl (fun p10 => ?_)
  refine C_putR (D := mdX8_init) (pc' := 88) (p := l0) (q := p10) f_X8_106 (by first | exact Or.inl rfl | exact Or.inr ⟨rfl, rfl⟩) rfl dX8_init_85 rfl ?_
  refine C_aload_n (D := mdX8_init) (pc' := 89) (x := kB C + l0) dX8_init_88 rfl 0 rfl ?_
  refine C_sipush (D := mdX8_init) (pc' := 92) (v := 800) dX8_init_89 rfl (by decide) ?_
  refine C_newarr (D := mdX8_init) (pc' := 94) (kd := 100) (by decide) ac_int dX8_init_92 rfl (fun p11 => ?_)
  refine C_putR (D := mdX8_init) (pc' := 97) (p := l0) (q := p11) f_X8_109 (by first | exact Or.inl rfl | exact Or.inr ⟨rfl, rfl⟩) rfl dX8_init_94 rfl ?_
  refine C_aload_n (D := mdX8_init) (pc' := 98) (x := kB C + l0) dX8_init_97 rfl 0 rfl ?_
  refine C_bipush (D := mdX8_init) (pc' := 100) (v := 40) dX8_init_98 rfl (by decide) ?_
  refine C_newarr (D := mdX8_init) (pc' := 102) (kd := 100) (by decide) ac_int dX8_init_100 rfl (fun p12 => ?_)
  refine C_putR (D := mdX8_init) (pc' := 105) (p := l0) (q := p12) f_X8_134 (by first | exact Or.inl rfl | exact Or.inr ⟨rfl, rfl⟩) rfl dX8_init_102 rfl ?_
  refine C_aload_n (D := mdX8_init) (pc' := 106) (x := kB C + l0) dX8_init_105 rfl 0 rfl ?_
  refine C_sipush (D := mdX8_init) (pc' := 109) (v := 15520) dX8_init_106 rfl (by decide) ?_
  refine C_newarr (D := mdX8_init) (pc' := 111) (kd := 101) (by decide) ac_long dX8_init_109 rfl (fun p13 => ?_)
  refine C_putR (D := mdX8_init) (pc' := 114) (p := l0) (q := p13) f_X8_137 (by first | exact Or.inl rfl | exact Or.inr ⟨rfl, rfl⟩) rfl dX8_init_111 rfl ?_
  refine C_aload_n (D := mdX8_init) (pc' := 115) (x := kB C + l0) dX8_init_114 rfl 0 rfl ?_
  refine C_sipush (D := mdX8_init) (pc' := 118) (v := 15520) dX8_init_115 rfl (by decide) ?_
  refine C_newarr (D := mdX8_init) (pc' := 120) (kd := 101) (by decide) ac_long dX8_init_118 rfl (fun p14 => ?_)
  refine C_putR (D := mdX8_init) (pc' := 123) (p := l0) (q := p14) f_X8_141 (by first | exact Or.inl rfl | exact Or.inr ⟨rfl, rfl⟩) rfl dX8_init_120 rfl ?_
  refine C_aload_n (D := mdX8_init) (pc' := 124) (x := kB C + l0) dX8_init_123 rfl 0 rfl ?_
  refine C_callV (D := mdX8_init) (pc' := 127) (p := l0) (st := []) [] v_X8_144 (i_X8_make C l0) dX8_init_124 rfl rfl rfl (Nat.le_of_ble_eq_true rfl) (by decide) (by decide) (fun _ => ?_)
  exact C_vret rfl dX8_init_127

-- StandingQueriesModel.readWord()I
theorem dX8_readWord_0 : decode cX8_readWord 0 = .ok (.aload_n 0, 1) := by decide +kernel
theorem dX8_readWord_1 : decode cX8_readWord 1 = .ok (.invokevirtual 147, 3) := by decide +kernel
theorem dX8_readWord_4 : decode cX8_readWord 4 = .ok (.aload_n 0, 1) := by decide +kernel
theorem dX8_readWord_5 : decode cX8_readWord 5 = .ok (.getfield 37, 3) := by decide +kernel
theorem dX8_readWord_8 : decode cX8_readWord 8 = .ok (.iconst 1, 1) := by decide +kernel
theorem dX8_readWord_9 : decode cX8_readWord 9 = .ok (.if_icmp .ne 12, 3) := by decide +kernel
theorem dX8_readWord_12 : decode cX8_readWord 12 = .ok (.aload_n 0, 1) := by decide +kernel
theorem dX8_readWord_13 : decode cX8_readWord 13 = .ok (.getfield 44, 3) := by decide +kernel
theorem dX8_readWord_16 : decode cX8_readWord 16 = .ok (.bipush 6, 2) := by decide +kernel
theorem dX8_readWord_18 : decode cX8_readWord 18 = .ok (.if_icmp .le 5, 3) := by decide +kernel
theorem dX8_readWord_21 : decode cX8_readWord 21 = .ok (.iconst 0, 1) := by decide +kernel
theorem dX8_readWord_22 : decode cX8_readWord 22 = .ok (.ireturn, 1) := by decide +kernel
theorem dX8_readWord_23 : decode cX8_readWord 23 = .ok (.aload_n 0, 1) := by decide +kernel
theorem dX8_readWord_24 : decode cX8_readWord 24 = .ok (.getfield 44, 3) := by decide +kernel
theorem dX8_readWord_27 : decode cX8_readWord 27 = .ok (.ldc 47, 2) := by decide +kernel
theorem dX8_readWord_29 : decode cX8_readWord 29 = .ok (.imul, 1) := by decide +kernel
theorem dX8_readWord_30 : decode cX8_readWord 30 = .ok (.istore_n 1, 1) := by decide +kernel
theorem dX8_readWord_31 : decode cX8_readWord 31 = .ok (.iconst 0, 1) := by decide +kernel
theorem dX8_readWord_32 : decode cX8_readWord 32 = .ok (.istore_n 2, 1) := by decide +kernel
theorem dX8_readWord_33 : decode cX8_readWord 33 = .ok (.aload_n 0, 1) := by decide +kernel
theorem dX8_readWord_34 : decode cX8_readWord 34 = .ok (.getfield 27, 3) := by decide +kernel
theorem dX8_readWord_37 : decode cX8_readWord 37 = .ok (.istore_n 3, 1) := by decide +kernel
theorem dX8_readWord_38 : decode cX8_readWord 38 = .ok (.iload_n 3, 1) := by decide +kernel
theorem dX8_readWord_39 : decode cX8_readWord 39 = .ok (.aload_n 0, 1) := by decide +kernel
theorem dX8_readWord_40 : decode cX8_readWord 40 = .ok (.getfield 20, 3) := by decide +kernel
theorem dX8_readWord_43 : decode cX8_readWord 43 = .ok (.if_icmp .ge 37, 3) := by decide +kernel
theorem dX8_readWord_46 : decode cX8_readWord 46 = .ok (.aload_n 0, 1) := by decide +kernel
theorem dX8_readWord_47 : decode cX8_readWord 47 = .ok (.getfield 16, 3) := by decide +kernel
theorem dX8_readWord_50 : decode cX8_readWord 50 = .ok (.iload_n 3, 1) := by decide +kernel
theorem dX8_readWord_51 : decode cX8_readWord 51 = .ok (.iaload, 1) := by decide +kernel
theorem dX8_readWord_52 : decode cX8_readWord 52 = .ok (.bipush 104, 2) := by decide +kernel
theorem dX8_readWord_54 : decode cX8_readWord 54 = .ok (.if_icmp .le 5, 3) := by decide +kernel
theorem dX8_readWord_57 : decode cX8_readWord 57 = .ok (.iconst 0, 1) := by decide +kernel
theorem dX8_readWord_58 : decode cX8_readWord 58 = .ok (.ireturn, 1) := by decide +kernel
theorem dX8_readWord_59 : decode cX8_readWord 59 = .ok (.bipush 8, 2) := by decide +kernel
theorem dX8_readWord_61 : decode cX8_readWord 61 = .ok (.iload_n 2, 1) := by decide +kernel
theorem dX8_readWord_62 : decode cX8_readWord 62 = .ok (.imul, 1) := by decide +kernel
theorem dX8_readWord_63 : decode cX8_readWord 63 = .ok (.aload_n 0, 1) := by decide +kernel
theorem dX8_readWord_64 : decode cX8_readWord 64 = .ok (.getfield 16, 3) := by decide +kernel
theorem dX8_readWord_67 : decode cX8_readWord 67 = .ok (.iload_n 3, 1) := by decide +kernel
theorem dX8_readWord_68 : decode cX8_readWord 68 = .ok (.iaload, 1) := by decide +kernel
theorem dX8_readWord_69 : decode cX8_readWord 69 = .ok (.iadd, 1) := by decide +kernel
theorem dX8_readWord_70 : decode cX8_readWord 70 = .ok (.bipush 97, 2) := by decide +kernel
theorem dX8_readWord_72 : decode cX8_readWord 72 = .ok (.isub, 1) := by decide +kernel
theorem dX8_readWord_73 : decode cX8_readWord 73 = .ok (.istore_n 2, 1) := by decide +kernel
theorem dX8_readWord_74 : decode cX8_readWord 74 = .ok (.iinc 3 1, 3) := by decide +kernel
theorem dX8_readWord_77 : decode cX8_readWord 77 = .ok (.goto (-39), 3) := by decide +kernel
theorem dX8_readWord_80 : decode cX8_readWord 80 = .ok (.aload_n 0, 1) := by decide +kernel
theorem dX8_readWord_81 : decode cX8_readWord 81 = .ok (.iload_n 1, 1) := by decide +kernel
theorem dX8_readWord_82 : decode cX8_readWord 82 = .ok (.iload_n 2, 1) := by decide +kernel
theorem dX8_readWord_83 : decode cX8_readWord 83 = .ok (.iadd, 1) := by decide +kernel
theorem dX8_readWord_84 : decode cX8_readWord 84 = .ok (.invokevirtual 69, 3) := by decide +kernel
theorem dX8_readWord_87 : decode cX8_readWord 87 = .ok (.aload_n 0, 1) := by decide +kernel
theorem dX8_readWord_88 : decode cX8_readWord 88 = .ok (.getfield 52, 3) := by decide +kernel
theorem dX8_readWord_91 : decode cX8_readWord 91 = .ok (.bipush 16, 2) := by decide +kernel
theorem dX8_readWord_93 : decode cX8_readWord 93 = .ok (.if_icmp .le 7, 3) := by decide +kernel
theorem dX8_readWord_96 : decode cX8_readWord 96 = .ok (.iconst 0, 1) := by decide +kernel
theorem dX8_readWord_97 : decode cX8_readWord 97 = .ok (.goto 6, 3) := by decide +kernel
theorem dX8_readWord_100 : decode cX8_readWord 100 = .ok (.iload_n 1, 1) := by decide +kernel
theorem dX8_readWord_101 : decode cX8_readWord 101 = .ok (.iload_n 2, 1) := by decide +kernel
theorem dX8_readWord_102 : decode cX8_readWord 102 = .ok (.iadd, 1) := by decide +kernel
theorem dX8_readWord_103 : decode cX8_readWord 103 = .ok (.ireturn, 1) := by decide +kernel
abbrev mdX8_readWord : MD := (cX8_readWord, RX8, 4, (some .int), yX8_readWord.name, 3, 69, eT)
set_option maxHeartbeats 2000000 in
set_option maxRecDepth 20000 in
theorem p_X8_readWord_B38 (C : KX) (l0 : Nat) (l1 : Int32)  (k38 : Int32 × Int32 → Mo Int32) (hk38 : ∀ s, Cmp C mdX8_readWord (QM rvI) 38 [(0, .ref (kB C + l0)), (1, .int l1), (2, .int s.1), (3, .int s.2)] [] (k38 s)) (l2 : Int32) (l3 : Int32) : Cmp C mdX8_readWord (QM rvI) 38 [(0, .ref (kB C + l0)), (1, .int l1), (2, .int l2), (3, .int l3)] [] (m_X8_readWord_B38 l0 l1 k38 l2 l3) := by
  unfold m_X8_readWord_B38
  refine C_iload_n (D := mdX8_readWord) (pc' := 39) (x := l3) dX8_readWord_38 rfl 3 rfl ?_
  refine C_aload_n (D := mdX8_readWord) (pc' := 40) (x := kB C + l0) dX8_readWord_39 rfl 0 rfl ?_
  refine C_getI (D := mdX8_readWord) (pc' := 43) (p := l0) f_X8_20 rfl dX8_readWord_40 rfl (fun cursor6 => ?_)
  refine C_icmp_ge (D := mdX8_readWord) (pc' := 46) (tgt := 80) dX8_readWord_43 (by decide) rfl ?_ ?_
  · refine C_aload_n (D := mdX8_readWord) (pc' := 81) (x := kB C + l0) dX8_readWord_80 rfl 0 rfl ?_
    refine C_iload_n (D := mdX8_readWord) (pc' := 82) (x := l1) dX8_readWord_81 rfl 1 rfl ?_
    refine C_iload_n (D := mdX8_readWord) (pc' := 83) (x := l2) dX8_readWord_82 rfl 2 rfl ?_
    refine C_iadd (D := mdX8_readWord) (pc' := 84) dX8_readWord_83 rfl ?_
    refine C_callV (D := mdX8_readWord) (pc' := 87) (p := l0) (st := []) [.int (l1 + l2)] v_X8_69 (i_X8_addWord C l0 ((l1 + l2))) dX8_readWord_84 rfl rfl rfl (Nat.le_of_ble_eq_true rfl) (by decide) (by decide) (fun _ => ?_)
    refine C_aload_n (D := mdX8_readWord) (pc' := 88) (x := kB C + l0) dX8_readWord_87 rfl 0 rfl ?_
    refine C_getI (D := mdX8_readWord) (pc' := 91) (p := l0) f_X8_52 rfl dX8_readWord_88 rfl (fun wordMany7 => ?_)
    refine C_bipush (D := mdX8_readWord) (pc' := 93) (v := 16) dX8_readWord_91 rfl (by decide) ?_
    refine C_icmp_le (D := mdX8_readWord) (pc' := 96) (tgt := 100) dX8_readWord_93 (by decide) rfl ?_ ?_
    · refine C_iload_n (D := mdX8_readWord) (pc' := 101) (x := l1) dX8_readWord_100 rfl 1 rfl ?_
      refine C_iload_n (D := mdX8_readWord) (pc' := 102) (x := l2) dX8_readWord_101 rfl 2 rfl ?_
      refine C_iadd (D := mdX8_readWord) (pc' := 103) dX8_readWord_102 rfl ?_
      exact C_iret rfl dX8_readWord_103
    · refine C_iconst (D := mdX8_readWord) (pc' := 97) (v := 0) dX8_readWord_96 rfl (by decide) ?_
      refine C_goto (D := mdX8_readWord) (pc' := 103) dX8_readWord_97 (by decide) ?_
      exact C_iret rfl dX8_readWord_103
  · refine C_aload_n (D := mdX8_readWord) (pc' := 47) (x := kB C + l0) dX8_readWord_46 rfl 0 rfl ?_
    refine C_getR (D := mdX8_readWord) (pc' := 50) (p := l0) f_X8_16 rfl dX8_readWord_47 rfl (fun text8 => ?_)
    refine C_iload_n (D := mdX8_readWord) (pc' := 51) (x := l3) dX8_readWord_50 rfl 3 rfl ?_
    refine C_aI (D := mdX8_readWord) (pc' := 52) (p := text8) dX8_readWord_51 rfl (fun x9 => ?_)
    refine C_bipush (D := mdX8_readWord) (pc' := 54) (v := 104) dX8_readWord_52 rfl (by decide) ?_
    refine C_icmp_le (D := mdX8_readWord) (pc' := 57) (tgt := 59) dX8_readWord_54 (by decide) rfl ?_ ?_
    · refine C_bipush (D := mdX8_readWord) (pc' := 61) (v := 8) dX8_readWord_59 rfl (by decide) ?_
      refine C_iload_n (D := mdX8_readWord) (pc' := 62) (x := l2) dX8_readWord_61 rfl 2 rfl ?_
      refine C_imul (D := mdX8_readWord) (pc' := 63) dX8_readWord_62 rfl ?_
      refine C_aload_n (D := mdX8_readWord) (pc' := 64) (x := kB C + l0) dX8_readWord_63 rfl 0 rfl ?_
      refine C_getR (D := mdX8_readWord) (pc' := 67) (p := l0) f_X8_16 rfl dX8_readWord_64 rfl (fun text10 => ?_)
      refine C_iload_n (D := mdX8_readWord) (pc' := 68) (x := l3) dX8_readWord_67 rfl 3 rfl ?_
      refine C_aI (D := mdX8_readWord) (pc' := 69) (p := text10) dX8_readWord_68 rfl (fun x11 => ?_)
      refine C_iadd (D := mdX8_readWord) (pc' := 70) dX8_readWord_69 rfl ?_
      refine C_bipush (D := mdX8_readWord) (pc' := 72) (v := 97) dX8_readWord_70 rfl (by decide) ?_
      refine C_isub (D := mdX8_readWord) (pc' := 73) dX8_readWord_72 rfl ?_
      refine C_letI (fun v12 => ?_)
      refine C_istore_n (D := mdX8_readWord) (pc' := 74) (ls' := [(2, .int v12), (0, .ref (kB C + l0)), (1, .int l1), (3, .int l3)]) dX8_readWord_73 rfl rfl (by decide) rfl ?_
      refine C_iinc (D := mdX8_readWord) (pc' := 77) (j := 3) (v := (l3 + 1)) (ls' := [(3, .int (l3 + 1)), (2, .int v12), (0, .ref (kB C + l0)), (1, .int l1)]) dX8_readWord_74 rfl rfl rfl (by decide) rfl ?_
      refine C_goto (D := mdX8_readWord) (pc' := 38) dX8_readWord_77 (by decide) ?_
      exact C_sub [2, 3, 1, 0] rfl (hk38 (v12, (l3 + 1)))
    · refine C_iconst (D := mdX8_readWord) (pc' := 58) (v := 0) dX8_readWord_57 rfl (by decide) ?_
      exact C_iret rfl dX8_readWord_58
set_option maxHeartbeats 2000000 in
set_option maxRecDepth 20000 in
theorem i_X8_readWord (C : KX) (l0 : Nat) : Imp C yX8_readWord cX8_readWord 4 (some .int) 3 69 rvI [.ref (kB C + l0)] (m_X8_readWord l0) := by
  refine Imp.of (by decide) (Nat.le_of_ble_eq_true rfl) [(0, .ref (kB C + l0))] rfl ?_
  show Cmp C mdX8_readWord (QM rvI) 0 [(0, .ref (kB C + l0))] [] (m_X8_readWord l0)
  unfold m_X8_readWord
  refine C_aload_n (D := mdX8_readWord) (pc' := 1) (x := kB C + l0) dX8_readWord_0 rfl 0 rfl ?_
  refine C_callV (D := mdX8_readWord) (pc' := 4) (p := l0) (st := []) [] v_X8_147 (i_X8_step C l0) dX8_readWord_1 rfl rfl rfl (Nat.le_of_ble_eq_true rfl) (by decide) (by decide) (fun _ => ?_)
  refine C_aload_n (D := mdX8_readWord) (pc' := 5) (x := kB C + l0) dX8_readWord_4 rfl 0 rfl ?_
  refine C_getI (D := mdX8_readWord) (pc' := 8) (p := l0) f_X8_37 rfl dX8_readWord_5 rfl (fun token1 => ?_)
  refine C_iconst (D := mdX8_readWord) (pc' := 9) (v := 1) dX8_readWord_8 rfl (by decide) ?_
  refine C_icmp_ne (D := mdX8_readWord) (pc' := 12) (tgt := 21) dX8_readWord_9 (by decide) rfl ?_ ?_
  · refine C_iconst (D := mdX8_readWord) (pc' := 22) (v := 0) dX8_readWord_21 rfl (by decide) ?_
    exact C_iret rfl dX8_readWord_22
  · refine C_aload_n (D := mdX8_readWord) (pc' := 13) (x := kB C + l0) dX8_readWord_12 rfl 0 rfl ?_
    refine C_getI (D := mdX8_readWord) (pc' := 16) (p := l0) f_X8_44 rfl dX8_readWord_13 rfl (fun size2 => ?_)
    refine C_bipush (D := mdX8_readWord) (pc' := 18) (v := 6) dX8_readWord_16 rfl (by decide) ?_
    refine C_icmp_le (D := mdX8_readWord) (pc' := 21) (tgt := 23) dX8_readWord_18 (by decide) rfl ?_ ?_
    · refine C_aload_n (D := mdX8_readWord) (pc' := 24) (x := kB C + l0) dX8_readWord_23 rfl 0 rfl ?_
      refine C_getI (D := mdX8_readWord) (pc' := 27) (p := l0) f_X8_44 rfl dX8_readWord_24 rfl (fun size3 => ?_)
      refine C_ldc (D := mdX8_readWord) (pc' := 29) (v := 1048576) c_X8_47 dX8_readWord_27 rfl ?_
      refine C_imul (D := mdX8_readWord) (pc' := 30) dX8_readWord_29 rfl ?_
      refine C_letI (fun v4 => ?_)
      refine C_istore_n (D := mdX8_readWord) (pc' := 31) (ls' := [(1, .int v4), (0, .ref (kB C + l0))]) dX8_readWord_30 rfl rfl (by decide) rfl ?_
      refine C_iconst (D := mdX8_readWord) (pc' := 32) (v := 0) dX8_readWord_31 rfl (by decide) ?_
      refine C_istore_n (D := mdX8_readWord) (pc' := 33) (ls' := [(2, .int 0), (1, .int v4), (0, .ref (kB C + l0))]) dX8_readWord_32 rfl rfl (by decide) rfl ?_
      refine C_aload_n (D := mdX8_readWord) (pc' := 34) (x := kB C + l0) dX8_readWord_33 rfl 2 rfl ?_
      refine C_getI (D := mdX8_readWord) (pc' := 37) (p := l0) f_X8_27 rfl dX8_readWord_34 rfl (fun start5 => ?_)
      refine C_istore_n (D := mdX8_readWord) (pc' := 38) (ls' := [(3, .int start5), (2, .int 0), (1, .int v4), (0, .ref (kB C + l0))]) dX8_readWord_37 rfl rfl (by decide) rfl ?_
      exact C_sub [3, 2, 1, 0] rfl (C_loop (fun s => [(0, .ref (kB C + l0)), (1, .int v4), (2, .int s.1), (3, .int s.2)]) (fun k hk s => p_X8_readWord_B38 C l0 v4  k hk s.1 s.2) FU (0, start5))
    · refine C_iconst (D := mdX8_readWord) (pc' := 22) (v := 0) dX8_readWord_21 rfl (by decide) ?_
      exact C_iret rfl dX8_readWord_22

-- StandingQueriesModel.readPart(I)Z
theorem dX8_readPart_0 : decode cX8_readPart 0 = .ok (.aload_n 0, 1) := by decide +kernel
theorem dX8_readPart_1 : decode cX8_readPart 1 = .ok (.getfield 121, 3) := by decide +kernel
theorem dX8_readPart_4 : decode cX8_readPart 4 = .ok (.iconst 0, 1) := by decide +kernel
theorem dX8_readPart_5 : decode cX8_readPart 5 = .ok (.iaload, 1) := by decide +kernel
theorem dX8_readPart_6 : decode cX8_readPart 6 = .ok (.iconst 1, 1) := by decide +kernel
theorem dX8_readPart_7 : decode cX8_readPart 7 = .ok (.isub, 1) := by decide +kernel
theorem dX8_readPart_8 : decode cX8_readPart 8 = .ok (.istore_n 2, 1) := by decide +kernel
theorem dX8_readPart_9 : decode cX8_readPart 9 = .ok (.aload_n 0, 1) := by decide +kernel
theorem dX8_readPart_10 : decode cX8_readPart 10 = .ok (.getfield 121, 3) := by decide +kernel
theorem dX8_readPart_13 : decode cX8_readPart 13 = .ok (.iload_n 2, 1) := by decide +kernel
theorem dX8_readPart_14 : decode cX8_readPart 14 = .ok (.invokestatic 61, 3) := by decide +kernel
theorem dX8_readPart_17 : decode cX8_readPart 17 = .ok (.istore_n 3, 1) := by decide +kernel
theorem dX8_readPart_18 : decode cX8_readPart 18 = .ok (.bipush 42, 2) := by decide +kernel
theorem dX8_readPart_20 : decode cX8_readPart 20 = .ok (.bipush 17, 2) := by decide +kernel
theorem dX8_readPart_22 : decode cX8_readPart 22 = .ok (.iload_n 2, 1) := by decide +kernel
theorem dX8_readPart_23 : decode cX8_readPart 23 = .ok (.imul, 1) := by decide +kernel
theorem dX8_readPart_24 : decode cX8_readPart 24 = .ok (.iadd, 1) := by decide +kernel
theorem dX8_readPart_25 : decode cX8_readPart 25 = .ok (.iconst 1, 1) := by decide +kernel
theorem dX8_readPart_26 : decode cX8_readPart 26 = .ok (.iadd, 1) := by decide +kernel
theorem dX8_readPart_27 : decode cX8_readPart 27 = .ok (.iconst 4, 1) := by decide +kernel
theorem dX8_readPart_28 : decode cX8_readPart 28 = .ok (.iload_n 3, 1) := by decide +kernel
theorem dX8_readPart_29 : decode cX8_readPart 29 = .ok (.imul, 1) := by decide +kernel
theorem dX8_readPart_30 : decode cX8_readPart 30 = .ok (.iadd, 1) := by decide +kernel
theorem dX8_readPart_31 : decode cX8_readPart 31 = .ok (.istore 4, 2) := by decide +kernel
theorem dX8_readPart_33 : decode cX8_readPart 33 = .ok (.aload_n 0, 1) := by decide +kernel
theorem dX8_readPart_34 : decode cX8_readPart 34 = .ok (.invokevirtual 150, 3) := by decide +kernel
theorem dX8_readPart_37 : decode cX8_readPart 37 = .ok (.istore 5, 2) := by decide +kernel
theorem dX8_readPart_39 : decode cX8_readPart 39 = .ok (.iload 5, 2) := by decide +kernel
theorem dX8_readPart_41 : decode cX8_readPart 41 = .ok (.ifCond .ne 5, 3) := by decide +kernel
theorem dX8_readPart_44 : decode cX8_readPart 44 = .ok (.iconst 0, 1) := by decide +kernel
theorem dX8_readPart_45 : decode cX8_readPart 45 = .ok (.ireturn, 1) := by decide +kernel
theorem dX8_readPart_46 : decode cX8_readPart 46 = .ok (.iload_n 1, 1) := by decide +kernel
theorem dX8_readPart_47 : decode cX8_readPart 47 = .ok (.iconst 2, 1) := by decide +kernel
theorem dX8_readPart_48 : decode cX8_readPart 48 = .ok (.if_icmp .ne 10, 3) := by decide +kernel
theorem dX8_readPart_51 : decode cX8_readPart 51 = .ok (.aload_n 0, 1) := by decide +kernel
theorem dX8_readPart_52 : decode cX8_readPart 52 = .ok (.invokevirtual 150, 3) := by decide +kernel
theorem dX8_readPart_55 : decode cX8_readPart 55 = .ok (.goto 5, 3) := by decide +kernel
theorem dX8_readPart_58 : decode cX8_readPart 58 = .ok (.iload 5, 2) := by decide +kernel
theorem dX8_readPart_60 : decode cX8_readPart 60 = .ok (.istore 6, 2) := by decide +kernel
theorem dX8_readPart_62 : decode cX8_readPart 62 = .ok (.iload 6, 2) := by decide +kernel
theorem dX8_readPart_64 : decode cX8_readPart 64 = .ok (.ifCond .ne 5, 3) := by decide +kernel
theorem dX8_readPart_67 : decode cX8_readPart 67 = .ok (.iconst 0, 1) := by decide +kernel
theorem dX8_readPart_68 : decode cX8_readPart 68 = .ok (.ireturn, 1) := by decide +kernel
theorem dX8_readPart_69 : decode cX8_readPart 69 = .ok (.aload_n 0, 1) := by decide +kernel
theorem dX8_readPart_70 : decode cX8_readPart 70 = .ok (.getfield 121, 3) := by decide +kernel
theorem dX8_readPart_73 : decode cX8_readPart 73 = .ok (.iload 4, 2) := by decide +kernel
theorem dX8_readPart_75 : decode cX8_readPart 75 = .ok (.iload_n 1, 1) := by decide +kernel
theorem dX8_readPart_76 : decode cX8_readPart 76 = .ok (.iastore, 1) := by decide +kernel
theorem dX8_readPart_77 : decode cX8_readPart 77 = .ok (.aload_n 0, 1) := by decide +kernel
theorem dX8_readPart_78 : decode cX8_readPart 78 = .ok (.getfield 121, 3) := by decide +kernel
theorem dX8_readPart_81 : decode cX8_readPart 81 = .ok (.iload 4, 2) := by decide +kernel
theorem dX8_readPart_83 : decode cX8_readPart 83 = .ok (.iconst 1, 1) := by decide +kernel
theorem dX8_readPart_84 : decode cX8_readPart 84 = .ok (.iadd, 1) := by decide +kernel
theorem dX8_readPart_85 : decode cX8_readPart 85 = .ok (.iload 6, 2) := by decide +kernel
theorem dX8_readPart_87 : decode cX8_readPart 87 = .ok (.iastore, 1) := by decide +kernel
theorem dX8_readPart_88 : decode cX8_readPart 88 = .ok (.aload_n 0, 1) := by decide +kernel
theorem dX8_readPart_89 : decode cX8_readPart 89 = .ok (.getfield 121, 3) := by decide +kernel
theorem dX8_readPart_92 : decode cX8_readPart 92 = .ok (.iload 4, 2) := by decide +kernel
theorem dX8_readPart_94 : decode cX8_readPart 94 = .ok (.iconst 2, 1) := by decide +kernel
theorem dX8_readPart_95 : decode cX8_readPart 95 = .ok (.iadd, 1) := by decide +kernel
theorem dX8_readPart_96 : decode cX8_readPart 96 = .ok (.iload_n 1, 1) := by decide +kernel
theorem dX8_readPart_97 : decode cX8_readPart 97 = .ok (.iconst 2, 1) := by decide +kernel
theorem dX8_readPart_98 : decode cX8_readPart 98 = .ok (.if_icmp .ne 8, 3) := by decide +kernel
theorem dX8_readPart_101 : decode cX8_readPart 101 = .ok (.iload 5, 2) := by decide +kernel
theorem dX8_readPart_103 : decode cX8_readPart 103 = .ok (.goto 4, 3) := by decide +kernel
theorem dX8_readPart_106 : decode cX8_readPart 106 = .ok (.iconst 0, 1) := by decide +kernel
theorem dX8_readPart_107 : decode cX8_readPart 107 = .ok (.iastore, 1) := by decide +kernel
theorem dX8_readPart_108 : decode cX8_readPart 108 = .ok (.aload_n 0, 1) := by decide +kernel
theorem dX8_readPart_109 : decode cX8_readPart 109 = .ok (.getfield 121, 3) := by decide +kernel
theorem dX8_readPart_112 : decode cX8_readPart 112 = .ok (.iload 4, 2) := by decide +kernel
theorem dX8_readPart_114 : decode cX8_readPart 114 = .ok (.iconst 3, 1) := by decide +kernel
theorem dX8_readPart_115 : decode cX8_readPart 115 = .ok (.iadd, 1) := by decide +kernel
theorem dX8_readPart_116 : decode cX8_readPart 116 = .ok (.iconst 0, 1) := by decide +kernel
theorem dX8_readPart_117 : decode cX8_readPart 117 = .ok (.iastore, 1) := by decide +kernel
theorem dX8_readPart_118 : decode cX8_readPart 118 = .ok (.iload_n 1, 1) := by decide +kernel
theorem dX8_readPart_119 : decode cX8_readPart 119 = .ok (.iconst 2, 1) := by decide +kernel
theorem dX8_readPart_120 : decode cX8_readPart 120 = .ok (.if_icmp .ne 45, 3) := by decide +kernel
theorem dX8_readPart_123 : decode cX8_readPart 123 = .ok (.aload_n 0, 1) := by decide +kernel
theorem dX8_readPart_124 : decode cX8_readPart 124 = .ok (.invokevirtual 147, 3) := by decide +kernel
theorem dX8_readPart_127 : decode cX8_readPart 127 = .ok (.aload_n 0, 1) := by decide +kernel
theorem dX8_readPart_128 : decode cX8_readPart 128 = .ok (.getfield 37, 3) := by decide +kernel
theorem dX8_readPart_131 : decode cX8_readPart 131 = .ok (.iconst 2, 1) := by decide +kernel
theorem dX8_readPart_132 : decode cX8_readPart 132 = .ok (.if_icmp .ne 18, 3) := by decide +kernel
theorem dX8_readPart_135 : decode cX8_readPart 135 = .ok (.aload_n 0, 1) := by decide +kernel
theorem dX8_readPart_136 : decode cX8_readPart 136 = .ok (.getfield 30, 3) := by decide +kernel
theorem dX8_readPart_139 : decode cX8_readPart 139 = .ok (.i2l, 1) := by decide +kernel
theorem dX8_readPart_140 : decode cX8_readPart 140 = .ok (.lconst 1, 1) := by decide +kernel
theorem dX8_readPart_141 : decode cX8_readPart 141 = .ok (.ldc2_w 154, 3) := by decide +kernel
theorem dX8_readPart_144 : decode cX8_readPart 144 = .ok (.invokestatic 9, 3) := by decide +kernel
theorem dX8_readPart_147 : decode cX8_readPart 147 = .ok (.ifCond .ne 5, 3) := by decide +kernel
theorem dX8_readPart_150 : decode cX8_readPart 150 = .ok (.iconst 0, 1) := by decide +kernel
theorem dX8_readPart_151 : decode cX8_readPart 151 = .ok (.ireturn, 1) := by decide +kernel
theorem dX8_readPart_152 : decode cX8_readPart 152 = .ok (.aload_n 0, 1) := by decide +kernel
theorem dX8_readPart_153 : decode cX8_readPart 153 = .ok (.getfield 121, 3) := by decide +kernel
theorem dX8_readPart_156 : decode cX8_readPart 156 = .ok (.iload 4, 2) := by decide +kernel
theorem dX8_readPart_158 : decode cX8_readPart 158 = .ok (.iconst 3, 1) := by decide +kernel
theorem dX8_readPart_159 : decode cX8_readPart 159 = .ok (.iadd, 1) := by decide +kernel
theorem dX8_readPart_160 : decode cX8_readPart 160 = .ok (.aload_n 0, 1) := by decide +kernel
theorem dX8_readPart_161 : decode cX8_readPart 161 = .ok (.getfield 30, 3) := by decide +kernel
theorem dX8_readPart_164 : decode cX8_readPart 164 = .ok (.iastore, 1) := by decide +kernel
theorem dX8_readPart_165 : decode cX8_readPart 165 = .ok (.aload_n 0, 1) := by decide +kernel
theorem dX8_readPart_166 : decode cX8_readPart 166 = .ok (.getfield 121, 3) := by decide +kernel
theorem dX8_readPart_169 : decode cX8_readPart 169 = .ok (.bipush 42, 2) := by decide +kernel
theorem dX8_readPart_171 : decode cX8_readPart 171 = .ok (.bipush 17, 2) := by decide +kernel
theorem dX8_readPart_173 : decode cX8_readPart 173 = .ok (.iload_n 2, 1) := by decide +kernel
theorem dX8_readPart_174 : decode cX8_readPart 174 = .ok (.imul, 1) := by decide +kernel
theorem dX8_readPart_175 : decode cX8_readPart 175 = .ok (.iadd, 1) := by decide +kernel
theorem dX8_readPart_176 : decode cX8_readPart 176 = .ok (.dup2, 1) := by decide +kernel
theorem dX8_readPart_177 : decode cX8_readPart 177 = .ok (.iaload, 1) := by decide +kernel
theorem dX8_readPart_178 : decode cX8_readPart 178 = .ok (.iconst 1, 1) := by decide +kernel
theorem dX8_readPart_179 : decode cX8_readPart 179 = .ok (.iadd, 1) := by decide +kernel
theorem dX8_readPart_180 : decode cX8_readPart 180 = .ok (.iastore, 1) := by decide +kernel
theorem dX8_readPart_181 : decode cX8_readPart 181 = .ok (.iconst 1, 1) := by decide +kernel
theorem dX8_readPart_182 : decode cX8_readPart 182 = .ok (.ireturn, 1) := by decide +kernel
abbrev mdX8_readPart : MD := (cX8_readPart, RX8, 7, (some .boolean), yX8_readPart.name, 4, 92, eT)
set_option maxHeartbeats 2000000 in
set_option maxRecDepth 20000 in
theorem p_X8_readPart_J165 (C : KX) (l0 : Nat) (l2 : Int32)  : Cmp C mdX8_readPart (QM rvI) 165 [(0, .ref (kB C + l0)), (2, .int l2)] [] (m_X8_readPart_J165 l0 l2) := by
  unfold m_X8_readPart_J165
  refine C_aload_n (D := mdX8_readPart) (pc' := 166) (x := kB C + l0) dX8_readPart_165 rfl 0 rfl ?_
  refine C_getR (D := mdX8_readPart) (pc' := 169) (p := l0) f_X8_121 rfl dX8_readPart_166 rfl (fun fresh12 => ?_)
  refine C_bipush (D := mdX8_readPart) (pc' := 171) (v := 42) dX8_readPart_169 rfl (by decide) ?_
  refine C_bipush (D := mdX8_readPart) (pc' := 173) (v := 17) dX8_readPart_171 rfl (by decide) ?_
  refine C_iload_n (D := mdX8_readPart) (pc' := 174) (x := l2) dX8_readPart_173 rfl 1 rfl ?_
  refine C_imul (D := mdX8_readPart) (pc' := 175) dX8_readPart_174 rfl ?_
  refine C_iadd (D := mdX8_readPart) (pc' := 176) dX8_readPart_175 rfl ?_
  refine C_dup2 (D := mdX8_readPart) (pc' := 177) dX8_readPart_176 rfl rfl rfl ?_
  refine C_aI (D := mdX8_readPart) (pc' := 178) (p := fresh12) dX8_readPart_177 rfl (fun x13 => ?_)
  refine C_iconst (D := mdX8_readPart) (pc' := 179) (v := 1) dX8_readPart_178 rfl (by decide) ?_
  refine C_iadd (D := mdX8_readPart) (pc' := 180) dX8_readPart_179 rfl ?_
  refine C_tI (D := mdX8_readPart) (pc' := 181) (p := fresh12) dX8_readPart_180 rfl ?_
  refine C_iconst (D := mdX8_readPart) (pc' := 182) (v := 1) dX8_readPart_181 rfl (by decide) ?_
  exact C_zret rfl dX8_readPart_182
set_option maxHeartbeats 2000000 in
set_option maxRecDepth 20000 in
theorem p_X8_readPart_J107 (C : KX) (l0 : Nat) (l1 : Int32) (l2 : Int32) (l4 : Int32) (s0 : Int32) (s1 : Int32) (s2 : Nat)  : Cmp C mdX8_readPart (QM rvI) 107 [(0, .ref (kB C + l0)), (1, .int l1), (2, .int l2), (4, .int l4)] [.int s0, .int s1, .ref (kB C + s2)] (m_X8_readPart_J107 l0 l1 l2 l4 s0 s1 s2) := by
  unfold m_X8_readPart_J107
  refine C_tI (D := mdX8_readPart) (pc' := 108) (p := s2) dX8_readPart_107 rfl ?_
  refine C_aload_n (D := mdX8_readPart) (pc' := 109) (x := kB C + l0) dX8_readPart_108 rfl 0 rfl ?_
  refine C_getR (D := mdX8_readPart) (pc' := 112) (p := l0) f_X8_121 rfl dX8_readPart_109 rfl (fun fresh11 => ?_)
  refine C_iload (D := mdX8_readPart) (pc' := 114) (x := l4) dX8_readPart_112 rfl 3 rfl ?_
  refine C_iconst (D := mdX8_readPart) (pc' := 115) (v := 3) dX8_readPart_114 rfl (by decide) ?_
  refine C_iadd (D := mdX8_readPart) (pc' := 116) dX8_readPart_115 rfl ?_
  refine C_iconst (D := mdX8_readPart) (pc' := 117) (v := 0) dX8_readPart_116 rfl (by decide) ?_
  refine C_tI (D := mdX8_readPart) (pc' := 118) (p := fresh11) dX8_readPart_117 rfl ?_
  refine C_iload_n (D := mdX8_readPart) (pc' := 119) (x := l1) dX8_readPart_118 rfl 1 rfl ?_
  refine C_iconst (D := mdX8_readPart) (pc' := 120) (v := 2) dX8_readPart_119 rfl (by decide) ?_
  refine C_icmp_ne (D := mdX8_readPart) (pc' := 123) (tgt := 165) dX8_readPart_120 (by decide) rfl ?_ ?_
  · exact C_sub [0, 2] rfl (p_X8_readPart_J165 C l0 l2)
  · refine C_aload_n (D := mdX8_readPart) (pc' := 124) (x := kB C + l0) dX8_readPart_123 rfl 0 rfl ?_
    refine C_callV (D := mdX8_readPart) (pc' := 127) (p := l0) (st := []) [] v_X8_147 (i_X8_step C l0) dX8_readPart_124 rfl rfl rfl (Nat.le_of_ble_eq_true rfl) (by decide) (by decide) (fun _ => ?_)
    refine C_aload_n (D := mdX8_readPart) (pc' := 128) (x := kB C + l0) dX8_readPart_127 rfl 0 rfl ?_
    refine C_getI (D := mdX8_readPart) (pc' := 131) (p := l0) f_X8_37 rfl dX8_readPart_128 rfl (fun token14 => ?_)
    refine C_iconst (D := mdX8_readPart) (pc' := 132) (v := 2) dX8_readPart_131 rfl (by decide) ?_
    refine C_icmp_ne (D := mdX8_readPart) (pc' := 135) (tgt := 150) dX8_readPart_132 (by decide) rfl ?_ ?_
    · refine C_iconst (D := mdX8_readPart) (pc' := 151) (v := 0) dX8_readPart_150 rfl (by decide) ?_
      exact C_zret rfl dX8_readPart_151
    · refine C_aload_n (D := mdX8_readPart) (pc' := 136) (x := kB C + l0) dX8_readPart_135 rfl 0 rfl ?_
      refine C_getI (D := mdX8_readPart) (pc' := 139) (p := l0) f_X8_30 rfl dX8_readPart_136 rfl (fun value15 => ?_)
      refine C_i2l (D := mdX8_readPart) (pc' := 140) dX8_readPart_139 rfl ?_
      refine C_lconst (D := mdX8_readPart) (pc' := 141) (v := 1) dX8_readPart_140 rfl (by decide) ?_
      refine C_ldc2 (D := mdX8_readPart) (pc' := 144) (v := 9) c_X8_154 dX8_readPart_141 rfl ?_
      refine C_callS (D := mdX8_readPart) (pc' := 147) (st := []) [.long ((value15 : Int32).toInt64), .long 1, .long 9] s_X8_9 (i_X8_in C (((value15 : Int32).toInt64)) 1 9) dX8_readPart_144 rfl rfl rfl (Nat.le_of_ble_eq_true rfl) (by decide) (by decide) (fun c16 => ?_)
      refine C_if_ne (D := mdX8_readPart) (pc' := 150) (tgt := 152) dX8_readPart_147 (by decide) rfl ?_ ?_
      · refine C_aload_n (D := mdX8_readPart) (pc' := 153) (x := kB C + l0) dX8_readPart_152 rfl 0 rfl ?_
        refine C_getR (D := mdX8_readPart) (pc' := 156) (p := l0) f_X8_121 rfl dX8_readPart_153 rfl (fun fresh17 => ?_)
        refine C_iload (D := mdX8_readPart) (pc' := 158) (x := l4) dX8_readPart_156 rfl 3 rfl ?_
        refine C_iconst (D := mdX8_readPart) (pc' := 159) (v := 3) dX8_readPart_158 rfl (by decide) ?_
        refine C_iadd (D := mdX8_readPart) (pc' := 160) dX8_readPart_159 rfl ?_
        refine C_aload_n (D := mdX8_readPart) (pc' := 161) (x := kB C + l0) dX8_readPart_160 rfl 0 rfl ?_
        refine C_getI (D := mdX8_readPart) (pc' := 164) (p := l0) f_X8_30 rfl dX8_readPart_161 rfl (fun value18 => ?_)
        refine C_tI (D := mdX8_readPart) (pc' := 165) (p := fresh17) dX8_readPart_164 rfl ?_
        exact C_sub [0, 2] rfl (p_X8_readPart_J165 C l0 l2)
      · refine C_iconst (D := mdX8_readPart) (pc' := 151) (v := 0) dX8_readPart_150 rfl (by decide) ?_
        exact C_zret rfl dX8_readPart_151
set_option maxHeartbeats 2000000 in
set_option maxRecDepth 20000 in
theorem p_X8_readPart_J60 (C : KX) (l0 : Nat) (l1 : Int32) (l2 : Int32) (l4 : Int32) (l5 : Int32) (s0 : Int32)  : Cmp C mdX8_readPart (QM rvI) 60 [(0, .ref (kB C + l0)), (1, .int l1), (2, .int l2), (4, .int l4), (5, .int l5)] [.int s0] (m_X8_readPart_J60 l0 l1 l2 l4 l5 s0) := by
  unfold m_X8_readPart_J60
  refine C_istore (D := mdX8_readPart) (pc' := 62) (ls' := [(6, .int s0), (0, .ref (kB C + l0)), (1, .int l1), (2, .int l2), (4, .int l4), (5, .int l5)]) dX8_readPart_60 rfl (by decide) rfl ?_
  refine C_iload (D := mdX8_readPart) (pc' := 64) (x := s0) dX8_readPart_62 rfl 0 rfl ?_
  refine C_if_ne (D := mdX8_readPart) (pc' := 67) (tgt := 69) dX8_readPart_64 (by decide) rfl ?_ ?_
  · refine C_aload_n (D := mdX8_readPart) (pc' := 70) (x := kB C + l0) dX8_readPart_69 rfl 1 rfl ?_
    refine C_getR (D := mdX8_readPart) (pc' := 73) (p := l0) f_X8_121 rfl dX8_readPart_70 rfl (fun fresh8 => ?_)
    refine C_iload (D := mdX8_readPart) (pc' := 75) (x := l4) dX8_readPart_73 rfl 4 rfl ?_
    refine C_iload_n (D := mdX8_readPart) (pc' := 76) (x := l1) dX8_readPart_75 rfl 2 rfl ?_
    refine C_tI (D := mdX8_readPart) (pc' := 77) (p := fresh8) dX8_readPart_76 rfl ?_
    refine C_aload_n (D := mdX8_readPart) (pc' := 78) (x := kB C + l0) dX8_readPart_77 rfl 1 rfl ?_
    refine C_getR (D := mdX8_readPart) (pc' := 81) (p := l0) f_X8_121 rfl dX8_readPart_78 rfl (fun fresh9 => ?_)
    refine C_iload (D := mdX8_readPart) (pc' := 83) (x := l4) dX8_readPart_81 rfl 4 rfl ?_
    refine C_iconst (D := mdX8_readPart) (pc' := 84) (v := 1) dX8_readPart_83 rfl (by decide) ?_
    refine C_iadd (D := mdX8_readPart) (pc' := 85) dX8_readPart_84 rfl ?_
    refine C_iload (D := mdX8_readPart) (pc' := 87) (x := s0) dX8_readPart_85 rfl 0 rfl ?_
    refine C_tI (D := mdX8_readPart) (pc' := 88) (p := fresh9) dX8_readPart_87 rfl ?_
    refine C_aload_n (D := mdX8_readPart) (pc' := 89) (x := kB C + l0) dX8_readPart_88 rfl 1 rfl ?_
    refine C_getR (D := mdX8_readPart) (pc' := 92) (p := l0) f_X8_121 rfl dX8_readPart_89 rfl (fun fresh10 => ?_)
    refine C_iload (D := mdX8_readPart) (pc' := 94) (x := l4) dX8_readPart_92 rfl 4 rfl ?_
    refine C_iconst (D := mdX8_readPart) (pc' := 95) (v := 2) dX8_readPart_94 rfl (by decide) ?_
    refine C_iadd (D := mdX8_readPart) (pc' := 96) dX8_readPart_95 rfl ?_
    refine C_iload_n (D := mdX8_readPart) (pc' := 97) (x := l1) dX8_readPart_96 rfl 2 rfl ?_
    refine C_iconst (D := mdX8_readPart) (pc' := 98) (v := 2) dX8_readPart_97 rfl (by decide) ?_
    refine C_icmp_ne (D := mdX8_readPart) (pc' := 101) (tgt := 106) dX8_readPart_98 (by decide) rfl ?_ ?_
    · refine C_iconst (D := mdX8_readPart) (pc' := 107) (v := 0) dX8_readPart_106 rfl (by decide) ?_
      exact C_sub [1, 2, 3, 4] rfl (p_X8_readPart_J107 C l0 l1 l2 l4 0 ((l4 + 2)) fresh10)
    · refine C_iload (D := mdX8_readPart) (pc' := 103) (x := l5) dX8_readPart_101 rfl 5 rfl ?_
      refine C_goto (D := mdX8_readPart) (pc' := 107) dX8_readPart_103 (by decide) ?_
      exact C_sub [1, 2, 3, 4] rfl (p_X8_readPart_J107 C l0 l1 l2 l4 l5 ((l4 + 2)) fresh10)
  · refine C_iconst (D := mdX8_readPart) (pc' := 68) (v := 0) dX8_readPart_67 rfl (by decide) ?_
    exact C_zret rfl dX8_readPart_68
set_option maxHeartbeats 2000000 in
set_option maxRecDepth 20000 in
theorem i_X8_readPart (C : KX) (l0 : Nat) (l1 : Int32) : Imp C yX8_readPart cX8_readPart 7 (some .boolean) 4 92 rvI [.ref (kB C + l0), .int l1] (m_X8_readPart l0 l1) := by
  refine Imp.of (by decide) (Nat.le_of_ble_eq_true rfl) [(0, .ref (kB C + l0)), (1, .int l1)] rfl ?_
  show Cmp C mdX8_readPart (QM rvI) 0 [(0, .ref (kB C + l0)), (1, .int l1)] [] (m_X8_readPart l0 l1)
  unfold m_X8_readPart
  refine C_aload_n (D := mdX8_readPart) (pc' := 1) (x := kB C + l0) dX8_readPart_0 rfl 0 rfl ?_
  refine C_getR (D := mdX8_readPart) (pc' := 4) (p := l0) f_X8_121 rfl dX8_readPart_1 rfl (fun fresh1 => ?_)
  refine C_iconst (D := mdX8_readPart) (pc' := 5) (v := 0) dX8_readPart_4 rfl (by decide) ?_
  refine C_aI (D := mdX8_readPart) (pc' := 6) (p := fresh1) dX8_readPart_5 rfl (fun x2 => ?_)
  refine C_iconst (D := mdX8_readPart) (pc' := 7) (v := 1) dX8_readPart_6 rfl (by decide) ?_
  refine C_isub (D := mdX8_readPart) (pc' := 8) dX8_readPart_7 rfl ?_
  refine C_letI (fun v3 => ?_)
  refine C_istore_n (D := mdX8_readPart) (pc' := 9) (ls' := [(2, .int v3), (0, .ref (kB C + l0)), (1, .int l1)]) dX8_readPart_8 rfl rfl (by decide) rfl ?_
  refine C_aload_n (D := mdX8_readPart) (pc' := 10) (x := kB C + l0) dX8_readPart_9 rfl 1 rfl ?_
  refine C_getR (D := mdX8_readPart) (pc' := 13) (p := l0) f_X8_121 rfl dX8_readPart_10 rfl (fun fresh4 => ?_)
  refine C_iload_n (D := mdX8_readPart) (pc' := 14) (x := v3) dX8_readPart_13 rfl 0 rfl ?_
  refine C_callS (D := mdX8_readPart) (pc' := 17) (st := []) [.ref (kB C + fresh4), .int v3] s_X8_61 (i_X8_parts C fresh4 v3) dX8_readPart_14 rfl rfl rfl (Nat.le_of_ble_eq_true rfl) (by decide) (by decide) (fun c5 => ?_)
  refine C_istore_n (D := mdX8_readPart) (pc' := 18) (ls' := [(3, .int c5), (2, .int v3), (0, .ref (kB C + l0)), (1, .int l1)]) dX8_readPart_17 rfl rfl (by decide) rfl ?_
  refine C_bipush (D := mdX8_readPart) (pc' := 20) (v := 42) dX8_readPart_18 rfl (by decide) ?_
  refine C_bipush (D := mdX8_readPart) (pc' := 22) (v := 17) dX8_readPart_20 rfl (by decide) ?_
  refine C_iload_n (D := mdX8_readPart) (pc' := 23) (x := v3) dX8_readPart_22 rfl 1 rfl ?_
  refine C_imul (D := mdX8_readPart) (pc' := 24) dX8_readPart_23 rfl ?_
  refine C_iadd (D := mdX8_readPart) (pc' := 25) dX8_readPart_24 rfl ?_
  refine C_iconst (D := mdX8_readPart) (pc' := 26) (v := 1) dX8_readPart_25 rfl (by decide) ?_
  refine C_iadd (D := mdX8_readPart) (pc' := 27) dX8_readPart_26 rfl ?_
  refine C_iconst (D := mdX8_readPart) (pc' := 28) (v := 4) dX8_readPart_27 rfl (by decide) ?_
  refine C_iload_n (D := mdX8_readPart) (pc' := 29) (x := c5) dX8_readPart_28 rfl 0 rfl ?_
  refine C_imul (D := mdX8_readPart) (pc' := 30) dX8_readPart_29 rfl ?_
  refine C_iadd (D := mdX8_readPart) (pc' := 31) dX8_readPart_30 rfl ?_
  refine C_letI (fun v6 => ?_)
  refine C_istore (D := mdX8_readPart) (pc' := 33) (ls' := [(4, .int v6), (3, .int c5), (2, .int v3), (0, .ref (kB C + l0)), (1, .int l1)]) dX8_readPart_31 rfl (by decide) rfl ?_
  refine C_aload_n (D := mdX8_readPart) (pc' := 34) (x := kB C + l0) dX8_readPart_33 rfl 3 rfl ?_
  refine C_callV (D := mdX8_readPart) (pc' := 37) (p := l0) (st := []) [] v_X8_150 (i_X8_readWord C l0) dX8_readPart_34 rfl rfl rfl (Nat.le_of_ble_eq_true rfl) (by decide) (by decide) (fun c7 => ?_)
  refine C_istore (D := mdX8_readPart) (pc' := 39) (ls' := [(5, .int c7), (4, .int v6), (3, .int c5), (2, .int v3), (0, .ref (kB C + l0)), (1, .int l1)]) dX8_readPart_37 rfl (by decide) rfl ?_
  refine C_iload (D := mdX8_readPart) (pc' := 41) (x := c7) dX8_readPart_39 rfl 0 rfl ?_
  refine C_if_ne (D := mdX8_readPart) (pc' := 44) (tgt := 46) dX8_readPart_41 (by decide) rfl ?_ ?_
  · refine C_iload_n (D := mdX8_readPart) (pc' := 47) (x := l1) dX8_readPart_46 rfl 5 rfl ?_
    refine C_iconst (D := mdX8_readPart) (pc' := 48) (v := 2) dX8_readPart_47 rfl (by decide) ?_
    refine C_icmp_ne (D := mdX8_readPart) (pc' := 51) (tgt := 58) dX8_readPart_48 (by decide) rfl ?_ ?_
    · refine C_iload (D := mdX8_readPart) (pc' := 60) (x := c7) dX8_readPart_58 rfl 0 rfl ?_
      exact C_sub [4, 5, 3, 1, 0] rfl (p_X8_readPart_J60 C l0 l1 v3 v6 c7 c7)
    · refine C_aload_n (D := mdX8_readPart) (pc' := 52) (x := kB C + l0) dX8_readPart_51 rfl 4 rfl ?_
      refine C_callV (D := mdX8_readPart) (pc' := 55) (p := l0) (st := []) [] v_X8_150 (i_X8_readWord C l0) dX8_readPart_52 rfl rfl rfl (Nat.le_of_ble_eq_true rfl) (by decide) (by decide) (fun c19 => ?_)
      refine C_goto (D := mdX8_readPart) (pc' := 60) dX8_readPart_55 (by decide) ?_
      exact C_sub [4, 5, 3, 1, 0] rfl (p_X8_readPart_J60 C l0 l1 v3 v6 c7 c19)
  · refine C_iconst (D := mdX8_readPart) (pc' := 45) (v := 0) dX8_readPart_44 rfl (by decide) ?_
    exact C_zret rfl dX8_readPart_45

-- StandingQueriesModel.hasNear(I)Z
theorem dX8_hasNear_0 : decode cX8_hasNear 0 = .ok (.iconst 0, 1) := by decide +kernel
theorem dX8_hasNear_1 : decode cX8_hasNear 1 = .ok (.istore_n 2, 1) := by decide +kernel
theorem dX8_hasNear_2 : decode cX8_hasNear 2 = .ok (.iconst 0, 1) := by decide +kernel
theorem dX8_hasNear_3 : decode cX8_hasNear 3 = .ok (.istore_n 3, 1) := by decide +kernel
theorem dX8_hasNear_4 : decode cX8_hasNear 4 = .ok (.iload_n 3, 1) := by decide +kernel
theorem dX8_hasNear_5 : decode cX8_hasNear 5 = .ok (.aload_n 0, 1) := by decide +kernel
theorem dX8_hasNear_6 : decode cX8_hasNear 6 = .ok (.getfield 121, 3) := by decide +kernel
theorem dX8_hasNear_9 : decode cX8_hasNear 9 = .ok (.iload_n 1, 1) := by decide +kernel
theorem dX8_hasNear_10 : decode cX8_hasNear 10 = .ok (.invokestatic 61, 3) := by decide +kernel
theorem dX8_hasNear_13 : decode cX8_hasNear 13 = .ok (.if_icmp .ge 33, 3) := by decide +kernel
theorem dX8_hasNear_16 : decode cX8_hasNear 16 = .ok (.iload_n 2, 1) := by decide +kernel
theorem dX8_hasNear_17 : decode cX8_hasNear 17 = .ok (.ifCond .ne 17, 3) := by decide +kernel
theorem dX8_hasNear_20 : decode cX8_hasNear 20 = .ok (.aload_n 0, 1) := by decide +kernel
theorem dX8_hasNear_21 : decode cX8_hasNear 21 = .ok (.getfield 121, 3) := by decide +kernel
theorem dX8_hasNear_24 : decode cX8_hasNear 24 = .ok (.iload_n 1, 1) := by decide +kernel
theorem dX8_hasNear_25 : decode cX8_hasNear 25 = .ok (.iload_n 3, 1) := by decide +kernel
theorem dX8_hasNear_26 : decode cX8_hasNear 26 = .ok (.iconst 0, 1) := by decide +kernel
theorem dX8_hasNear_27 : decode cX8_hasNear 27 = .ok (.invokestatic 65, 3) := by decide +kernel
theorem dX8_hasNear_30 : decode cX8_hasNear 30 = .ok (.iconst 2, 1) := by decide +kernel
theorem dX8_hasNear_31 : decode cX8_hasNear 31 = .ok (.if_icmp .ne 7, 3) := by decide +kernel
theorem dX8_hasNear_34 : decode cX8_hasNear 34 = .ok (.iconst 1, 1) := by decide +kernel
theorem dX8_hasNear_35 : decode cX8_hasNear 35 = .ok (.goto 4, 3) := by decide +kernel
theorem dX8_hasNear_38 : decode cX8_hasNear 38 = .ok (.iconst 0, 1) := by decide +kernel
theorem dX8_hasNear_39 : decode cX8_hasNear 39 = .ok (.istore_n 2, 1) := by decide +kernel
theorem dX8_hasNear_40 : decode cX8_hasNear 40 = .ok (.iinc 3 1, 3) := by decide +kernel
theorem dX8_hasNear_43 : decode cX8_hasNear 43 = .ok (.goto (-39), 3) := by decide +kernel
theorem dX8_hasNear_46 : decode cX8_hasNear 46 = .ok (.iload_n 2, 1) := by decide +kernel
theorem dX8_hasNear_47 : decode cX8_hasNear 47 = .ok (.ireturn, 1) := by decide +kernel
abbrev mdX8_hasNear : MD := (cX8_hasNear, RX8, 4, (some .boolean), yX8_hasNear.name, 1, 23, eT)
set_option maxHeartbeats 2000000 in
set_option maxRecDepth 20000 in
theorem p_X8_hasNear_J39 (C : KX) (l0 : Nat) (l1 : Int32) (l3 : Int32) (s0 : Int32) (k4 : Int32 × Int32 → Mo Int32) (hk4 : ∀ s, Cmp C mdX8_hasNear (QM rvI) 4 [(0, .ref (kB C + l0)), (1, .int l1), (2, .int s.1), (3, .int s.2)] [] (k4 s)) : Cmp C mdX8_hasNear (QM rvI) 39 [(0, .ref (kB C + l0)), (1, .int l1), (3, .int l3)] [.int s0] (m_X8_hasNear_J39 l0 l1 l3 s0 k4) := by
  unfold m_X8_hasNear_J39
  refine C_istore_n (D := mdX8_hasNear) (pc' := 40) (ls' := [(2, .int s0), (0, .ref (kB C + l0)), (1, .int l1), (3, .int l3)]) dX8_hasNear_39 rfl rfl (by decide) rfl ?_
  refine C_iinc (D := mdX8_hasNear) (pc' := 43) (j := 3) (v := (l3 + 1)) (ls' := [(3, .int (l3 + 1)), (2, .int s0), (0, .ref (kB C + l0)), (1, .int l1)]) dX8_hasNear_40 rfl rfl rfl (by decide) rfl ?_
  refine C_goto (D := mdX8_hasNear) (pc' := 4) dX8_hasNear_43 (by decide) ?_
  exact C_sub [2, 3, 1, 0] rfl (hk4 (s0, (l3 + 1)))
set_option maxHeartbeats 2000000 in
set_option maxRecDepth 20000 in
theorem p_X8_hasNear_J34 (C : KX) (l0 : Nat) (l1 : Int32) (l3 : Int32) (k4 : Int32 × Int32 → Mo Int32) (hk4 : ∀ s, Cmp C mdX8_hasNear (QM rvI) 4 [(0, .ref (kB C + l0)), (1, .int l1), (2, .int s.1), (3, .int s.2)] [] (k4 s)) : Cmp C mdX8_hasNear (QM rvI) 34 [(0, .ref (kB C + l0)), (1, .int l1), (3, .int l3)] [] (m_X8_hasNear_J34 l0 l1 l3 k4) := by
  unfold m_X8_hasNear_J34
  refine C_iconst (D := mdX8_hasNear) (pc' := 35) (v := 1) dX8_hasNear_34 rfl (by decide) ?_
  refine C_goto (D := mdX8_hasNear) (pc' := 39) dX8_hasNear_35 (by decide) ?_
  exact C_sub [0, 1, 2] rfl (p_X8_hasNear_J39 C l0 l1 l3 1 k4 hk4)
set_option maxHeartbeats 2000000 in
set_option maxRecDepth 20000 in
theorem p_X8_hasNear_B4 (C : KX) (l0 : Nat) (l1 : Int32)  (k4 : Int32 × Int32 → Mo Int32) (hk4 : ∀ s, Cmp C mdX8_hasNear (QM rvI) 4 [(0, .ref (kB C + l0)), (1, .int l1), (2, .int s.1), (3, .int s.2)] [] (k4 s)) (l2 : Int32) (l3 : Int32) : Cmp C mdX8_hasNear (QM rvI) 4 [(0, .ref (kB C + l0)), (1, .int l1), (2, .int l2), (3, .int l3)] [] (m_X8_hasNear_B4 l0 l1 k4 l2 l3) := by
  unfold m_X8_hasNear_B4
  refine C_iload_n (D := mdX8_hasNear) (pc' := 5) (x := l3) dX8_hasNear_4 rfl 3 rfl ?_
  refine C_aload_n (D := mdX8_hasNear) (pc' := 6) (x := kB C + l0) dX8_hasNear_5 rfl 0 rfl ?_
  refine C_getR (D := mdX8_hasNear) (pc' := 9) (p := l0) f_X8_121 rfl dX8_hasNear_6 rfl (fun fresh1 => ?_)
  refine C_iload_n (D := mdX8_hasNear) (pc' := 10) (x := l1) dX8_hasNear_9 rfl 1 rfl ?_
  refine C_callS (D := mdX8_hasNear) (pc' := 13) (st := [.int l3]) [.ref (kB C + fresh1), .int l1] s_X8_61 (i_X8_parts C fresh1 l1) dX8_hasNear_10 rfl rfl rfl (Nat.le_of_ble_eq_true rfl) (by decide) (by decide) (fun c2 => ?_)
  refine C_icmp_ge (D := mdX8_hasNear) (pc' := 16) (tgt := 46) dX8_hasNear_13 (by decide) rfl ?_ ?_
  · refine C_iload_n (D := mdX8_hasNear) (pc' := 47) (x := l2) dX8_hasNear_46 rfl 2 rfl ?_
    exact C_zret rfl dX8_hasNear_47
  · refine C_iload_n (D := mdX8_hasNear) (pc' := 17) (x := l2) dX8_hasNear_16 rfl 2 rfl ?_
    refine C_if_ne (D := mdX8_hasNear) (pc' := 20) (tgt := 34) dX8_hasNear_17 (by decide) rfl ?_ ?_
    · exact C_sub [0, 1, 3] rfl (p_X8_hasNear_J34 C l0 l1 l3 k4 hk4)
    · refine C_aload_n (D := mdX8_hasNear) (pc' := 21) (x := kB C + l0) dX8_hasNear_20 rfl 0 rfl ?_
      refine C_getR (D := mdX8_hasNear) (pc' := 24) (p := l0) f_X8_121 rfl dX8_hasNear_21 rfl (fun fresh3 => ?_)
      refine C_iload_n (D := mdX8_hasNear) (pc' := 25) (x := l1) dX8_hasNear_24 rfl 1 rfl ?_
      refine C_iload_n (D := mdX8_hasNear) (pc' := 26) (x := l3) dX8_hasNear_25 rfl 3 rfl ?_
      refine C_iconst (D := mdX8_hasNear) (pc' := 27) (v := 0) dX8_hasNear_26 rfl (by decide) ?_
      refine C_callS (D := mdX8_hasNear) (pc' := 30) (st := []) [.ref (kB C + fresh3), .int l1, .int l3, .int 0] s_X8_65 (i_X8_of C fresh3 l1 l3 0) dX8_hasNear_27 rfl rfl rfl (Nat.le_of_ble_eq_true rfl) (by decide) (by decide) (fun c4 => ?_)
      refine C_iconst (D := mdX8_hasNear) (pc' := 31) (v := 2) dX8_hasNear_30 rfl (by decide) ?_
      refine C_icmp_ne (D := mdX8_hasNear) (pc' := 34) (tgt := 38) dX8_hasNear_31 (by decide) rfl ?_ ?_
      · refine C_iconst (D := mdX8_hasNear) (pc' := 39) (v := 0) dX8_hasNear_38 rfl (by decide) ?_
        exact C_sub [0, 1, 3] rfl (p_X8_hasNear_J39 C l0 l1 l3 0 k4 hk4)
      · exact C_sub [0, 1, 3] rfl (p_X8_hasNear_J34 C l0 l1 l3 k4 hk4)
set_option maxHeartbeats 2000000 in
set_option maxRecDepth 20000 in
theorem i_X8_hasNear (C : KX) (l0 : Nat) (l1 : Int32) : Imp C yX8_hasNear cX8_hasNear 4 (some .boolean) 1 23 rvI [.ref (kB C + l0), .int l1] (m_X8_hasNear l0 l1) := by
  refine Imp.of (by decide) (Nat.le_of_ble_eq_true rfl) [(0, .ref (kB C + l0)), (1, .int l1)] rfl ?_
  show Cmp C mdX8_hasNear (QM rvI) 0 [(0, .ref (kB C + l0)), (1, .int l1)] [] (m_X8_hasNear l0 l1)
  unfold m_X8_hasNear
  refine C_iconst (D := mdX8_hasNear) (pc' := 1) (v := 0) dX8_hasNear_0 rfl (by decide) ?_
  refine C_istore_n (D := mdX8_hasNear) (pc' := 2) (ls' := [(2, .int 0), (0, .ref (kB C + l0)), (1, .int l1)]) dX8_hasNear_1 rfl rfl (by decide) rfl ?_
  refine C_iconst (D := mdX8_hasNear) (pc' := 3) (v := 0) dX8_hasNear_2 rfl (by decide) ?_
  refine C_istore_n (D := mdX8_hasNear) (pc' := 4) (ls' := [(3, .int 0), (2, .int 0), (0, .ref (kB C + l0)), (1, .int l1)]) dX8_hasNear_3 rfl rfl (by decide) rfl ?_
  exact C_sub [2, 3, 1, 0] rfl (C_loop (fun s => [(0, .ref (kB C + l0)), (1, .int l1), (2, .int s.1), (3, .int s.2)]) (fun k hk s => p_X8_hasNear_B4 C l0 l1  k hk s.1 s.2) FU (0, 0))

-- StandingQueriesModel.isWhole()Z
theorem dX8_isWhole_0 : decode cX8_isWhole 0 = .ok (.aload_n 0, 1) := by decide +kernel
theorem dX8_isWhole_1 : decode cX8_isWhole 1 = .ok (.getfield 121, 3) := by decide +kernel
theorem dX8_isWhole_4 : decode cX8_isWhole 4 = .ok (.iconst 0, 1) := by decide +kernel
theorem dX8_isWhole_5 : decode cX8_isWhole 5 = .ok (.iaload, 1) := by decide +kernel
theorem dX8_isWhole_6 : decode cX8_isWhole 6 = .ok (.aload_n 0, 1) := by decide +kernel
theorem dX8_isWhole_7 : decode cX8_isWhole 7 = .ok (.getfield 87, 3) := by decide +kernel
theorem dX8_isWhole_10 : decode cX8_isWhole 10 = .ok (.iconst 0, 1) := by decide +kernel
theorem dX8_isWhole_11 : decode cX8_isWhole 11 = .ok (.iaload, 1) := by decide +kernel
theorem dX8_isWhole_12 : decode cX8_isWhole 12 = .ok (.if_icmp .eq 21, 3) := by decide +kernel
theorem dX8_isWhole_15 : decode cX8_isWhole 15 = .ok (.aload_n 0, 1) := by decide +kernel
theorem dX8_isWhole_16 : decode cX8_isWhole 16 = .ok (.getfield 121, 3) := by decide +kernel
theorem dX8_isWhole_19 : decode cX8_isWhole 19 = .ok (.aload_n 0, 1) := by decide +kernel
theorem dX8_isWhole_20 : decode cX8_isWhole 20 = .ok (.getfield 121, 3) := by decide +kernel
theorem dX8_isWhole_23 : decode cX8_isWhole 23 = .ok (.iconst 0, 1) := by decide +kernel
theorem dX8_isWhole_24 : decode cX8_isWhole 24 = .ok (.iaload, 1) := by decide +kernel
theorem dX8_isWhole_25 : decode cX8_isWhole 25 = .ok (.iconst 1, 1) := by decide +kernel
theorem dX8_isWhole_26 : decode cX8_isWhole 26 = .ok (.isub, 1) := by decide +kernel
theorem dX8_isWhole_27 : decode cX8_isWhole 27 = .ok (.invokestatic 61, 3) := by decide +kernel
theorem dX8_isWhole_30 : decode cX8_isWhole 30 = .ok (.ifCond .le 7, 3) := by decide +kernel
theorem dX8_isWhole_33 : decode cX8_isWhole 33 = .ok (.iconst 1, 1) := by decide +kernel
theorem dX8_isWhole_34 : decode cX8_isWhole 34 = .ok (.goto 4, 3) := by decide +kernel
theorem dX8_isWhole_37 : decode cX8_isWhole 37 = .ok (.iconst 0, 1) := by decide +kernel
theorem dX8_isWhole_38 : decode cX8_isWhole 38 = .ok (.ireturn, 1) := by decide +kernel
abbrev mdX8_isWhole : MD := (cX8_isWhole, RX8, 1, (some .boolean), yX8_isWhole.name, 1, 21, eT)
set_option maxHeartbeats 2000000 in
set_option maxRecDepth 20000 in
theorem p_X8_isWhole_J33 (C : KX)   : Cmp C mdX8_isWhole (QM rvI) 33 [] [] (m_X8_isWhole_J33 ) := by
  unfold m_X8_isWhole_J33
  refine C_iconst (D := mdX8_isWhole) (pc' := 34) (v := 1) dX8_isWhole_33 rfl (by decide) ?_
  refine C_goto (D := mdX8_isWhole) (pc' := 38) dX8_isWhole_34 (by decide) ?_
  exact C_zret rfl dX8_isWhole_38
set_option maxHeartbeats 2000000 in
set_option maxRecDepth 20000 in
theorem i_X8_isWhole (C : KX) (l0 : Nat) : Imp C yX8_isWhole cX8_isWhole 1 (some .boolean) 1 21 rvI [.ref (kB C + l0)] (m_X8_isWhole l0) := by
  refine Imp.of (by decide) (Nat.le_of_ble_eq_true rfl) [(0, .ref (kB C + l0))] rfl ?_
  show Cmp C mdX8_isWhole (QM rvI) 0 [(0, .ref (kB C + l0))] [] (m_X8_isWhole l0)
  unfold m_X8_isWhole
  refine C_aload_n (D := mdX8_isWhole) (pc' := 1) (x := kB C + l0) dX8_isWhole_0 rfl 0 rfl ?_
  refine C_getR (D := mdX8_isWhole) (pc' := 4) (p := l0) f_X8_121 rfl dX8_isWhole_1 rfl (fun fresh1 => ?_)
  refine C_iconst (D := mdX8_isWhole) (pc' := 5) (v := 0) dX8_isWhole_4 rfl (by decide) ?_
  refine C_aI (D := mdX8_isWhole) (pc' := 6) (p := fresh1) dX8_isWhole_5 rfl (fun x2 => ?_)
  refine C_aload_n (D := mdX8_isWhole) (pc' := 7) (x := kB C + l0) dX8_isWhole_6 rfl 0 rfl ?_
  refine C_getR (D := mdX8_isWhole) (pc' := 10) (p := l0) f_X8_87 rfl dX8_isWhole_7 rfl (fun now3 => ?_)
  refine C_iconst (D := mdX8_isWhole) (pc' := 11) (v := 0) dX8_isWhole_10 rfl (by decide) ?_
  refine C_aI (D := mdX8_isWhole) (pc' := 12) (p := now3) dX8_isWhole_11 rfl (fun x4 => ?_)
  refine C_icmp_eq (D := mdX8_isWhole) (pc' := 15) (tgt := 33) dX8_isWhole_12 (by decide) rfl ?_ ?_
  · exact C_sub [] rfl (p_X8_isWhole_J33 C )
  · refine C_aload_n (D := mdX8_isWhole) (pc' := 16) (x := kB C + l0) dX8_isWhole_15 rfl 0 rfl ?_
    refine C_getR (D := mdX8_isWhole) (pc' := 19) (p := l0) f_X8_121 rfl dX8_isWhole_16 rfl (fun fresh5 => ?_)
    refine C_aload_n (D := mdX8_isWhole) (pc' := 20) (x := kB C + l0) dX8_isWhole_19 rfl 0 rfl ?_
    refine C_getR (D := mdX8_isWhole) (pc' := 23) (p := l0) f_X8_121 rfl dX8_isWhole_20 rfl (fun fresh6 => ?_)
    refine C_iconst (D := mdX8_isWhole) (pc' := 24) (v := 0) dX8_isWhole_23 rfl (by decide) ?_
    refine C_aI (D := mdX8_isWhole) (pc' := 25) (p := fresh6) dX8_isWhole_24 rfl (fun x7 => ?_)
    refine C_iconst (D := mdX8_isWhole) (pc' := 26) (v := 1) dX8_isWhole_25 rfl (by decide) ?_
    refine C_isub (D := mdX8_isWhole) (pc' := 27) dX8_isWhole_26 rfl ?_
    refine C_callS (D := mdX8_isWhole) (pc' := 30) (st := []) [.ref (kB C + fresh5), .int (x7 - 1)] s_X8_61 (i_X8_parts C fresh5 ((x7 - 1))) dX8_isWhole_27 rfl rfl rfl (Nat.le_of_ble_eq_true rfl) (by decide) (by decide) (fun c8 => ?_)
    refine C_if_le (D := mdX8_isWhole) (pc' := 33) (tgt := 37) dX8_isWhole_30 (by decide) rfl ?_ ?_
    · refine C_iconst (D := mdX8_isWhole) (pc' := 38) (v := 0) dX8_isWhole_37 rfl (by decide) ?_
      exact C_zret rfl dX8_isWhole_38
    · exact C_sub [] rfl (p_X8_isWhole_J33 C )

-- StandingQueriesModel.readItem()Z
theorem dX8_readItem_0 : decode cX8_readItem 0 = .ok (.aload_n 0, 1) := by decide +kernel
theorem dX8_readItem_1 : decode cX8_readItem 1 = .ok (.bipush 113, 2) := by decide +kernel
theorem dX8_readItem_3 : decode cX8_readItem 3 = .ok (.invokevirtual 156, 3) := by decide +kernel
theorem dX8_readItem_6 : decode cX8_readItem 6 = .ok (.ifCond .eq 69, 3) := by decide +kernel
theorem dX8_readItem_9 : decode cX8_readItem 9 = .ok (.aload_n 0, 1) := by decide +kernel
theorem dX8_readItem_10 : decode cX8_readItem 10 = .ok (.invokevirtual 160, 3) := by decide +kernel
theorem dX8_readItem_13 : decode cX8_readItem 13 = .ok (.ifCond .eq 14, 3) := by decide +kernel
theorem dX8_readItem_16 : decode cX8_readItem 16 = .ok (.aload_n 0, 1) := by decide +kernel
theorem dX8_readItem_17 : decode cX8_readItem 17 = .ok (.getfield 121, 3) := by decide +kernel
theorem dX8_readItem_20 : decode cX8_readItem 20 = .ok (.iconst 0, 1) := by decide +kernel
theorem dX8_readItem_21 : decode cX8_readItem 21 = .ok (.iaload, 1) := by decide +kernel
theorem dX8_readItem_22 : decode cX8_readItem 22 = .ok (.bipush 8, 2) := by decide +kernel
theorem dX8_readItem_24 : decode cX8_readItem 24 = .ok (.if_icmp .ne 5, 3) := by decide +kernel
theorem dX8_readItem_27 : decode cX8_readItem 27 = .ok (.iconst 0, 1) := by decide +kernel
theorem dX8_readItem_28 : decode cX8_readItem 28 = .ok (.ireturn, 1) := by decide +kernel
theorem dX8_readItem_29 : decode cX8_readItem 29 = .ok (.iconst 0, 1) := by decide +kernel
theorem dX8_readItem_30 : decode cX8_readItem 30 = .ok (.istore_n 1, 1) := by decide +kernel
theorem dX8_readItem_31 : decode cX8_readItem 31 = .ok (.iload_n 1, 1) := by decide +kernel
theorem dX8_readItem_32 : decode cX8_readItem 32 = .ok (.bipush 17, 2) := by decide +kernel
theorem dX8_readItem_34 : decode cX8_readItem 34 = .ok (.if_icmp .ge 29, 3) := by decide +kernel
theorem dX8_readItem_37 : decode cX8_readItem 37 = .ok (.aload_n 0, 1) := by decide +kernel
theorem dX8_readItem_38 : decode cX8_readItem 38 = .ok (.getfield 121, 3) := by decide +kernel
theorem dX8_readItem_41 : decode cX8_readItem 41 = .ok (.bipush 42, 2) := by decide +kernel
theorem dX8_readItem_43 : decode cX8_readItem 43 = .ok (.bipush 17, 2) := by decide +kernel
theorem dX8_readItem_45 : decode cX8_readItem 45 = .ok (.aload_n 0, 1) := by decide +kernel
theorem dX8_readItem_46 : decode cX8_readItem 46 = .ok (.getfield 121, 3) := by decide +kernel
theorem dX8_readItem_49 : decode cX8_readItem 49 = .ok (.iconst 0, 1) := by decide +kernel
theorem dX8_readItem_50 : decode cX8_readItem 50 = .ok (.iaload, 1) := by decide +kernel
theorem dX8_readItem_51 : decode cX8_readItem 51 = .ok (.imul, 1) := by decide +kernel
theorem dX8_readItem_52 : decode cX8_readItem 52 = .ok (.iadd, 1) := by decide +kernel
theorem dX8_readItem_53 : decode cX8_readItem 53 = .ok (.iload_n 1, 1) := by decide +kernel
theorem dX8_readItem_54 : decode cX8_readItem 54 = .ok (.iadd, 1) := by decide +kernel
theorem dX8_readItem_55 : decode cX8_readItem 55 = .ok (.iconst 0, 1) := by decide +kernel
theorem dX8_readItem_56 : decode cX8_readItem 56 = .ok (.iastore, 1) := by decide +kernel
theorem dX8_readItem_57 : decode cX8_readItem 57 = .ok (.iinc 1 1, 3) := by decide +kernel
theorem dX8_readItem_60 : decode cX8_readItem 60 = .ok (.goto (-29), 3) := by decide +kernel
theorem dX8_readItem_63 : decode cX8_readItem 63 = .ok (.aload_n 0, 1) := by decide +kernel
theorem dX8_readItem_64 : decode cX8_readItem 64 = .ok (.getfield 121, 3) := by decide +kernel
theorem dX8_readItem_67 : decode cX8_readItem 67 = .ok (.iconst 0, 1) := by decide +kernel
theorem dX8_readItem_68 : decode cX8_readItem 68 = .ok (.dup2, 1) := by decide +kernel
theorem dX8_readItem_69 : decode cX8_readItem 69 = .ok (.iaload, 1) := by decide +kernel
theorem dX8_readItem_70 : decode cX8_readItem 70 = .ok (.iconst 1, 1) := by decide +kernel
theorem dX8_readItem_71 : decode cX8_readItem 71 = .ok (.iadd, 1) := by decide +kernel
theorem dX8_readItem_72 : decode cX8_readItem 72 = .ok (.iastore, 1) := by decide +kernel
theorem dX8_readItem_73 : decode cX8_readItem 73 = .ok (.iconst 1, 1) := by decide +kernel
theorem dX8_readItem_74 : decode cX8_readItem 74 = .ok (.ireturn, 1) := by decide +kernel
theorem dX8_readItem_75 : decode cX8_readItem 75 = .ok (.aload_n 0, 1) := by decide +kernel
theorem dX8_readItem_76 : decode cX8_readItem 76 = .ok (.bipush 104, 2) := by decide +kernel
theorem dX8_readItem_78 : decode cX8_readItem 78 = .ok (.invokevirtual 156, 3) := by decide +kernel
theorem dX8_readItem_81 : decode cX8_readItem 81 = .ok (.ifCond .eq 7, 3) := by decide +kernel
theorem dX8_readItem_84 : decode cX8_readItem 84 = .ok (.iconst 0, 1) := by decide +kernel
theorem dX8_readItem_85 : decode cX8_readItem 85 = .ok (.goto 31, 3) := by decide +kernel
theorem dX8_readItem_88 : decode cX8_readItem 88 = .ok (.aload_n 0, 1) := by decide +kernel
theorem dX8_readItem_89 : decode cX8_readItem 89 = .ok (.bipush 110, 2) := by decide +kernel
theorem dX8_readItem_91 : decode cX8_readItem 91 = .ok (.invokevirtual 156, 3) := by decide +kernel
theorem dX8_readItem_94 : decode cX8_readItem 94 = .ok (.ifCond .eq 7, 3) := by decide +kernel
theorem dX8_readItem_97 : decode cX8_readItem 97 = .ok (.iconst 1, 1) := by decide +kernel
theorem dX8_readItem_98 : decode cX8_readItem 98 = .ok (.goto 18, 3) := by decide +kernel
theorem dX8_readItem_101 : decode cX8_readItem 101 = .ok (.aload_n 0, 1) := by decide +kernel
theorem dX8_readItem_102 : decode cX8_readItem 102 = .ok (.bipush 112, 2) := by decide +kernel
theorem dX8_readItem_104 : decode cX8_readItem 104 = .ok (.invokevirtual 156, 3) := by decide +kernel
theorem dX8_readItem_107 : decode cX8_readItem 107 = .ok (.ifCond .eq 7, 3) := by decide +kernel
theorem dX8_readItem_110 : decode cX8_readItem 110 = .ok (.iconst 2, 1) := by decide +kernel
theorem dX8_readItem_111 : decode cX8_readItem 111 = .ok (.goto 5, 3) := by decide +kernel
theorem dX8_readItem_114 : decode cX8_readItem 114 = .ok (.bipush (-9), 2) := by decide +kernel
theorem dX8_readItem_116 : decode cX8_readItem 116 = .ok (.istore_n 1, 1) := by decide +kernel
theorem dX8_readItem_117 : decode cX8_readItem 117 = .ok (.iload_n 1, 1) := by decide +kernel
theorem dX8_readItem_118 : decode cX8_readItem 118 = .ok (.bipush (-9), 2) := by decide +kernel
theorem dX8_readItem_120 : decode cX8_readItem 120 = .ok (.if_icmp .eq 18, 3) := by decide +kernel
theorem dX8_readItem_123 : decode cX8_readItem 123 = .ok (.aload_n 0, 1) := by decide +kernel
theorem dX8_readItem_124 : decode cX8_readItem 124 = .ok (.getfield 121, 3) := by decide +kernel
theorem dX8_readItem_127 : decode cX8_readItem 127 = .ok (.iconst 0, 1) := by decide +kernel
theorem dX8_readItem_128 : decode cX8_readItem 128 = .ok (.iaload, 1) := by decide +kernel
theorem dX8_readItem_129 : decode cX8_readItem 129 = .ok (.aload_n 0, 1) := by decide +kernel
theorem dX8_readItem_130 : decode cX8_readItem 130 = .ok (.getfield 87, 3) := by decide +kernel
theorem dX8_readItem_133 : decode cX8_readItem 133 = .ok (.iconst 0, 1) := by decide +kernel
theorem dX8_readItem_134 : decode cX8_readItem 134 = .ok (.iaload, 1) := by decide +kernel
theorem dX8_readItem_135 : decode cX8_readItem 135 = .ok (.if_icmp .ne 5, 3) := by decide +kernel
theorem dX8_readItem_138 : decode cX8_readItem 138 = .ok (.iconst 0, 1) := by decide +kernel
theorem dX8_readItem_139 : decode cX8_readItem 139 = .ok (.ireturn, 1) := by decide +kernel
theorem dX8_readItem_140 : decode cX8_readItem 140 = .ok (.aload_n 0, 1) := by decide +kernel
theorem dX8_readItem_141 : decode cX8_readItem 141 = .ok (.getfield 121, 3) := by decide +kernel
theorem dX8_readItem_144 : decode cX8_readItem 144 = .ok (.iconst 0, 1) := by decide +kernel
theorem dX8_readItem_145 : decode cX8_readItem 145 = .ok (.iaload, 1) := by decide +kernel
theorem dX8_readItem_146 : decode cX8_readItem 146 = .ok (.iconst 1, 1) := by decide +kernel
theorem dX8_readItem_147 : decode cX8_readItem 147 = .ok (.isub, 1) := by decide +kernel
theorem dX8_readItem_148 : decode cX8_readItem 148 = .ok (.istore_n 2, 1) := by decide +kernel
theorem dX8_readItem_149 : decode cX8_readItem 149 = .ok (.aload_n 0, 1) := by decide +kernel
theorem dX8_readItem_150 : decode cX8_readItem 150 = .ok (.getfield 121, 3) := by decide +kernel
theorem dX8_readItem_153 : decode cX8_readItem 153 = .ok (.iload_n 2, 1) := by decide +kernel
theorem dX8_readItem_154 : decode cX8_readItem 154 = .ok (.invokestatic 61, 3) := by decide +kernel
theorem dX8_readItem_157 : decode cX8_readItem 157 = .ok (.iconst 4, 1) := by decide +kernel
theorem dX8_readItem_158 : decode cX8_readItem 158 = .ok (.if_icmp .ge 28, 3) := by decide +kernel
theorem dX8_readItem_161 : decode cX8_readItem 161 = .ok (.iload_n 1, 1) := by decide +kernel
theorem dX8_readItem_162 : decode cX8_readItem 162 = .ok (.iconst 2, 1) := by decide +kernel
theorem dX8_readItem_163 : decode cX8_readItem 163 = .ok (.if_icmp .ne 11, 3) := by decide +kernel
theorem dX8_readItem_166 : decode cX8_readItem 166 = .ok (.aload_n 0, 1) := by decide +kernel
theorem dX8_readItem_167 : decode cX8_readItem 167 = .ok (.iload_n 2, 1) := by decide +kernel
theorem dX8_readItem_168 : decode cX8_readItem 168 = .ok (.invokevirtual 164, 3) := by decide +kernel
theorem dX8_readItem_171 : decode cX8_readItem 171 = .ok (.ifCond .ne 15, 3) := by decide +kernel
theorem dX8_readItem_174 : decode cX8_readItem 174 = .ok (.aload_n 0, 1) := by decide +kernel
theorem dX8_readItem_175 : decode cX8_readItem 175 = .ok (.iload_n 1, 1) := by decide +kernel
theorem dX8_readItem_176 : decode cX8_readItem 176 = .ok (.invokevirtual 167, 3) := by decide +kernel
theorem dX8_readItem_179 : decode cX8_readItem 179 = .ok (.ifCond .eq 7, 3) := by decide +kernel
theorem dX8_readItem_182 : decode cX8_readItem 182 = .ok (.iconst 1, 1) := by decide +kernel
theorem dX8_readItem_183 : decode cX8_readItem 183 = .ok (.goto 4, 3) := by decide +kernel
theorem dX8_readItem_186 : decode cX8_readItem 186 = .ok (.iconst 0, 1) := by decide +kernel
theorem dX8_readItem_187 : decode cX8_readItem 187 = .ok (.ireturn, 1) := by decide +kernel
abbrev mdX8_readItem : MD := (cX8_readItem, RX8, 3, (some .boolean), yX8_readItem.name, 5, 118, eT)
set_option maxHeartbeats 2000000 in
set_option maxRecDepth 20000 in
theorem p_X8_readItem_J174 (C : KX) (l0 : Nat) (l1 : Int32)  : Cmp C mdX8_readItem (QM rvI) 174 [(0, .ref (kB C + l0)), (1, .int l1)] [] (m_X8_readItem_J174 l0 l1) := by
  unfold m_X8_readItem_J174
  refine C_aload_n (D := mdX8_readItem) (pc' := 175) (x := kB C + l0) dX8_readItem_174 rfl 0 rfl ?_
  refine C_iload_n (D := mdX8_readItem) (pc' := 176) (x := l1) dX8_readItem_175 rfl 1 rfl ?_
  refine C_callV (D := mdX8_readItem) (pc' := 179) (p := l0) (st := []) [.int l1] v_X8_167 (i_X8_readPart C l0 l1) dX8_readItem_176 rfl rfl rfl (Nat.le_of_ble_eq_true rfl) (by decide) (by decide) (fun c14 => ?_)
  refine C_if_eq (D := mdX8_readItem) (pc' := 182) (tgt := 186) dX8_readItem_179 (by decide) rfl ?_ ?_
  · refine C_iconst (D := mdX8_readItem) (pc' := 187) (v := 0) dX8_readItem_186 rfl (by decide) ?_
    exact C_zret rfl dX8_readItem_187
  · refine C_iconst (D := mdX8_readItem) (pc' := 183) (v := 1) dX8_readItem_182 rfl (by decide) ?_
    refine C_goto (D := mdX8_readItem) (pc' := 187) dX8_readItem_183 (by decide) ?_
    exact C_zret rfl dX8_readItem_187
set_option maxHeartbeats 2000000 in
set_option maxRecDepth 20000 in
theorem p_X8_readItem_J116 (C : KX) (l0 : Nat) (s0 : Int32)  : Cmp C mdX8_readItem (QM rvI) 116 [(0, .ref (kB C + l0))] [.int s0] (m_X8_readItem_J116 l0 s0) := by
  unfold m_X8_readItem_J116
  refine C_istore_n (D := mdX8_readItem) (pc' := 117) (ls' := [(1, .int s0), (0, .ref (kB C + l0))]) dX8_readItem_116 rfl rfl (by decide) rfl ?_
  refine C_iload_n (D := mdX8_readItem) (pc' := 118) (x := s0) dX8_readItem_117 rfl 0 rfl ?_
  refine C_bipush (D := mdX8_readItem) (pc' := 120) (v := (-9)) dX8_readItem_118 rfl (by decide) ?_
  refine C_icmp_eq (D := mdX8_readItem) (pc' := 123) (tgt := 138) dX8_readItem_120 (by decide) rfl ?_ ?_
  · refine C_iconst (D := mdX8_readItem) (pc' := 139) (v := 0) dX8_readItem_138 rfl (by decide) ?_
    exact C_zret rfl dX8_readItem_139
  · refine C_aload_n (D := mdX8_readItem) (pc' := 124) (x := kB C + l0) dX8_readItem_123 rfl 1 rfl ?_
    refine C_getR (D := mdX8_readItem) (pc' := 127) (p := l0) f_X8_121 rfl dX8_readItem_124 rfl (fun fresh5 => ?_)
    refine C_iconst (D := mdX8_readItem) (pc' := 128) (v := 0) dX8_readItem_127 rfl (by decide) ?_
    refine C_aI (D := mdX8_readItem) (pc' := 129) (p := fresh5) dX8_readItem_128 rfl (fun x6 => ?_)
    refine C_aload_n (D := mdX8_readItem) (pc' := 130) (x := kB C + l0) dX8_readItem_129 rfl 1 rfl ?_
    refine C_getR (D := mdX8_readItem) (pc' := 133) (p := l0) f_X8_87 rfl dX8_readItem_130 rfl (fun now7 => ?_)
    refine C_iconst (D := mdX8_readItem) (pc' := 134) (v := 0) dX8_readItem_133 rfl (by decide) ?_
    refine C_aI (D := mdX8_readItem) (pc' := 135) (p := now7) dX8_readItem_134 rfl (fun x8 => ?_)
    refine C_icmp_ne (D := mdX8_readItem) (pc' := 138) (tgt := 140) dX8_readItem_135 (by decide) rfl ?_ ?_
    · refine C_aload_n (D := mdX8_readItem) (pc' := 141) (x := kB C + l0) dX8_readItem_140 rfl 1 rfl ?_
      refine C_getR (D := mdX8_readItem) (pc' := 144) (p := l0) f_X8_121 rfl dX8_readItem_141 rfl (fun fresh9 => ?_)
      refine C_iconst (D := mdX8_readItem) (pc' := 145) (v := 0) dX8_readItem_144 rfl (by decide) ?_
      refine C_aI (D := mdX8_readItem) (pc' := 146) (p := fresh9) dX8_readItem_145 rfl (fun x10 => ?_)
      refine C_iconst (D := mdX8_readItem) (pc' := 147) (v := 1) dX8_readItem_146 rfl (by decide) ?_
      refine C_isub (D := mdX8_readItem) (pc' := 148) dX8_readItem_147 rfl ?_
      refine C_letI (fun v11 => ?_)
      refine C_istore_n (D := mdX8_readItem) (pc' := 149) (ls' := [(2, .int v11), (1, .int s0), (0, .ref (kB C + l0))]) dX8_readItem_148 rfl rfl (by decide) rfl ?_
      refine C_aload_n (D := mdX8_readItem) (pc' := 150) (x := kB C + l0) dX8_readItem_149 rfl 2 rfl ?_
      refine C_getR (D := mdX8_readItem) (pc' := 153) (p := l0) f_X8_121 rfl dX8_readItem_150 rfl (fun fresh12 => ?_)
      refine C_iload_n (D := mdX8_readItem) (pc' := 154) (x := v11) dX8_readItem_153 rfl 0 rfl ?_
      refine C_callS (D := mdX8_readItem) (pc' := 157) (st := []) [.ref (kB C + fresh12), .int v11] s_X8_61 (i_X8_parts C fresh12 v11) dX8_readItem_154 rfl rfl rfl (Nat.le_of_ble_eq_true rfl) (by decide) (by decide) (fun c13 => ?_)
      refine C_iconst (D := mdX8_readItem) (pc' := 158) (v := 4) dX8_readItem_157 rfl (by decide) ?_
      refine C_icmp_ge (D := mdX8_readItem) (pc' := 161) (tgt := 186) dX8_readItem_158 (by decide) rfl ?_ ?_
      · refine C_iconst (D := mdX8_readItem) (pc' := 187) (v := 0) dX8_readItem_186 rfl (by decide) ?_
        exact C_zret rfl dX8_readItem_187
      · refine C_iload_n (D := mdX8_readItem) (pc' := 162) (x := s0) dX8_readItem_161 rfl 1 rfl ?_
        refine C_iconst (D := mdX8_readItem) (pc' := 163) (v := 2) dX8_readItem_162 rfl (by decide) ?_
        refine C_icmp_ne (D := mdX8_readItem) (pc' := 166) (tgt := 174) dX8_readItem_163 (by decide) rfl ?_ ?_
        · exact C_sub [2, 1] rfl (p_X8_readItem_J174 C l0 s0)
        · refine C_aload_n (D := mdX8_readItem) (pc' := 167) (x := kB C + l0) dX8_readItem_166 rfl 2 rfl ?_
          refine C_iload_n (D := mdX8_readItem) (pc' := 168) (x := v11) dX8_readItem_167 rfl 0 rfl ?_
          refine C_callV (D := mdX8_readItem) (pc' := 171) (p := l0) (st := []) [.int v11] v_X8_164 (i_X8_hasNear C l0 v11) dX8_readItem_168 rfl rfl rfl (Nat.le_of_ble_eq_true rfl) (by decide) (by decide) (fun c15 => ?_)
          refine C_if_ne (D := mdX8_readItem) (pc' := 174) (tgt := 186) dX8_readItem_171 (by decide) rfl ?_ ?_
          · refine C_iconst (D := mdX8_readItem) (pc' := 187) (v := 0) dX8_readItem_186 rfl (by decide) ?_
            exact C_zret rfl dX8_readItem_187
          · exact C_sub [2, 1] rfl (p_X8_readItem_J174 C l0 s0)
    · refine C_iconst (D := mdX8_readItem) (pc' := 139) (v := 0) dX8_readItem_138 rfl (by decide) ?_
      exact C_zret rfl dX8_readItem_139
set_option maxHeartbeats 2000000 in
set_option maxRecDepth 20000 in
theorem p_X8_readItem_B31 (C : KX) (l0 : Nat)  (k31 : Int32 → Mo Int32) (hk31 : ∀ s, Cmp C mdX8_readItem (QM rvI) 31 [(0, .ref (kB C + l0)), (1, .int s)] [] (k31 s)) (l1 : Int32) : Cmp C mdX8_readItem (QM rvI) 31 [(0, .ref (kB C + l0)), (1, .int l1)] [] (m_X8_readItem_B31 l0 k31 l1) := by
  unfold m_X8_readItem_B31
  refine C_iload_n (D := mdX8_readItem) (pc' := 32) (x := l1) dX8_readItem_31 rfl 1 rfl ?_
  refine C_bipush (D := mdX8_readItem) (pc' := 34) (v := 17) dX8_readItem_32 rfl (by decide) ?_
  refine C_icmp_ge (D := mdX8_readItem) (pc' := 37) (tgt := 63) dX8_readItem_34 (by decide) rfl ?_ ?_
  · refine C_aload_n (D := mdX8_readItem) (pc' := 64) (x := kB C + l0) dX8_readItem_63 rfl 0 rfl ?_
    refine C_getR (D := mdX8_readItem) (pc' := 67) (p := l0) f_X8_121 rfl dX8_readItem_64 rfl (fun fresh19 => ?_)
    refine C_iconst (D := mdX8_readItem) (pc' := 68) (v := 0) dX8_readItem_67 rfl (by decide) ?_
    refine C_dup2 (D := mdX8_readItem) (pc' := 69) dX8_readItem_68 rfl rfl rfl ?_
    refine C_aI (D := mdX8_readItem) (pc' := 70) (p := fresh19) dX8_readItem_69 rfl (fun x20 => ?_)
    refine C_iconst (D := mdX8_readItem) (pc' := 71) (v := 1) dX8_readItem_70 rfl (by decide) ?_
    refine C_iadd (D := mdX8_readItem) (pc' := 72) dX8_readItem_71 rfl ?_
    refine C_tI (D := mdX8_readItem) (pc' := 73) (p := fresh19) dX8_readItem_72 rfl ?_
    refine C_iconst (D := mdX8_readItem) (pc' := 74) (v := 1) dX8_readItem_73 rfl (by decide) ?_
    exact C_zret rfl dX8_readItem_74
  · refine C_aload_n (D := mdX8_readItem) (pc' := 38) (x := kB C + l0) dX8_readItem_37 rfl 0 rfl ?_
    refine C_getR (D := mdX8_readItem) (pc' := 41) (p := l0) f_X8_121 rfl dX8_readItem_38 rfl (fun fresh21 => ?_)
    refine C_bipush (D := mdX8_readItem) (pc' := 43) (v := 42) dX8_readItem_41 rfl (by decide) ?_
    refine C_bipush (D := mdX8_readItem) (pc' := 45) (v := 17) dX8_readItem_43 rfl (by decide) ?_
    refine C_aload_n (D := mdX8_readItem) (pc' := 46) (x := kB C + l0) dX8_readItem_45 rfl 0 rfl ?_
    refine C_getR (D := mdX8_readItem) (pc' := 49) (p := l0) f_X8_121 rfl dX8_readItem_46 rfl (fun fresh22 => ?_)
    refine C_iconst (D := mdX8_readItem) (pc' := 50) (v := 0) dX8_readItem_49 rfl (by decide) ?_
    refine C_aI (D := mdX8_readItem) (pc' := 51) (p := fresh22) dX8_readItem_50 rfl (fun x23 => ?_)
    refine C_imul (D := mdX8_readItem) (pc' := 52) dX8_readItem_51 rfl ?_
    refine C_iadd (D := mdX8_readItem) (pc' := 53) dX8_readItem_52 rfl ?_
    refine C_iload_n (D := mdX8_readItem) (pc' := 54) (x := l1) dX8_readItem_53 rfl 1 rfl ?_
    refine C_iadd (D := mdX8_readItem) (pc' := 55) dX8_readItem_54 rfl ?_
    refine C_iconst (D := mdX8_readItem) (pc' := 56) (v := 0) dX8_readItem_55 rfl (by decide) ?_
    refine C_tI (D := mdX8_readItem) (pc' := 57) (p := fresh21) dX8_readItem_56 rfl ?_
    refine C_iinc (D := mdX8_readItem) (pc' := 60) (j := 1) (v := (l1 + 1)) (ls' := [(1, .int (l1 + 1)), (0, .ref (kB C + l0))]) dX8_readItem_57 rfl rfl rfl (by decide) rfl ?_
    refine C_goto (D := mdX8_readItem) (pc' := 31) dX8_readItem_60 (by decide) ?_
    exact C_sub [1, 0] rfl (hk31 ((l1 + 1)))
set_option maxHeartbeats 2000000 in
set_option maxRecDepth 20000 in
theorem i_X8_readItem (C : KX) (l0 : Nat) : Imp C yX8_readItem cX8_readItem 3 (some .boolean) 5 118 rvI [.ref (kB C + l0)] (m_X8_readItem l0) := by
  refine Imp.of (by decide) (Nat.le_of_ble_eq_true rfl) [(0, .ref (kB C + l0))] rfl ?_
  show Cmp C mdX8_readItem (QM rvI) 0 [(0, .ref (kB C + l0))] [] (m_X8_readItem l0)
  unfold m_X8_readItem
  refine C_aload_n (D := mdX8_readItem) (pc' := 1) (x := kB C + l0) dX8_readItem_0 rfl 0 rfl ?_
  refine C_bipush (D := mdX8_readItem) (pc' := 3) (v := 113) dX8_readItem_1 rfl (by decide) ?_
  refine C_callV (D := mdX8_readItem) (pc' := 6) (p := l0) (st := []) [.int 113] v_X8_156 (i_X8_isName C l0 113) dX8_readItem_3 rfl rfl rfl (Nat.le_of_ble_eq_true rfl) (by decide) (by decide) (fun c1 => ?_)
  refine C_if_eq (D := mdX8_readItem) (pc' := 9) (tgt := 75) dX8_readItem_6 (by decide) rfl ?_ ?_
  · refine C_aload_n (D := mdX8_readItem) (pc' := 76) (x := kB C + l0) dX8_readItem_75 rfl 0 rfl ?_
    refine C_bipush (D := mdX8_readItem) (pc' := 78) (v := 104) dX8_readItem_76 rfl (by decide) ?_
    refine C_callV (D := mdX8_readItem) (pc' := 81) (p := l0) (st := []) [.int 104] v_X8_156 (i_X8_isName C l0 104) dX8_readItem_78 rfl rfl rfl (Nat.le_of_ble_eq_true rfl) (by decide) (by decide) (fun c2 => ?_)
    refine C_if_eq (D := mdX8_readItem) (pc' := 84) (tgt := 88) dX8_readItem_81 (by decide) rfl ?_ ?_
    · refine C_aload_n (D := mdX8_readItem) (pc' := 89) (x := kB C + l0) dX8_readItem_88 rfl 0 rfl ?_
      refine C_bipush (D := mdX8_readItem) (pc' := 91) (v := 110) dX8_readItem_89 rfl (by decide) ?_
      refine C_callV (D := mdX8_readItem) (pc' := 94) (p := l0) (st := []) [.int 110] v_X8_156 (i_X8_isName C l0 110) dX8_readItem_91 rfl rfl rfl (Nat.le_of_ble_eq_true rfl) (by decide) (by decide) (fun c3 => ?_)
      refine C_if_eq (D := mdX8_readItem) (pc' := 97) (tgt := 101) dX8_readItem_94 (by decide) rfl ?_ ?_
      · refine C_aload_n (D := mdX8_readItem) (pc' := 102) (x := kB C + l0) dX8_readItem_101 rfl 0 rfl ?_
        refine C_bipush (D := mdX8_readItem) (pc' := 104) (v := 112) dX8_readItem_102 rfl (by decide) ?_
        refine C_callV (D := mdX8_readItem) (pc' := 107) (p := l0) (st := []) [.int 112] v_X8_156 (i_X8_isName C l0 112) dX8_readItem_104 rfl rfl rfl (Nat.le_of_ble_eq_true rfl) (by decide) (by decide) (fun c4 => ?_)
        refine C_if_eq (D := mdX8_readItem) (pc' := 110) (tgt := 114) dX8_readItem_107 (by decide) rfl ?_ ?_
        · refine C_bipush (D := mdX8_readItem) (pc' := 116) (v := (-9)) dX8_readItem_114 rfl (by decide) ?_
          exact C_sub [0] rfl (p_X8_readItem_J116 C l0 ((-9)))
        · refine C_iconst (D := mdX8_readItem) (pc' := 111) (v := 2) dX8_readItem_110 rfl (by decide) ?_
          refine C_goto (D := mdX8_readItem) (pc' := 116) dX8_readItem_111 (by decide) ?_
          exact C_sub [0] rfl (p_X8_readItem_J116 C l0 2)
      · refine C_iconst (D := mdX8_readItem) (pc' := 98) (v := 1) dX8_readItem_97 rfl (by decide) ?_
        refine C_goto (D := mdX8_readItem) (pc' := 116) dX8_readItem_98 (by decide) ?_
        exact C_sub [0] rfl (p_X8_readItem_J116 C l0 1)
    · refine C_iconst (D := mdX8_readItem) (pc' := 85) (v := 0) dX8_readItem_84 rfl (by decide) ?_
      refine C_goto (D := mdX8_readItem) (pc' := 116) dX8_readItem_85 (by decide) ?_
      exact C_sub [0] rfl (p_X8_readItem_J116 C l0 0)
  · refine C_aload_n (D := mdX8_readItem) (pc' := 10) (x := kB C + l0) dX8_readItem_9 rfl 0 rfl ?_
    refine C_callV (D := mdX8_readItem) (pc' := 13) (p := l0) (st := []) [] v_X8_160 (i_X8_isWhole C l0) dX8_readItem_10 rfl rfl rfl (Nat.le_of_ble_eq_true rfl) (by decide) (by decide) (fun c16 => ?_)
    refine C_if_eq (D := mdX8_readItem) (pc' := 16) (tgt := 27) dX8_readItem_13 (by decide) rfl ?_ ?_
    · refine C_iconst (D := mdX8_readItem) (pc' := 28) (v := 0) dX8_readItem_27 rfl (by decide) ?_
      exact C_zret rfl dX8_readItem_28
    · refine C_aload_n (D := mdX8_readItem) (pc' := 17) (x := kB C + l0) dX8_readItem_16 rfl 0 rfl ?_
      refine C_getR (D := mdX8_readItem) (pc' := 20) (p := l0) f_X8_121 rfl dX8_readItem_17 rfl (fun fresh17 => ?_)
      refine C_iconst (D := mdX8_readItem) (pc' := 21) (v := 0) dX8_readItem_20 rfl (by decide) ?_
      refine C_aI (D := mdX8_readItem) (pc' := 22) (p := fresh17) dX8_readItem_21 rfl (fun x18 => ?_)
      refine C_bipush (D := mdX8_readItem) (pc' := 24) (v := 8) dX8_readItem_22 rfl (by decide) ?_
      refine C_icmp_ne (D := mdX8_readItem) (pc' := 27) (tgt := 29) dX8_readItem_24 (by decide) rfl ?_ ?_
      · refine C_iconst (D := mdX8_readItem) (pc' := 30) (v := 0) dX8_readItem_29 rfl (by decide) ?_
        refine C_istore_n (D := mdX8_readItem) (pc' := 31) (ls' := [(1, .int 0), (0, .ref (kB C + l0))]) dX8_readItem_30 rfl rfl (by decide) rfl ?_
        exact C_sub [1, 0] rfl (C_loop (fun s => [(0, .ref (kB C + l0)), (1, .int s)]) (fun k hk s => p_X8_readItem_B31 C l0  k hk s) FU 0)
      · refine C_iconst (D := mdX8_readItem) (pc' := 28) (v := 0) dX8_readItem_27 rfl (by decide) ?_
        exact C_zret rfl dX8_readItem_28

-- StandingQueriesModel.keepAct()V
theorem dX8_keepAct_0 : decode cX8_keepAct 0 = .ok (.aload_n 0, 1) := by decide +kernel
theorem dX8_keepAct_1 : decode cX8_keepAct 1 = .ok (.getfield 180, 3) := by decide +kernel
theorem dX8_keepAct_4 : decode cX8_keepAct 4 = .ok (.bipush 10, 2) := by decide +kernel
theorem dX8_keepAct_6 : decode cX8_keepAct 6 = .ok (.if_icmp .ne 44, 3) := by decide +kernel
theorem dX8_keepAct_9 : decode cX8_keepAct 9 = .ok (.iconst 0, 1) := by decide +kernel
theorem dX8_keepAct_10 : decode cX8_keepAct 10 = .ok (.istore_n 1, 1) := by decide +kernel
theorem dX8_keepAct_11 : decode cX8_keepAct 11 = .ok (.iload_n 1, 1) := by decide +kernel
theorem dX8_keepAct_12 : decode cX8_keepAct 12 = .ok (.sipush 1602, 3) := by decide +kernel
theorem dX8_keepAct_15 : decode cX8_keepAct 15 = .ok (.if_icmp .ge 25, 3) := by decide +kernel
theorem dX8_keepAct_18 : decode cX8_keepAct 18 = .ok (.aload_n 0, 1) := by decide +kernel
theorem dX8_keepAct_19 : decode cX8_keepAct 19 = .ok (.getfield 124, 3) := by decide +kernel
theorem dX8_keepAct_22 : decode cX8_keepAct 22 = .ok (.iload_n 1, 1) := by decide +kernel
theorem dX8_keepAct_23 : decode cX8_keepAct 23 = .ok (.aload_n 0, 1) := by decide +kernel
theorem dX8_keepAct_24 : decode cX8_keepAct 24 = .ok (.getfield 124, 3) := by decide +kernel
theorem dX8_keepAct_27 : decode cX8_keepAct 27 = .ok (.iload_n 1, 1) := by decide +kernel
theorem dX8_keepAct_28 : decode cX8_keepAct 28 = .ok (.sipush 178, 3) := by decide +kernel
theorem dX8_keepAct_31 : decode cX8_keepAct 31 = .ok (.iadd, 1) := by decide +kernel
theorem dX8_keepAct_32 : decode cX8_keepAct 32 = .ok (.iaload, 1) := by decide +kernel
theorem dX8_keepAct_33 : decode cX8_keepAct 33 = .ok (.iastore, 1) := by decide +kernel
theorem dX8_keepAct_34 : decode cX8_keepAct 34 = .ok (.iinc 1 1, 3) := by decide +kernel
theorem dX8_keepAct_37 : decode cX8_keepAct 37 = .ok (.goto (-26), 3) := by decide +kernel
theorem dX8_keepAct_40 : decode cX8_keepAct 40 = .ok (.aload_n 0, 1) := by decide +kernel
theorem dX8_keepAct_41 : decode cX8_keepAct 41 = .ok (.dup, 1) := by decide +kernel
theorem dX8_keepAct_42 : decode cX8_keepAct 42 = .ok (.getfield 180, 3) := by decide +kernel
theorem dX8_keepAct_45 : decode cX8_keepAct 45 = .ok (.iconst 1, 1) := by decide +kernel
theorem dX8_keepAct_46 : decode cX8_keepAct 46 = .ok (.isub, 1) := by decide +kernel
theorem dX8_keepAct_47 : decode cX8_keepAct 47 = .ok (.putfield 180, 3) := by decide +kernel
theorem dX8_keepAct_50 : decode cX8_keepAct 50 = .ok (.iconst 0, 1) := by decide +kernel
theorem dX8_keepAct_51 : decode cX8_keepAct 51 = .ok (.istore_n 1, 1) := by decide +kernel
theorem dX8_keepAct_52 : decode cX8_keepAct 52 = .ok (.iload_n 1, 1) := by decide +kernel
theorem dX8_keepAct_53 : decode cX8_keepAct 53 = .ok (.sipush 178, 3) := by decide +kernel
theorem dX8_keepAct_56 : decode cX8_keepAct 56 = .ok (.if_icmp .ge 30, 3) := by decide +kernel
theorem dX8_keepAct_59 : decode cX8_keepAct 59 = .ok (.aload_n 0, 1) := by decide +kernel
theorem dX8_keepAct_60 : decode cX8_keepAct 60 = .ok (.getfield 124, 3) := by decide +kernel
theorem dX8_keepAct_63 : decode cX8_keepAct 63 = .ok (.sipush 178, 3) := by decide +kernel
theorem dX8_keepAct_66 : decode cX8_keepAct 66 = .ok (.aload_n 0, 1) := by decide +kernel
theorem dX8_keepAct_67 : decode cX8_keepAct 67 = .ok (.getfield 180, 3) := by decide +kernel
theorem dX8_keepAct_70 : decode cX8_keepAct 70 = .ok (.imul, 1) := by decide +kernel
theorem dX8_keepAct_71 : decode cX8_keepAct 71 = .ok (.iload_n 1, 1) := by decide +kernel
theorem dX8_keepAct_72 : decode cX8_keepAct 72 = .ok (.iadd, 1) := by decide +kernel
theorem dX8_keepAct_73 : decode cX8_keepAct 73 = .ok (.aload_n 0, 1) := by decide +kernel
theorem dX8_keepAct_74 : decode cX8_keepAct 74 = .ok (.getfield 87, 3) := by decide +kernel
theorem dX8_keepAct_77 : decode cX8_keepAct 77 = .ok (.iload_n 1, 1) := by decide +kernel
theorem dX8_keepAct_78 : decode cX8_keepAct 78 = .ok (.iaload, 1) := by decide +kernel
theorem dX8_keepAct_79 : decode cX8_keepAct 79 = .ok (.iastore, 1) := by decide +kernel
theorem dX8_keepAct_80 : decode cX8_keepAct 80 = .ok (.iinc 1 1, 3) := by decide +kernel
theorem dX8_keepAct_83 : decode cX8_keepAct 83 = .ok (.goto (-31), 3) := by decide +kernel
theorem dX8_keepAct_86 : decode cX8_keepAct 86 = .ok (.aload_n 0, 1) := by decide +kernel
theorem dX8_keepAct_87 : decode cX8_keepAct 87 = .ok (.dup, 1) := by decide +kernel
theorem dX8_keepAct_88 : decode cX8_keepAct 88 = .ok (.getfield 180, 3) := by decide +kernel
theorem dX8_keepAct_91 : decode cX8_keepAct 91 = .ok (.iconst 1, 1) := by decide +kernel
theorem dX8_keepAct_92 : decode cX8_keepAct 92 = .ok (.iadd, 1) := by decide +kernel
theorem dX8_keepAct_93 : decode cX8_keepAct 93 = .ok (.putfield 180, 3) := by decide +kernel
theorem dX8_keepAct_96 : decode cX8_keepAct 96 = .ok (.return_, 1) := by decide +kernel
abbrev mdX8_keepAct : MD := (cX8_keepAct, RX8, 2, none, yX8_keepAct.name, 0, 0, eT)
set_option maxHeartbeats 2000000 in
set_option maxRecDepth 20000 in
theorem p_X8_keepAct_B52 (C : KX) (l0 : Nat)  (k52 : Int32 → Mo Unit) (hk52 : ∀ s, Cmp C mdX8_keepAct (QM rvV) 52 [(0, .ref (kB C + l0)), (1, .int s)] [] (k52 s)) (l1 : Int32) : Cmp C mdX8_keepAct (QM rvV) 52 [(0, .ref (kB C + l0)), (1, .int l1)] [] (m_X8_keepAct_B52 l0 k52 l1) := by
  unfold m_X8_keepAct_B52
  refine C_iload_n (D := mdX8_keepAct) (pc' := 53) (x := l1) dX8_keepAct_52 rfl 1 rfl ?_
  refine C_sipush (D := mdX8_keepAct) (pc' := 56) (v := 178) dX8_keepAct_53 rfl (by decide) ?_
  refine C_icmp_ge (D := mdX8_keepAct) (pc' := 59) (tgt := 86) dX8_keepAct_56 (by decide) rfl ?_ ?_
  · refine C_aload_n (D := mdX8_keepAct) (pc' := 87) (x := kB C + l0) dX8_keepAct_86 rfl 0 rfl ?_
    refine C_dup (D := mdX8_keepAct) (pc' := 88) dX8_keepAct_87 rfl rfl ?_
    refine C_getI (D := mdX8_keepAct) (pc' := 91) (p := l0) f_X8_180 rfl dX8_keepAct_88 rfl (fun acts2 => ?_)
    refine C_iconst (D := mdX8_keepAct) (pc' := 92) (v := 1) dX8_keepAct_91 rfl (by decide) ?_
    refine C_iadd (D := mdX8_keepAct) (pc' := 93) dX8_keepAct_92 rfl ?_
    refine C_putI (D := mdX8_keepAct) (pc' := 96) (p := l0) f_X8_180 rfl dX8_keepAct_93 rfl ?_
    exact C_vret rfl dX8_keepAct_96
  · refine C_aload_n (D := mdX8_keepAct) (pc' := 60) (x := kB C + l0) dX8_keepAct_59 rfl 0 rfl ?_
    refine C_getR (D := mdX8_keepAct) (pc' := 63) (p := l0) f_X8_124 rfl dX8_keepAct_60 rfl (fun was3 => ?_)
    refine C_sipush (D := mdX8_keepAct) (pc' := 66) (v := 178) dX8_keepAct_63 rfl (by decide) ?_
    refine C_aload_n (D := mdX8_keepAct) (pc' := 67) (x := kB C + l0) dX8_keepAct_66 rfl 0 rfl ?_
    refine C_getI (D := mdX8_keepAct) (pc' := 70) (p := l0) f_X8_180 rfl dX8_keepAct_67 rfl (fun acts4 => ?_)
    refine C_imul (D := mdX8_keepAct) (pc' := 71) dX8_keepAct_70 rfl ?_
    refine C_iload_n (D := mdX8_keepAct) (pc' := 72) (x := l1) dX8_keepAct_71 rfl 1 rfl ?_
    refine C_iadd (D := mdX8_keepAct) (pc' := 73) dX8_keepAct_72 rfl ?_
    refine C_aload_n (D := mdX8_keepAct) (pc' := 74) (x := kB C + l0) dX8_keepAct_73 rfl 0 rfl ?_
    refine C_getR (D := mdX8_keepAct) (pc' := 77) (p := l0) f_X8_87 rfl dX8_keepAct_74 rfl (fun now5 => ?_)
    refine C_iload_n (D := mdX8_keepAct) (pc' := 78) (x := l1) dX8_keepAct_77 rfl 1 rfl ?_
    refine C_aI (D := mdX8_keepAct) (pc' := 79) (p := now5) dX8_keepAct_78 rfl (fun x6 => ?_)
    refine C_tI (D := mdX8_keepAct) (pc' := 80) (p := was3) dX8_keepAct_79 rfl ?_
    refine C_iinc (D := mdX8_keepAct) (pc' := 83) (j := 1) (v := (l1 + 1)) (ls' := [(1, .int (l1 + 1)), (0, .ref (kB C + l0))]) dX8_keepAct_80 rfl rfl rfl (by decide) rfl ?_
    refine C_goto (D := mdX8_keepAct) (pc' := 52) dX8_keepAct_83 (by decide) ?_
    exact C_sub [1, 0] rfl (hk52 ((l1 + 1)))
set_option maxHeartbeats 2000000 in
set_option maxRecDepth 20000 in
theorem p_X8_keepAct_J50 (C : KX) (l0 : Nat)  : Cmp C mdX8_keepAct (QM rvV) 50 [(0, .ref (kB C + l0))] [] (m_X8_keepAct_J50 l0) := by
  unfold m_X8_keepAct_J50
  refine C_iconst (D := mdX8_keepAct) (pc' := 51) (v := 0) dX8_keepAct_50 rfl (by decide) ?_
  refine C_istore_n (D := mdX8_keepAct) (pc' := 52) (ls' := [(1, .int 0), (0, .ref (kB C + l0))]) dX8_keepAct_51 rfl rfl (by decide) rfl ?_
  exact C_sub [1, 0] rfl (C_loop (fun s => [(0, .ref (kB C + l0)), (1, .int s)]) (fun k hk s => p_X8_keepAct_B52 C l0  k hk s) FU 0)
set_option maxHeartbeats 2000000 in
set_option maxRecDepth 20000 in
theorem p_X8_keepAct_B11 (C : KX) (l0 : Nat)  (k11 : Int32 → Mo Unit) (hk11 : ∀ s, Cmp C mdX8_keepAct (QM rvV) 11 [(0, .ref (kB C + l0)), (1, .int s)] [] (k11 s)) (l1 : Int32) : Cmp C mdX8_keepAct (QM rvV) 11 [(0, .ref (kB C + l0)), (1, .int l1)] [] (m_X8_keepAct_B11 l0 k11 l1) := by
  unfold m_X8_keepAct_B11
  refine C_iload_n (D := mdX8_keepAct) (pc' := 12) (x := l1) dX8_keepAct_11 rfl 1 rfl ?_
  refine C_sipush (D := mdX8_keepAct) (pc' := 15) (v := 1602) dX8_keepAct_12 rfl (by decide) ?_
  refine C_icmp_ge (D := mdX8_keepAct) (pc' := 18) (tgt := 40) dX8_keepAct_15 (by decide) rfl ?_ ?_
  · refine C_aload_n (D := mdX8_keepAct) (pc' := 41) (x := kB C + l0) dX8_keepAct_40 rfl 0 rfl ?_
    refine C_dup (D := mdX8_keepAct) (pc' := 42) dX8_keepAct_41 rfl rfl ?_
    refine C_getI (D := mdX8_keepAct) (pc' := 45) (p := l0) f_X8_180 rfl dX8_keepAct_42 rfl (fun acts7 => ?_)
    refine C_iconst (D := mdX8_keepAct) (pc' := 46) (v := 1) dX8_keepAct_45 rfl (by decide) ?_
    refine C_isub (D := mdX8_keepAct) (pc' := 47) dX8_keepAct_46 rfl ?_
    refine C_putI (D := mdX8_keepAct) (pc' := 50) (p := l0) f_X8_180 rfl dX8_keepAct_47 rfl ?_
    exact C_sub [0] rfl (p_X8_keepAct_J50 C l0)
  · refine C_aload_n (D := mdX8_keepAct) (pc' := 19) (x := kB C + l0) dX8_keepAct_18 rfl 0 rfl ?_
    refine C_getR (D := mdX8_keepAct) (pc' := 22) (p := l0) f_X8_124 rfl dX8_keepAct_19 rfl (fun was8 => ?_)
    refine C_iload_n (D := mdX8_keepAct) (pc' := 23) (x := l1) dX8_keepAct_22 rfl 1 rfl ?_
    refine C_aload_n (D := mdX8_keepAct) (pc' := 24) (x := kB C + l0) dX8_keepAct_23 rfl 0 rfl ?_
    refine C_getR (D := mdX8_keepAct) (pc' := 27) (p := l0) f_X8_124 rfl dX8_keepAct_24 rfl (fun was9 => ?_)
    refine C_iload_n (D := mdX8_keepAct) (pc' := 28) (x := l1) dX8_keepAct_27 rfl 1 rfl ?_
    refine C_sipush (D := mdX8_keepAct) (pc' := 31) (v := 178) dX8_keepAct_28 rfl (by decide) ?_
    refine C_iadd (D := mdX8_keepAct) (pc' := 32) dX8_keepAct_31 rfl ?_
    refine C_aI (D := mdX8_keepAct) (pc' := 33) (p := was9) dX8_keepAct_32 rfl (fun x10 => ?_)
    refine C_tI (D := mdX8_keepAct) (pc' := 34) (p := was8) dX8_keepAct_33 rfl ?_
    refine C_iinc (D := mdX8_keepAct) (pc' := 37) (j := 1) (v := (l1 + 1)) (ls' := [(1, .int (l1 + 1)), (0, .ref (kB C + l0))]) dX8_keepAct_34 rfl rfl rfl (by decide) rfl ?_
    refine C_goto (D := mdX8_keepAct) (pc' := 11) dX8_keepAct_37 (by decide) ?_
    exact C_sub [1, 0] rfl (hk11 ((l1 + 1)))
set_option maxHeartbeats 2000000 in
set_option maxRecDepth 20000 in
theorem i_X8_keepAct (C : KX) (l0 : Nat) : Imp C yX8_keepAct cX8_keepAct 2 none 0 0 rvV [.ref (kB C + l0)] (m_X8_keepAct l0) := by
  refine Imp.of (by decide) (Nat.le_of_ble_eq_true rfl) [(0, .ref (kB C + l0))] rfl ?_
  show Cmp C mdX8_keepAct (QM rvV) 0 [(0, .ref (kB C + l0))] [] (m_X8_keepAct l0)
  unfold m_X8_keepAct
  refine C_aload_n (D := mdX8_keepAct) (pc' := 1) (x := kB C + l0) dX8_keepAct_0 rfl 0 rfl ?_
  refine C_getI (D := mdX8_keepAct) (pc' := 4) (p := l0) f_X8_180 rfl dX8_keepAct_1 rfl (fun acts1 => ?_)
  refine C_bipush (D := mdX8_keepAct) (pc' := 6) (v := 10) dX8_keepAct_4 rfl (by decide) ?_
  refine C_icmp_ne (D := mdX8_keepAct) (pc' := 9) (tgt := 50) dX8_keepAct_6 (by decide) rfl ?_ ?_
  · exact C_sub [0] rfl (p_X8_keepAct_J50 C l0)
  · refine C_iconst (D := mdX8_keepAct) (pc' := 10) (v := 0) dX8_keepAct_9 rfl (by decide) ?_
    refine C_istore_n (D := mdX8_keepAct) (pc' := 11) (ls' := [(1, .int 0), (0, .ref (kB C + l0))]) dX8_keepAct_10 rfl rfl (by decide) rfl ?_
    exact C_sub [1, 0] rfl (C_loop (fun s => [(0, .ref (kB C + l0)), (1, .int s)]) (fun k hk s => p_X8_keepAct_B11 C l0  k hk s) FU 0)

-- StandingQueriesModel.adds()I
theorem dX8_adds_0 : decode cX8_adds 0 = .ok (.aload_n 0, 1) := by decide +kernel
theorem dX8_adds_1 : decode cX8_adds 1 = .ok (.iconst 0, 1) := by decide +kernel
theorem dX8_adds_2 : decode cX8_adds 2 = .ok (.putfield 1, 3) := by decide +kernel
theorem dX8_adds_5 : decode cX8_adds 5 = .ok (.aload_n 0, 1) := by decide +kernel
theorem dX8_adds_6 : decode cX8_adds 6 = .ok (.iconst 0, 1) := by decide +kernel
theorem dX8_adds_7 : decode cX8_adds 7 = .ok (.putfield 20, 3) := by decide +kernel
theorem dX8_adds_10 : decode cX8_adds 10 = .ok (.aload_n 0, 1) := by decide +kernel
theorem dX8_adds_11 : decode cX8_adds 11 = .ok (.getfield 87, 3) := by decide +kernel
theorem dX8_adds_14 : decode cX8_adds 14 = .ok (.aload_n 0, 1) := by decide +kernel
theorem dX8_adds_15 : decode cX8_adds 15 = .ok (.getfield 121, 3) := by decide +kernel
theorem dX8_adds_18 : decode cX8_adds 18 = .ok (.invokestatic 170, 3) := by decide +kernel
theorem dX8_adds_21 : decode cX8_adds 21 = .ok (.aload_n 0, 1) := by decide +kernel
theorem dX8_adds_22 : decode cX8_adds 22 = .ok (.aload_n 0, 1) := by decide +kernel
theorem dX8_adds_23 : decode cX8_adds 23 = .ok (.getfield 87, 3) := by decide +kernel
theorem dX8_adds_26 : decode cX8_adds 26 = .ok (.invokevirtual 90, 3) := by decide +kernel
theorem dX8_adds_29 : decode cX8_adds 29 = .ok (.aload_n 0, 1) := by decide +kernel
theorem dX8_adds_30 : decode cX8_adds 30 = .ok (.invokevirtual 147, 3) := by decide +kernel
theorem dX8_adds_33 : decode cX8_adds 33 = .ok (.aload_n 0, 1) := by decide +kernel
theorem dX8_adds_34 : decode cX8_adds 34 = .ok (.getfield 37, 3) := by decide +kernel
theorem dX8_adds_37 : decode cX8_adds 37 = .ok (.ifCond .eq 55, 3) := by decide +kernel
theorem dX8_adds_40 : decode cX8_adds 40 = .ok (.aload_n 0, 1) := by decide +kernel
theorem dX8_adds_41 : decode cX8_adds 41 = .ok (.invokevirtual 174, 3) := by decide +kernel
theorem dX8_adds_44 : decode cX8_adds 44 = .ok (.istore_n 1, 1) := by decide +kernel
theorem dX8_adds_45 : decode cX8_adds 45 = .ok (.iload_n 1, 1) := by decide +kernel
theorem dX8_adds_46 : decode cX8_adds 46 = .ok (.ifCond .eq 21, 3) := by decide +kernel
theorem dX8_adds_49 : decode cX8_adds 49 = .ok (.aload_n 0, 1) := by decide +kernel
theorem dX8_adds_50 : decode cX8_adds 50 = .ok (.invokevirtual 147, 3) := by decide +kernel
theorem dX8_adds_53 : decode cX8_adds 53 = .ok (.aload_n 0, 1) := by decide +kernel
theorem dX8_adds_54 : decode cX8_adds 54 = .ok (.getfield 37, 3) := by decide +kernel
theorem dX8_adds_57 : decode cX8_adds 57 = .ok (.iconst 3, 1) := by decide +kernel
theorem dX8_adds_58 : decode cX8_adds 58 = .ok (.if_icmp .ne 7, 3) := by decide +kernel
theorem dX8_adds_61 : decode cX8_adds 61 = .ok (.iconst 1, 1) := by decide +kernel
theorem dX8_adds_62 : decode cX8_adds 62 = .ok (.goto 4, 3) := by decide +kernel
theorem dX8_adds_65 : decode cX8_adds 65 = .ok (.iconst 0, 1) := by decide +kernel
theorem dX8_adds_66 : decode cX8_adds 66 = .ok (.istore_n 1, 1) := by decide +kernel
theorem dX8_adds_67 : decode cX8_adds 67 = .ok (.iload_n 1, 1) := by decide +kernel
theorem dX8_adds_68 : decode cX8_adds 68 = .ok (.ifCond .ne 17, 3) := by decide +kernel
theorem dX8_adds_71 : decode cX8_adds 71 = .ok (.aload_n 0, 1) := by decide +kernel
theorem dX8_adds_72 : decode cX8_adds 72 = .ok (.getfield 27, 3) := by decide +kernel
theorem dX8_adds_75 : decode cX8_adds 75 = .ok (.istore_n 2, 1) := by decide +kernel
theorem dX8_adds_76 : decode cX8_adds 76 = .ok (.aload_n 0, 1) := by decide +kernel
theorem dX8_adds_77 : decode cX8_adds 77 = .ok (.invokevirtual 144, 3) := by decide +kernel
theorem dX8_adds_80 : decode cX8_adds 80 = .ok (.bipush (-10), 2) := by decide +kernel
theorem dX8_adds_82 : decode cX8_adds 82 = .ok (.iload_n 2, 1) := by decide +kernel
theorem dX8_adds_83 : decode cX8_adds 83 = .ok (.isub, 1) := by decide +kernel
theorem dX8_adds_84 : decode cX8_adds 84 = .ok (.ireturn, 1) := by decide +kernel
theorem dX8_adds_85 : decode cX8_adds 85 = .ok (.aload_n 0, 1) := by decide +kernel
theorem dX8_adds_86 : decode cX8_adds 86 = .ok (.invokevirtual 147, 3) := by decide +kernel
theorem dX8_adds_89 : decode cX8_adds 89 = .ok (.goto (-56), 3) := by decide +kernel
theorem dX8_adds_92 : decode cX8_adds 92 = .ok (.aload_n 0, 1) := by decide +kernel
theorem dX8_adds_93 : decode cX8_adds 93 = .ok (.invokevirtual 160, 3) := by decide +kernel
theorem dX8_adds_96 : decode cX8_adds 96 = .ok (.ifCond .ne 15, 3) := by decide +kernel
theorem dX8_adds_99 : decode cX8_adds 99 = .ok (.aload_n 0, 1) := by decide +kernel
theorem dX8_adds_100 : decode cX8_adds 100 = .ok (.invokevirtual 144, 3) := by decide +kernel
theorem dX8_adds_103 : decode cX8_adds 103 = .ok (.bipush (-10), 2) := by decide +kernel
theorem dX8_adds_105 : decode cX8_adds 105 = .ok (.aload_n 0, 1) := by decide +kernel
theorem dX8_adds_106 : decode cX8_adds 106 = .ok (.getfield 13, 3) := by decide +kernel
theorem dX8_adds_109 : decode cX8_adds 109 = .ok (.isub, 1) := by decide +kernel
theorem dX8_adds_110 : decode cX8_adds 110 = .ok (.ireturn, 1) := by decide +kernel
theorem dX8_adds_111 : decode cX8_adds 111 = .ok (.aload_n 0, 1) := by decide +kernel
theorem dX8_adds_112 : decode cX8_adds 112 = .ok (.iconst 0, 1) := by decide +kernel
theorem dX8_adds_113 : decode cX8_adds 113 = .ok (.putfield 13, 3) := by decide +kernel
theorem dX8_adds_116 : decode cX8_adds 116 = .ok (.aload_n 0, 1) := by decide +kernel
theorem dX8_adds_117 : decode cX8_adds 117 = .ok (.invokevirtual 177, 3) := by decide +kernel
theorem dX8_adds_120 : decode cX8_adds 120 = .ok (.aload_n 0, 1) := by decide +kernel
theorem dX8_adds_121 : decode cX8_adds 121 = .ok (.getfield 121, 3) := by decide +kernel
theorem dX8_adds_124 : decode cX8_adds 124 = .ok (.iconst 0, 1) := by decide +kernel
theorem dX8_adds_125 : decode cX8_adds 125 = .ok (.iaload, 1) := by decide +kernel
theorem dX8_adds_126 : decode cX8_adds 126 = .ok (.aload_n 0, 1) := by decide +kernel
theorem dX8_adds_127 : decode cX8_adds 127 = .ok (.getfield 87, 3) := by decide +kernel
theorem dX8_adds_130 : decode cX8_adds 130 = .ok (.iconst 0, 1) := by decide +kernel
theorem dX8_adds_131 : decode cX8_adds 131 = .ok (.iaload, 1) := by decide +kernel
theorem dX8_adds_132 : decode cX8_adds 132 = .ok (.isub, 1) := by decide +kernel
theorem dX8_adds_133 : decode cX8_adds 133 = .ok (.istore_n 1, 1) := by decide +kernel
theorem dX8_adds_134 : decode cX8_adds 134 = .ok (.aload_n 0, 1) := by decide +kernel
theorem dX8_adds_135 : decode cX8_adds 135 = .ok (.getfield 121, 3) := by decide +kernel
theorem dX8_adds_138 : decode cX8_adds 138 = .ok (.aload_n 0, 1) := by decide +kernel
theorem dX8_adds_139 : decode cX8_adds 139 = .ok (.getfield 87, 3) := by decide +kernel
theorem dX8_adds_142 : decode cX8_adds 142 = .ok (.invokestatic 170, 3) := by decide +kernel
theorem dX8_adds_145 : decode cX8_adds 145 = .ok (.aload_n 0, 1) := by decide +kernel
theorem dX8_adds_146 : decode cX8_adds 146 = .ok (.invokevirtual 144, 3) := by decide +kernel
theorem dX8_adds_149 : decode cX8_adds 149 = .ok (.iload_n 1, 1) := by decide +kernel
theorem dX8_adds_150 : decode cX8_adds 150 = .ok (.ireturn, 1) := by decide +kernel
abbrev mdX8_adds : MD := (cX8_adds, RX8, 3, (some .int), yX8_adds.name, 6, 140, eT)
set_option maxHeartbeats 2000000 in
set_option maxRecDepth 20000 in
theorem p_X8_adds_J67 (C : KX) (l0 : Nat) (l1 : Int32) (k33 : Unit → Mo Int32) (hk33 : ∀ s, Cmp C mdX8_adds (QM rvI) 33 [(0, .ref (kB C + l0))] [] (k33 s)) : Cmp C mdX8_adds (QM rvI) 67 [(0, .ref (kB C + l0)), (1, .int l1)] [] (m_X8_adds_J67 l0 l1 k33) := by
  unfold m_X8_adds_J67
  refine C_iload_n (D := mdX8_adds) (pc' := 68) (x := l1) dX8_adds_67 rfl 1 rfl ?_
  refine C_if_ne (D := mdX8_adds) (pc' := 71) (tgt := 85) dX8_adds_68 (by decide) rfl ?_ ?_
  · refine C_aload_n (D := mdX8_adds) (pc' := 86) (x := kB C + l0) dX8_adds_85 rfl 0 rfl ?_
    refine C_callV (D := mdX8_adds) (pc' := 89) (p := l0) (st := []) [] v_X8_147 (i_X8_step C l0) dX8_adds_86 rfl rfl rfl (Nat.le_of_ble_eq_true rfl) (by decide) (by decide) (fun _ => ?_)
    refine C_goto (D := mdX8_adds) (pc' := 33) dX8_adds_89 (by decide) ?_
    exact C_sub [0] rfl (hk33 ())
  · refine C_aload_n (D := mdX8_adds) (pc' := 72) (x := kB C + l0) dX8_adds_71 rfl 0 rfl ?_
    refine C_getI (D := mdX8_adds) (pc' := 75) (p := l0) f_X8_27 rfl dX8_adds_72 rfl (fun start15 => ?_)
    refine C_istore_n (D := mdX8_adds) (pc' := 76) (ls' := [(2, .int start15), (0, .ref (kB C + l0)), (1, .int l1)]) dX8_adds_75 rfl rfl (by decide) rfl ?_
    refine C_aload_n (D := mdX8_adds) (pc' := 77) (x := kB C + l0) dX8_adds_76 rfl 1 rfl ?_
    refine C_callV (D := mdX8_adds) (pc' := 80) (p := l0) (st := []) [] v_X8_144 (i_X8_make C l0) dX8_adds_77 rfl rfl rfl (Nat.le_of_ble_eq_true rfl) (by decide) (by decide) (fun _ => ?_)
    refine C_bipush (D := mdX8_adds) (pc' := 82) (v := (-10)) dX8_adds_80 rfl (by decide) ?_
    refine C_iload_n (D := mdX8_adds) (pc' := 83) (x := start15) dX8_adds_82 rfl 0 rfl ?_
    refine C_isub (D := mdX8_adds) (pc' := 84) dX8_adds_83 rfl ?_
    exact C_iret rfl dX8_adds_84
set_option maxHeartbeats 2000000 in
set_option maxRecDepth 20000 in
theorem p_X8_adds_J66 (C : KX) (l0 : Nat) (s0 : Int32) (k33 : Unit → Mo Int32) (hk33 : ∀ s, Cmp C mdX8_adds (QM rvI) 33 [(0, .ref (kB C + l0))] [] (k33 s)) : Cmp C mdX8_adds (QM rvI) 66 [(0, .ref (kB C + l0))] [.int s0] (m_X8_adds_J66 l0 s0 k33) := by
  unfold m_X8_adds_J66
  refine C_istore_n (D := mdX8_adds) (pc' := 67) (ls' := [(1, .int s0), (0, .ref (kB C + l0))]) dX8_adds_66 rfl rfl (by decide) rfl ?_
  exact C_sub [1, 0] rfl (p_X8_adds_J67 C l0 s0 k33 hk33)
set_option maxHeartbeats 2000000 in
set_option maxRecDepth 20000 in
theorem p_X8_adds_B33 (C : KX) (l0 : Nat)  (k33 : Unit → Mo Int32) (hk33 : ∀ s, Cmp C mdX8_adds (QM rvI) 33 [(0, .ref (kB C + l0))] [] (k33 s))  : Cmp C mdX8_adds (QM rvI) 33 [(0, .ref (kB C + l0))] [] (m_X8_adds_B33 l0 k33) := by
  unfold m_X8_adds_B33
  refine C_aload_n (D := mdX8_adds) (pc' := 34) (x := kB C + l0) dX8_adds_33 rfl 0 rfl ?_
  refine C_getI (D := mdX8_adds) (pc' := 37) (p := l0) f_X8_37 rfl dX8_adds_34 rfl (fun token4 => ?_)
  refine C_if_eq (D := mdX8_adds) (pc' := 40) (tgt := 92) dX8_adds_37 (by decide) rfl ?_ ?_
  · refine C_aload_n (D := mdX8_adds) (pc' := 93) (x := kB C + l0) dX8_adds_92 rfl 0 rfl ?_
    refine C_callV (D := mdX8_adds) (pc' := 96) (p := l0) (st := []) [] v_X8_160 (i_X8_isWhole C l0) dX8_adds_93 rfl rfl rfl (Nat.le_of_ble_eq_true rfl) (by decide) (by decide) (fun c5 => ?_)
    refine C_if_ne (D := mdX8_adds) (pc' := 99) (tgt := 111) dX8_adds_96 (by decide) rfl ?_ ?_
    · refine C_aload_n (D := mdX8_adds) (pc' := 112) (x := kB C + l0) dX8_adds_111 rfl 0 rfl ?_
      refine C_iconst (D := mdX8_adds) (pc' := 113) (v := 0) dX8_adds_112 rfl (by decide) ?_
      refine C_putI (D := mdX8_adds) (pc' := 116) (p := l0) f_X8_13 rfl dX8_adds_113 rfl ?_
      refine C_aload_n (D := mdX8_adds) (pc' := 117) (x := kB C + l0) dX8_adds_116 rfl 0 rfl ?_
      refine C_callV (D := mdX8_adds) (pc' := 120) (p := l0) (st := []) [] v_X8_177 (i_X8_keepAct C l0) dX8_adds_117 rfl rfl rfl (Nat.le_of_ble_eq_true rfl) (by decide) (by decide) (fun _ => ?_)
      refine C_aload_n (D := mdX8_adds) (pc' := 121) (x := kB C + l0) dX8_adds_120 rfl 0 rfl ?_
      refine C_getR (D := mdX8_adds) (pc' := 124) (p := l0) f_X8_121 rfl dX8_adds_121 rfl (fun fresh6 => ?_)
      refine C_iconst (D := mdX8_adds) (pc' := 125) (v := 0) dX8_adds_124 rfl (by decide) ?_
      refine C_aI (D := mdX8_adds) (pc' := 126) (p := fresh6) dX8_adds_125 rfl (fun x7 => ?_)
      refine C_aload_n (D := mdX8_adds) (pc' := 127) (x := kB C + l0) dX8_adds_126 rfl 0 rfl ?_
      refine C_getR (D := mdX8_adds) (pc' := 130) (p := l0) f_X8_87 rfl dX8_adds_127 rfl (fun now8 => ?_)
      refine C_iconst (D := mdX8_adds) (pc' := 131) (v := 0) dX8_adds_130 rfl (by decide) ?_
      refine C_aI (D := mdX8_adds) (pc' := 132) (p := now8) dX8_adds_131 rfl (fun x9 => ?_)
      refine C_isub (D := mdX8_adds) (pc' := 133) dX8_adds_132 rfl ?_
      refine C_letI (fun v10 => ?_)
      refine C_istore_n (D := mdX8_adds) (pc' := 134) (ls' := [(1, .int v10), (0, .ref (kB C + l0))]) dX8_adds_133 rfl rfl (by decide) rfl ?_
      refine C_aload_n (D := mdX8_adds) (pc' := 135) (x := kB C + l0) dX8_adds_134 rfl 1 rfl ?_
      refine C_getR (D := mdX8_adds) (pc' := 138) (p := l0) f_X8_121 rfl dX8_adds_135 rfl (fun fresh11 => ?_)
      refine C_aload_n (D := mdX8_adds) (pc' := 139) (x := kB C + l0) dX8_adds_138 rfl 1 rfl ?_
      refine C_getR (D := mdX8_adds) (pc' := 142) (p := l0) f_X8_87 rfl dX8_adds_139 rfl (fun now12 => ?_)
      refine C_callS (D := mdX8_adds) (pc' := 145) (st := []) [.ref (kB C + fresh11), .ref (kB C + now12)] s_X8_170 (i_X8_copyAll C fresh11 now12) dX8_adds_142 rfl rfl rfl (Nat.le_of_ble_eq_true rfl) (by decide) (by decide) (fun _ => ?_)
      refine C_aload_n (D := mdX8_adds) (pc' := 146) (x := kB C + l0) dX8_adds_145 rfl 1 rfl ?_
      refine C_callV (D := mdX8_adds) (pc' := 149) (p := l0) (st := []) [] v_X8_144 (i_X8_make C l0) dX8_adds_146 rfl rfl rfl (Nat.le_of_ble_eq_true rfl) (by decide) (by decide) (fun _ => ?_)
      refine C_iload_n (D := mdX8_adds) (pc' := 150) (x := v10) dX8_adds_149 rfl 0 rfl ?_
      exact C_iret rfl dX8_adds_150
    · refine C_aload_n (D := mdX8_adds) (pc' := 100) (x := kB C + l0) dX8_adds_99 rfl 0 rfl ?_
      refine C_callV (D := mdX8_adds) (pc' := 103) (p := l0) (st := []) [] v_X8_144 (i_X8_make C l0) dX8_adds_100 rfl rfl rfl (Nat.le_of_ble_eq_true rfl) (by decide) (by decide) (fun _ => ?_)
      refine C_bipush (D := mdX8_adds) (pc' := 105) (v := (-10)) dX8_adds_103 rfl (by decide) ?_
      refine C_aload_n (D := mdX8_adds) (pc' := 106) (x := kB C + l0) dX8_adds_105 rfl 0 rfl ?_
      refine C_getI (D := mdX8_adds) (pc' := 109) (p := l0) f_X8_13 rfl dX8_adds_106 rfl (fun typed13 => ?_)
      refine C_isub (D := mdX8_adds) (pc' := 110) dX8_adds_109 rfl ?_
      exact C_iret rfl dX8_adds_110
  · refine C_aload_n (D := mdX8_adds) (pc' := 41) (x := kB C + l0) dX8_adds_40 rfl 0 rfl ?_
    refine C_callV (D := mdX8_adds) (pc' := 44) (p := l0) (st := []) [] v_X8_174 (i_X8_readItem C l0) dX8_adds_41 rfl rfl rfl (Nat.le_of_ble_eq_true rfl) (by decide) (by decide) (fun c14 => ?_)
    refine C_istore_n (D := mdX8_adds) (pc' := 45) (ls' := [(1, .int c14), (0, .ref (kB C + l0))]) dX8_adds_44 rfl rfl (by decide) rfl ?_
    refine C_iload_n (D := mdX8_adds) (pc' := 46) (x := c14) dX8_adds_45 rfl 0 rfl ?_
    refine C_if_eq (D := mdX8_adds) (pc' := 49) (tgt := 67) dX8_adds_46 (by decide) rfl ?_ ?_
    · exact C_sub [1, 0] rfl (p_X8_adds_J67 C l0 c14 k33 hk33)
    · refine C_aload_n (D := mdX8_adds) (pc' := 50) (x := kB C + l0) dX8_adds_49 rfl 1 rfl ?_
      refine C_callV (D := mdX8_adds) (pc' := 53) (p := l0) (st := []) [] v_X8_147 (i_X8_step C l0) dX8_adds_50 rfl rfl rfl (Nat.le_of_ble_eq_true rfl) (by decide) (by decide) (fun _ => ?_)
      refine C_aload_n (D := mdX8_adds) (pc' := 54) (x := kB C + l0) dX8_adds_53 rfl 1 rfl ?_
      refine C_getI (D := mdX8_adds) (pc' := 57) (p := l0) f_X8_37 rfl dX8_adds_54 rfl (fun token16 => ?_)
      refine C_iconst (D := mdX8_adds) (pc' := 58) (v := 3) dX8_adds_57 rfl (by decide) ?_
      refine C_icmp_ne (D := mdX8_adds) (pc' := 61) (tgt := 65) dX8_adds_58 (by decide) rfl ?_ ?_
      · refine C_iconst (D := mdX8_adds) (pc' := 66) (v := 0) dX8_adds_65 rfl (by decide) ?_
        exact C_sub [1] rfl (p_X8_adds_J66 C l0 0 k33 hk33)
      · refine C_iconst (D := mdX8_adds) (pc' := 62) (v := 1) dX8_adds_61 rfl (by decide) ?_
        refine C_goto (D := mdX8_adds) (pc' := 66) dX8_adds_62 (by decide) ?_
        exact C_sub [1] rfl (p_X8_adds_J66 C l0 1 k33 hk33)
set_option maxHeartbeats 2000000 in
set_option maxRecDepth 20000 in
theorem i_X8_adds (C : KX) (l0 : Nat) : Imp C yX8_adds cX8_adds 3 (some .int) 6 140 rvI [.ref (kB C + l0)] (m_X8_adds l0) := by
  refine Imp.of (by decide) (Nat.le_of_ble_eq_true rfl) [(0, .ref (kB C + l0))] rfl ?_
  show Cmp C mdX8_adds (QM rvI) 0 [(0, .ref (kB C + l0))] [] (m_X8_adds l0)
  unfold m_X8_adds
  refine C_aload_n (D := mdX8_adds) (pc' := 1) (x := kB C + l0) dX8_adds_0 rfl 0 rfl ?_
  refine C_iconst (D := mdX8_adds) (pc' := 2) (v := 0) dX8_adds_1 rfl (by decide) ?_
  refine C_putI (D := mdX8_adds) (pc' := 5) (p := l0) f_X8_1 rfl dX8_adds_2 rfl ?_
  refine C_aload_n (D := mdX8_adds) (pc' := 6) (x := kB C + l0) dX8_adds_5 rfl 0 rfl ?_
  refine C_iconst (D := mdX8_adds) (pc' := 7) (v := 0) dX8_adds_6 rfl (by decide) ?_
  refine C_putI (D := mdX8_adds) (pc' := 10) (p := l0) f_X8_20 rfl dX8_adds_7 rfl ?_
  refine C_aload_n (D := mdX8_adds) (pc' := 11) (x := kB C + l0) dX8_adds_10 rfl 0 rfl ?_
  refine C_getR (D := mdX8_adds) (pc' := 14) (p := l0) f_X8_87 rfl dX8_adds_11 rfl (fun now1 => ?_)
  refine C_aload_n (D := mdX8_adds) (pc' := 15) (x := kB C + l0) dX8_adds_14 rfl 0 rfl ?_
  refine C_getR (D := mdX8_adds) (pc' := 18) (p := l0) f_X8_121 rfl dX8_adds_15 rfl (fun fresh2 => ?_)
  refine C_callS (D := mdX8_adds) (pc' := 21) (st := []) [.ref (kB C + now1), .ref (kB C + fresh2)] s_X8_170 (i_X8_copyAll C now1 fresh2) dX8_adds_18 rfl rfl rfl (Nat.le_of_ble_eq_true rfl) (by decide) (by decide) (fun _ => ?_)
  refine C_aload_n (D := mdX8_adds) (pc' := 22) (x := kB C + l0) dX8_adds_21 rfl 0 rfl ?_
  refine C_aload_n (D := mdX8_adds) (pc' := 23) (x := kB C + l0) dX8_adds_22 rfl 0 rfl ?_
  refine C_getR (D := mdX8_adds) (pc' := 26) (p := l0) f_X8_87 rfl dX8_adds_23 rfl (fun now3 => ?_)
  refine C_callV (D := mdX8_adds) (pc' := 29) (p := l0) (st := []) [.ref (kB C + now3)] v_X8_90 (i_X8_layWords C l0 now3) dX8_adds_26 rfl rfl rfl (Nat.le_of_ble_eq_true rfl) (by decide) (by decide) (fun _ => ?_)
  refine C_aload_n (D := mdX8_adds) (pc' := 30) (x := kB C + l0) dX8_adds_29 rfl 0 rfl ?_
  refine C_callV (D := mdX8_adds) (pc' := 33) (p := l0) (st := []) [] v_X8_147 (i_X8_step C l0) dX8_adds_30 rfl rfl rfl (Nat.le_of_ble_eq_true rfl) (by decide) (by decide) (fun _ => ?_)
  exact C_sub [0] rfl (C_loop (fun s => [(0, .ref (kB C + l0))]) (fun k hk s => p_X8_adds_B33 C l0  k hk ) FU ())
