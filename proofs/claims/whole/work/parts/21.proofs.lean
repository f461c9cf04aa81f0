-- StandingQueries$Text.readNear()Z
theorem dX5_readNear_0 : decode cX5_readNear 0 = .ok (.aload_n 0, 1) := by decide +kernel
theorem dX5_readNear_1 : decode cX5_readNear 1 = .ok (.invokevirtual 90, 3) := by decide +kernel
theorem dX5_readNear_4 : decode cX5_readNear 4 = .ok (.ifCond .eq 13, 3) := by decide +kernel
theorem dX5_readNear_7 : decode cX5_readNear 7 = .ok (.aload_n 0, 1) := by decide +kernel
theorem dX5_readNear_8 : decode cX5_readNear 8 = .ok (.getfield 18, 3) := by decide +kernel
theorem dX5_readNear_11 : decode cX5_readNear 11 = .ok (.invokevirtual 102, 3) := by decide +kernel
theorem dX5_readNear_14 : decode cX5_readNear 14 = .ok (.ifCond .eq 5, 3) := by decide +kernel
theorem dX5_readNear_17 : decode cX5_readNear 17 = .ok (.iconst 0, 1) := by decide +kernel
theorem dX5_readNear_18 : decode cX5_readNear 18 = .ok (.ireturn, 1) := by decide +kernel
theorem dX5_readNear_19 : decode cX5_readNear 19 = .ok (.aload_n 0, 1) := by decide +kernel
theorem dX5_readNear_20 : decode cX5_readNear 20 = .ok (.invokevirtual 51, 3) := by decide +kernel
theorem dX5_readNear_23 : decode cX5_readNear 23 = .ok (.aload_n 0, 1) := by decide +kernel
theorem dX5_readNear_24 : decode cX5_readNear 24 = .ok (.invokevirtual 93, 3) := by decide +kernel
theorem dX5_readNear_27 : decode cX5_readNear 27 = .ok (.istore_n 1, 1) := by decide +kernel
theorem dX5_readNear_28 : decode cX5_readNear 28 = .ok (.iload_n 1, 1) := by decide +kernel
theorem dX5_readNear_29 : decode cX5_readNear 29 = .ok (.ifCond .ne 5, 3) := by decide +kernel
theorem dX5_readNear_32 : decode cX5_readNear 32 = .ok (.iconst 0, 1) := by decide +kernel
theorem dX5_readNear_33 : decode cX5_readNear 33 = .ok (.ireturn, 1) := by decide +kernel
theorem dX5_readNear_34 : decode cX5_readNear 34 = .ok (.aload_n 0, 1) := by decide +kernel
theorem dX5_readNear_35 : decode cX5_readNear 35 = .ok (.invokevirtual 93, 3) := by decide +kernel
theorem dX5_readNear_38 : decode cX5_readNear 38 = .ok (.istore_n 2, 1) := by decide +kernel
theorem dX5_readNear_39 : decode cX5_readNear 39 = .ok (.iload_n 2, 1) := by decide +kernel
theorem dX5_readNear_40 : decode cX5_readNear 40 = .ok (.ifCond .ne 5, 3) := by decide +kernel
theorem dX5_readNear_43 : decode cX5_readNear 43 = .ok (.iconst 0, 1) := by decide +kernel
theorem dX5_readNear_44 : decode cX5_readNear 44 = .ok (.ireturn, 1) := by decide +kernel
theorem dX5_readNear_45 : decode cX5_readNear 45 = .ok (.aload_n 0, 1) := by decide +kernel
theorem dX5_readNear_46 : decode cX5_readNear 46 = .ok (.getfield 54, 3) := by decide +kernel
theorem dX5_readNear_49 : decode cX5_readNear 49 = .ok (.iconst 2, 1) := by decide +kernel
theorem dX5_readNear_50 : decode cX5_readNear 50 = .ok (.if_icmp .ne 30, 3) := by decide +kernel
theorem dX5_readNear_53 : decode cX5_readNear 53 = .ok (.aload_n 0, 1) := by decide +kernel
theorem dX5_readNear_54 : decode cX5_readNear 54 = .ok (.getfield 48, 3) := by decide +kernel
theorem dX5_readNear_57 : decode cX5_readNear 57 = .ok (.aload_n 0, 1) := by decide +kernel
theorem dX5_readNear_58 : decode cX5_readNear 58 = .ok (.getfield 61, 3) := by decide +kernel
theorem dX5_readNear_61 : decode cX5_readNear 61 = .ok (.isub, 1) := by decide +kernel
theorem dX5_readNear_62 : decode cX5_readNear 62 = .ok (.iconst 1, 1) := by decide +kernel
theorem dX5_readNear_63 : decode cX5_readNear 63 = .ok (.if_icmp .ne 17, 3) := by decide +kernel
theorem dX5_readNear_66 : decode cX5_readNear 66 = .ok (.aload_n 0, 1) := by decide +kernel
theorem dX5_readNear_67 : decode cX5_readNear 67 = .ok (.getfield 9, 3) := by decide +kernel
theorem dX5_readNear_70 : decode cX5_readNear 70 = .ok (.aload_n 0, 1) := by decide +kernel
theorem dX5_readNear_71 : decode cX5_readNear 71 = .ok (.getfield 61, 3) := by decide +kernel
theorem dX5_readNear_74 : decode cX5_readNear 74 = .ok (.iaload, 1) := by decide +kernel
theorem dX5_readNear_75 : decode cX5_readNear 75 = .ok (.bipush 48, 2) := by decide +kernel
theorem dX5_readNear_77 : decode cX5_readNear 77 = .ok (.if_icmp .ne 5, 3) := by decide +kernel
theorem dX5_readNear_80 : decode cX5_readNear 80 = .ok (.iconst 0, 1) := by decide +kernel
theorem dX5_readNear_81 : decode cX5_readNear 81 = .ok (.ireturn, 1) := by decide +kernel
theorem dX5_readNear_82 : decode cX5_readNear 82 = .ok (.aload_n 0, 1) := by decide +kernel
theorem dX5_readNear_83 : decode cX5_readNear 83 = .ok (.getfield 18, 3) := by decide +kernel
theorem dX5_readNear_86 : decode cX5_readNear 86 = .ok (.iconst 2, 1) := by decide +kernel
theorem dX5_readNear_87 : decode cX5_readNear 87 = .ok (.iload_n 2, 1) := by decide +kernel
theorem dX5_readNear_88 : decode cX5_readNear 88 = .ok (.iload_n 1, 1) := by decide +kernel
theorem dX5_readNear_89 : decode cX5_readNear 89 = .ok (.aload_n 0, 1) := by decide +kernel
theorem dX5_readNear_90 : decode cX5_readNear 90 = .ok (.getfield 9, 3) := by decide +kernel
theorem dX5_readNear_93 : decode cX5_readNear 93 = .ok (.aload_n 0, 1) := by decide +kernel
theorem dX5_readNear_94 : decode cX5_readNear 94 = .ok (.getfield 61, 3) := by decide +kernel
theorem dX5_readNear_97 : decode cX5_readNear 97 = .ok (.iaload, 1) := by decide +kernel
theorem dX5_readNear_98 : decode cX5_readNear 98 = .ok (.bipush 48, 2) := by decide +kernel
theorem dX5_readNear_100 : decode cX5_readNear 100 = .ok (.isub, 1) := by decide +kernel
theorem dX5_readNear_101 : decode cX5_readNear 101 = .ok (.invokevirtual 98, 3) := by decide +kernel
theorem dX5_readNear_104 : decode cX5_readNear 104 = .ok (.aload_n 0, 1) := by decide +kernel
theorem dX5_readNear_105 : decode cX5_readNear 105 = .ok (.invokevirtual 51, 3) := by decide +kernel
theorem dX5_readNear_108 : decode cX5_readNear 108 = .ok (.aload_n 0, 1) := by decide +kernel
theorem dX5_readNear_109 : decode cX5_readNear 109 = .ok (.invokevirtual 87, 3) := by decide +kernel
theorem dX5_readNear_112 : decode cX5_readNear 112 = .ok (.ireturn, 1) := by decide +kernel
abbrev mdX5_readNear : MD := (cX5_readNear, RX5, 3, (some .boolean), yX5_readNear.name, 3, 66, eT)
set_option maxHeartbeats 2000000 in
set_option maxRecDepth 20000 in
theorem i_X5_readNear (C : KX) (l0 : Nat) : Imp C yX5_readNear cX5_readNear 3 (some .boolean) 3 66 rvI [.ref (kB C + l0)] (m_X5_readNear l0) := by
  refine Imp.of (by decide) (Nat.le_of_ble_eq_true rfl) [(0, .ref (kB C + l0))] rfl ?_
  show Cmp C mdX5_readNear (QM rvI) 0 [(0, .ref (kB C + l0))] [] (m_X5_readNear l0)
  unfold m_X5_readNear
  refine C_aload_n (D := mdX5_readNear) (pc' := 1) (x := kB C + l0) dX5_readNear_0 rfl 0 rfl ?_
  refine C_callV (D := mdX5_readNear) (pc' := 4) (p := l0) (st := []) [] v_X5_90 (i_X5_mayHavePart C l0) dX5_readNear_1 rfl rfl rfl (Nat.le_of_ble_eq_true rfl) (by decide) (by decide) (fun c1 => ?_)
  refine C_if_eq (D := mdX5_readNear) (pc' := 7) (tgt := 17) dX5_readNear_4 (by decide) rfl ?_ ?_
  · refine C_iconst (D := mdX5_readNear) (pc' := 18) (v := 0) dX5_readNear_17 rfl (by decide) ?_
    exact C_zret rfl dX5_readNear_18
  · refine C_aload_n (D := mdX5_readNear) (pc' := 8) (x := kB C + l0) dX5_readNear_7 rfl 0 rfl ?_
    refine C_getR (D := mdX5_readNear) (pc' := 11) (p := l0) f_X5_18 rfl dX5_readNear_8 rfl (fun draft2 => ?_)
    refine C_callV (D := mdX5_readNear) (pc' := 14) (p := draft2) (st := []) [] v_X5_102 (i_X1_lastHasNear C draft2) dX5_readNear_11 rfl rfl rfl (Nat.le_of_ble_eq_true rfl) (by decide) (by decide) (fun c3 => ?_)
    refine C_if_eq (D := mdX5_readNear) (pc' := 17) (tgt := 19) dX5_readNear_14 (by decide) rfl ?_ ?_
    · refine C_aload_n (D := mdX5_readNear) (pc' := 20) (x := kB C + l0) dX5_readNear_19 rfl 0 rfl ?_
      refine C_callV (D := mdX5_readNear) (pc' := 23) (p := l0) (st := []) [] v_X5_51 (i_X5_advance C l0) dX5_readNear_20 rfl rfl rfl (Nat.le_of_ble_eq_true rfl) (by decide) (by decide) (fun _ => ?_)
      refine C_aload_n (D := mdX5_readNear) (pc' := 24) (x := kB C + l0) dX5_readNear_23 rfl 0 rfl ?_
      refine C_callV (D := mdX5_readNear) (pc' := 27) (p := l0) (st := []) [] v_X5_93 (i_X5_readWord C l0) dX5_readNear_24 rfl rfl rfl (Nat.le_of_ble_eq_true rfl) (by decide) (by decide) (fun c4 => ?_)
      refine C_istore_n (D := mdX5_readNear) (pc' := 28) (ls' := [(1, .int c4), (0, .ref (kB C + l0))]) dX5_readNear_27 rfl rfl (by decide) rfl ?_
      refine C_iload_n (D := mdX5_readNear) (pc' := 29) (x := c4) dX5_readNear_28 rfl 0 rfl ?_
      refine C_if_ne (D := mdX5_readNear) (pc' := 32) (tgt := 34) dX5_readNear_29 (by decide) rfl ?_ ?_
      · refine C_aload_n (D := mdX5_readNear) (pc' := 35) (x := kB C + l0) dX5_readNear_34 rfl 1 rfl ?_
        refine C_callV (D := mdX5_readNear) (pc' := 38) (p := l0) (st := []) [] v_X5_93 (i_X5_readWord C l0) dX5_readNear_35 rfl rfl rfl (Nat.le_of_ble_eq_true rfl) (by decide) (by decide) (fun c5 => ?_)
        refine C_istore_n (D := mdX5_readNear) (pc' := 39) (ls' := [(2, .int c5), (1, .int c4), (0, .ref (kB C + l0))]) dX5_readNear_38 rfl rfl (by decide) rfl ?_
        refine C_iload_n (D := mdX5_readNear) (pc' := 40) (x := c5) dX5_readNear_39 rfl 0 rfl ?_
        refine C_if_ne (D := mdX5_readNear) (pc' := 43) (tgt := 45) dX5_readNear_40 (by decide) rfl ?_ ?_
        · refine C_aload_n (D := mdX5_readNear) (pc' := 46) (x := kB C + l0) dX5_readNear_45 rfl 2 rfl ?_
          refine C_getI (D := mdX5_readNear) (pc' := 49) (p := l0) f_X5_54 rfl dX5_readNear_46 rfl (fun kind6 => ?_)
          refine C_iconst (D := mdX5_readNear) (pc' := 50) (v := 2) dX5_readNear_49 rfl (by decide) ?_
          refine C_icmp_ne (D := mdX5_readNear) (pc' := 53) (tgt := 80) dX5_readNear_50 (by decide) rfl ?_ ?_
          · refine C_iconst (D := mdX5_readNear) (pc' := 81) (v := 0) dX5_readNear_80 rfl (by decide) ?_
            exact C_zret rfl dX5_readNear_81
          · refine C_aload_n (D := mdX5_readNear) (pc' := 54) (x := kB C + l0) dX5_readNear_53 rfl 2 rfl ?_
            refine C_getI (D := mdX5_readNear) (pc' := 57) (p := l0) f_X5_48 rfl dX5_readNear_54 rfl (fun end7 => ?_)
            refine C_aload_n (D := mdX5_readNear) (pc' := 58) (x := kB C + l0) dX5_readNear_57 rfl 2 rfl ?_
            refine C_getI (D := mdX5_readNear) (pc' := 61) (p := l0) f_X5_61 rfl dX5_readNear_58 rfl (fun begin8 => ?_)
            refine C_isub (D := mdX5_readNear) (pc' := 62) dX5_readNear_61 rfl ?_
            refine C_iconst (D := mdX5_readNear) (pc' := 63) (v := 1) dX5_readNear_62 rfl (by decide) ?_
            refine C_icmp_ne (D := mdX5_readNear) (pc' := 66) (tgt := 80) dX5_readNear_63 (by decide) rfl ?_ ?_
            · refine C_iconst (D := mdX5_readNear) (pc' := 81) (v := 0) dX5_readNear_80 rfl (by decide) ?_
              exact C_zret rfl dX5_readNear_81
            · refine C_aload_n (D := mdX5_readNear) (pc' := 67) (x := kB C + l0) dX5_readNear_66 rfl 2 rfl ?_
              refine C_getR (D := mdX5_readNear) (pc' := 70) (p := l0) f_X5_9 rfl dX5_readNear_67 rfl (fun bytes9 => ?_)
              refine C_aload_n (D := mdX5_readNear) (pc' := 71) (x := kB C + l0) dX5_readNear_70 rfl 2 rfl ?_
              refine C_getI (D := mdX5_readNear) (pc' := 74) (p := l0) f_X5_61 rfl dX5_readNear_71 rfl (fun begin10 => ?_)
              refine C_aI (D := mdX5_readNear) (pc' := 75) (p := bytes9) dX5_readNear_74 rfl (fun x11 => ?_)
              refine C_bipush (D := mdX5_readNear) (pc' := 77) (v := 48) dX5_readNear_75 rfl (by decide) ?_
              refine C_icmp_ne (D := mdX5_readNear) (pc' := 80) (tgt := 82) dX5_readNear_77 (by decide) rfl ?_ ?_
              · refine C_aload_n (D := mdX5_readNear) (pc' := 83) (x := kB C + l0) dX5_readNear_82 rfl 2 rfl ?_
                refine C_getR (D := mdX5_readNear) (pc' := 86) (p := l0) f_X5_18 rfl dX5_readNear_83 rfl (fun draft12 => ?_)
                refine C_iconst (D := mdX5_readNear) (pc' := 87) (v := 2) dX5_readNear_86 rfl (by decide) ?_
                refine C_iload_n (D := mdX5_readNear) (pc' := 88) (x := c5) dX5_readNear_87 rfl 0 rfl ?_
                refine C_iload_n (D := mdX5_readNear) (pc' := 89) (x := c4) dX5_readNear_88 rfl 1 rfl ?_
                refine C_aload_n (D := mdX5_readNear) (pc' := 90) (x := kB C + l0) dX5_readNear_89 rfl 2 rfl ?_
                refine C_getR (D := mdX5_readNear) (pc' := 93) (p := l0) f_X5_9 rfl dX5_readNear_90 rfl (fun bytes13 => ?_)
                refine C_aload_n (D := mdX5_readNear) (pc' := 94) (x := kB C + l0) dX5_readNear_93 rfl 2 rfl ?_
                refine C_getI (D := mdX5_readNear) (pc' := 97) (p := l0) f_X5_61 rfl dX5_readNear_94 rfl (fun begin14 => ?_)
                refine C_aI (D := mdX5_readNear) (pc' := 98) (p := bytes13) dX5_readNear_97 rfl (fun x15 => ?_)
                refine C_bipush (D := mdX5_readNear) (pc' := 100) (v := 48) dX5_readNear_98 rfl (by decide) ?_
                refine C_isub (D := mdX5_readNear) (pc' := 101) dX5_readNear_100 rfl ?_
                refine C_callV (D := mdX5_readNear) (pc' := 104) (p := draft12) (st := []) [.int 2, .int c5, .int c4, .int (x15 - 48)] v_X5_98 (i_X1_addPart C draft12 2 c5 c4 ((x15 - 48))) dX5_readNear_101 rfl rfl rfl (Nat.le_of_ble_eq_true rfl) (by decide) (by decide) (fun _ => ?_)
                refine C_aload_n (D := mdX5_readNear) (pc' := 105) (x := kB C + l0) dX5_readNear_104 rfl 2 rfl ?_
                refine C_callV (D := mdX5_readNear) (pc' := 108) (p := l0) (st := []) [] v_X5_51 (i_X5_advance C l0) dX5_readNear_105 rfl rfl rfl (Nat.le_of_ble_eq_true rfl) (by decide) (by decide) (fun _ => ?_)
                refine C_aload_n (D := mdX5_readNear) (pc' := 109) (x := kB C + l0) dX5_readNear_108 rfl 2 rfl ?_
                refine C_callV (D := mdX5_readNear) (pc' := 112) (p := l0) (st := []) [] v_X5_87 (i_X5_readStop C l0) dX5_readNear_109 rfl rfl rfl (Nat.le_of_ble_eq_true rfl) (by decide) (by decide) (fun c16 => ?_)
                exact C_zret rfl dX5_readNear_112
              · refine C_iconst (D := mdX5_readNear) (pc' := 81) (v := 0) dX5_readNear_80 rfl (by decide) ?_
                exact C_zret rfl dX5_readNear_81
        · refine C_iconst (D := mdX5_readNear) (pc' := 44) (v := 0) dX5_readNear_43 rfl (by decide) ?_
          exact C_zret rfl dX5_readNear_44
      · refine C_iconst (D := mdX5_readNear) (pc' := 33) (v := 0) dX5_readNear_32 rfl (by decide) ?_
        exact C_zret rfl dX5_readNear_33
    · refine C_iconst (D := mdX5_readNear) (pc' := 18) (v := 0) dX5_readNear_17 rfl (by decide) ?_
      exact C_zret rfl dX5_readNear_18

-- StandingQueries$Held.startQuery()Z
theorem dX1_startQuery_0 : decode cX1_startQuery 0 = .ok (.aload_n 0, 1) := by decide +kernel
theorem dX1_startQuery_1 : decode cX1_startQuery 1 = .ok (.getfield 30, 3) := by decide +kernel
theorem dX1_startQuery_4 : decode cX1_startQuery 4 = .ok (.bipush 8, 2) := by decide +kernel
theorem dX1_startQuery_6 : decode cX1_startQuery 6 = .ok (.if_icmp .lt 5, 3) := by decide +kernel
theorem dX1_startQuery_9 : decode cX1_startQuery 9 = .ok (.iconst 0, 1) := by decide +kernel
theorem dX1_startQuery_10 : decode cX1_startQuery 10 = .ok (.ireturn, 1) := by decide +kernel
theorem dX1_startQuery_11 : decode cX1_startQuery 11 = .ok (.aload_n 0, 1) := by decide +kernel
theorem dX1_startQuery_12 : decode cX1_startQuery 12 = .ok (.getfield 9, 3) := by decide +kernel
theorem dX1_startQuery_15 : decode cX1_startQuery 15 = .ok (.aload_n 0, 1) := by decide +kernel
theorem dX1_startQuery_16 : decode cX1_startQuery 16 = .ok (.getfield 30, 3) := by decide +kernel
theorem dX1_startQuery_19 : decode cX1_startQuery 19 = .ok (.iconst 0, 1) := by decide +kernel
theorem dX1_startQuery_20 : decode cX1_startQuery 20 = .ok (.iastore, 1) := by decide +kernel
theorem dX1_startQuery_21 : decode cX1_startQuery 21 = .ok (.aload_n 0, 1) := by decide +kernel
theorem dX1_startQuery_22 : decode cX1_startQuery 22 = .ok (.dup, 1) := by decide +kernel
theorem dX1_startQuery_23 : decode cX1_startQuery 23 = .ok (.getfield 30, 3) := by decide +kernel
theorem dX1_startQuery_26 : decode cX1_startQuery 26 = .ok (.iconst 1, 1) := by decide +kernel
theorem dX1_startQuery_27 : decode cX1_startQuery 27 = .ok (.iadd, 1) := by decide +kernel
theorem dX1_startQuery_28 : decode cX1_startQuery 28 = .ok (.putfield 30, 3) := by decide +kernel
theorem dX1_startQuery_31 : decode cX1_startQuery 31 = .ok (.iconst 1, 1) := by decide +kernel
theorem dX1_startQuery_32 : decode cX1_startQuery 32 = .ok (.ireturn, 1) := by decide +kernel
abbrev mdX1_startQuery : MD := (cX1_startQuery, RX1, 1, (some .boolean), yX1_startQuery.name, 0, 0, eT)
set_option maxHeartbeats 2000000 in
set_option maxRecDepth 20000 in
theorem i_X1_startQuery (C : KX) (l0 : Nat) : Imp C yX1_startQuery cX1_startQuery 1 (some .boolean) 0 0 rvI [.ref (kB C + l0)] (m_X1_startQuery l0) := by
  refine Imp.of (by decide) (Nat.le_of_ble_eq_true rfl) [(0, .ref (kB C + l0))] rfl ?_
  show Cmp C mdX1_startQuery (QM rvI) 0 [(0, .ref (kB C + l0))] [] (m_X1_startQuery l0)
  unfold m_X1_startQuery
  refine C_aload_n (D := mdX1_startQuery) (pc' := 1) (x := kB C + l0) dX1_startQuery_0 rfl 0 rfl ?_
  refine C_getI (D := mdX1_startQuery) (pc' := 4) (p := l0) f_X1_30 rfl dX1_startQuery_1 rfl (fun queries1 => ?_)
  refine C_bipush (D := mdX1_startQuery) (pc' := 6) (v := 8) dX1_startQuery_4 rfl (by decide) ?_
  refine C_icmp_lt (D := mdX1_startQuery) (pc' := 9) (tgt := 11) dX1_startQuery_6 (by decide) rfl ?_ ?_
  · refine C_aload_n (D := mdX1_startQuery) (pc' := 12) (x := kB C + l0) dX1_startQuery_11 rfl 0 rfl ?_
    refine C_getR (D := mdX1_startQuery) (pc' := 15) (p := l0) f_X1_9 rfl dX1_startQuery_12 rfl (fun parts2 => ?_)
    refine C_aload_n (D := mdX1_startQuery) (pc' := 16) (x := kB C + l0) dX1_startQuery_15 rfl 0 rfl ?_
    refine C_getI (D := mdX1_startQuery) (pc' := 19) (p := l0) f_X1_30 rfl dX1_startQuery_16 rfl (fun queries3 => ?_)
    refine C_iconst (D := mdX1_startQuery) (pc' := 20) (v := 0) dX1_startQuery_19 rfl (by decide) ?_
    refine C_tI (D := mdX1_startQuery) (pc' := 21) (p := parts2) dX1_startQuery_20 rfl ?_
    refine C_aload_n (D := mdX1_startQuery) (pc' := 22) (x := kB C + l0) dX1_startQuery_21 rfl 0 rfl ?_
    refine C_dup (D := mdX1_startQuery) (pc' := 23) dX1_startQuery_22 rfl rfl ?_
    refine C_getI (D := mdX1_startQuery) (pc' := 26) (p := l0) f_X1_30 rfl dX1_startQuery_23 rfl (fun queries4 => ?_)
    refine C_iconst (D := mdX1_startQuery) (pc' := 27) (v := 1) dX1_startQuery_26 rfl (by decide) ?_
    refine C_iadd (D := mdX1_startQuery) (pc' := 28) dX1_startQuery_27 rfl ?_
    refine C_putI (D := mdX1_startQuery) (pc' := 31) (p := l0) f_X1_30 rfl dX1_startQuery_28 rfl ?_
    refine C_iconst (D := mdX1_startQuery) (pc' := 32) (v := 1) dX1_startQuery_31 rfl (by decide) ?_
    exact C_zret rfl dX1_startQuery_32
  · refine C_iconst (D := mdX1_startQuery) (pc' := 10) (v := 0) dX1_startQuery_9 rfl (by decide) ?_
    exact C_zret rfl dX1_startQuery_10

-- StandingQueries$Text.readQuery()Z
theorem dX5_readQuery_0 : decode cX5_readQuery 0 = .ok (.aload_n 0, 1) := by decide +kernel
theorem dX5_readQuery_1 : decode cX5_readQuery 1 = .ok (.invokevirtual 64, 3) := by decide +kernel
theorem dX5_readQuery_4 : decode cX5_readQuery 4 = .ok (.ifCond .ne 13, 3) := by decide +kernel
theorem dX5_readQuery_7 : decode cX5_readQuery 7 = .ok (.aload_n 0, 1) := by decide +kernel
theorem dX5_readQuery_8 : decode cX5_readQuery 8 = .ok (.getfield 18, 3) := by decide +kernel
theorem dX5_readQuery_11 : decode cX5_readQuery 11 = .ok (.invokevirtual 84, 3) := by decide +kernel
theorem dX5_readQuery_14 : decode cX5_readQuery 14 = .ok (.ifCond .ne 5, 3) := by decide +kernel
theorem dX5_readQuery_17 : decode cX5_readQuery 17 = .ok (.iconst 0, 1) := by decide +kernel
theorem dX5_readQuery_18 : decode cX5_readQuery 18 = .ok (.ireturn, 1) := by decide +kernel
theorem dX5_readQuery_19 : decode cX5_readQuery 19 = .ok (.aload_n 0, 1) := by decide +kernel
theorem dX5_readQuery_20 : decode cX5_readQuery 20 = .ok (.invokevirtual 51, 3) := by decide +kernel
theorem dX5_readQuery_23 : decode cX5_readQuery 23 = .ok (.aload_n 0, 1) := by decide +kernel
theorem dX5_readQuery_24 : decode cX5_readQuery 24 = .ok (.invokevirtual 87, 3) := by decide +kernel
theorem dX5_readQuery_27 : decode cX5_readQuery 27 = .ok (.ireturn, 1) := by decide +kernel
abbrev mdX5_readQuery : MD := (cX5_readQuery, RX5, 1, (some .boolean), yX5_readQuery.name, 3, 60, eT)
set_option maxHeartbeats 2000000 in
set_option maxRecDepth 20000 in
theorem i_X5_readQuery (C : KX) (l0 : Nat) : Imp C yX5_readQuery cX5_readQuery 1 (some .boolean) 3 60 rvI [.ref (kB C + l0)] (m_X5_readQuery l0) := by
  refine Imp.of (by decide) (Nat.le_of_ble_eq_true rfl) [(0, .ref (kB C + l0))] rfl ?_
  show Cmp C mdX5_readQuery (QM rvI) 0 [(0, .ref (kB C + l0))] [] (m_X5_readQuery l0)
  unfold m_X5_readQuery
  refine C_aload_n (D := mdX5_readQuery) (pc' := 1) (x := kB C + l0) dX5_readQuery_0 rfl 0 rfl ?_
  refine C_callV (D := mdX5_readQuery) (pc' := 4) (p := l0) (st := []) [] v_X5_64 (i_X5_lacksParts C l0) dX5_readQuery_1 rfl rfl rfl (Nat.le_of_ble_eq_true rfl) (by decide) (by decide) (fun c1 => ?_)
  refine C_if_ne (D := mdX5_readQuery) (pc' := 7) (tgt := 17) dX5_readQuery_4 (by decide) rfl ?_ ?_
  · refine C_iconst (D := mdX5_readQuery) (pc' := 18) (v := 0) dX5_readQuery_17 rfl (by decide) ?_
    exact C_zret rfl dX5_readQuery_18
  · refine C_aload_n (D := mdX5_readQuery) (pc' := 8) (x := kB C + l0) dX5_readQuery_7 rfl 0 rfl ?_
    refine C_getR (D := mdX5_readQuery) (pc' := 11) (p := l0) f_X5_18 rfl dX5_readQuery_8 rfl (fun draft2 => ?_)
    refine C_callV (D := mdX5_readQuery) (pc' := 14) (p := draft2) (st := []) [] v_X5_84 (i_X1_startQuery C draft2) dX5_readQuery_11 rfl rfl rfl (Nat.le_of_ble_eq_true rfl) (by decide) (by decide) (fun c3 => ?_)
    refine C_if_ne (D := mdX5_readQuery) (pc' := 17) (tgt := 19) dX5_readQuery_14 (by decide) rfl ?_ ?_
    · refine C_aload_n (D := mdX5_readQuery) (pc' := 20) (x := kB C + l0) dX5_readQuery_19 rfl 0 rfl ?_
      refine C_callV (D := mdX5_readQuery) (pc' := 23) (p := l0) (st := []) [] v_X5_51 (i_X5_advance C l0) dX5_readQuery_20 rfl rfl rfl (Nat.le_of_ble_eq_true rfl) (by decide) (by decide) (fun _ => ?_)
      refine C_aload_n (D := mdX5_readQuery) (pc' := 24) (x := kB C + l0) dX5_readQuery_23 rfl 0 rfl ?_
      refine C_callV (D := mdX5_readQuery) (pc' := 27) (p := l0) (st := []) [] v_X5_87 (i_X5_readStop C l0) dX5_readQuery_24 rfl rfl rfl (Nat.le_of_ble_eq_true rfl) (by decide) (by decide) (fun c4 => ?_)
      exact C_zret rfl dX5_readQuery_27
    · refine C_iconst (D := mdX5_readQuery) (pc' := 18) (v := 0) dX5_readQuery_17 rfl (by decide) ?_
      exact C_zret rfl dX5_readQuery_18

-- StandingQueries$Text.readItem()Z
theorem dX5_readItem_0 : decode cX5_readItem 0 = .ok (.aload_n 0, 1) := by decide +kernel
theorem dX5_readItem_1 : decode cX5_readItem 1 = .ok (.getfield 54, 3) := by decide +kernel
theorem dX5_readItem_4 : decode cX5_readItem 4 = .ok (.iconst 1, 1) := by decide +kernel
theorem dX5_readItem_5 : decode cX5_readItem 5 = .ok (.if_icmp .ne 16, 3) := by decide +kernel
theorem dX5_readItem_8 : decode cX5_readItem 8 = .ok (.aload_n 0, 1) := by decide +kernel
theorem dX5_readItem_9 : decode cX5_readItem 9 = .ok (.getfield 48, 3) := by decide +kernel
theorem dX5_readItem_12 : decode cX5_readItem 12 = .ok (.aload_n 0, 1) := by decide +kernel
theorem dX5_readItem_13 : decode cX5_readItem 13 = .ok (.getfield 61, 3) := by decide +kernel
theorem dX5_readItem_16 : decode cX5_readItem 16 = .ok (.isub, 1) := by decide +kernel
theorem dX5_readItem_17 : decode cX5_readItem 17 = .ok (.iconst 1, 1) := by decide +kernel
theorem dX5_readItem_18 : decode cX5_readItem 18 = .ok (.if_icmp .eq 5, 3) := by decide +kernel
theorem dX5_readItem_21 : decode cX5_readItem 21 = .ok (.iconst 0, 1) := by decide +kernel
theorem dX5_readItem_22 : decode cX5_readItem 22 = .ok (.ireturn, 1) := by decide +kernel
theorem dX5_readItem_23 : decode cX5_readItem 23 = .ok (.aload_n 0, 1) := by decide +kernel
theorem dX5_readItem_24 : decode cX5_readItem 24 = .ok (.getfield 9, 3) := by decide +kernel
theorem dX5_readItem_27 : decode cX5_readItem 27 = .ok (.aload_n 0, 1) := by decide +kernel
theorem dX5_readItem_28 : decode cX5_readItem 28 = .ok (.getfield 61, 3) := by decide +kernel
theorem dX5_readItem_31 : decode cX5_readItem 31 = .ok (.iaload, 1) := by decide +kernel
theorem dX5_readItem_32 : decode cX5_readItem 32 = .ok (.tableswitch 78 104 113 #[61, 78, 78, 78, 78, 78, 67, 78, 73, 56], 56) := by decide +kernel
theorem dX5_readItem_88 : decode cX5_readItem 88 = .ok (.aload_n 0, 1) := by decide +kernel
theorem dX5_readItem_89 : decode cX5_readItem 89 = .ok (.invokevirtual 74, 3) := by decide +kernel
theorem dX5_readItem_92 : decode cX5_readItem 92 = .ok (.ireturn, 1) := by decide +kernel
theorem dX5_readItem_93 : decode cX5_readItem 93 = .ok (.aload_n 0, 1) := by decide +kernel
theorem dX5_readItem_94 : decode cX5_readItem 94 = .ok (.iconst 0, 1) := by decide +kernel
theorem dX5_readItem_95 : decode cX5_readItem 95 = .ok (.invokevirtual 77, 3) := by decide +kernel
theorem dX5_readItem_98 : decode cX5_readItem 98 = .ok (.ireturn, 1) := by decide +kernel
theorem dX5_readItem_99 : decode cX5_readItem 99 = .ok (.aload_n 0, 1) := by decide +kernel
theorem dX5_readItem_100 : decode cX5_readItem 100 = .ok (.iconst 1, 1) := by decide +kernel
theorem dX5_readItem_101 : decode cX5_readItem 101 = .ok (.invokevirtual 77, 3) := by decide +kernel
theorem dX5_readItem_104 : decode cX5_readItem 104 = .ok (.ireturn, 1) := by decide +kernel
theorem dX5_readItem_105 : decode cX5_readItem 105 = .ok (.aload_n 0, 1) := by decide +kernel
theorem dX5_readItem_106 : decode cX5_readItem 106 = .ok (.invokevirtual 81, 3) := by decide +kernel
theorem dX5_readItem_109 : decode cX5_readItem 109 = .ok (.ireturn, 1) := by decide +kernel
theorem dX5_readItem_110 : decode cX5_readItem 110 = .ok (.iconst 0, 1) := by decide +kernel
theorem dX5_readItem_111 : decode cX5_readItem 111 = .ok (.ireturn, 1) := by decide +kernel
abbrev mdX5_readItem : MD := (cX5_readItem, RX5, 1, (some .boolean), yX5_readItem.name, 4, 88, eT)
set_option maxHeartbeats 2000000 in
set_option maxRecDepth 20000 in
theorem i_X5_readItem (C : KX) (l0 : Nat) : Imp C yX5_readItem cX5_readItem 1 (some .boolean) 4 88 rvI [.ref (kB C + l0)] (m_X5_readItem l0) := by
  refine Imp.of (by decide) (Nat.le_of_ble_eq_true rfl) [(0, .ref (kB C + l0))] rfl ?_
  show Cmp C mdX5_readItem (QM rvI) 0 [(0, .ref (kB C + l0))] [] (m_X5_readItem l0)
  unfold m_X5_readItem
  refine C_aload_n (D := mdX5_readItem) (pc' := 1) (x := kB C + l0) dX5_readItem_0 rfl 0 rfl ?_
  refine C_getI (D := mdX5_readItem) (pc' := 4) (p := l0) f_X5_54 rfl dX5_readItem_1 rfl (fun kind1 => ?_)
  refine C_iconst (D := mdX5_readItem) (pc' := 5) (v := 1) dX5_readItem_4 rfl (by decide) ?_
  refine C_icmp_ne (D := mdX5_readItem) (pc' := 8) (tgt := 21) dX5_readItem_5 (by decide) rfl ?_ ?_
  · refine C_iconst (D := mdX5_readItem) (pc' := 22) (v := 0) dX5_readItem_21 rfl (by decide) ?_
    exact C_zret rfl dX5_readItem_22
  · refine C_aload_n (D := mdX5_readItem) (pc' := 9) (x := kB C + l0) dX5_readItem_8 rfl 0 rfl ?_
    refine C_getI (D := mdX5_readItem) (pc' := 12) (p := l0) f_X5_48 rfl dX5_readItem_9 rfl (fun end2 => ?_)
    refine C_aload_n (D := mdX5_readItem) (pc' := 13) (x := kB C + l0) dX5_readItem_12 rfl 0 rfl ?_
    refine C_getI (D := mdX5_readItem) (pc' := 16) (p := l0) f_X5_61 rfl dX5_readItem_13 rfl (fun begin3 => ?_)
    refine C_isub (D := mdX5_readItem) (pc' := 17) dX5_readItem_16 rfl ?_
    refine C_iconst (D := mdX5_readItem) (pc' := 18) (v := 1) dX5_readItem_17 rfl (by decide) ?_
    refine C_icmp_eq (D := mdX5_readItem) (pc' := 21) (tgt := 23) dX5_readItem_18 (by decide) rfl ?_ ?_
    · refine C_aload_n (D := mdX5_readItem) (pc' := 24) (x := kB C + l0) dX5_readItem_23 rfl 0 rfl ?_
      refine C_getR (D := mdX5_readItem) (pc' := 27) (p := l0) f_X5_9 rfl dX5_readItem_24 rfl (fun bytes4 => ?_)
      refine C_aload_n (D := mdX5_readItem) (pc' := 28) (x := kB C + l0) dX5_readItem_27 rfl 0 rfl ?_
      refine C_getI (D := mdX5_readItem) (pc' := 31) (p := l0) f_X5_61 rfl dX5_readItem_28 rfl (fun begin5 => ?_)
      refine C_aI (D := mdX5_readItem) (pc' := 32) (p := bytes4) dX5_readItem_31 rfl (fun x6 => ?_)
      refine C_tcase (D := mdX5_readItem) (c := 104) 104 (by decide) (tgt := 93) dX5_readItem_32 (by decide) (by decide) rfl (by decide) ?_ (fun h104 => ?_)
      · refine C_aload_n (D := mdX5_readItem) (pc' := 94) (x := kB C + l0) dX5_readItem_93 rfl 0 rfl ?_
        refine C_iconst (D := mdX5_readItem) (pc' := 95) (v := 0) dX5_readItem_94 rfl (by decide) ?_
        refine C_callV (D := mdX5_readItem) (pc' := 98) (p := l0) (st := []) [.int 0] v_X5_77 (i_X5_readPart C l0 0) dX5_readItem_95 rfl rfl rfl (Nat.le_of_ble_eq_true rfl) (by decide) (by decide) (fun c7 => ?_)
        exact C_zret rfl dX5_readItem_98
      refine C_tcase (D := mdX5_readItem) (c := 105) 105 (by decide) (tgt := 110) dX5_readItem_32 (by decide) (by decide) rfl (by decide) ?_ (fun h105 => ?_)
      · refine C_iconst (D := mdX5_readItem) (pc' := 111) (v := 0) dX5_readItem_110 rfl (by decide) ?_
        exact C_zret rfl dX5_readItem_111
      refine C_tcase (D := mdX5_readItem) (c := 106) 106 (by decide) (tgt := 110) dX5_readItem_32 (by decide) (by decide) rfl (by decide) ?_ (fun h106 => ?_)
      · refine C_iconst (D := mdX5_readItem) (pc' := 111) (v := 0) dX5_readItem_110 rfl (by decide) ?_
        exact C_zret rfl dX5_readItem_111
      refine C_tcase (D := mdX5_readItem) (c := 107) 107 (by decide) (tgt := 110) dX5_readItem_32 (by decide) (by decide) rfl (by decide) ?_ (fun h107 => ?_)
      · refine C_iconst (D := mdX5_readItem) (pc' := 111) (v := 0) dX5_readItem_110 rfl (by decide) ?_
        exact C_zret rfl dX5_readItem_111
      refine C_tcase (D := mdX5_readItem) (c := 108) 108 (by decide) (tgt := 110) dX5_readItem_32 (by decide) (by decide) rfl (by decide) ?_ (fun h108 => ?_)
      · refine C_iconst (D := mdX5_readItem) (pc' := 111) (v := 0) dX5_readItem_110 rfl (by decide) ?_
        exact C_zret rfl dX5_readItem_111
      refine C_tcase (D := mdX5_readItem) (c := 109) 109 (by decide) (tgt := 110) dX5_readItem_32 (by decide) (by decide) rfl (by decide) ?_ (fun h109 => ?_)
      · refine C_iconst (D := mdX5_readItem) (pc' := 111) (v := 0) dX5_readItem_110 rfl (by decide) ?_
        exact C_zret rfl dX5_readItem_111
      refine C_tcase (D := mdX5_readItem) (c := 110) 110 (by decide) (tgt := 99) dX5_readItem_32 (by decide) (by decide) rfl (by decide) ?_ (fun h110 => ?_)
      · refine C_aload_n (D := mdX5_readItem) (pc' := 100) (x := kB C + l0) dX5_readItem_99 rfl 0 rfl ?_
        refine C_iconst (D := mdX5_readItem) (pc' := 101) (v := 1) dX5_readItem_100 rfl (by decide) ?_
        refine C_callV (D := mdX5_readItem) (pc' := 104) (p := l0) (st := []) [.int 1] v_X5_77 (i_X5_readPart C l0 1) dX5_readItem_101 rfl rfl rfl (Nat.le_of_ble_eq_true rfl) (by decide) (by decide) (fun c8 => ?_)
        exact C_zret rfl dX5_readItem_104
      refine C_tcase (D := mdX5_readItem) (c := 111) 111 (by decide) (tgt := 110) dX5_readItem_32 (by decide) (by decide) rfl (by decide) ?_ (fun h111 => ?_)
      · refine C_iconst (D := mdX5_readItem) (pc' := 111) (v := 0) dX5_readItem_110 rfl (by decide) ?_
        exact C_zret rfl dX5_readItem_111
      refine C_tcase (D := mdX5_readItem) (c := 112) 112 (by decide) (tgt := 105) dX5_readItem_32 (by decide) (by decide) rfl (by decide) ?_ (fun h112 => ?_)
      · refine C_aload_n (D := mdX5_readItem) (pc' := 106) (x := kB C + l0) dX5_readItem_105 rfl 0 rfl ?_
        refine C_callV (D := mdX5_readItem) (pc' := 109) (p := l0) (st := []) [] v_X5_81 (i_X5_readNear C l0) dX5_readItem_106 rfl rfl rfl (Nat.le_of_ble_eq_true rfl) (by decide) (by decide) (fun c9 => ?_)
        exact C_zret rfl dX5_readItem_109
      refine C_tcase (D := mdX5_readItem) (c := 113) 113 (by decide) (tgt := 88) dX5_readItem_32 (by decide) (by decide) rfl (by decide) ?_ (fun h113 => ?_)
      · refine C_aload_n (D := mdX5_readItem) (pc' := 89) (x := kB C + l0) dX5_readItem_88 rfl 0 rfl ?_
        refine C_callV (D := mdX5_readItem) (pc' := 92) (p := l0) (st := []) [] v_X5_74 (i_X5_readQuery C l0) dX5_readItem_89 rfl rfl rfl (Nat.le_of_ble_eq_true rfl) (by decide) (by decide) (fun c10 => ?_)
        exact C_zret rfl dX5_readItem_92
      refine C_tdef (D := mdX5_readItem) (tgt := 110) dX5_readItem_32 (by omega) (by decide) ?_
      refine C_iconst (D := mdX5_readItem) (pc' := 111) (v := 0) dX5_readItem_110 rfl (by decide) ?_
      exact C_zret rfl dX5_readItem_111
    · refine C_iconst (D := mdX5_readItem) (pc' := 22) (v := 0) dX5_readItem_21 rfl (by decide) ?_
      exact C_zret rfl dX5_readItem_22

-- StandingQueries$Text.readBehind(LStandingQueries$Held;)I
theorem dX5_readBehind_0 : decode cX5_readBehind 0 = .ok (.aload_n 0, 1) := by decide +kernel
theorem dX5_readBehind_1 : decode cX5_readBehind 1 = .ok (.getfield 18, 3) := by decide +kernel
theorem dX5_readBehind_4 : decode cX5_readBehind 4 = .ok (.aload_n 1, 1) := by decide +kernel
theorem dX5_readBehind_5 : decode cX5_readBehind 5 = .ok (.invokevirtual 35, 3) := by decide +kernel
theorem dX5_readBehind_8 : decode cX5_readBehind 8 = .ok (.aload_n 0, 1) := by decide +kernel
theorem dX5_readBehind_9 : decode cX5_readBehind 9 = .ok (.aload_n 1, 1) := by decide +kernel
theorem dX5_readBehind_10 : decode cX5_readBehind 10 = .ok (.getfield 39, 3) := by decide +kernel
theorem dX5_readBehind_13 : decode cX5_readBehind 13 = .ok (.putfield 42, 3) := by decide +kernel
theorem dX5_readBehind_16 : decode cX5_readBehind 16 = .ok (.aload_n 0, 1) := by decide +kernel
theorem dX5_readBehind_17 : decode cX5_readBehind 17 = .ok (.getfield 27, 3) := by decide +kernel
theorem dX5_readBehind_20 : decode cX5_readBehind 20 = .ok (.aload_n 1, 1) := by decide +kernel
theorem dX5_readBehind_21 : decode cX5_readBehind 21 = .ok (.invokevirtual 45, 3) := by decide +kernel
theorem dX5_readBehind_24 : decode cX5_readBehind 24 = .ok (.aload_n 0, 1) := by decide +kernel
theorem dX5_readBehind_25 : decode cX5_readBehind 25 = .ok (.iconst 0, 1) := by decide +kernel
theorem dX5_readBehind_26 : decode cX5_readBehind 26 = .ok (.putfield 48, 3) := by decide +kernel
theorem dX5_readBehind_29 : decode cX5_readBehind 29 = .ok (.aload_n 0, 1) := by decide +kernel
theorem dX5_readBehind_30 : decode cX5_readBehind 30 = .ok (.invokevirtual 51, 3) := by decide +kernel
theorem dX5_readBehind_33 : decode cX5_readBehind 33 = .ok (.iconst 0, 1) := by decide +kernel
theorem dX5_readBehind_34 : decode cX5_readBehind 34 = .ok (.istore_n 2, 1) := by decide +kernel
theorem dX5_readBehind_35 : decode cX5_readBehind 35 = .ok (.iload_n 2, 1) := by decide +kernel
theorem dX5_readBehind_36 : decode cX5_readBehind 36 = .ok (.sipush 150, 3) := by decide +kernel
theorem dX5_readBehind_39 : decode cX5_readBehind 39 = .ok (.if_icmp .ge 28, 3) := by decide +kernel
theorem dX5_readBehind_42 : decode cX5_readBehind 42 = .ok (.aload_n 0, 1) := by decide +kernel
theorem dX5_readBehind_43 : decode cX5_readBehind 43 = .ok (.getfield 54, 3) := by decide +kernel
theorem dX5_readBehind_46 : decode cX5_readBehind 46 = .ok (.ifCond .eq 21, 3) := by decide +kernel
theorem dX5_readBehind_49 : decode cX5_readBehind 49 = .ok (.aload_n 0, 1) := by decide +kernel
theorem dX5_readBehind_50 : decode cX5_readBehind 50 = .ok (.invokevirtual 57, 3) := by decide +kernel
theorem dX5_readBehind_53 : decode cX5_readBehind 53 = .ok (.ifCond .ne 8, 3) := by decide +kernel
theorem dX5_readBehind_56 : decode cX5_readBehind 56 = .ok (.aload_n 0, 1) := by decide +kernel
theorem dX5_readBehind_57 : decode cX5_readBehind 57 = .ok (.getfield 61, 3) := by decide +kernel
theorem dX5_readBehind_60 : decode cX5_readBehind 60 = .ok (.ireturn, 1) := by decide +kernel
theorem dX5_readBehind_61 : decode cX5_readBehind 61 = .ok (.iinc 2 1, 3) := by decide +kernel
theorem dX5_readBehind_64 : decode cX5_readBehind 64 = .ok (.goto (-29), 3) := by decide +kernel
theorem dX5_readBehind_67 : decode cX5_readBehind 67 = .ok (.aload_n 0, 1) := by decide +kernel
theorem dX5_readBehind_68 : decode cX5_readBehind 68 = .ok (.invokevirtual 64, 3) := by decide +kernel
theorem dX5_readBehind_71 : decode cX5_readBehind 71 = .ok (.ifCond .eq 10, 3) := by decide +kernel
theorem dX5_readBehind_74 : decode cX5_readBehind 74 = .ok (.aload_n 0, 1) := by decide +kernel
theorem dX5_readBehind_75 : decode cX5_readBehind 75 = .ok (.getfield 61, 3) := by decide +kernel
theorem dX5_readBehind_78 : decode cX5_readBehind 78 = .ok (.goto 5, 3) := by decide +kernel
theorem dX5_readBehind_81 : decode cX5_readBehind 81 = .ok (.bipush (-9), 2) := by decide +kernel
theorem dX5_readBehind_83 : decode cX5_readBehind 83 = .ok (.ireturn, 1) := by decide +kernel
abbrev mdX5_readBehind : MD := (cX5_readBehind, RX5, 3, (some .int), yX5_readBehind.name, 5, 108, eT)
set_option maxHeartbeats 2000000 in
set_option maxRecDepth 20000 in
theorem p_X5_readBehind_J67 (C : KX) (l0 : Nat)  : Cmp C mdX5_readBehind (QM rvI) 67 [(0, .ref (kB C + l0))] [] (m_X5_readBehind_J67 l0) := by
  unfold m_X5_readBehind_J67
  refine C_aload_n (D := mdX5_readBehind) (pc' := 68) (x := kB C + l0) dX5_readBehind_67 rfl 0 rfl ?_
  refine C_callV (D := mdX5_readBehind) (pc' := 71) (p := l0) (st := []) [] v_X5_64 (i_X5_lacksParts C l0) dX5_readBehind_68 rfl rfl rfl (Nat.le_of_ble_eq_true rfl) (by decide) (by decide) (fun c4 => ?_)
  refine C_if_eq (D := mdX5_readBehind) (pc' := 74) (tgt := 81) dX5_readBehind_71 (by decide) rfl ?_ ?_
  · refine C_bipush (D := mdX5_readBehind) (pc' := 83) (v := (-9)) dX5_readBehind_81 rfl (by decide) ?_
    exact C_iret rfl dX5_readBehind_83
  · refine C_aload_n (D := mdX5_readBehind) (pc' := 75) (x := kB C + l0) dX5_readBehind_74 rfl 0 rfl ?_
    refine C_getI (D := mdX5_readBehind) (pc' := 78) (p := l0) f_X5_61 rfl dX5_readBehind_75 rfl (fun begin5 => ?_)
    refine C_goto (D := mdX5_readBehind) (pc' := 83) dX5_readBehind_78 (by decide) ?_
    exact C_iret rfl dX5_readBehind_83
set_option maxHeartbeats 2000000 in
set_option maxRecDepth 20000 in
theorem p_X5_readBehind_B35 (C : KX) (l0 : Nat)  (k35 : Int32 → Mo Int32) (hk35 : ∀ s, Cmp C mdX5_readBehind (QM rvI) 35 [(0, .ref (kB C + l0)), (2, .int s)] [] (k35 s)) (l2 : Int32) : Cmp C mdX5_readBehind (QM rvI) 35 [(0, .ref (kB C + l0)), (2, .int l2)] [] (m_X5_readBehind_B35 l0 k35 l2) := by
  unfold m_X5_readBehind_B35
  refine C_iload_n (D := mdX5_readBehind) (pc' := 36) (x := l2) dX5_readBehind_35 rfl 1 rfl ?_
  refine C_sipush (D := mdX5_readBehind) (pc' := 39) (v := 150) dX5_readBehind_36 rfl (by decide) ?_
  refine C_icmp_ge (D := mdX5_readBehind) (pc' := 42) (tgt := 67) dX5_readBehind_39 (by decide) rfl ?_ ?_
  · exact C_sub [0] rfl (p_X5_readBehind_J67 C l0)
  · refine C_aload_n (D := mdX5_readBehind) (pc' := 43) (x := kB C + l0) dX5_readBehind_42 rfl 0 rfl ?_
    refine C_getI (D := mdX5_readBehind) (pc' := 46) (p := l0) f_X5_54 rfl dX5_readBehind_43 rfl (fun kind6 => ?_)
    refine C_if_eq (D := mdX5_readBehind) (pc' := 49) (tgt := 67) dX5_readBehind_46 (by decide) rfl ?_ ?_
    · exact C_sub [0] rfl (p_X5_readBehind_J67 C l0)
    · refine C_aload_n (D := mdX5_readBehind) (pc' := 50) (x := kB C + l0) dX5_readBehind_49 rfl 0 rfl ?_
      refine C_callV (D := mdX5_readBehind) (pc' := 53) (p := l0) (st := []) [] v_X5_57 (i_X5_readItem C l0) dX5_readBehind_50 rfl rfl rfl (Nat.le_of_ble_eq_true rfl) (by decide) (by decide) (fun c7 => ?_)
      refine C_if_ne (D := mdX5_readBehind) (pc' := 56) (tgt := 61) dX5_readBehind_53 (by decide) rfl ?_ ?_
      · refine C_iinc (D := mdX5_readBehind) (pc' := 64) (j := 1) (v := (l2 + 1)) (ls' := [(2, .int (l2 + 1)), (0, .ref (kB C + l0))]) dX5_readBehind_61 rfl rfl rfl (by decide) rfl ?_
        refine C_goto (D := mdX5_readBehind) (pc' := 35) dX5_readBehind_64 (by decide) ?_
        exact C_sub [1, 0] rfl (hk35 ((l2 + 1)))
      · refine C_aload_n (D := mdX5_readBehind) (pc' := 57) (x := kB C + l0) dX5_readBehind_56 rfl 0 rfl ?_
        refine C_getI (D := mdX5_readBehind) (pc' := 60) (p := l0) f_X5_61 rfl dX5_readBehind_57 rfl (fun begin8 => ?_)
        exact C_iret rfl dX5_readBehind_60
set_option maxHeartbeats 2000000 in
set_option maxRecDepth 20000 in
theorem i_X5_readBehind (C : KX) (l0 : Nat) (l1 : Nat) : Imp C yX5_readBehind cX5_readBehind 3 (some .int) 5 108 rvI [.ref (kB C + l0), .ref (kB C + l1)] (m_X5_readBehind l0 l1) := by
  refine Imp.of (by decide) (Nat.le_of_ble_eq_true rfl) [(0, .ref (kB C + l0)), (1, .ref (kB C + l1))] rfl ?_
  show Cmp C mdX5_readBehind (QM rvI) 0 [(0, .ref (kB C + l0)), (1, .ref (kB C + l1))] [] (m_X5_readBehind l0 l1)
  unfold m_X5_readBehind
  refine C_aload_n (D := mdX5_readBehind) (pc' := 1) (x := kB C + l0) dX5_readBehind_0 rfl 0 rfl ?_
  refine C_getR (D := mdX5_readBehind) (pc' := 4) (p := l0) f_X5_18 rfl dX5_readBehind_1 rfl (fun draft1 => ?_)
  refine C_aload_n (D := mdX5_readBehind) (pc' := 5) (x := kB C + l1) dX5_readBehind_4 rfl 1 rfl ?_
  refine C_callV (D := mdX5_readBehind) (pc' := 8) (p := draft1) (st := []) [.ref (kB C + l1)] v_X5_35 (i_X1_take C draft1 l1) dX5_readBehind_5 rfl rfl rfl (Nat.le_of_ble_eq_true rfl) (by decide) (by decide) (fun _ => ?_)
  refine C_aload_n (D := mdX5_readBehind) (pc' := 9) (x := kB C + l0) dX5_readBehind_8 rfl 0 rfl ?_
  refine C_aload_n (D := mdX5_readBehind) (pc' := 10) (x := kB C + l1) dX5_readBehind_9 rfl 1 rfl ?_
  refine C_getI (D := mdX5_readBehind) (pc' := 13) (p := l1) f_X5_39 rfl dX5_readBehind_10 rfl (fun queries2 => ?_)
  refine C_putI (D := mdX5_readBehind) (pc' := 16) (p := l0) f_X5_42 rfl dX5_readBehind_13 rfl ?_
  refine C_aload_n (D := mdX5_readBehind) (pc' := 17) (x := kB C + l0) dX5_readBehind_16 rfl 0 rfl ?_
  refine C_getR (D := mdX5_readBehind) (pc' := 20) (p := l0) f_X5_27 rfl dX5_readBehind_17 rfl (fun words3 => ?_)
  refine C_aload_n (D := mdX5_readBehind) (pc' := 21) (x := kB C + l1) dX5_readBehind_20 rfl 1 rfl ?_
  refine C_callV (D := mdX5_readBehind) (pc' := 24) (p := words3) (st := []) [.ref (kB C + l1)] v_X5_45 (i_X6_gatherAll C words3 l1) dX5_readBehind_21 rfl rfl rfl (Nat.le_of_ble_eq_true rfl) (by decide) (by decide) (fun _ => ?_)
  refine C_aload_n (D := mdX5_readBehind) (pc' := 25) (x := kB C + l0) dX5_readBehind_24 rfl 0 rfl ?_
  refine C_iconst (D := mdX5_readBehind) (pc' := 26) (v := 0) dX5_readBehind_25 rfl (by decide) ?_
  refine C_putI (D := mdX5_readBehind) (pc' := 29) (p := l0) f_X5_48 rfl dX5_readBehind_26 rfl ?_
  refine C_aload_n (D := mdX5_readBehind) (pc' := 30) (x := kB C + l0) dX5_readBehind_29 rfl 0 rfl ?_
  refine C_callV (D := mdX5_readBehind) (pc' := 33) (p := l0) (st := []) [] v_X5_51 (i_X5_advance C l0) dX5_readBehind_30 rfl rfl rfl (Nat.le_of_ble_eq_true rfl) (by decide) (by decide) (fun _ => ?_)
  refine C_iconst (D := mdX5_readBehind) (pc' := 34) (v := 0) dX5_readBehind_33 rfl (by decide) ?_
  refine C_istore_n (D := mdX5_readBehind) (pc' := 35) (ls' := [(2, .int 0), (0, .ref (kB C + l0)), (1, .ref (kB C + l1))]) dX5_readBehind_34 rfl rfl (by decide) rfl ?_
  exact C_sub [1, 0] rfl (C_loop (fun s => [(0, .ref (kB C + l0)), (2, .int s)]) (fun k hk s => p_X5_readBehind_B35 C l0  k hk s) FU 0)

-- StandingQueries$History.push(LStandingQueries$Held;)V
theorem dX2_push_0 : decode cX2_push 0 = .ok (.aload_n 0, 1) := by decide +kernel
theorem dX2_push_1 : decode cX2_push 1 = .ok (.aload_n 0, 1) := by decide +kernel
theorem dX2_push_2 : decode cX2_push 2 = .ok (.getfield 17, 3) := by decide +kernel
theorem dX2_push_5 : decode cX2_push 5 = .ok (.iconst 1, 1) := by decide +kernel
theorem dX2_push_6 : decode cX2_push 6 = .ok (.iadd, 1) := by decide +kernel
theorem dX2_push_7 : decode cX2_push 7 = .ok (.bipush 10, 2) := by decide +kernel
theorem dX2_push_9 : decode cX2_push 9 = .ok (.irem, 1) := by decide +kernel
theorem dX2_push_10 : decode cX2_push 10 = .ok (.putfield 17, 3) := by decide +kernel
theorem dX2_push_13 : decode cX2_push 13 = .ok (.aload_n 0, 1) := by decide +kernel
theorem dX2_push_14 : decode cX2_push 14 = .ok (.getfield 11, 3) := by decide +kernel
theorem dX2_push_17 : decode cX2_push 17 = .ok (.aload_n 0, 1) := by decide +kernel
theorem dX2_push_18 : decode cX2_push 18 = .ok (.getfield 17, 3) := by decide +kernel
theorem dX2_push_21 : decode cX2_push 21 = .ok (.aaload, 1) := by decide +kernel
theorem dX2_push_22 : decode cX2_push 22 = .ok (.astore_n 2, 1) := by decide +kernel
theorem dX2_push_23 : decode cX2_push 23 = .ok (.aload_n 2, 1) := by decide +kernel
theorem dX2_push_24 : decode cX2_push 24 = .ok (.ifnonnull 21, 3) := by decide +kernel
theorem dX2_push_27 : decode cX2_push 27 = .ok (.new 9, 3) := by decide +kernel
theorem dX2_push_30 : decode cX2_push 30 = .ok (.dup, 1) := by decide +kernel
theorem dX2_push_31 : decode cX2_push 31 = .ok (.invokespecial 21, 3) := by decide +kernel
theorem dX2_push_34 : decode cX2_push 34 = .ok (.astore_n 2, 1) := by decide +kernel
theorem dX2_push_35 : decode cX2_push 35 = .ok (.aload_n 0, 1) := by decide +kernel
theorem dX2_push_36 : decode cX2_push 36 = .ok (.getfield 11, 3) := by decide +kernel
theorem dX2_push_39 : decode cX2_push 39 = .ok (.aload_n 0, 1) := by decide +kernel
theorem dX2_push_40 : decode cX2_push 40 = .ok (.getfield 17, 3) := by decide +kernel
theorem dX2_push_43 : decode cX2_push 43 = .ok (.aload_n 2, 1) := by decide +kernel
theorem dX2_push_44 : decode cX2_push 44 = .ok (.aastore, 1) := by decide +kernel
theorem dX2_push_45 : decode cX2_push 45 = .ok (.aload_n 2, 1) := by decide +kernel
theorem dX2_push_46 : decode cX2_push 46 = .ok (.aload_n 1, 1) := by decide +kernel
theorem dX2_push_47 : decode cX2_push 47 = .ok (.invokevirtual 22, 3) := by decide +kernel
theorem dX2_push_50 : decode cX2_push 50 = .ok (.aload_n 0, 1) := by decide +kernel
theorem dX2_push_51 : decode cX2_push 51 = .ok (.aload_n 0, 1) := by decide +kernel
theorem dX2_push_52 : decode cX2_push 52 = .ok (.getfield 26, 3) := by decide +kernel
theorem dX2_push_55 : decode cX2_push 55 = .ok (.iconst 1, 1) := by decide +kernel
theorem dX2_push_56 : decode cX2_push 56 = .ok (.iadd, 1) := by decide +kernel
theorem dX2_push_57 : decode cX2_push 57 = .ok (.bipush 10, 2) := by decide +kernel
theorem dX2_push_59 : decode cX2_push 59 = .ok (.invokestatic 29, 3) := by decide +kernel
theorem dX2_push_62 : decode cX2_push 62 = .ok (.putfield 26, 3) := by decide +kernel
theorem dX2_push_65 : decode cX2_push 65 = .ok (.return_, 1) := by decide +kernel
abbrev mdX2_push : MD := (cX2_push, RX2, 3, none, yX2_push.name, 2, 39, eT)
set_option maxHeartbeats 2000000 in
set_option maxRecDepth 20000 in
theorem p_X2_push_J45 (C : KX) (l0 : Nat) (l1 : Nat) (l2 : Nat)  : Cmp C mdX2_push (QM rvV) 45 [(0, .ref (kB C + l0)), (1, .ref (kB C + l1)), (2, .ref (kB C + l2))] [] (m_X2_push_J45 l0 l1 l2) := by
  unfold m_X2_push_J45
  refine C_aload_n (D := mdX2_push) (pc' := 46) (x := kB C + l2) dX2_push_45 rfl 2 rfl ?_
  refine C_aload_n (D := mdX2_push) (pc' := 47) (x := kB C + l1) dX2_push_46 rfl 1 rfl ?_
  refine C_callV (D := mdX2_push) (pc' := 50) (p := l2) (st := []) [.ref (kB C + l1)] v_X2_22 (i_X1_take C l2 l1) dX2_push_47 rfl rfl rfl (Nat.le_of_ble_eq_true rfl) (by decide) (by decide) (fun _ => ?_)
  refine C_aload_n (D := mdX2_push) (pc' := 51) (x := kB C + l0) dX2_push_50 rfl 0 rfl ?_
  refine C_aload_n (D := mdX2_push) (pc' := 52) (x := kB C + l0) dX2_push_51 rfl 0 rfl ?_
  refine C_getI (D := mdX2_push) (pc' := 55) (p := l0) f_X2_26 rfl dX2_push_52 rfl (fun known9 => ?_)
  refine C_iconst (D := mdX2_push) (pc' := 56) (v := 1) dX2_push_55 rfl (by decide) ?_
  refine C_iadd (D := mdX2_push) (pc' := 57) dX2_push_56 rfl ?_
  refine C_bipush (D := mdX2_push) (pc' := 59) (v := 10) dX2_push_57 rfl (by decide) ?_
  refine C_min (D := mdX2_push) (pc' := 62) mm_X2_29 mm_min_s mm_i mm_min_c dX2_push_59 rfl (by decide) (Nat.le_of_ble_eq_true rfl) ?_
  refine C_putI (D := mdX2_push) (pc' := 65) (p := l0) f_X2_26 rfl dX2_push_62 rfl ?_
  exact C_vret rfl dX2_push_65
set_option maxHeartbeats 2000000 in
set_option maxRecDepth 20000 in
theorem i_X2_push (C : KX) (l0 : Nat) (l1 : Nat) : Imp C yX2_push cX2_push 3 none 2 39 rvV [.ref (kB C + l0), .ref (kB C + l1)] (m_X2_push l0 l1) := by
  refine Imp.of (by decide) (Nat.le_of_ble_eq_true rfl) [(0, .ref (kB C + l0)), (1, .ref (kB C + l1))] rfl ?_
  show Cmp C mdX2_push (QM rvV) 0 [(0, .ref (kB C + l0)), (1, .ref (kB C + l1))] [] (m_X2_push l0 l1)
  unfold m_X2_push
  refine C_aload_n (D := mdX2_push) (pc' := 1) (x := kB C + l0) dX2_push_0 rfl 0 rfl ?_
  refine C_aload_n (D := mdX2_push) (pc' := 2) (x := kB C + l0) dX2_push_1 rfl 0 rfl ?_
  refine C_getI (D := mdX2_push) (pc' := 5) (p := l0) f_X2_17 rfl dX2_push_2 rfl (fun latest1 => ?_)
  refine C_iconst (D := mdX2_push) (pc' := 6) (v := 1) dX2_push_5 rfl (by decide) ?_
  refine C_iadd (D := mdX2_push) (pc' := 7) dX2_push_6 rfl ?_
  refine C_bipush (D := mdX2_push) (pc' := 9) (v := 10) dX2_push_7 rfl (by decide) ?_
  refine C_irem (D := mdX2_push) (pc' := 10) dX2_push_9 rfl (by decide) ?_
  refine C_putI (D := mdX2_push) (pc' := 13) (p := l0) f_X2_17 rfl dX2_push_10 rfl ?_
  refine C_aload_n (D := mdX2_push) (pc' := 14) (x := kB C + l0) dX2_push_13 rfl 0 rfl ?_
  refine C_getR (D := mdX2_push) (pc' := 17) (p := l0) f_X2_11 rfl dX2_push_14 rfl (fun ring2 => ?_)
  refine C_aload_n (D := mdX2_push) (pc' := 18) (x := kB C + l0) dX2_push_17 rfl 0 rfl ?_
  refine C_getI (D := mdX2_push) (pc' := 21) (p := l0) f_X2_17 rfl dX2_push_18 rfl (fun latest3 => ?_)
  refine C_aQ (D := mdX2_push) (pc' := 22) (p := ring2) dX2_push_21 rfl ?_ (fun r4 => ?_)
  · refine C_astore_nN (D := mdX2_push) (pc' := 23) (ls' := [(2, .null), (0, .ref (kB C + l0)), (1, .ref (kB C + l1))]) dX2_push_22 rfl rfl (by decide) rfl ?_
    refine C_aload_nN (D := mdX2_push) (pc' := 24) dX2_push_23 rfl 0 rfl ?_
    refine C_ifnonnullN (D := mdX2_push) (pc' := 27) dX2_push_24 rfl ?_
    refine C_new (D := mdX2_push) (pc' := 30) n_X2_9 dX2_push_27 rfl (fun p6 => ?_)
    refine C_dup (D := mdX2_push) (pc' := 31) dX2_push_30 rfl rfl ?_
    refine C_callIN (D := mdX2_push) (pc' := 34) (p := p6) (st := [.ref (kB C + p6)]) [] i_X2_21 (i_X1_init C p6) dX2_push_31 rfl rfl rfl (Nat.le_of_ble_eq_true rfl) (by decide) (by decide) (fun _ => ?_)
    refine C_astore_n (D := mdX2_push) (pc' := 35) (ls' := [(2, .ref (kB C + p6)), (0, .ref (kB C + l0)), (1, .ref (kB C + l1))]) dX2_push_34 rfl rfl (by decide) rfl ?_
    refine C_aload_n (D := mdX2_push) (pc' := 36) (x := kB C + l0) dX2_push_35 rfl 1 rfl ?_
    refine C_getR (D := mdX2_push) (pc' := 39) (p := l0) f_X2_11 rfl dX2_push_36 rfl (fun ring7 => ?_)
    refine C_aload_n (D := mdX2_push) (pc' := 40) (x := kB C + l0) dX2_push_39 rfl 1 rfl ?_
    refine C_getI (D := mdX2_push) (pc' := 43) (p := l0) f_X2_17 rfl dX2_push_40 rfl (fun latest8 => ?_)
    refine C_aload_n (D := mdX2_push) (pc' := 44) (x := kB C + p6) dX2_push_43 rfl 0 rfl ?_
    refine C_tQ (D := mdX2_push) (pc' := 45) (p := ring7) (q := p6) dX2_push_44 rfl ?_
    exact C_sub [1, 2, 0] rfl (p_X2_push_J45 C l0 l1 p6)
  · refine C_astore_n (D := mdX2_push) (pc' := 23) (ls' := [(2, .ref (kB C + r4)), (0, .ref (kB C + l0)), (1, .ref (kB C + l1))]) dX2_push_22 rfl rfl (by decide) rfl ?_
    refine C_aload_n (D := mdX2_push) (pc' := 24) (x := kB C + r4) dX2_push_23 rfl 0 rfl ?_
    refine C_ifnonnull (D := mdX2_push) (pc' := 45) dX2_push_24 (by decide) ?_
    exact C_sub [1, 2, 0] rfl (p_X2_push_J45 C l0 l1 r4)

-- java/util/Arrays.fill([II)V
theorem dJ7_fill_53178_0 : decode cJ7_fill_53178 0 = .ok (.iconst 0, 1) := by decide +kernel
theorem dJ7_fill_53178_1 : decode cJ7_fill_53178 1 = .ok (.istore_n 2, 1) := by decide +kernel
theorem dJ7_fill_53178_2 : decode cJ7_fill_53178 2 = .ok (.aload_n 0, 1) := by decide +kernel
theorem dJ7_fill_53178_3 : decode cJ7_fill_53178 3 = .ok (.arraylength, 1) := by decide +kernel
theorem dJ7_fill_53178_4 : decode cJ7_fill_53178 4 = .ok (.istore_n 3, 1) := by decide +kernel
theorem dJ7_fill_53178_5 : decode cJ7_fill_53178 5 = .ok (.iload_n 2, 1) := by decide +kernel
theorem dJ7_fill_53178_6 : decode cJ7_fill_53178 6 = .ok (.iload_n 3, 1) := by decide +kernel
theorem dJ7_fill_53178_7 : decode cJ7_fill_53178 7 = .ok (.if_icmp .ge 13, 3) := by decide +kernel
theorem dJ7_fill_53178_10 : decode cJ7_fill_53178 10 = .ok (.aload_n 0, 1) := by decide +kernel
theorem dJ7_fill_53178_11 : decode cJ7_fill_53178 11 = .ok (.iload_n 2, 1) := by decide +kernel
theorem dJ7_fill_53178_12 : decode cJ7_fill_53178 12 = .ok (.iload_n 1, 1) := by decide +kernel
theorem dJ7_fill_53178_13 : decode cJ7_fill_53178 13 = .ok (.iastore, 1) := by decide +kernel
theorem dJ7_fill_53178_14 : decode cJ7_fill_53178 14 = .ok (.iinc 2 1, 3) := by decide +kernel
theorem dJ7_fill_53178_17 : decode cJ7_fill_53178 17 = .ok (.goto (-12), 3) := by decide +kernel
theorem dJ7_fill_53178_20 : decode cJ7_fill_53178 20 = .ok (.return_, 1) := by decide +kernel
abbrev mdJ7_fill_53178 : MD := (cJ7_fill_53178, RJ7, 4, none, yJ7_fill_53178.name, 0, 0, eT)
set_option maxHeartbeats 2000000 in
set_option maxRecDepth 20000 in
theorem p_J7_fill_53178_B5 (C : KX) (l0 : Nat) (l1 : Int32) (l3 : Int32)  (k5 : Int32 → Mo Unit) (hk5 : ∀ s, Cmp C mdJ7_fill_53178 (QM rvV) 5 [(0, .ref (kB C + l0)), (1, .int l1), (2, .int s), (3, .int l3)] [] (k5 s)) (l2 : Int32) : Cmp C mdJ7_fill_53178 (QM rvV) 5 [(0, .ref (kB C + l0)), (1, .int l1), (2, .int l2), (3, .int l3)] [] (m_J7_fill_53178_B5 l0 l1 l3 k5 l2) := by
  unfold m_J7_fill_53178_B5
  refine C_iload_n (D := mdJ7_fill_53178) (pc' := 6) (x := l2) dJ7_fill_53178_5 rfl 2 rfl ?_
  refine C_iload_n (D := mdJ7_fill_53178) (pc' := 7) (x := l3) dJ7_fill_53178_6 rfl 3 rfl ?_
  refine C_icmp_ge (D := mdJ7_fill_53178) (pc' := 10) (tgt := 20) dJ7_fill_53178_7 (by decide) rfl ?_ ?_
  · exact C_vret rfl dJ7_fill_53178_20
  · refine C_aload_n (D := mdJ7_fill_53178) (pc' := 11) (x := kB C + l0) dJ7_fill_53178_10 rfl 0 rfl ?_
    refine C_iload_n (D := mdJ7_fill_53178) (pc' := 12) (x := l2) dJ7_fill_53178_11 rfl 2 rfl ?_
    refine C_iload_n (D := mdJ7_fill_53178) (pc' := 13) (x := l1) dJ7_fill_53178_12 rfl 1 rfl ?_
    refine C_tI (D := mdJ7_fill_53178) (pc' := 14) (p := l0) dJ7_fill_53178_13 rfl ?_
    refine C_iinc (D := mdJ7_fill_53178) (pc' := 17) (j := 2) (v := (l2 + 1)) (ls' := [(2, .int (l2 + 1)), (0, .ref (kB C + l0)), (1, .int l1), (3, .int l3)]) dJ7_fill_53178_14 rfl rfl rfl (by decide) rfl ?_
    refine C_goto (D := mdJ7_fill_53178) (pc' := 5) dJ7_fill_53178_17 (by decide) ?_
    exact C_sub [1, 2, 0, 3] rfl (hk5 ((l2 + 1)))
set_option maxHeartbeats 2000000 in
set_option maxRecDepth 20000 in
theorem i_J7_fill_53178 (C : KX) (l0 : Nat) (l1 : Int32) : Imp C yJ7_fill_53178 cJ7_fill_53178 4 none 0 0 rvV [.ref (kB C + l0), .int l1] (m_J7_fill_53178 l0 l1) := by
  refine Imp.of (by decide) (Nat.le_of_ble_eq_true rfl) [(0, .ref (kB C + l0)), (1, .int l1)] rfl ?_
  show Cmp C mdJ7_fill_53178 (QM rvV) 0 [(0, .ref (kB C + l0)), (1, .int l1)] [] (m_J7_fill_53178 l0 l1)
  unfold m_J7_fill_53178
  refine C_iconst (D := mdJ7_fill_53178) (pc' := 1) (v := 0) dJ7_fill_53178_0 rfl (by decide) ?_
  refine C_istore_n (D := mdJ7_fill_53178) (pc' := 2) (ls' := [(2, .int 0), (0, .ref (kB C + l0)), (1, .int l1)]) dJ7_fill_53178_1 rfl rfl (by decide) rfl ?_
  refine C_aload_n (D := mdJ7_fill_53178) (pc' := 3) (x := kB C + l0) dJ7_fill_53178_2 rfl 1 rfl ?_
  refine C_alen (D := mdJ7_fill_53178) (pc' := 4) (kd := 100) (p := l0) (by decide) dJ7_fill_53178_3 rfl (fun len1 => ?_)
  refine C_istore_n (D := mdJ7_fill_53178) (pc' := 5) (ls' := [(3, .int len1), (2, .int 0), (0, .ref (kB C + l0)), (1, .int l1)]) dJ7_fill_53178_4 rfl rfl (by decide) rfl ?_
  exact C_sub [2, 3, 1, 0] rfl (C_loop (fun s => [(0, .ref (kB C + l0)), (1, .int l1), (2, .int s), (3, .int len1)]) (fun k hk s => p_J7_fill_53178_B5 C l0 l1 len1  k hk s) FU 0)

-- StandingQueries$Automaton.link()V
theorem dX0_link_0 : decode cX0_link 0 = .ok (.iconst 0, 1) := by decide +kernel
theorem dX0_link_1 : decode cX0_link 1 = .ok (.istore_n 1, 1) := by decide +kernel
theorem dX0_link_2 : decode cX0_link 2 = .ok (.iload_n 1, 1) := by decide +kernel
theorem dX0_link_3 : decode cX0_link 3 = .ok (.aload_n 0, 1) := by decide +kernel
theorem dX0_link_4 : decode cX0_link 4 = .ok (.getfield 9, 3) := by decide +kernel
theorem dX0_link_7 : decode cX0_link 7 = .ok (.if_icmp .ge 113, 3) := by decide +kernel
theorem dX0_link_10 : decode cX0_link 10 = .ok (.iload_n 1, 1) := by decide +kernel
theorem dX0_link_11 : decode cX0_link 11 = .ok (.ifCond .le 23, 3) := by decide +kernel
theorem dX0_link_14 : decode cX0_link 14 = .ok (.aload_n 0, 1) := by decide +kernel
theorem dX0_link_15 : decode cX0_link 15 = .ok (.getfield 28, 3) := by decide +kernel
theorem dX0_link_18 : decode cX0_link 18 = .ok (.iload_n 1, 1) := by decide +kernel
theorem dX0_link_19 : decode cX0_link 19 = .ok (.dup2, 1) := by decide +kernel
theorem dX0_link_20 : decode cX0_link 20 = .ok (.iaload, 1) := by decide +kernel
theorem dX0_link_21 : decode cX0_link 21 = .ok (.aload_n 0, 1) := by decide +kernel
theorem dX0_link_22 : decode cX0_link 22 = .ok (.getfield 28, 3) := by decide +kernel
theorem dX0_link_25 : decode cX0_link 25 = .ok (.aload_n 0, 1) := by decide +kernel
theorem dX0_link_26 : decode cX0_link 26 = .ok (.getfield 25, 3) := by decide +kernel
theorem dX0_link_29 : decode cX0_link 29 = .ok (.iload_n 1, 1) := by decide +kernel
theorem dX0_link_30 : decode cX0_link 30 = .ok (.iaload, 1) := by decide +kernel
theorem dX0_link_31 : decode cX0_link 31 = .ok (.iaload, 1) := by decide +kernel
theorem dX0_link_32 : decode cX0_link 32 = .ok (.ior, 1) := by decide +kernel
theorem dX0_link_33 : decode cX0_link 33 = .ok (.iastore, 1) := by decide +kernel
theorem dX0_link_34 : decode cX0_link 34 = .ok (.iconst 0, 1) := by decide +kernel
theorem dX0_link_35 : decode cX0_link 35 = .ok (.istore_n 2, 1) := by decide +kernel
theorem dX0_link_36 : decode cX0_link 36 = .ok (.iload_n 2, 1) := by decide +kernel
theorem dX0_link_37 : decode cX0_link 37 = .ok (.bipush 8, 2) := by decide +kernel
theorem dX0_link_39 : decode cX0_link 39 = .ok (.if_icmp .ge 75, 3) := by decide +kernel
theorem dX0_link_42 : decode cX0_link 42 = .ok (.iload_n 1, 1) := by decide +kernel
theorem dX0_link_43 : decode cX0_link 43 = .ok (.ifCond .ne 7, 3) := by decide +kernel
theorem dX0_link_46 : decode cX0_link 46 = .ok (.iconst 0, 1) := by decide +kernel
theorem dX0_link_47 : decode cX0_link 47 = .ok (.goto 19, 3) := by decide +kernel
theorem dX0_link_50 : decode cX0_link 50 = .ok (.aload_n 0, 1) := by decide +kernel
theorem dX0_link_51 : decode cX0_link 51 = .ok (.getfield 31, 3) := by decide +kernel
theorem dX0_link_54 : decode cX0_link 54 = .ok (.aload_n 0, 1) := by decide +kernel
theorem dX0_link_55 : decode cX0_link 55 = .ok (.getfield 25, 3) := by decide +kernel
theorem dX0_link_58 : decode cX0_link 58 = .ok (.iload_n 1, 1) := by decide +kernel
theorem dX0_link_59 : decode cX0_link 59 = .ok (.iaload, 1) := by decide +kernel
theorem dX0_link_60 : decode cX0_link 60 = .ok (.bipush 8, 2) := by decide +kernel
theorem dX0_link_62 : decode cX0_link 62 = .ok (.imul, 1) := by decide +kernel
theorem dX0_link_63 : decode cX0_link 63 = .ok (.iload_n 2, 1) := by decide +kernel
theorem dX0_link_64 : decode cX0_link 64 = .ok (.iadd, 1) := by decide +kernel
theorem dX0_link_65 : decode cX0_link 65 = .ok (.iaload, 1) := by decide +kernel
theorem dX0_link_66 : decode cX0_link 66 = .ok (.istore_n 3, 1) := by decide +kernel
theorem dX0_link_67 : decode cX0_link 67 = .ok (.aload_n 0, 1) := by decide +kernel
theorem dX0_link_68 : decode cX0_link 68 = .ok (.getfield 31, 3) := by decide +kernel
theorem dX0_link_71 : decode cX0_link 71 = .ok (.iload_n 1, 1) := by decide +kernel
theorem dX0_link_72 : decode cX0_link 72 = .ok (.bipush 8, 2) := by decide +kernel
theorem dX0_link_74 : decode cX0_link 74 = .ok (.imul, 1) := by decide +kernel
theorem dX0_link_75 : decode cX0_link 75 = .ok (.iload_n 2, 1) := by decide +kernel
theorem dX0_link_76 : decode cX0_link 76 = .ok (.iadd, 1) := by decide +kernel
theorem dX0_link_77 : decode cX0_link 77 = .ok (.iaload, 1) := by decide +kernel
theorem dX0_link_78 : decode cX0_link 78 = .ok (.istore 4, 2) := by decide +kernel
theorem dX0_link_80 : decode cX0_link 80 = .ok (.iload 4, 2) := by decide +kernel
theorem dX0_link_82 : decode cX0_link 82 = .ok (.ifCond .ne 18, 3) := by decide +kernel
theorem dX0_link_85 : decode cX0_link 85 = .ok (.aload_n 0, 1) := by decide +kernel
theorem dX0_link_86 : decode cX0_link 86 = .ok (.getfield 31, 3) := by decide +kernel
theorem dX0_link_89 : decode cX0_link 89 = .ok (.iload_n 1, 1) := by decide +kernel
theorem dX0_link_90 : decode cX0_link 90 = .ok (.bipush 8, 2) := by decide +kernel
theorem dX0_link_92 : decode cX0_link 92 = .ok (.imul, 1) := by decide +kernel
theorem dX0_link_93 : decode cX0_link 93 = .ok (.iload_n 2, 1) := by decide +kernel
theorem dX0_link_94 : decode cX0_link 94 = .ok (.iadd, 1) := by decide +kernel
theorem dX0_link_95 : decode cX0_link 95 = .ok (.iload_n 3, 1) := by decide +kernel
theorem dX0_link_96 : decode cX0_link 96 = .ok (.iastore, 1) := by decide +kernel
theorem dX0_link_97 : decode cX0_link 97 = .ok (.goto 11, 3) := by decide +kernel
theorem dX0_link_100 : decode cX0_link 100 = .ok (.aload_n 0, 1) := by decide +kernel
theorem dX0_link_101 : decode cX0_link 101 = .ok (.getfield 25, 3) := by decide +kernel
theorem dX0_link_104 : decode cX0_link 104 = .ok (.iload 4, 2) := by decide +kernel
theorem dX0_link_106 : decode cX0_link 106 = .ok (.iload_n 3, 1) := by decide +kernel
theorem dX0_link_107 : decode cX0_link 107 = .ok (.iastore, 1) := by decide +kernel
theorem dX0_link_108 : decode cX0_link 108 = .ok (.iinc 2 1, 3) := by decide +kernel
theorem dX0_link_111 : decode cX0_link 111 = .ok (.goto (-75), 3) := by decide +kernel
theorem dX0_link_114 : decode cX0_link 114 = .ok (.iinc 1 1, 3) := by decide +kernel
theorem dX0_link_117 : decode cX0_link 117 = .ok (.goto (-115), 3) := by decide +kernel
theorem dX0_link_120 : decode cX0_link 120 = .ok (.return_, 1) := by decide +kernel
abbrev mdX0_link : MD := (cX0_link, RX0, 5, none, yX0_link.name, 0, 0, eT)
set_option maxHeartbeats 2000000 in
set_option maxRecDepth 20000 in
theorem p_X0_link_J108 (C : KX) (l0 : Nat) (l1 : Int32) (l2 : Int32) (k2 : Int32 → Mo Unit) (hk2 : ∀ s, Cmp C mdX0_link (QM rvV) 2 [(0, .ref (kB C + l0)), (1, .int s)] [] (k2 s)) (k36 : Int32 → Mo Unit) (hk36 : ∀ s, Cmp C mdX0_link (QM rvV) 36 [(0, .ref (kB C + l0)), (1, .int l1), (2, .int s)] [] (k36 s)) : Cmp C mdX0_link (QM rvV) 108 [(0, .ref (kB C + l0)), (1, .int l1), (2, .int l2)] [] (m_X0_link_J108 l0 l1 l2 k2 k36) := by
  unfold m_X0_link_J108
  refine C_iinc (D := mdX0_link) (pc' := 111) (j := 2) (v := (l2 + 1)) (ls' := [(2, .int (l2 + 1)), (0, .ref (kB C + l0)), (1, .int l1)]) dX0_link_108 rfl rfl rfl (by decide) rfl ?_
  refine C_goto (D := mdX0_link) (pc' := 36) dX0_link_111 (by decide) ?_
  exact C_sub [1, 2, 0] rfl (hk36 ((l2 + 1)))
set_option maxHeartbeats 2000000 in
set_option maxRecDepth 20000 in
theorem p_X0_link_J66 (C : KX) (l0 : Nat) (l1 : Int32) (l2 : Int32) (s0 : Int32) (k2 : Int32 → Mo Unit) (hk2 : ∀ s, Cmp C mdX0_link (QM rvV) 2 [(0, .ref (kB C + l0)), (1, .int s)] [] (k2 s)) (k36 : Int32 → Mo Unit) (hk36 : ∀ s, Cmp C mdX0_link (QM rvV) 36 [(0, .ref (kB C + l0)), (1, .int l1), (2, .int s)] [] (k36 s)) : Cmp C mdX0_link (QM rvV) 66 [(0, .ref (kB C + l0)), (1, .int l1), (2, .int l2)] [.int s0] (m_X0_link_J66 l0 l1 l2 s0 k2 k36) := by
  unfold m_X0_link_J66
  refine C_istore_n (D := mdX0_link) (pc' := 67) (ls' := [(3, .int s0), (0, .ref (kB C + l0)), (1, .int l1), (2, .int l2)]) dX0_link_66 rfl rfl (by decide) rfl ?_
  refine C_aload_n (D := mdX0_link) (pc' := 68) (x := kB C + l0) dX0_link_67 rfl 1 rfl ?_
  refine C_getR (D := mdX0_link) (pc' := 71) (p := l0) f_X0_31 rfl dX0_link_68 rfl (fun follow6 => ?_)
  refine C_iload_n (D := mdX0_link) (pc' := 72) (x := l1) dX0_link_71 rfl 2 rfl ?_
  refine C_bipush (D := mdX0_link) (pc' := 74) (v := 8) dX0_link_72 rfl (by decide) ?_
  refine C_imul (D := mdX0_link) (pc' := 75) dX0_link_74 rfl ?_
  refine C_iload_n (D := mdX0_link) (pc' := 76) (x := l2) dX0_link_75 rfl 3 rfl ?_
  refine C_iadd (D := mdX0_link) (pc' := 77) dX0_link_76 rfl ?_
  refine C_aI (D := mdX0_link) (pc' := 78) (p := follow6) dX0_link_77 rfl (fun x7 => ?_)
  refine C_istore (D := mdX0_link) (pc' := 80) (ls' := [(4, .int x7), (3, .int s0), (0, .ref (kB C + l0)), (1, .int l1), (2, .int l2)]) dX0_link_78 rfl (by decide) rfl ?_
  refine C_iload (D := mdX0_link) (pc' := 82) (x := x7) dX0_link_80 rfl 0 rfl ?_
  refine C_if_ne (D := mdX0_link) (pc' := 85) (tgt := 100) dX0_link_82 (by decide) rfl ?_ ?_
  · refine C_aload_n (D := mdX0_link) (pc' := 101) (x := kB C + l0) dX0_link_100 rfl 2 rfl ?_
    refine C_getR (D := mdX0_link) (pc' := 104) (p := l0) f_X0_25 rfl dX0_link_101 rfl (fun fail8 => ?_)
    refine C_iload (D := mdX0_link) (pc' := 106) (x := x7) dX0_link_104 rfl 0 rfl ?_
    refine C_iload_n (D := mdX0_link) (pc' := 107) (x := s0) dX0_link_106 rfl 1 rfl ?_
    refine C_tI (D := mdX0_link) (pc' := 108) (p := fail8) dX0_link_107 rfl ?_
    exact C_sub [2, 3, 4] rfl (p_X0_link_J108 C l0 l1 l2 k2 hk2 k36 hk36)
  · refine C_aload_n (D := mdX0_link) (pc' := 86) (x := kB C + l0) dX0_link_85 rfl 2 rfl ?_
    refine C_getR (D := mdX0_link) (pc' := 89) (p := l0) f_X0_31 rfl dX0_link_86 rfl (fun follow9 => ?_)
    refine C_iload_n (D := mdX0_link) (pc' := 90) (x := l1) dX0_link_89 rfl 3 rfl ?_
    refine C_bipush (D := mdX0_link) (pc' := 92) (v := 8) dX0_link_90 rfl (by decide) ?_
    refine C_imul (D := mdX0_link) (pc' := 93) dX0_link_92 rfl ?_
    refine C_iload_n (D := mdX0_link) (pc' := 94) (x := l2) dX0_link_93 rfl 4 rfl ?_
    refine C_iadd (D := mdX0_link) (pc' := 95) dX0_link_94 rfl ?_
    refine C_iload_n (D := mdX0_link) (pc' := 96) (x := s0) dX0_link_95 rfl 1 rfl ?_
    refine C_tI (D := mdX0_link) (pc' := 97) (p := follow9) dX0_link_96 rfl ?_
    refine C_goto (D := mdX0_link) (pc' := 108) dX0_link_97 (by decide) ?_
    exact C_sub [2, 3, 4] rfl (p_X0_link_J108 C l0 l1 l2 k2 hk2 k36 hk36)
set_option maxHeartbeats 2000000 in
set_option maxRecDepth 20000 in
theorem p_X0_link_B36 (C : KX) (l0 : Nat) (l1 : Int32) (k2 : Int32 → Mo Unit) (hk2 : ∀ s, Cmp C mdX0_link (QM rvV) 2 [(0, .ref (kB C + l0)), (1, .int s)] [] (k2 s)) (k36 : Int32 → Mo Unit) (hk36 : ∀ s, Cmp C mdX0_link (QM rvV) 36 [(0, .ref (kB C + l0)), (1, .int l1), (2, .int s)] [] (k36 s)) (l2 : Int32) : Cmp C mdX0_link (QM rvV) 36 [(0, .ref (kB C + l0)), (1, .int l1), (2, .int l2)] [] (m_X0_link_B36 l0 l1 k2 k36 l2) := by
  unfold m_X0_link_B36
  refine C_iload_n (D := mdX0_link) (pc' := 37) (x := l2) dX0_link_36 rfl 2 rfl ?_
  refine C_bipush (D := mdX0_link) (pc' := 39) (v := 8) dX0_link_37 rfl (by decide) ?_
  refine C_icmp_ge (D := mdX0_link) (pc' := 42) (tgt := 114) dX0_link_39 (by decide) rfl ?_ ?_
  · refine C_iinc (D := mdX0_link) (pc' := 117) (j := 1) (v := (l1 + 1)) (ls' := [(1, .int (l1 + 1)), (0, .ref (kB C + l0)), (2, .int l2)]) dX0_link_114 rfl rfl rfl (by decide) rfl ?_
    refine C_goto (D := mdX0_link) (pc' := 2) dX0_link_117 (by decide) ?_
    exact C_sub [1, 0] rfl (hk2 ((l1 + 1)))
  · refine C_iload_n (D := mdX0_link) (pc' := 43) (x := l1) dX0_link_42 rfl 1 rfl ?_
    refine C_if_ne (D := mdX0_link) (pc' := 46) (tgt := 50) dX0_link_43 (by decide) rfl ?_ ?_
    · refine C_aload_n (D := mdX0_link) (pc' := 51) (x := kB C + l0) dX0_link_50 rfl 0 rfl ?_
      refine C_getR (D := mdX0_link) (pc' := 54) (p := l0) f_X0_31 rfl dX0_link_51 rfl (fun follow2 => ?_)
      refine C_aload_n (D := mdX0_link) (pc' := 55) (x := kB C + l0) dX0_link_54 rfl 0 rfl ?_
      refine C_getR (D := mdX0_link) (pc' := 58) (p := l0) f_X0_25 rfl dX0_link_55 rfl (fun fail3 => ?_)
      refine C_iload_n (D := mdX0_link) (pc' := 59) (x := l1) dX0_link_58 rfl 1 rfl ?_
      refine C_aI (D := mdX0_link) (pc' := 60) (p := fail3) dX0_link_59 rfl (fun x4 => ?_)
      refine C_bipush (D := mdX0_link) (pc' := 62) (v := 8) dX0_link_60 rfl (by decide) ?_
      refine C_imul (D := mdX0_link) (pc' := 63) dX0_link_62 rfl ?_
      refine C_iload_n (D := mdX0_link) (pc' := 64) (x := l2) dX0_link_63 rfl 2 rfl ?_
      refine C_iadd (D := mdX0_link) (pc' := 65) dX0_link_64 rfl ?_
      refine C_aI (D := mdX0_link) (pc' := 66) (p := follow2) dX0_link_65 rfl (fun x5 => ?_)
      exact C_sub [0, 1, 2] rfl (p_X0_link_J66 C l0 l1 l2 x5 k2 hk2 k36 hk36)
    · refine C_iconst (D := mdX0_link) (pc' := 47) (v := 0) dX0_link_46 rfl (by decide) ?_
      refine C_goto (D := mdX0_link) (pc' := 66) dX0_link_47 (by decide) ?_
      exact C_sub [0, 1, 2] rfl (p_X0_link_J66 C l0 l1 l2 0 k2 hk2 k36 hk36)
set_option maxHeartbeats 2000000 in
set_option maxRecDepth 20000 in
theorem p_X0_link_J34 (C : KX) (l0 : Nat) (l1 : Int32) (k2 : Int32 → Mo Unit) (hk2 : ∀ s, Cmp C mdX0_link (QM rvV) 2 [(0, .ref (kB C + l0)), (1, .int s)] [] (k2 s)) : Cmp C mdX0_link (QM rvV) 34 [(0, .ref (kB C + l0)), (1, .int l1)] [] (m_X0_link_J34 l0 l1 k2) := by
  unfold m_X0_link_J34
  refine C_iconst (D := mdX0_link) (pc' := 35) (v := 0) dX0_link_34 rfl (by decide) ?_
  refine C_istore_n (D := mdX0_link) (pc' := 36) (ls' := [(2, .int 0), (0, .ref (kB C + l0)), (1, .int l1)]) dX0_link_35 rfl rfl (by decide) rfl ?_
  exact C_sub [1, 2, 0] rfl (C_loop (fun s => [(0, .ref (kB C + l0)), (1, .int l1), (2, .int s)]) (fun k hk s => p_X0_link_B36 C l0 l1 k2 hk2 k hk s) FU 0)
set_option maxHeartbeats 2000000 in
set_option maxRecDepth 20000 in
theorem p_X0_link_B2 (C : KX) (l0 : Nat)  (k2 : Int32 → Mo Unit) (hk2 : ∀ s, Cmp C mdX0_link (QM rvV) 2 [(0, .ref (kB C + l0)), (1, .int s)] [] (k2 s)) (l1 : Int32) : Cmp C mdX0_link (QM rvV) 2 [(0, .ref (kB C + l0)), (1, .int l1)] [] (m_X0_link_B2 l0 k2 l1) := by
  unfold m_X0_link_B2
  refine C_iload_n (D := mdX0_link) (pc' := 3) (x := l1) dX0_link_2 rfl 1 rfl ?_
  refine C_aload_n (D := mdX0_link) (pc' := 4) (x := kB C + l0) dX0_link_3 rfl 0 rfl ?_
  refine C_getI (D := mdX0_link) (pc' := 7) (p := l0) f_X0_9 rfl dX0_link_4 rfl (fun nodes1 => ?_)
  refine C_icmp_ge (D := mdX0_link) (pc' := 10) (tgt := 120) dX0_link_7 (by decide) rfl ?_ ?_
  · exact C_vret rfl dX0_link_120
  · refine C_iload_n (D := mdX0_link) (pc' := 11) (x := l1) dX0_link_10 rfl 1 rfl ?_
    refine C_if_le (D := mdX0_link) (pc' := 14) (tgt := 34) dX0_link_11 (by decide) rfl ?_ ?_
    · exact C_sub [0, 1] rfl (p_X0_link_J34 C l0 l1 k2 hk2)
    · refine C_aload_n (D := mdX0_link) (pc' := 15) (x := kB C + l0) dX0_link_14 rfl 0 rfl ?_
      refine C_getR (D := mdX0_link) (pc' := 18) (p := l0) f_X0_28 rfl dX0_link_15 rfl (fun ends10 => ?_)
      refine C_iload_n (D := mdX0_link) (pc' := 19) (x := l1) dX0_link_18 rfl 1 rfl ?_
      refine C_dup2 (D := mdX0_link) (pc' := 20) dX0_link_19 rfl rfl rfl ?_
      refine C_aI (D := mdX0_link) (pc' := 21) (p := ends10) dX0_link_20 rfl (fun x11 => ?_)
      refine C_aload_n (D := mdX0_link) (pc' := 22) (x := kB C + l0) dX0_link_21 rfl 0 rfl ?_
      refine C_getR (D := mdX0_link) (pc' := 25) (p := l0) f_X0_28 rfl dX0_link_22 rfl (fun ends12 => ?_)
      refine C_aload_n (D := mdX0_link) (pc' := 26) (x := kB C + l0) dX0_link_25 rfl 0 rfl ?_
      refine C_getR (D := mdX0_link) (pc' := 29) (p := l0) f_X0_25 rfl dX0_link_26 rfl (fun fail13 => ?_)
      refine C_iload_n (D := mdX0_link) (pc' := 30) (x := l1) dX0_link_29 rfl 1 rfl ?_
      refine C_aI (D := mdX0_link) (pc' := 31) (p := fail13) dX0_link_30 rfl (fun x14 => ?_)
      refine C_aI (D := mdX0_link) (pc' := 32) (p := ends12) dX0_link_31 rfl (fun x15 => ?_)
      refine C_ior (D := mdX0_link) (pc' := 33) dX0_link_32 rfl ?_
      refine C_tI (D := mdX0_link) (pc' := 34) (p := ends10) dX0_link_33 rfl ?_
      exact C_sub [0, 1] rfl (p_X0_link_J34 C l0 l1 k2 hk2)
set_option maxHeartbeats 2000000 in
set_option maxRecDepth 20000 in
theorem i_X0_link (C : KX) (l0 : Nat) : Imp C yX0_link cX0_link 5 none 0 0 rvV [.ref (kB C + l0)] (m_X0_link l0) := by
  refine Imp.of (by decide) (Nat.le_of_ble_eq_true rfl) [(0, .ref (kB C + l0))] rfl ?_
  show Cmp C mdX0_link (QM rvV) 0 [(0, .ref (kB C + l0))] [] (m_X0_link l0)
  unfold m_X0_link
  refine C_iconst (D := mdX0_link) (pc' := 1) (v := 0) dX0_link_0 rfl (by decide) ?_
  refine C_istore_n (D := mdX0_link) (pc' := 2) (ls' := [(1, .int 0), (0, .ref (kB C + l0))]) dX0_link_1 rfl rfl (by decide) rfl ?_
  exact C_sub [1, 0] rfl (C_loop (fun s => [(0, .ref (kB C + l0)), (1, .int s)]) (fun k hk s => p_X0_link_B2 C l0  k hk s) FU 0)

-- StandingQueries$Packed.sizeOf(I)I
theorem dX3_sizeOf_0 : decode cX3_sizeOf 0 = .ok (.iconst 0, 1) := by decide +kernel
theorem dX3_sizeOf_1 : decode cX3_sizeOf 1 = .ok (.istore_n 1, 1) := by decide +kernel
theorem dX3_sizeOf_2 : decode cX3_sizeOf 2 = .ok (.iconst 0, 1) := by decide +kernel
theorem dX3_sizeOf_3 : decode cX3_sizeOf 3 = .ok (.istore_n 2, 1) := by decide +kernel
theorem dX3_sizeOf_4 : decode cX3_sizeOf 4 = .ok (.iload_n 2, 1) := by decide +kernel
theorem dX3_sizeOf_5 : decode cX3_sizeOf 5 = .ok (.bipush 6, 2) := by decide +kernel
theorem dX3_sizeOf_7 : decode cX3_sizeOf 7 = .ok (.if_icmp .ge 24, 3) := by decide +kernel
theorem dX3_sizeOf_10 : decode cX3_sizeOf 10 = .ok (.iload_n 0, 1) := by decide +kernel
theorem dX3_sizeOf_11 : decode cX3_sizeOf 11 = .ok (.iload_n 2, 1) := by decide +kernel
theorem dX3_sizeOf_12 : decode cX3_sizeOf 12 = .ok (.invokestatic 11, 3) := by decide +kernel
theorem dX3_sizeOf_15 : decode cX3_sizeOf 15 = .ok (.ishr, 1) := by decide +kernel
theorem dX3_sizeOf_16 : decode cX3_sizeOf 16 = .ok (.bipush 15, 2) := by decide +kernel
theorem dX3_sizeOf_18 : decode cX3_sizeOf 18 = .ok (.iand, 1) := by decide +kernel
theorem dX3_sizeOf_19 : decode cX3_sizeOf 19 = .ok (.ifCond .eq 6, 3) := by decide +kernel
theorem dX3_sizeOf_22 : decode cX3_sizeOf 22 = .ok (.iinc 1 1, 3) := by decide +kernel
theorem dX3_sizeOf_25 : decode cX3_sizeOf 25 = .ok (.iinc 2 1, 3) := by decide +kernel
theorem dX3_sizeOf_28 : decode cX3_sizeOf 28 = .ok (.goto (-24), 3) := by decide +kernel
theorem dX3_sizeOf_31 : decode cX3_sizeOf 31 = .ok (.iload_n 1, 1) := by decide +kernel
theorem dX3_sizeOf_32 : decode cX3_sizeOf 32 = .ok (.ireturn, 1) := by decide +kernel
abbrev mdX3_sizeOf : MD := (cX3_sizeOf, RX3, 3, (some .int), yX3_sizeOf.name, 1, 20, eT)
set_option maxHeartbeats 2000000 in
set_option maxRecDepth 20000 in
theorem p_X3_sizeOf_J25 (C : KX) (l0 : Int32) (l1 : Int32) (l2 : Int32) (k4 : Int32 × Int32 → Mo Int32) (hk4 : ∀ s, Cmp C mdX3_sizeOf (QM rvI) 4 [(0, .int l0), (1, .int s.1), (2, .int s.2)] [] (k4 s)) : Cmp C mdX3_sizeOf (QM rvI) 25 [(0, .int l0), (1, .int l1), (2, .int l2)] [] (m_X3_sizeOf_J25 l0 l1 l2 k4) := by
  unfold m_X3_sizeOf_J25
  refine C_iinc (D := mdX3_sizeOf) (pc' := 28) (j := 2) (v := (l2 + 1)) (ls' := [(2, .int (l2 + 1)), (0, .int l0), (1, .int l1)]) dX3_sizeOf_25 rfl rfl rfl (by decide) rfl ?_
  refine C_goto (D := mdX3_sizeOf) (pc' := 4) dX3_sizeOf_28 (by decide) ?_
  exact C_sub [1, 2, 0] rfl (hk4 (l1, (l2 + 1)))
set_option maxHeartbeats 2000000 in
set_option maxRecDepth 20000 in
theorem p_X3_sizeOf_B4 (C : KX) (l0 : Int32)  (k4 : Int32 × Int32 → Mo Int32) (hk4 : ∀ s, Cmp C mdX3_sizeOf (QM rvI) 4 [(0, .int l0), (1, .int s.1), (2, .int s.2)] [] (k4 s)) (l1 : Int32) (l2 : Int32) : Cmp C mdX3_sizeOf (QM rvI) 4 [(0, .int l0), (1, .int l1), (2, .int l2)] [] (m_X3_sizeOf_B4 l0 k4 l1 l2) := by
  unfold m_X3_sizeOf_B4
  refine C_iload_n (D := mdX3_sizeOf) (pc' := 5) (x := l2) dX3_sizeOf_4 rfl 2 rfl ?_
  refine C_bipush (D := mdX3_sizeOf) (pc' := 7) (v := 6) dX3_sizeOf_5 rfl (by decide) ?_
  refine C_icmp_ge (D := mdX3_sizeOf) (pc' := 10) (tgt := 31) dX3_sizeOf_7 (by decide) rfl ?_ ?_
  · refine C_iload_n (D := mdX3_sizeOf) (pc' := 32) (x := l1) dX3_sizeOf_31 rfl 1 rfl ?_
    exact C_iret rfl dX3_sizeOf_32
  · refine C_iload_n (D := mdX3_sizeOf) (pc' := 11) (x := l0) dX3_sizeOf_10 rfl 0 rfl ?_
    refine C_iload_n (D := mdX3_sizeOf) (pc' := 12) (x := l2) dX3_sizeOf_11 rfl 2 rfl ?_
    refine C_callS (D := mdX3_sizeOf) (pc' := 15) (st := [.int l0]) [.int l2] s_X3_11 (i_X3_shiftOf C l2) dX3_sizeOf_12 rfl rfl rfl (Nat.le_of_ble_eq_true rfl) (by decide) (by decide) (fun c1 => ?_)
    refine C_ishr (D := mdX3_sizeOf) (pc' := 16) dX3_sizeOf_15 rfl ?_
    refine C_bipush (D := mdX3_sizeOf) (pc' := 18) (v := 15) dX3_sizeOf_16 rfl (by decide) ?_
    refine C_iand (D := mdX3_sizeOf) (pc' := 19) dX3_sizeOf_18 rfl ?_
    refine C_if_eq (D := mdX3_sizeOf) (pc' := 22) (tgt := 25) dX3_sizeOf_19 (by decide) rfl ?_ ?_
    · exact C_sub [0, 1, 2] rfl (p_X3_sizeOf_J25 C l0 l1 l2 k4 hk4)
    · refine C_iinc (D := mdX3_sizeOf) (pc' := 25) (j := 1) (v := (l1 + 1)) (ls' := [(1, .int (l1 + 1)), (0, .int l0), (2, .int l2)]) dX3_sizeOf_22 rfl rfl rfl (by decide) rfl ?_
      exact C_sub [1, 0, 2] rfl (p_X3_sizeOf_J25 C l0 ((l1 + 1)) l2 k4 hk4)
set_option maxHeartbeats 2000000 in
set_option maxRecDepth 20000 in
theorem i_X3_sizeOf (C : KX) (l0 : Int32) : Imp C yX3_sizeOf cX3_sizeOf 3 (some .int) 1 20 rvI [.int l0] (m_X3_sizeOf l0) := by
  refine Imp.of (by decide) (Nat.le_of_ble_eq_true rfl) [(0, .int l0)] rfl ?_
  show Cmp C mdX3_sizeOf (QM rvI) 0 [(0, .int l0)] [] (m_X3_sizeOf l0)
  unfold m_X3_sizeOf
  refine C_iconst (D := mdX3_sizeOf) (pc' := 1) (v := 0) dX3_sizeOf_0 rfl (by decide) ?_
  refine C_istore_n (D := mdX3_sizeOf) (pc' := 2) (ls' := [(1, .int 0), (0, .int l0)]) dX3_sizeOf_1 rfl rfl (by decide) rfl ?_
  refine C_iconst (D := mdX3_sizeOf) (pc' := 3) (v := 0) dX3_sizeOf_2 rfl (by decide) ?_
  refine C_istore_n (D := mdX3_sizeOf) (pc' := 4) (ls' := [(2, .int 0), (1, .int 0), (0, .int l0)]) dX3_sizeOf_3 rfl rfl (by decide) rfl ?_
  exact C_sub [2, 1, 0] rfl (C_loop (fun s => [(0, .int l0), (1, .int s.1), (2, .int s.2)]) (fun k hk s => p_X3_sizeOf_B4 C l0  k hk s.1 s.2) FU (0, 0))

-- StandingQueries$Packed.headOf(II)I
theorem dX3_headOf_0 : decode cX3_headOf 0 = .ok (.iload_n 0, 1) := by decide +kernel
theorem dX3_headOf_1 : decode cX3_headOf 1 = .ok (.iload_n 1, 1) := by decide +kernel
theorem dX3_headOf_2 : decode cX3_headOf 2 = .ok (.iconst 1, 1) := by decide +kernel
theorem dX3_headOf_3 : decode cX3_headOf 3 = .ok (.isub, 1) := by decide +kernel
theorem dX3_headOf_4 : decode cX3_headOf 4 = .ok (.invokestatic 11, 3) := by decide +kernel
theorem dX3_headOf_7 : decode cX3_headOf 7 = .ok (.ishr, 1) := by decide +kernel
theorem dX3_headOf_8 : decode cX3_headOf 8 = .ok (.iload_n 1, 1) := by decide +kernel
theorem dX3_headOf_9 : decode cX3_headOf 9 = .ok (.iconst 1, 1) := by decide +kernel
theorem dX3_headOf_10 : decode cX3_headOf 10 = .ok (.isub, 1) := by decide +kernel
theorem dX3_headOf_11 : decode cX3_headOf 11 = .ok (.invokestatic 11, 3) := by decide +kernel
theorem dX3_headOf_14 : decode cX3_headOf 14 = .ok (.ishl, 1) := by decide +kernel
theorem dX3_headOf_15 : decode cX3_headOf 15 = .ok (.ireturn, 1) := by decide +kernel
abbrev mdX3_headOf : MD := (cX3_headOf, RX3, 2, (some .int), yX3_headOf.name, 1, 20, eT)
set_option maxHeartbeats 2000000 in
set_option maxRecDepth 20000 in
theorem i_X3_headOf (C : KX) (l0 : Int32) (l1 : Int32) : Imp C yX3_headOf cX3_headOf 2 (some .int) 1 20 rvI [.int l0, .int l1] (m_X3_headOf l0 l1) := by
  refine Imp.of (by decide) (Nat.le_of_ble_eq_true rfl) [(0, .int l0), (1, .int l1)] rfl ?_
  show Cmp C mdX3_headOf (QM rvI) 0 [(0, .int l0), (1, .int l1)] [] (m_X3_headOf l0 l1)
  unfold m_X3_headOf
  refine C_iload_n (D := mdX3_headOf) (pc' := 1) (x := l0) dX3_headOf_0 rfl 0 rfl ?_
  refine C_iload_n (D := mdX3_headOf) (pc' := 2) (x := l1) dX3_headOf_1 rfl 1 rfl ?_
  refine C_iconst (D := mdX3_headOf) (pc' := 3) (v := 1) dX3_headOf_2 rfl (by decide) ?_
  refine C_isub (D := mdX3_headOf) (pc' := 4) dX3_headOf_3 rfl ?_
  refine C_callS (D := mdX3_headOf) (pc' := 7) (st := [.int l0]) [.int (l1 - 1)] s_X3_11 (i_X3_shiftOf C ((l1 - 1))) dX3_headOf_4 rfl rfl rfl (Nat.le_of_ble_eq_true rfl) (by decide) (by decide) (fun c1 => ?_)
  refine C_ishr (D := mdX3_headOf) (pc' := 8) dX3_headOf_7 rfl ?_
  refine C_iload_n (D := mdX3_headOf) (pc' := 9) (x := l1) dX3_headOf_8 rfl 1 rfl ?_
  refine C_iconst (D := mdX3_headOf) (pc' := 10) (v := 1) dX3_headOf_9 rfl (by decide) ?_
  refine C_isub (D := mdX3_headOf) (pc' := 11) dX3_headOf_10 rfl ?_
  refine C_callS (D := mdX3_headOf) (pc' := 14) (st := [.int (l0 >>> (c1 &&& 31))]) [.int (l1 - 1)] s_X3_11 (i_X3_shiftOf C ((l1 - 1))) dX3_headOf_11 rfl rfl rfl (Nat.le_of_ble_eq_true rfl) (by decide) (by decide) (fun c2 => ?_)
  refine C_ishl (D := mdX3_headOf) (pc' := 15) dX3_headOf_14 rfl ?_
  exact C_iret rfl dX3_headOf_15

-- StandingQueries$Packed.letterAt(II)I
theorem dX3_letterAt_0 : decode cX3_letterAt 0 = .ok (.iconst 0, 1) := by decide +kernel
theorem dX3_letterAt_1 : decode cX3_letterAt 1 = .ok (.iload_n 0, 1) := by decide +kernel
theorem dX3_letterAt_2 : decode cX3_letterAt 2 = .ok (.iload_n 1, 1) := by decide +kernel
theorem dX3_letterAt_3 : decode cX3_letterAt 3 = .ok (.invokestatic 11, 3) := by decide +kernel
theorem dX3_letterAt_6 : decode cX3_letterAt 6 = .ok (.ishr, 1) := by decide +kernel
theorem dX3_letterAt_7 : decode cX3_letterAt 7 = .ok (.bipush 15, 2) := by decide +kernel
theorem dX3_letterAt_9 : decode cX3_letterAt 9 = .ok (.iand, 1) := by decide +kernel
theorem dX3_letterAt_10 : decode cX3_letterAt 10 = .ok (.iconst 1, 1) := by decide +kernel
theorem dX3_letterAt_11 : decode cX3_letterAt 11 = .ok (.isub, 1) := by decide +kernel
theorem dX3_letterAt_12 : decode cX3_letterAt 12 = .ok (.invokestatic 15, 3) := by decide +kernel
theorem dX3_letterAt_15 : decode cX3_letterAt 15 = .ok (.ireturn, 1) := by decide +kernel
abbrev mdX3_letterAt : MD := (cX3_letterAt, RX3, 2, (some .int), yX3_letterAt.name, 1, 20, eT)
set_option maxHeartbeats 2000000 in
set_option maxRecDepth 20000 in
theorem i_X3_letterAt (C : KX) (l0 : Int32) (l1 : Int32) : Imp C yX3_letterAt cX3_letterAt 2 (some .int) 1 20 rvI [.int l0, .int l1] (m_X3_letterAt l0 l1) := by
  refine Imp.of (by decide) (Nat.le_of_ble_eq_true rfl) [(0, .int l0), (1, .int l1)] rfl ?_
  show Cmp C mdX3_letterAt (QM rvI) 0 [(0, .int l0), (1, .int l1)] [] (m_X3_letterAt l0 l1)
  unfold m_X3_letterAt
  refine C_iconst (D := mdX3_letterAt) (pc' := 1) (v := 0) dX3_letterAt_0 rfl (by decide) ?_
  refine C_iload_n (D := mdX3_letterAt) (pc' := 2) (x := l0) dX3_letterAt_1 rfl 0 rfl ?_
  refine C_iload_n (D := mdX3_letterAt) (pc' := 3) (x := l1) dX3_letterAt_2 rfl 1 rfl ?_
  refine C_callS (D := mdX3_letterAt) (pc' := 6) (st := [.int l0, .int 0]) [.int l1] s_X3_11 (i_X3_shiftOf C l1) dX3_letterAt_3 rfl rfl rfl (Nat.le_of_ble_eq_true rfl) (by decide) (by decide) (fun c1 => ?_)
  refine C_ishr (D := mdX3_letterAt) (pc' := 7) dX3_letterAt_6 rfl ?_
  refine C_bipush (D := mdX3_letterAt) (pc' := 9) (v := 15) dX3_letterAt_7 rfl (by decide) ?_
  refine C_iand (D := mdX3_letterAt) (pc' := 10) dX3_letterAt_9 rfl ?_
  refine C_iconst (D := mdX3_letterAt) (pc' := 11) (v := 1) dX3_letterAt_10 rfl (by decide) ?_
  refine C_isub (D := mdX3_letterAt) (pc' := 12) dX3_letterAt_11 rfl ?_
  refine C_max (D := mdX3_letterAt) (pc' := 15) mm_X3_15 mm_max_s mm_i mm_max_c dX3_letterAt_12 rfl (by decide) (Nat.le_of_ble_eq_true rfl) ?_
  exact C_iret rfl dX3_letterAt_15

-- StandingQueries$Automaton.addNode(III)V
theorem dX0_addNode_0 : decode cX0_addNode 0 = .ok (.aload_n 0, 1) := by decide +kernel
theorem dX0_addNode_1 : decode cX0_addNode 1 = .ok (.getfield 9, 3) := by decide +kernel
theorem dX0_addNode_4 : decode cX0_addNode 4 = .ok (.aload_n 0, 1) := by decide +kernel
theorem dX0_addNode_5 : decode cX0_addNode 5 = .ok (.getfield 15, 3) := by decide +kernel
theorem dX0_addNode_8 : decode cX0_addNode 8 = .ok (.arraylength, 1) := by decide +kernel
theorem dX0_addNode_9 : decode cX0_addNode 9 = .ok (.if_icmp .lt 4, 3) := by decide +kernel
theorem dX0_addNode_12 : decode cX0_addNode 12 = .ok (.return_, 1) := by decide +kernel
theorem dX0_addNode_13 : decode cX0_addNode 13 = .ok (.aload_n 0, 1) := by decide +kernel
theorem dX0_addNode_14 : decode cX0_addNode 14 = .ok (.getfield 15, 3) := by decide +kernel
theorem dX0_addNode_17 : decode cX0_addNode 17 = .ok (.aload_n 0, 1) := by decide +kernel
theorem dX0_addNode_18 : decode cX0_addNode 18 = .ok (.getfield 9, 3) := by decide +kernel
theorem dX0_addNode_21 : decode cX0_addNode 21 = .ok (.iload_n 3, 1) := by decide +kernel
theorem dX0_addNode_22 : decode cX0_addNode 22 = .ok (.iastore, 1) := by decide +kernel
theorem dX0_addNode_23 : decode cX0_addNode 23 = .ok (.aload_n 0, 1) := by decide +kernel
theorem dX0_addNode_24 : decode cX0_addNode 24 = .ok (.getfield 19, 3) := by decide +kernel
theorem dX0_addNode_27 : decode cX0_addNode 27 = .ok (.aload_n 0, 1) := by decide +kernel
theorem dX0_addNode_28 : decode cX0_addNode 28 = .ok (.getfield 9, 3) := by decide +kernel
theorem dX0_addNode_31 : decode cX0_addNode 31 = .ok (.iload_n 2, 1) := by decide +kernel
theorem dX0_addNode_32 : decode cX0_addNode 32 = .ok (.iastore, 1) := by decide +kernel
theorem dX0_addNode_33 : decode cX0_addNode 33 = .ok (.aload_n 0, 1) := by decide +kernel
theorem dX0_addNode_34 : decode cX0_addNode 34 = .ok (.getfield 22, 3) := by decide +kernel
theorem dX0_addNode_37 : decode cX0_addNode 37 = .ok (.aload_n 0, 1) := by decide +kernel
theorem dX0_addNode_38 : decode cX0_addNode 38 = .ok (.getfield 9, 3) := by decide +kernel
theorem dX0_addNode_41 : decode cX0_addNode 41 = .ok (.iload_n 1, 1) := by decide +kernel
theorem dX0_addNode_42 : decode cX0_addNode 42 = .ok (.iastore, 1) := by decide +kernel
theorem dX0_addNode_43 : decode cX0_addNode 43 = .ok (.aload_n 0, 1) := by decide +kernel
theorem dX0_addNode_44 : decode cX0_addNode 44 = .ok (.getfield 31, 3) := by decide +kernel
theorem dX0_addNode_47 : decode cX0_addNode 47 = .ok (.iload_n 1, 1) := by decide +kernel
theorem dX0_addNode_48 : decode cX0_addNode 48 = .ok (.bipush 8, 2) := by decide +kernel
theorem dX0_addNode_50 : decode cX0_addNode 50 = .ok (.imul, 1) := by decide +kernel
theorem dX0_addNode_51 : decode cX0_addNode 51 = .ok (.iload_n 2, 1) := by decide +kernel
theorem dX0_addNode_52 : decode cX0_addNode 52 = .ok (.iadd, 1) := by decide +kernel
theorem dX0_addNode_53 : decode cX0_addNode 53 = .ok (.aload_n 0, 1) := by decide +kernel
theorem dX0_addNode_54 : decode cX0_addNode 54 = .ok (.getfield 9, 3) := by decide +kernel
theorem dX0_addNode_57 : decode cX0_addNode 57 = .ok (.iastore, 1) := by decide +kernel
theorem dX0_addNode_58 : decode cX0_addNode 58 = .ok (.aload_n 0, 1) := by decide +kernel
theorem dX0_addNode_59 : decode cX0_addNode 59 = .ok (.dup, 1) := by decide +kernel
theorem dX0_addNode_60 : decode cX0_addNode 60 = .ok (.getfield 9, 3) := by decide +kernel
theorem dX0_addNode_63 : decode cX0_addNode 63 = .ok (.iconst 1, 1) := by decide +kernel
theorem dX0_addNode_64 : decode cX0_addNode 64 = .ok (.iadd, 1) := by decide +kernel
theorem dX0_addNode_65 : decode cX0_addNode 65 = .ok (.putfield 9, 3) := by decide +kernel
theorem dX0_addNode_68 : decode cX0_addNode 68 = .ok (.return_, 1) := by decide +kernel
abbrev mdX0_addNode : MD := (cX0_addNode, RX0, 4, none, yX0_addNode.name, 0, 0, eT)
set_option maxHeartbeats 2000000 in
set_option maxRecDepth 20000 in
theorem i_X0_addNode (C : KX) (l0 : Nat) (l1 : Int32) (l2 : Int32) (l3 : Int32) : Imp C yX0_addNode cX0_addNode 4 none 0 0 rvV [.ref (kB C + l0), .int l1, .int l2, .int l3] (m_X0_addNode l0 l1 l2 l3) := by
  refine Imp.of (by decide) (Nat.le_of_ble_eq_true rfl) [(0, .ref (kB C + l0)), (1, .int l1), (2, .int l2), (3, .int l3)] rfl ?_
  show Cmp C mdX0_addNode (QM rvV) 0 [(0, .ref (kB C + l0)), (1, .int l1), (2, .int l2), (3, .int l3)] [] (m_X0_addNode l0 l1 l2 l3)
  unfold m_X0_addNode
  refine C_aload_n (D := mdX0_addNode) (pc' := 1) (x := kB C + l0) dX0_addNode_0 rfl 0 rfl ?_
  refine C_getI (D := mdX0_addNode) (pc' := 4) (p := l0) f_X0_9 rfl dX0_addNode_1 rfl (fun nodes1 => ?_)
  refine C_aload_n (D := mdX0_addNode) (pc' := 5) (x := kB C + l0) dX0_addNode_4 rfl 0 rfl ?_
  refine C_getR (D := mdX0_addNode) (pc' := 8) (p := l0) f_X0_15 rfl dX0_addNode_5 rfl (fun size2 => ?_)
  refine C_alen (D := mdX0_addNode) (pc' := 9) (kd := 100) (p := size2) (by decide) dX0_addNode_8 rfl (fun len3 => ?_)
  refine C_icmp_lt (D := mdX0_addNode) (pc' := 12) (tgt := 13) dX0_addNode_9 (by decide) rfl ?_ ?_
  · refine C_aload_n (D := mdX0_addNode) (pc' := 14) (x := kB C + l0) dX0_addNode_13 rfl 0 rfl ?_
    refine C_getR (D := mdX0_addNode) (pc' := 17) (p := l0) f_X0_15 rfl dX0_addNode_14 rfl (fun size4 => ?_)
    refine C_aload_n (D := mdX0_addNode) (pc' := 18) (x := kB C + l0) dX0_addNode_17 rfl 0 rfl ?_
    refine C_getI (D := mdX0_addNode) (pc' := 21) (p := l0) f_X0_9 rfl dX0_addNode_18 rfl (fun nodes5 => ?_)
    refine C_iload_n (D := mdX0_addNode) (pc' := 22) (x := l3) dX0_addNode_21 rfl 3 rfl ?_
    refine C_tI (D := mdX0_addNode) (pc' := 23) (p := size4) dX0_addNode_22 rfl ?_
    refine C_aload_n (D := mdX0_addNode) (pc' := 24) (x := kB C + l0) dX0_addNode_23 rfl 0 rfl ?_
    refine C_getR (D := mdX0_addNode) (pc' := 27) (p := l0) f_X0_19 rfl dX0_addNode_24 rfl (fun last6 => ?_)
    refine C_aload_n (D := mdX0_addNode) (pc' := 28) (x := kB C + l0) dX0_addNode_27 rfl 0 rfl ?_
    refine C_getI (D := mdX0_addNode) (pc' := 31) (p := l0) f_X0_9 rfl dX0_addNode_28 rfl (fun nodes7 => ?_)
    refine C_iload_n (D := mdX0_addNode) (pc' := 32) (x := l2) dX0_addNode_31 rfl 2 rfl ?_
    refine C_tI (D := mdX0_addNode) (pc' := 33) (p := last6) dX0_addNode_32 rfl ?_
    refine C_aload_n (D := mdX0_addNode) (pc' := 34) (x := kB C + l0) dX0_addNode_33 rfl 0 rfl ?_
    refine C_getR (D := mdX0_addNode) (pc' := 37) (p := l0) f_X0_22 rfl dX0_addNode_34 rfl (fun parent8 => ?_)
    refine C_aload_n (D := mdX0_addNode) (pc' := 38) (x := kB C + l0) dX0_addNode_37 rfl 0 rfl ?_
    refine C_getI (D := mdX0_addNode) (pc' := 41) (p := l0) f_X0_9 rfl dX0_addNode_38 rfl (fun nodes9 => ?_)
    refine C_iload_n (D := mdX0_addNode) (pc' := 42) (x := l1) dX0_addNode_41 rfl 1 rfl ?_
    refine C_tI (D := mdX0_addNode) (pc' := 43) (p := parent8) dX0_addNode_42 rfl ?_
    refine C_aload_n (D := mdX0_addNode) (pc' := 44) (x := kB C + l0) dX0_addNode_43 rfl 0 rfl ?_
    refine C_getR (D := mdX0_addNode) (pc' := 47) (p := l0) f_X0_31 rfl dX0_addNode_44 rfl (fun follow10 => ?_)
    refine C_iload_n (D := mdX0_addNode) (pc' := 48) (x := l1) dX0_addNode_47 rfl 1 rfl ?_
    refine C_bipush (D := mdX0_addNode) (pc' := 50) (v := 8) dX0_addNode_48 rfl (by decide) ?_
    refine C_imul (D := mdX0_addNode) (pc' := 51) dX0_addNode_50 rfl ?_
    refine C_iload_n (D := mdX0_addNode) (pc' := 52) (x := l2) dX0_addNode_51 rfl 2 rfl ?_
    refine C_iadd (D := mdX0_addNode) (pc' := 53) dX0_addNode_52 rfl ?_
    refine C_aload_n (D := mdX0_addNode) (pc' := 54) (x := kB C + l0) dX0_addNode_53 rfl 0 rfl ?_
    refine C_getI (D := mdX0_addNode) (pc' := 57) (p := l0) f_X0_9 rfl dX0_addNode_54 rfl (fun nodes11 => ?_)
    refine C_tI (D := mdX0_addNode) (pc' := 58) (p := follow10) dX0_addNode_57 rfl ?_
    refine C_aload_n (D := mdX0_addNode) (pc' := 59) (x := kB C + l0) dX0_addNode_58 rfl 0 rfl ?_
    refine C_dup (D := mdX0_addNode) (pc' := 60) dX0_addNode_59 rfl rfl ?_
    refine C_getI (D := mdX0_addNode) (pc' := 63) (p := l0) f_X0_9 rfl dX0_addNode_60 rfl (fun nodes12 => ?_)
    refine C_iconst (D := mdX0_addNode) (pc' := 64) (v := 1) dX0_addNode_63 rfl (by decide) ?_
    refine C_iadd (D := mdX0_addNode) (pc' := 65) dX0_addNode_64 rfl ?_
    refine C_putI (D := mdX0_addNode) (pc' := 68) (p := l0) f_X0_9 rfl dX0_addNode_65 rfl ?_
    exact C_vret rfl dX0_addNode_68
  · exact C_vret rfl dX0_addNode_12

-- StandingQueries$Automaton.growTo(ILStandingQueries$Words;)V
theorem dX0_growTo_0 : decode cX0_growTo 0 = .ok (.iconst 0, 1) := by decide +kernel
theorem dX0_growTo_1 : decode cX0_growTo 1 = .ok (.istore_n 3, 1) := by decide +kernel
theorem dX0_growTo_2 : decode cX0_growTo 2 = .ok (.iconst 0, 1) := by decide +kernel
theorem dX0_growTo_3 : decode cX0_growTo 3 = .ok (.istore 4, 2) := by decide +kernel
theorem dX0_growTo_5 : decode cX0_growTo 5 = .ok (.iload 4, 2) := by decide +kernel
theorem dX0_growTo_7 : decode cX0_growTo 7 = .ok (.aload_n 2, 1) := by decide +kernel
theorem dX0_growTo_8 : decode cX0_growTo 8 = .ok (.getfield 52, 3) := by decide +kernel
theorem dX0_growTo_11 : decode cX0_growTo 11 = .ok (.if_icmp .ge 112, 3) := by decide +kernel
theorem dX0_growTo_14 : decode cX0_growTo 14 = .ok (.iload 4, 2) := by decide +kernel
theorem dX0_growTo_16 : decode cX0_growTo 16 = .ok (.aload_n 0, 1) := by decide +kernel
theorem dX0_growTo_17 : decode cX0_growTo 17 = .ok (.getfield 34, 3) := by decide +kernel
theorem dX0_growTo_20 : decode cX0_growTo 20 = .ok (.arraylength, 1) := by decide +kernel
theorem dX0_growTo_21 : decode cX0_growTo 21 = .ok (.if_icmp .ge 102, 3) := by decide +kernel
theorem dX0_growTo_24 : decode cX0_growTo 24 = .ok (.aload_n 2, 1) := by decide +kernel
theorem dX0_growTo_25 : decode cX0_growTo 25 = .ok (.getfield 57, 3) := by decide +kernel
theorem dX0_growTo_28 : decode cX0_growTo 28 = .ok (.iload 4, 2) := by decide +kernel
theorem dX0_growTo_30 : decode cX0_growTo 30 = .ok (.iaload, 1) := by decide +kernel
theorem dX0_growTo_31 : decode cX0_growTo 31 = .ok (.istore 5, 2) := by decide +kernel
theorem dX0_growTo_33 : decode cX0_growTo 33 = .ok (.iload 5, 2) := by decide +kernel
theorem dX0_growTo_35 : decode cX0_growTo 35 = .ok (.invokestatic 60, 3) := by decide +kernel
theorem dX0_growTo_38 : decode cX0_growTo 38 = .ok (.iload_n 1, 1) := by decide +kernel
theorem dX0_growTo_39 : decode cX0_growTo 39 = .ok (.if_icmp .lt 78, 3) := by decide +kernel
theorem dX0_growTo_42 : decode cX0_growTo 42 = .ok (.iload 5, 2) := by decide +kernel
theorem dX0_growTo_44 : decode cX0_growTo 44 = .ok (.iload_n 1, 1) := by decide +kernel
theorem dX0_growTo_45 : decode cX0_growTo 45 = .ok (.invokestatic 64, 3) := by decide +kernel
theorem dX0_growTo_48 : decode cX0_growTo 48 = .ok (.istore 6, 2) := by decide +kernel
theorem dX0_growTo_50 : decode cX0_growTo 50 = .ok (.iload 6, 2) := by decide +kernel
theorem dX0_growTo_52 : decode cX0_growTo 52 = .ok (.iload_n 3, 1) := by decide +kernel
theorem dX0_growTo_53 : decode cX0_growTo 53 = .ok (.if_icmp .eq 23, 3) := by decide +kernel
theorem dX0_growTo_56 : decode cX0_growTo 56 = .ok (.aload_n 0, 1) := by decide +kernel
theorem dX0_growTo_57 : decode cX0_growTo 57 = .ok (.aload_n 0, 1) := by decide +kernel
theorem dX0_growTo_58 : decode cX0_growTo 58 = .ok (.getfield 34, 3) := by decide +kernel
theorem dX0_growTo_61 : decode cX0_growTo 61 = .ok (.iload 4, 2) := by decide +kernel
theorem dX0_growTo_63 : decode cX0_growTo 63 = .ok (.iaload, 1) := by decide +kernel
theorem dX0_growTo_64 : decode cX0_growTo 64 = .ok (.iload 5, 2) := by decide +kernel
theorem dX0_growTo_66 : decode cX0_growTo 66 = .ok (.iload_n 1, 1) := by decide +kernel
theorem dX0_growTo_67 : decode cX0_growTo 67 = .ok (.iconst 1, 1) := by decide +kernel
theorem dX0_growTo_68 : decode cX0_growTo 68 = .ok (.isub, 1) := by decide +kernel
theorem dX0_growTo_69 : decode cX0_growTo 69 = .ok (.invokestatic 68, 3) := by decide +kernel
theorem dX0_growTo_72 : decode cX0_growTo 72 = .ok (.iload_n 1, 1) := by decide +kernel
theorem dX0_growTo_73 : decode cX0_growTo 73 = .ok (.invokevirtual 71, 3) := by decide +kernel
theorem dX0_growTo_76 : decode cX0_growTo 76 = .ok (.iload 6, 2) := by decide +kernel
theorem dX0_growTo_78 : decode cX0_growTo 78 = .ok (.istore_n 3, 1) := by decide +kernel
theorem dX0_growTo_79 : decode cX0_growTo 79 = .ok (.aload_n 0, 1) := by decide +kernel
theorem dX0_growTo_80 : decode cX0_growTo 80 = .ok (.getfield 34, 3) := by decide +kernel
theorem dX0_growTo_83 : decode cX0_growTo 83 = .ok (.iload 4, 2) := by decide +kernel
theorem dX0_growTo_85 : decode cX0_growTo 85 = .ok (.aload_n 0, 1) := by decide +kernel
theorem dX0_growTo_86 : decode cX0_growTo 86 = .ok (.getfield 9, 3) := by decide +kernel
theorem dX0_growTo_89 : decode cX0_growTo 89 = .ok (.iconst 1, 1) := by decide +kernel
theorem dX0_growTo_90 : decode cX0_growTo 90 = .ok (.isub, 1) := by decide +kernel
theorem dX0_growTo_91 : decode cX0_growTo 91 = .ok (.iastore, 1) := by decide +kernel
theorem dX0_growTo_92 : decode cX0_growTo 92 = .ok (.iload 6, 2) := by decide +kernel
theorem dX0_growTo_94 : decode cX0_growTo 94 = .ok (.iload 5, 2) := by decide +kernel
theorem dX0_growTo_96 : decode cX0_growTo 96 = .ok (.if_icmp .ne 21, 3) := by decide +kernel
theorem dX0_growTo_99 : decode cX0_growTo 99 = .ok (.aload_n 0, 1) := by decide +kernel
theorem dX0_growTo_100 : decode cX0_growTo 100 = .ok (.getfield 28, 3) := by decide +kernel
theorem dX0_growTo_103 : decode cX0_growTo 103 = .ok (.aload_n 0, 1) := by decide +kernel
theorem dX0_growTo_104 : decode cX0_growTo 104 = .ok (.getfield 9, 3) := by decide +kernel
theorem dX0_growTo_107 : decode cX0_growTo 107 = .ok (.iconst 1, 1) := by decide +kernel
theorem dX0_growTo_108 : decode cX0_growTo 108 = .ok (.isub, 1) := by decide +kernel
theorem dX0_growTo_109 : decode cX0_growTo 109 = .ok (.dup2, 1) := by decide +kernel
theorem dX0_growTo_110 : decode cX0_growTo 110 = .ok (.iaload, 1) := by decide +kernel
theorem dX0_growTo_111 : decode cX0_growTo 111 = .ok (.iconst 1, 1) := by decide +kernel
theorem dX0_growTo_112 : decode cX0_growTo 112 = .ok (.iload 4, 2) := by decide +kernel
theorem dX0_growTo_114 : decode cX0_growTo 114 = .ok (.ishl, 1) := by decide +kernel
theorem dX0_growTo_115 : decode cX0_growTo 115 = .ok (.ior, 1) := by decide +kernel
theorem dX0_growTo_116 : decode cX0_growTo 116 = .ok (.iastore, 1) := by decide +kernel
theorem dX0_growTo_117 : decode cX0_growTo 117 = .ok (.iinc 4 1, 3) := by decide +kernel
theorem dX0_growTo_120 : decode cX0_growTo 120 = .ok (.goto (-115), 3) := by decide +kernel
theorem dX0_growTo_123 : decode cX0_growTo 123 = .ok (.return_, 1) := by decide +kernel
abbrev mdX0_growTo : MD := (cX0_growTo, RX0, 7, none, yX0_growTo.name, 2, 42, eT)
set_option maxHeartbeats 2000000 in
set_option maxRecDepth 20000 in
theorem p_X0_growTo_J117 (C : KX) (l0 : Nat) (l1 : Int32) (l2 : Nat) (l3 : Int32) (l4 : Int32) (k5 : Int32 × Int32 → Mo Unit) (hk5 : ∀ s, Cmp C mdX0_growTo (QM rvV) 5 [(0, .ref (kB C + l0)), (1, .int l1), (2, .ref (kB C + l2)), (3, .int s.1), (4, .int s.2)] [] (k5 s)) : Cmp C mdX0_growTo (QM rvV) 117 [(0, .ref (kB C + l0)), (1, .int l1), (2, .ref (kB C + l2)), (3, .int l3), (4, .int l4)] [] (m_X0_growTo_J117 l0 l1 l2 l3 l4 k5) := by
  unfold m_X0_growTo_J117
  refine C_iinc (D := mdX0_growTo) (pc' := 120) (j := 4) (v := (l4 + 1)) (ls' := [(4, .int (l4 + 1)), (0, .ref (kB C + l0)), (1, .int l1), (2, .ref (kB C + l2)), (3, .int l3)]) dX0_growTo_117 rfl rfl rfl (by decide) rfl ?_
  refine C_goto (D := mdX0_growTo) (pc' := 5) dX0_growTo_120 (by decide) ?_
  exact C_sub [1, 2, 3, 4, 0] rfl (hk5 (l3, (l4 + 1)))
set_option maxHeartbeats 2000000 in
set_option maxRecDepth 20000 in
theorem p_X0_growTo_J76 (C : KX) (l0 : Nat) (l1 : Int32) (l2 : Nat) (l4 : Int32) (l5 : Int32) (l6 : Int32) (k5 : Int32 × Int32 → Mo Unit) (hk5 : ∀ s, Cmp C mdX0_growTo (QM rvV) 5 [(0, .ref (kB C + l0)), (1, .int l1), (2, .ref (kB C + l2)), (3, .int s.1), (4, .int s.2)] [] (k5 s)) : Cmp C mdX0_growTo (QM rvV) 76 [(0, .ref (kB C + l0)), (1, .int l1), (2, .ref (kB C + l2)), (4, .int l4), (5, .int l5), (6, .int l6)] [] (m_X0_growTo_J76 l0 l1 l2 l4 l5 l6 k5) := by
  unfold m_X0_growTo_J76
  refine C_iload (D := mdX0_growTo) (pc' := 78) (x := l6) dX0_growTo_76 rfl 5 rfl ?_
  refine C_istore_n (D := mdX0_growTo) (pc' := 79) (ls' := [(3, .int l6), (0, .ref (kB C + l0)), (1, .int l1), (2, .ref (kB C + l2)), (4, .int l4), (5, .int l5), (6, .int l6)]) dX0_growTo_78 rfl rfl (by decide) rfl ?_
  refine C_aload_n (D := mdX0_growTo) (pc' := 80) (x := kB C + l0) dX0_growTo_79 rfl 1 rfl ?_
  refine C_getR (D := mdX0_growTo) (pc' := 83) (p := l0) f_X0_34 rfl dX0_growTo_80 rfl (fun reached8 => ?_)
  refine C_iload (D := mdX0_growTo) (pc' := 85) (x := l4) dX0_growTo_83 rfl 4 rfl ?_
  refine C_aload_n (D := mdX0_growTo) (pc' := 86) (x := kB C + l0) dX0_growTo_85 rfl 1 rfl ?_
  refine C_getI (D := mdX0_growTo) (pc' := 89) (p := l0) f_X0_9 rfl dX0_growTo_86 rfl (fun nodes9 => ?_)
  refine C_iconst (D := mdX0_growTo) (pc' := 90) (v := 1) dX0_growTo_89 rfl (by decide) ?_
  refine C_isub (D := mdX0_growTo) (pc' := 91) dX0_growTo_90 rfl ?_
  refine C_tI (D := mdX0_growTo) (pc' := 92) (p := reached8) dX0_growTo_91 rfl ?_
  refine C_iload (D := mdX0_growTo) (pc' := 94) (x := l6) dX0_growTo_92 rfl 6 rfl ?_
  refine C_iload (D := mdX0_growTo) (pc' := 96) (x := l5) dX0_growTo_94 rfl 5 rfl ?_
  refine C_icmp_ne (D := mdX0_growTo) (pc' := 99) (tgt := 117) dX0_growTo_96 (by decide) rfl ?_ ?_
  · exact C_sub [1, 2, 3, 0, 4] rfl (p_X0_growTo_J117 C l0 l1 l2 l6 l4 k5 hk5)
  · refine C_aload_n (D := mdX0_growTo) (pc' := 100) (x := kB C + l0) dX0_growTo_99 rfl 1 rfl ?_
    refine C_getR (D := mdX0_growTo) (pc' := 103) (p := l0) f_X0_28 rfl dX0_growTo_100 rfl (fun ends10 => ?_)
    refine C_aload_n (D := mdX0_growTo) (pc' := 104) (x := kB C + l0) dX0_growTo_103 rfl 1 rfl ?_
    refine C_getI (D := mdX0_growTo) (pc' := 107) (p := l0) f_X0_9 rfl dX0_growTo_104 rfl (fun nodes11 => ?_)
    refine C_iconst (D := mdX0_growTo) (pc' := 108) (v := 1) dX0_growTo_107 rfl (by decide) ?_
    refine C_isub (D := mdX0_growTo) (pc' := 109) dX0_growTo_108 rfl ?_
    refine C_dup2 (D := mdX0_growTo) (pc' := 110) dX0_growTo_109 rfl rfl rfl ?_
    refine C_aI (D := mdX0_growTo) (pc' := 111) (p := ends10) dX0_growTo_110 rfl (fun x12 => ?_)
    refine C_iconst (D := mdX0_growTo) (pc' := 112) (v := 1) dX0_growTo_111 rfl (by decide) ?_
    refine C_iload (D := mdX0_growTo) (pc' := 114) (x := l4) dX0_growTo_112 rfl 4 rfl ?_
    refine C_ishl (D := mdX0_growTo) (pc' := 115) dX0_growTo_114 rfl ?_
    refine C_ior (D := mdX0_growTo) (pc' := 116) dX0_growTo_115 rfl ?_
    refine C_tI (D := mdX0_growTo) (pc' := 117) (p := ends10) dX0_growTo_116 rfl ?_
    exact C_sub [1, 2, 3, 0, 4] rfl (p_X0_growTo_J117 C l0 l1 l2 l6 l4 k5 hk5)
set_option maxHeartbeats 2000000 in
set_option maxRecDepth 20000 in
theorem p_X0_growTo_B5 (C : KX) (l0 : Nat) (l1 : Int32) (l2 : Nat)  (k5 : Int32 × Int32 → Mo Unit) (hk5 : ∀ s, Cmp C mdX0_growTo (QM rvV) 5 [(0, .ref (kB C + l0)), (1, .int l1), (2, .ref (kB C + l2)), (3, .int s.1), (4, .int s.2)] [] (k5 s)) (l3 : Int32) (l4 : Int32) : Cmp C mdX0_growTo (QM rvV) 5 [(0, .ref (kB C + l0)), (1, .int l1), (2, .ref (kB C + l2)), (3, .int l3), (4, .int l4)] [] (m_X0_growTo_B5 l0 l1 l2 k5 l3 l4) := by
  unfold m_X0_growTo_B5
  refine C_iload (D := mdX0_growTo) (pc' := 7) (x := l4) dX0_growTo_5 rfl 4 rfl ?_
  refine C_aload_n (D := mdX0_growTo) (pc' := 8) (x := kB C + l2) dX0_growTo_7 rfl 2 rfl ?_
  refine C_getI (D := mdX0_growTo) (pc' := 11) (p := l2) f_X0_52 rfl dX0_growTo_8 rfl (fun count1 => ?_)
  refine C_icmp_ge (D := mdX0_growTo) (pc' := 14) (tgt := 123) dX0_growTo_11 (by decide) rfl ?_ ?_
  · exact C_vret rfl dX0_growTo_123
  · refine C_iload (D := mdX0_growTo) (pc' := 16) (x := l4) dX0_growTo_14 rfl 4 rfl ?_
    refine C_aload_n (D := mdX0_growTo) (pc' := 17) (x := kB C + l0) dX0_growTo_16 rfl 0 rfl ?_
    refine C_getR (D := mdX0_growTo) (pc' := 20) (p := l0) f_X0_34 rfl dX0_growTo_17 rfl (fun reached2 => ?_)
    refine C_alen (D := mdX0_growTo) (pc' := 21) (kd := 100) (p := reached2) (by decide) dX0_growTo_20 rfl (fun len3 => ?_)
    refine C_icmp_ge (D := mdX0_growTo) (pc' := 24) (tgt := 123) dX0_growTo_21 (by decide) rfl ?_ ?_
    · exact C_vret rfl dX0_growTo_123
    · refine C_aload_n (D := mdX0_growTo) (pc' := 25) (x := kB C + l2) dX0_growTo_24 rfl 2 rfl ?_
      refine C_getR (D := mdX0_growTo) (pc' := 28) (p := l2) f_X0_57 rfl dX0_growTo_25 rfl (fun codes4 => ?_)
      refine C_iload (D := mdX0_growTo) (pc' := 30) (x := l4) dX0_growTo_28 rfl 4 rfl ?_
      refine C_aI (D := mdX0_growTo) (pc' := 31) (p := codes4) dX0_growTo_30 rfl (fun x5 => ?_)
      refine C_istore (D := mdX0_growTo) (pc' := 33) (ls' := [(5, .int x5), (0, .ref (kB C + l0)), (1, .int l1), (2, .ref (kB C + l2)), (3, .int l3), (4, .int l4)]) dX0_growTo_31 rfl (by decide) rfl ?_
      refine C_iload (D := mdX0_growTo) (pc' := 35) (x := x5) dX0_growTo_33 rfl 0 rfl ?_
      refine C_callS (D := mdX0_growTo) (pc' := 38) (st := []) [.int x5] s_X0_60 (i_X3_sizeOf C x5) dX0_growTo_35 rfl rfl rfl (Nat.le_of_ble_eq_true rfl) (by decide) (by decide) (fun c6 => ?_)
      refine C_iload_n (D := mdX0_growTo) (pc' := 39) (x := l1) dX0_growTo_38 rfl 2 rfl ?_
      refine C_icmp_lt (D := mdX0_growTo) (pc' := 42) (tgt := 117) dX0_growTo_39 (by decide) rfl ?_ ?_
      · exact C_sub [1, 2, 3, 4, 5] rfl (p_X0_growTo_J117 C l0 l1 l2 l3 l4 k5 hk5)
      · refine C_iload (D := mdX0_growTo) (pc' := 44) (x := x5) dX0_growTo_42 rfl 0 rfl ?_
        refine C_iload_n (D := mdX0_growTo) (pc' := 45) (x := l1) dX0_growTo_44 rfl 2 rfl ?_
        refine C_callS (D := mdX0_growTo) (pc' := 48) (st := []) [.int x5, .int l1] s_X0_64 (i_X3_headOf C x5 l1) dX0_growTo_45 rfl rfl rfl (Nat.le_of_ble_eq_true rfl) (by decide) (by decide) (fun c7 => ?_)
        refine C_istore (D := mdX0_growTo) (pc' := 50) (ls' := [(6, .int c7), (5, .int x5), (0, .ref (kB C + l0)), (1, .int l1), (2, .ref (kB C + l2)), (3, .int l3), (4, .int l4)]) dX0_growTo_48 rfl (by decide) rfl ?_
        refine C_iload (D := mdX0_growTo) (pc' := 52) (x := c7) dX0_growTo_50 rfl 0 rfl ?_
        refine C_iload_n (D := mdX0_growTo) (pc' := 53) (x := l3) dX0_growTo_52 rfl 5 rfl ?_
        refine C_icmp_eq (D := mdX0_growTo) (pc' := 56) (tgt := 76) dX0_growTo_53 (by decide) rfl ?_ ?_
        · exact C_sub [2, 3, 4, 6, 1, 0] rfl (p_X0_growTo_J76 C l0 l1 l2 l4 x5 c7 k5 hk5)
        · refine C_aload_n (D := mdX0_growTo) (pc' := 57) (x := kB C + l0) dX0_growTo_56 rfl 2 rfl ?_
          refine C_aload_n (D := mdX0_growTo) (pc' := 58) (x := kB C + l0) dX0_growTo_57 rfl 2 rfl ?_
          refine C_getR (D := mdX0_growTo) (pc' := 61) (p := l0) f_X0_34 rfl dX0_growTo_58 rfl (fun reached13 => ?_)
          refine C_iload (D := mdX0_growTo) (pc' := 63) (x := l4) dX0_growTo_61 rfl 6 rfl ?_
          refine C_aI (D := mdX0_growTo) (pc' := 64) (p := reached13) dX0_growTo_63 rfl (fun x14 => ?_)
          refine C_iload (D := mdX0_growTo) (pc' := 66) (x := x5) dX0_growTo_64 rfl 1 rfl ?_
          refine C_iload_n (D := mdX0_growTo) (pc' := 67) (x := l1) dX0_growTo_66 rfl 3 rfl ?_
          refine C_iconst (D := mdX0_growTo) (pc' := 68) (v := 1) dX0_growTo_67 rfl (by decide) ?_
          refine C_isub (D := mdX0_growTo) (pc' := 69) dX0_growTo_68 rfl ?_
          refine C_callS (D := mdX0_growTo) (pc' := 72) (st := [.int x14, .ref (kB C + l0)]) [.int x5, .int (l1 - 1)] s_X0_68 (i_X3_letterAt C x5 ((l1 - 1))) dX0_growTo_69 rfl rfl rfl (Nat.le_of_ble_eq_true rfl) (by decide) (by decide) (fun c15 => ?_)
          refine C_iload_n (D := mdX0_growTo) (pc' := 73) (x := l1) dX0_growTo_72 rfl 3 rfl ?_
          refine C_callV (D := mdX0_growTo) (pc' := 76) (p := l0) (st := []) [.int x14, .int c15, .int l1] v_X0_71 (i_X0_addNode C l0 x14 c15 l1) dX0_growTo_73 rfl rfl rfl (Nat.le_of_ble_eq_true rfl) (by decide) (by decide) (fun _ => ?_)
          exact C_sub [2, 3, 4, 6, 1, 0] rfl (p_X0_growTo_J76 C l0 l1 l2 l4 x5 c7 k5 hk5)
set_option maxHeartbeats 2000000 in
set_option maxRecDepth 20000 in
theorem i_X0_growTo (C : KX) (l0 : Nat) (l1 : Int32) (l2 : Nat) : Imp C yX0_growTo cX0_growTo 7 none 2 42 rvV [.ref (kB C + l0), .int l1, .ref (kB C + l2)] (m_X0_growTo l0 l1 l2) := by
  refine Imp.of (by decide) (Nat.le_of_ble_eq_true rfl) [(0, .ref (kB C + l0)), (1, .int l1), (2, .ref (kB C + l2))] rfl ?_
  show Cmp C mdX0_growTo (QM rvV) 0 [(0, .ref (kB C + l0)), (1, .int l1), (2, .ref (kB C + l2))] [] (m_X0_growTo l0 l1 l2)
  unfold m_X0_growTo
  refine C_iconst (D := mdX0_growTo) (pc' := 1) (v := 0) dX0_growTo_0 rfl (by decide) ?_
  refine C_istore_n (D := mdX0_growTo) (pc' := 2) (ls' := [(3, .int 0), (0, .ref (kB C + l0)), (1, .int l1), (2, .ref (kB C + l2))]) dX0_growTo_1 rfl rfl (by decide) rfl ?_
  refine C_iconst (D := mdX0_growTo) (pc' := 3) (v := 0) dX0_growTo_2 rfl (by decide) ?_
  refine C_istore (D := mdX0_growTo) (pc' := 5) (ls' := [(4, .int 0), (3, .int 0), (0, .ref (kB C + l0)), (1, .int l1), (2, .ref (kB C + l2))]) dX0_growTo_3 rfl (by decide) rfl ?_
  exact C_sub [2, 3, 4, 1, 0] rfl (C_loop (fun s => [(0, .ref (kB C + l0)), (1, .int l1), (2, .ref (kB C + l2)), (3, .int s.1), (4, .int s.2)]) (fun k hk s => p_X0_growTo_B5 C l0 l1 l2  k hk s.1 s.2) FU (0, 0))

-- StandingQueries$Automaton.build(LStandingQueries$Words;)V
theorem dX0_build_0 : decode cX0_build 0 = .ok (.aload_n 0, 1) := by decide +kernel
theorem dX0_build_1 : decode cX0_build 1 = .ok (.iconst 1, 1) := by decide +kernel
theorem dX0_build_2 : decode cX0_build 2 = .ok (.putfield 9, 3) := by decide +kernel
theorem dX0_build_5 : decode cX0_build 5 = .ok (.aload_n 0, 1) := by decide +kernel
theorem dX0_build_6 : decode cX0_build 6 = .ok (.getfield 31, 3) := by decide +kernel
theorem dX0_build_9 : decode cX0_build 9 = .ok (.iconst 0, 1) := by decide +kernel
theorem dX0_build_10 : decode cX0_build 10 = .ok (.invokestatic 37, 3) := by decide +kernel
theorem dX0_build_13 : decode cX0_build 13 = .ok (.aload_n 0, 1) := by decide +kernel
theorem dX0_build_14 : decode cX0_build 14 = .ok (.getfield 28, 3) := by decide +kernel
theorem dX0_build_17 : decode cX0_build 17 = .ok (.iconst 0, 1) := by decide +kernel
theorem dX0_build_18 : decode cX0_build 18 = .ok (.invokestatic 37, 3) := by decide +kernel
theorem dX0_build_21 : decode cX0_build 21 = .ok (.aload_n 0, 1) := by decide +kernel
theorem dX0_build_22 : decode cX0_build 22 = .ok (.getfield 34, 3) := by decide +kernel
theorem dX0_build_25 : decode cX0_build 25 = .ok (.iconst 0, 1) := by decide +kernel
theorem dX0_build_26 : decode cX0_build 26 = .ok (.invokestatic 37, 3) := by decide +kernel
theorem dX0_build_29 : decode cX0_build 29 = .ok (.iconst 1, 1) := by decide +kernel
theorem dX0_build_30 : decode cX0_build 30 = .ok (.istore_n 2, 1) := by decide +kernel
theorem dX0_build_31 : decode cX0_build 31 = .ok (.iload_n 2, 1) := by decide +kernel
theorem dX0_build_32 : decode cX0_build 32 = .ok (.bipush 6, 2) := by decide +kernel
theorem dX0_build_34 : decode cX0_build 34 = .ok (.if_icmp .gt 15, 3) := by decide +kernel
theorem dX0_build_37 : decode cX0_build 37 = .ok (.aload_n 0, 1) := by decide +kernel
theorem dX0_build_38 : decode cX0_build 38 = .ok (.iload_n 2, 1) := by decide +kernel
theorem dX0_build_39 : decode cX0_build 39 = .ok (.aload_n 1, 1) := by decide +kernel
theorem dX0_build_40 : decode cX0_build 40 = .ok (.invokevirtual 43, 3) := by decide +kernel
theorem dX0_build_43 : decode cX0_build 43 = .ok (.iinc 2 1, 3) := by decide +kernel
theorem dX0_build_46 : decode cX0_build 46 = .ok (.goto (-15), 3) := by decide +kernel
theorem dX0_build_49 : decode cX0_build 49 = .ok (.aload_n 0, 1) := by decide +kernel
theorem dX0_build_50 : decode cX0_build 50 = .ok (.invokevirtual 47, 3) := by decide +kernel
theorem dX0_build_53 : decode cX0_build 53 = .ok (.return_, 1) := by decide +kernel
abbrev mdX0_build : MD := (cX0_build, RX0, 3, none, yX0_build.name, 3, 68, eT)
set_option maxHeartbeats 2000000 in
set_option maxRecDepth 20000 in
theorem p_X0_build_B31 (C : KX) (l0 : Nat) (l1 : Nat)  (k31 : Int32 → Mo Unit) (hk31 : ∀ s, Cmp C mdX0_build (QM rvV) 31 [(0, .ref (kB C + l0)), (1, .ref (kB C + l1)), (2, .int s)] [] (k31 s)) (l2 : Int32) : Cmp C mdX0_build (QM rvV) 31 [(0, .ref (kB C + l0)), (1, .ref (kB C + l1)), (2, .int l2)] [] (m_X0_build_B31 l0 l1 k31 l2) := by
  unfold m_X0_build_B31
  refine C_iload_n (D := mdX0_build) (pc' := 32) (x := l2) dX0_build_31 rfl 2 rfl ?_
  refine C_bipush (D := mdX0_build) (pc' := 34) (v := 6) dX0_build_32 rfl (by decide) ?_
  refine C_icmp_gt (D := mdX0_build) (pc' := 37) (tgt := 49) dX0_build_34 (by decide) rfl ?_ ?_
  · refine C_aload_n (D := mdX0_build) (pc' := 50) (x := kB C + l0) dX0_build_49 rfl 0 rfl ?_
    refine C_callV (D := mdX0_build) (pc' := 53) (p := l0) (st := []) [] v_X0_47 (i_X0_link C l0) dX0_build_50 rfl rfl rfl (Nat.le_of_ble_eq_true rfl) (by decide) (by decide) (fun _ => ?_)
    exact C_vret rfl dX0_build_53
  · refine C_aload_n (D := mdX0_build) (pc' := 38) (x := kB C + l0) dX0_build_37 rfl 0 rfl ?_
    refine C_iload_n (D := mdX0_build) (pc' := 39) (x := l2) dX0_build_38 rfl 2 rfl ?_
    refine C_aload_n (D := mdX0_build) (pc' := 40) (x := kB C + l1) dX0_build_39 rfl 1 rfl ?_
    refine C_callV (D := mdX0_build) (pc' := 43) (p := l0) (st := []) [.int l2, .ref (kB C + l1)] v_X0_43 (i_X0_growTo C l0 l2 l1) dX0_build_40 rfl rfl rfl (Nat.le_of_ble_eq_true rfl) (by decide) (by decide) (fun _ => ?_)
    refine C_iinc (D := mdX0_build) (pc' := 46) (j := 2) (v := (l2 + 1)) (ls' := [(2, .int (l2 + 1)), (0, .ref (kB C + l0)), (1, .ref (kB C + l1))]) dX0_build_43 rfl rfl rfl (by decide) rfl ?_
    refine C_goto (D := mdX0_build) (pc' := 31) dX0_build_46 (by decide) ?_
    exact C_sub [1, 2, 0] rfl (hk31 ((l2 + 1)))
set_option maxHeartbeats 2000000 in
set_option maxRecDepth 20000 in
theorem i_X0_build (C : KX) (l0 : Nat) (l1 : Nat) : Imp C yX0_build cX0_build 3 none 3 68 rvV [.ref (kB C + l0), .ref (kB C + l1)] (m_X0_build l0 l1) := by
  refine Imp.of (by decide) (Nat.le_of_ble_eq_true rfl) [(0, .ref (kB C + l0)), (1, .ref (kB C + l1))] rfl ?_
  show Cmp C mdX0_build (QM rvV) 0 [(0, .ref (kB C + l0)), (1, .ref (kB C + l1))] [] (m_X0_build l0 l1)
  unfold m_X0_build
  refine C_aload_n (D := mdX0_build) (pc' := 1) (x := kB C + l0) dX0_build_0 rfl 0 rfl ?_
  refine C_iconst (D := mdX0_build) (pc' := 2) (v := 1) dX0_build_1 rfl (by decide) ?_
  refine C_putI (D := mdX0_build) (pc' := 5) (p := l0) f_X0_9 rfl dX0_build_2 rfl ?_
  refine C_aload_n (D := mdX0_build) (pc' := 6) (x := kB C + l0) dX0_build_5 rfl 0 rfl ?_
  refine C_getR (D := mdX0_build) (pc' := 9) (p := l0) f_X0_31 rfl dX0_build_6 rfl (fun follow1 => ?_)
  refine C_iconst (D := mdX0_build) (pc' := 10) (v := 0) dX0_build_9 rfl (by decide) ?_
  refine C_callS (D := mdX0_build) (pc' := 13) (st := []) [.ref (kB C + follow1), .int 0] s_X0_37 (i_J7_fill_53178 C follow1 0) dX0_build_10 rfl rfl rfl (Nat.le_of_ble_eq_true rfl) (by decide) (by decide) (fun _ => ?_)
  refine C_aload_n (D := mdX0_build) (pc' := 14) (x := kB C + l0) dX0_build_13 rfl 0 rfl ?_
  refine C_getR (D := mdX0_build) (pc' := 17) (p := l0) f_X0_28 rfl dX0_build_14 rfl (fun ends2 => ?_)
  refine C_iconst (D := mdX0_build) (pc' := 18) (v := 0) dX0_build_17 rfl (by decide) ?_
  refine C_callS (D := mdX0_build) (pc' := 21) (st := []) [.ref (kB C + ends2), .int 0] s_X0_37 (i_J7_fill_53178 C ends2 0) dX0_build_18 rfl rfl rfl (Nat.le_of_ble_eq_true rfl) (by decide) (by decide) (fun _ => ?_)
  refine C_aload_n (D := mdX0_build) (pc' := 22) (x := kB C + l0) dX0_build_21 rfl 0 rfl ?_
  refine C_getR (D := mdX0_build) (pc' := 25) (p := l0) f_X0_34 rfl dX0_build_22 rfl (fun reached3 => ?_)
  refine C_iconst (D := mdX0_build) (pc' := 26) (v := 0) dX0_build_25 rfl (by decide) ?_
  refine C_callS (D := mdX0_build) (pc' := 29) (st := []) [.ref (kB C + reached3), .int 0] s_X0_37 (i_J7_fill_53178 C reached3 0) dX0_build_26 rfl rfl rfl (Nat.le_of_ble_eq_true rfl) (by decide) (by decide) (fun _ => ?_)
  refine C_iconst (D := mdX0_build) (pc' := 30) (v := 1) dX0_build_29 rfl (by decide) ?_
  refine C_istore_n (D := mdX0_build) (pc' := 31) (ls' := [(2, .int 1), (0, .ref (kB C + l0)), (1, .ref (kB C + l1))]) dX0_build_30 rfl rfl (by decide) rfl ?_
  exact C_sub [1, 2, 0] rfl (C_loop (fun s => [(0, .ref (kB C + l0)), (1, .ref (kB C + l1)), (2, .int s)]) (fun k hk s => p_X0_build_B31 C l0 l1  k hk s) FU 1)

-- java/util/Arrays.fill([JJ)V
theorem dJ7_fill_d0a16_0 : decode cJ7_fill_d0a16 0 = .ok (.iconst 0, 1) := by decide +kernel
theorem dJ7_fill_d0a16_1 : decode cJ7_fill_d0a16 1 = .ok (.istore_n 3, 1) := by decide +kernel
theorem dJ7_fill_d0a16_2 : decode cJ7_fill_d0a16 2 = .ok (.aload_n 0, 1) := by decide +kernel
theorem dJ7_fill_d0a16_3 : decode cJ7_fill_d0a16 3 = .ok (.arraylength, 1) := by decide +kernel
theorem dJ7_fill_d0a16_4 : decode cJ7_fill_d0a16 4 = .ok (.istore 4, 2) := by decide +kernel
theorem dJ7_fill_d0a16_6 : decode cJ7_fill_d0a16 6 = .ok (.iload_n 3, 1) := by decide +kernel
theorem dJ7_fill_d0a16_7 : decode cJ7_fill_d0a16 7 = .ok (.iload 4, 2) := by decide +kernel
theorem dJ7_fill_d0a16_9 : decode cJ7_fill_d0a16 9 = .ok (.if_icmp .ge 13, 3) := by decide +kernel
theorem dJ7_fill_d0a16_12 : decode cJ7_fill_d0a16 12 = .ok (.aload_n 0, 1) := by decide +kernel
theorem dJ7_fill_d0a16_13 : decode cJ7_fill_d0a16 13 = .ok (.iload_n 3, 1) := by decide +kernel
theorem dJ7_fill_d0a16_14 : decode cJ7_fill_d0a16 14 = .ok (.lload_n 1, 1) := by decide +kernel
theorem dJ7_fill_d0a16_15 : decode cJ7_fill_d0a16 15 = .ok (.lastore, 1) := by decide +kernel
theorem dJ7_fill_d0a16_16 : decode cJ7_fill_d0a16 16 = .ok (.iinc 3 1, 3) := by decide +kernel
theorem dJ7_fill_d0a16_19 : decode cJ7_fill_d0a16 19 = .ok (.goto (-13), 3) := by decide +kernel
theorem dJ7_fill_d0a16_22 : decode cJ7_fill_d0a16 22 = .ok (.return_, 1) := by decide +kernel
abbrev mdJ7_fill_d0a16 : MD := (cJ7_fill_d0a16, RJ7, 5, none, yJ7_fill_d0a16.name, 0, 0, eT)
set_option maxHeartbeats 2000000 in
set_option maxRecDepth 20000 in
theorem p_J7_fill_d0a16_B6 (C : KX) (l0 : Nat) (l1 : Int64) (l4 : Int32)  (k6 : Int32 → Mo Unit) (hk6 : ∀ s, Cmp C mdJ7_fill_d0a16 (QM rvV) 6 [(0, .ref (kB C + l0)), (1, .long l1), (3, .int s), (4, .int l4)] [] (k6 s)) (l3 : Int32) : Cmp C mdJ7_fill_d0a16 (QM rvV) 6 [(0, .ref (kB C + l0)), (1, .long l1), (3, .int l3), (4, .int l4)] [] (m_J7_fill_d0a16_B6 l0 l1 l4 k6 l3) := by
  unfold m_J7_fill_d0a16_B6
  refine C_iload_n (D := mdJ7_fill_d0a16) (pc' := 7) (x := l3) dJ7_fill_d0a16_6 rfl 2 rfl ?_
  refine C_iload (D := mdJ7_fill_d0a16) (pc' := 9) (x := l4) dJ7_fill_d0a16_7 rfl 3 rfl ?_
  refine C_icmp_ge (D := mdJ7_fill_d0a16) (pc' := 12) (tgt := 22) dJ7_fill_d0a16_9 (by decide) rfl ?_ ?_
  · exact C_vret rfl dJ7_fill_d0a16_22
  · refine C_aload_n (D := mdJ7_fill_d0a16) (pc' := 13) (x := kB C + l0) dJ7_fill_d0a16_12 rfl 0 rfl ?_
    refine C_iload_n (D := mdJ7_fill_d0a16) (pc' := 14) (x := l3) dJ7_fill_d0a16_13 rfl 2 rfl ?_
    refine C_lload_n (D := mdJ7_fill_d0a16) (pc' := 15) (x := l1) dJ7_fill_d0a16_14 rfl 1 rfl ?_
    refine C_tJ (D := mdJ7_fill_d0a16) (pc' := 16) (p := l0) dJ7_fill_d0a16_15 rfl ?_
    refine C_iinc (D := mdJ7_fill_d0a16) (pc' := 19) (j := 2) (v := (l3 + 1)) (ls' := [(3, .int (l3 + 1)), (0, .ref (kB C + l0)), (1, .long l1), (4, .int l4)]) dJ7_fill_d0a16_16 rfl rfl rfl (by decide) rfl ?_
    refine C_goto (D := mdJ7_fill_d0a16) (pc' := 6) dJ7_fill_d0a16_19 (by decide) ?_
    exact C_sub [1, 2, 0, 3] rfl (hk6 ((l3 + 1)))
set_option maxHeartbeats 2000000 in
set_option maxRecDepth 20000 in
theorem i_J7_fill_d0a16 (C : KX) (l0 : Nat) (l1 : Int64) : Imp C yJ7_fill_d0a16 cJ7_fill_d0a16 5 none 0 0 rvV [.ref (kB C + l0), .long l1] (m_J7_fill_d0a16 l0 l1) := by
  refine Imp.of (by decide) (Nat.le_of_ble_eq_true rfl) [(0, .ref (kB C + l0)), (1, .long l1)] rfl ?_
  show Cmp C mdJ7_fill_d0a16 (QM rvV) 0 [(0, .ref (kB C + l0)), (1, .long l1)] [] (m_J7_fill_d0a16 l0 l1)
  unfold m_J7_fill_d0a16
  refine C_iconst (D := mdJ7_fill_d0a16) (pc' := 1) (v := 0) dJ7_fill_d0a16_0 rfl (by decide) ?_
  refine C_istore_n (D := mdJ7_fill_d0a16) (pc' := 2) (ls' := [(3, .int 0), (0, .ref (kB C + l0)), (1, .long l1)]) dJ7_fill_d0a16_1 rfl rfl (by decide) rfl ?_
  refine C_aload_n (D := mdJ7_fill_d0a16) (pc' := 3) (x := kB C + l0) dJ7_fill_d0a16_2 rfl 1 rfl ?_
  refine C_alen (D := mdJ7_fill_d0a16) (pc' := 4) (kd := 101) (p := l0) (by decide) dJ7_fill_d0a16_3 rfl (fun len1 => ?_)
  refine C_istore (D := mdJ7_fill_d0a16) (pc' := 6) (ls' := [(4, .int len1), (3, .int 0), (0, .ref (kB C + l0)), (1, .long l1)]) dJ7_fill_d0a16_4 rfl (by decide) rfl ?_
  exact C_sub [2, 3, 1, 0] rfl (C_loop (fun s => [(0, .ref (kB C + l0)), (1, .long l1), (3, .int s), (4, .int len1)]) (fun k hk s => p_J7_fill_d0a16_B6 C l0 l1 len1  k hk s) FU 0)

-- StandingQueries.walk()V
theorem dX7_walk_0 : decode cX7_walk 0 = .ok (.aload_n 0, 1) := by decide +kernel
theorem dX7_walk_1 : decode cX7_walk 1 = .ok (.getfield 50, 3) := by decide +kernel
theorem dX7_walk_4 : decode cX7_walk 4 = .ok (.lconst 0, 1) := by decide +kernel
theorem dX7_walk_5 : decode cX7_walk 5 = .ok (.invokestatic 244, 3) := by decide +kernel
theorem dX7_walk_8 : decode cX7_walk 8 = .ok (.aload_n 0, 1) := by decide +kernel
theorem dX7_walk_9 : decode cX7_walk 9 = .ok (.iconst 0, 1) := by decide +kernel
theorem dX7_walk_10 : decode cX7_walk 10 = .ok (.putfield 101, 3) := by decide +kernel
theorem dX7_walk_13 : decode cX7_walk 13 = .ok (.iconst 0, 1) := by decide +kernel
theorem dX7_walk_14 : decode cX7_walk 14 = .ok (.istore_n 1, 1) := by decide +kernel
theorem dX7_walk_15 : decode cX7_walk 15 = .ok (.iload_n 1, 1) := by decide +kernel
theorem dX7_walk_16 : decode cX7_walk 16 = .ok (.aload_n 0, 1) := by decide +kernel
theorem dX7_walk_17 : decode cX7_walk 17 = .ok (.getfield 19, 3) := by decide +kernel
theorem dX7_walk_20 : decode cX7_walk 20 = .ok (.getfield 91, 3) := by decide +kernel
theorem dX7_walk_23 : decode cX7_walk 23 = .ok (.if_icmp .ge 90, 3) := by decide +kernel
theorem dX7_walk_26 : decode cX7_walk 26 = .ok (.aload_n 0, 1) := by decide +kernel
theorem dX7_walk_27 : decode cX7_walk 27 = .ok (.aload_n 0, 1) := by decide +kernel
theorem dX7_walk_28 : decode cX7_walk 28 = .ok (.getfield 46, 3) := by decide +kernel
theorem dX7_walk_31 : decode cX7_walk 31 = .ok (.getfield 212, 3) := by decide +kernel
theorem dX7_walk_34 : decode cX7_walk 34 = .ok (.aload_n 0, 1) := by decide +kernel
theorem dX7_walk_35 : decode cX7_walk 35 = .ok (.getfield 101, 3) := by decide +kernel
theorem dX7_walk_38 : decode cX7_walk 38 = .ok (.bipush 8, 2) := by decide +kernel
theorem dX7_walk_40 : decode cX7_walk 40 = .ok (.imul, 1) := by decide +kernel
theorem dX7_walk_41 : decode cX7_walk 41 = .ok (.aload_n 0, 1) := by decide +kernel
theorem dX7_walk_42 : decode cX7_walk 42 = .ok (.getfield 19, 3) := by decide +kernel
theorem dX7_walk_45 : decode cX7_walk 45 = .ok (.getfield 94, 3) := by decide +kernel
theorem dX7_walk_48 : decode cX7_walk 48 = .ok (.iload_n 1, 1) := by decide +kernel
theorem dX7_walk_49 : decode cX7_walk 49 = .ok (.iaload, 1) := by decide +kernel
theorem dX7_walk_50 : decode cX7_walk 50 = .ok (.iadd, 1) := by decide +kernel
theorem dX7_walk_51 : decode cX7_walk 51 = .ok (.iaload, 1) := by decide +kernel
theorem dX7_walk_52 : decode cX7_walk 52 = .ok (.putfield 101, 3) := by decide +kernel
theorem dX7_walk_55 : decode cX7_walk 55 = .ok (.aload_n 0, 1) := by decide +kernel
theorem dX7_walk_56 : decode cX7_walk 56 = .ok (.getfield 46, 3) := by decide +kernel
theorem dX7_walk_59 : decode cX7_walk 59 = .ok (.getfield 209, 3) := by decide +kernel
theorem dX7_walk_62 : decode cX7_walk 62 = .ok (.aload_n 0, 1) := by decide +kernel
theorem dX7_walk_63 : decode cX7_walk 63 = .ok (.getfield 101, 3) := by decide +kernel
theorem dX7_walk_66 : decode cX7_walk 66 = .ok (.iaload, 1) := by decide +kernel
theorem dX7_walk_67 : decode cX7_walk 67 = .ok (.istore_n 2, 1) := by decide +kernel
theorem dX7_walk_68 : decode cX7_walk 68 = .ok (.iconst 0, 1) := by decide +kernel
theorem dX7_walk_69 : decode cX7_walk 69 = .ok (.istore_n 3, 1) := by decide +kernel
theorem dX7_walk_70 : decode cX7_walk 70 = .ok (.iload_n 3, 1) := by decide +kernel
theorem dX7_walk_71 : decode cX7_walk 71 = .ok (.aload_n 0, 1) := by decide +kernel
theorem dX7_walk_72 : decode cX7_walk 72 = .ok (.getfield 39, 3) := by decide +kernel
theorem dX7_walk_75 : decode cX7_walk 75 = .ok (.getfield 231, 3) := by decide +kernel
theorem dX7_walk_78 : decode cX7_walk 78 = .ok (.if_icmp .ge 29, 3) := by decide +kernel
theorem dX7_walk_81 : decode cX7_walk 81 = .ok (.iload_n 2, 1) := by decide +kernel
theorem dX7_walk_82 : decode cX7_walk 82 = .ok (.iload_n 3, 1) := by decide +kernel
theorem dX7_walk_83 : decode cX7_walk 83 = .ok (.ishr, 1) := by decide +kernel
theorem dX7_walk_84 : decode cX7_walk 84 = .ok (.iconst 1, 1) := by decide +kernel
theorem dX7_walk_85 : decode cX7_walk 85 = .ok (.iand, 1) := by decide +kernel
theorem dX7_walk_86 : decode cX7_walk 86 = .ok (.ifCond .eq 15, 3) := by decide +kernel
theorem dX7_walk_89 : decode cX7_walk 89 = .ok (.aload_n 0, 1) := by decide +kernel
theorem dX7_walk_90 : decode cX7_walk 90 = .ok (.getfield 50, 3) := by decide +kernel
theorem dX7_walk_93 : decode cX7_walk 93 = .ok (.iload_n 3, 1) := by decide +kernel
theorem dX7_walk_94 : decode cX7_walk 94 = .ok (.dup2, 1) := by decide +kernel
theorem dX7_walk_95 : decode cX7_walk 95 = .ok (.laload, 1) := by decide +kernel
theorem dX7_walk_96 : decode cX7_walk 96 = .ok (.lconst 1, 1) := by decide +kernel
theorem dX7_walk_97 : decode cX7_walk 97 = .ok (.iload_n 1, 1) := by decide +kernel
theorem dX7_walk_98 : decode cX7_walk 98 = .ok (.lshl, 1) := by decide +kernel
theorem dX7_walk_99 : decode cX7_walk 99 = .ok (.lor, 1) := by decide +kernel
theorem dX7_walk_100 : decode cX7_walk 100 = .ok (.lastore, 1) := by decide +kernel
theorem dX7_walk_101 : decode cX7_walk 101 = .ok (.iinc 3 1, 3) := by decide +kernel
theorem dX7_walk_104 : decode cX7_walk 104 = .ok (.goto (-34), 3) := by decide +kernel
theorem dX7_walk_107 : decode cX7_walk 107 = .ok (.iinc 1 1, 3) := by decide +kernel
theorem dX7_walk_110 : decode cX7_walk 110 = .ok (.goto (-95), 3) := by decide +kernel
theorem dX7_walk_113 : decode cX7_walk 113 = .ok (.return_, 1) := by decide +kernel
abbrev mdX7_walk : MD := (cX7_walk, RX7, 4, none, yX7_walk.name, 1, 24, eT)
set_option maxHeartbeats 2000000 in
set_option maxRecDepth 20000 in
theorem p_X7_walk_J101 (C : KX) (l0 : Nat) (l1 : Int32) (l2 : Int32) (l3 : Int32) (k15 : Int32 → Mo Unit) (hk15 : ∀ s, Cmp C mdX7_walk (QM rvV) 15 [(0, .ref (kB C + l0)), (1, .int s)] [] (k15 s)) (k70 : Int32 → Mo Unit) (hk70 : ∀ s, Cmp C mdX7_walk (QM rvV) 70 [(0, .ref (kB C + l0)), (1, .int l1), (2, .int l2), (3, .int s)] [] (k70 s)) : Cmp C mdX7_walk (QM rvV) 101 [(0, .ref (kB C + l0)), (1, .int l1), (2, .int l2), (3, .int l3)] [] (m_X7_walk_J101 l0 l1 l2 l3 k15 k70) := by
  unfold m_X7_walk_J101
  refine C_iinc (D := mdX7_walk) (pc' := 104) (j := 3) (v := (l3 + 1)) (ls' := [(3, .int (l3 + 1)), (0, .ref (kB C + l0)), (1, .int l1), (2, .int l2)]) dX7_walk_101 rfl rfl rfl (by decide) rfl ?_
  refine C_goto (D := mdX7_walk) (pc' := 70) dX7_walk_104 (by decide) ?_
  exact C_sub [1, 2, 3, 0] rfl (hk70 ((l3 + 1)))
set_option maxHeartbeats 2000000 in
set_option maxRecDepth 20000 in
theorem p_X7_walk_B70 (C : KX) (l0 : Nat) (l1 : Int32) (l2 : Int32) (k15 : Int32 → Mo Unit) (hk15 : ∀ s, Cmp C mdX7_walk (QM rvV) 15 [(0, .ref (kB C + l0)), (1, .int s)] [] (k15 s)) (k70 : Int32 → Mo Unit) (hk70 : ∀ s, Cmp C mdX7_walk (QM rvV) 70 [(0, .ref (kB C + l0)), (1, .int l1), (2, .int l2), (3, .int s)] [] (k70 s)) (l3 : Int32) : Cmp C mdX7_walk (QM rvV) 70 [(0, .ref (kB C + l0)), (1, .int l1), (2, .int l2), (3, .int l3)] [] (m_X7_walk_B70 l0 l1 l2 k15 k70 l3) := by
  unfold m_X7_walk_B70
  refine C_iload_n (D := mdX7_walk) (pc' := 71) (x := l3) dX7_walk_70 rfl 3 rfl ?_
  refine C_aload_n (D := mdX7_walk) (pc' := 72) (x := kB C + l0) dX7_walk_71 rfl 0 rfl ?_
  refine C_getR (D := mdX7_walk) (pc' := 75) (p := l0) f_X7_39 rfl dX7_walk_72 rfl (fun words15 => ?_)
  refine C_getI (D := mdX7_walk) (pc' := 78) (p := words15) f_X7_231 rfl dX7_walk_75 rfl (fun count16 => ?_)
  refine C_icmp_ge (D := mdX7_walk) (pc' := 81) (tgt := 107) dX7_walk_78 (by decide) rfl ?_ ?_
  · refine C_iinc (D := mdX7_walk) (pc' := 110) (j := 1) (v := (l1 + 1)) (ls' := [(1, .int (l1 + 1)), (0, .ref (kB C + l0)), (2, .int l2), (3, .int l3)]) dX7_walk_107 rfl rfl rfl (by decide) rfl ?_
    refine C_goto (D := mdX7_walk) (pc' := 15) dX7_walk_110 (by decide) ?_
    exact C_sub [1, 0] rfl (hk15 ((l1 + 1)))
  · refine C_iload_n (D := mdX7_walk) (pc' := 82) (x := l2) dX7_walk_81 rfl 2 rfl ?_
    refine C_iload_n (D := mdX7_walk) (pc' := 83) (x := l3) dX7_walk_82 rfl 3 rfl ?_
    refine C_ishr (D := mdX7_walk) (pc' := 84) dX7_walk_83 rfl ?_
    refine C_iconst (D := mdX7_walk) (pc' := 85) (v := 1) dX7_walk_84 rfl (by decide) ?_
    refine C_iand (D := mdX7_walk) (pc' := 86) dX7_walk_85 rfl ?_
    refine C_if_eq (D := mdX7_walk) (pc' := 89) (tgt := 101) dX7_walk_86 (by decide) rfl ?_ ?_
    · exact C_sub [0, 1, 2, 3] rfl (p_X7_walk_J101 C l0 l1 l2 l3 k15 hk15 k70 hk70)
    · refine C_aload_n (D := mdX7_walk) (pc' := 90) (x := kB C + l0) dX7_walk_89 rfl 0 rfl ?_
      refine C_getR (D := mdX7_walk) (pc' := 93) (p := l0) f_X7_50 rfl dX7_walk_90 rfl (fun hits17 => ?_)
      refine C_iload_n (D := mdX7_walk) (pc' := 94) (x := l3) dX7_walk_93 rfl 3 rfl ?_
      refine C_dup2 (D := mdX7_walk) (pc' := 95) dX7_walk_94 rfl rfl rfl ?_
      refine C_aJ (D := mdX7_walk) (pc' := 96) (p := hits17) dX7_walk_95 rfl (fun x18 => ?_)
      refine C_lconst (D := mdX7_walk) (pc' := 97) (v := 1) dX7_walk_96 rfl (by decide) ?_
      refine C_iload_n (D := mdX7_walk) (pc' := 98) (x := l1) dX7_walk_97 rfl 1 rfl ?_
      refine C_lshl (D := mdX7_walk) (pc' := 99) dX7_walk_98 rfl ?_
      refine C_lor (D := mdX7_walk) (pc' := 100) dX7_walk_99 rfl ?_
      refine C_tJ (D := mdX7_walk) (pc' := 101) (p := hits17) dX7_walk_100 rfl ?_
      exact C_sub [0, 1, 2, 3] rfl (p_X7_walk_J101 C l0 l1 l2 l3 k15 hk15 k70 hk70)
set_option maxHeartbeats 2000000 in
set_option maxRecDepth 20000 in
theorem p_X7_walk_B15 (C : KX) (l0 : Nat)  (k15 : Int32 → Mo Unit) (hk15 : ∀ s, Cmp C mdX7_walk (QM rvV) 15 [(0, .ref (kB C + l0)), (1, .int s)] [] (k15 s)) (l1 : Int32) : Cmp C mdX7_walk (QM rvV) 15 [(0, .ref (kB C + l0)), (1, .int l1)] [] (m_X7_walk_B15 l0 k15 l1) := by
  unfold m_X7_walk_B15
  refine C_iload_n (D := mdX7_walk) (pc' := 16) (x := l1) dX7_walk_15 rfl 1 rfl ?_
  refine C_aload_n (D := mdX7_walk) (pc' := 17) (x := kB C + l0) dX7_walk_16 rfl 0 rfl ?_
  refine C_getR (D := mdX7_walk) (pc' := 20) (p := l0) f_X7_19 rfl dX7_walk_17 rfl (fun held2 => ?_)
  refine C_getI (D := mdX7_walk) (pc' := 23) (p := held2) f_X7_91 rfl dX7_walk_20 rfl (fun letters3 => ?_)
  refine C_icmp_ge (D := mdX7_walk) (pc' := 26) (tgt := 113) dX7_walk_23 (by decide) rfl ?_ ?_
  · exact C_vret rfl dX7_walk_113
  · refine C_aload_n (D := mdX7_walk) (pc' := 27) (x := kB C + l0) dX7_walk_26 rfl 0 rfl ?_
    refine C_aload_n (D := mdX7_walk) (pc' := 28) (x := kB C + l0) dX7_walk_27 rfl 0 rfl ?_
    refine C_getR (D := mdX7_walk) (pc' := 31) (p := l0) f_X7_46 rfl dX7_walk_28 rfl (fun automaton4 => ?_)
    refine C_getR (D := mdX7_walk) (pc' := 34) (p := automaton4) f_X7_212 rfl dX7_walk_31 rfl (fun follow5 => ?_)
    refine C_aload_n (D := mdX7_walk) (pc' := 35) (x := kB C + l0) dX7_walk_34 rfl 0 rfl ?_
    refine C_getI (D := mdX7_walk) (pc' := 38) (p := l0) f_X7_101 rfl dX7_walk_35 rfl (fun at6 => ?_)
    refine C_bipush (D := mdX7_walk) (pc' := 40) (v := 8) dX7_walk_38 rfl (by decide) ?_
    refine C_imul (D := mdX7_walk) (pc' := 41) dX7_walk_40 rfl ?_
    refine C_aload_n (D := mdX7_walk) (pc' := 42) (x := kB C + l0) dX7_walk_41 rfl 0 rfl ?_
    refine C_getR (D := mdX7_walk) (pc' := 45) (p := l0) f_X7_19 rfl dX7_walk_42 rfl (fun held7 => ?_)
    refine C_getR (D := mdX7_walk) (pc' := 48) (p := held7) f_X7_94 rfl dX7_walk_45 rfl (fun row8 => ?_)
    refine C_iload_n (D := mdX7_walk) (pc' := 49) (x := l1) dX7_walk_48 rfl 1 rfl ?_
    refine C_aI (D := mdX7_walk) (pc' := 50) (p := row8) dX7_walk_49 rfl (fun x9 => ?_)
    refine C_iadd (D := mdX7_walk) (pc' := 51) dX7_walk_50 rfl ?_
    refine C_aI (D := mdX7_walk) (pc' := 52) (p := follow5) dX7_walk_51 rfl (fun x10 => ?_)
    refine C_putI (D := mdX7_walk) (pc' := 55) (p := l0) f_X7_101 rfl dX7_walk_52 rfl ?_
    refine C_aload_n (D := mdX7_walk) (pc' := 56) (x := kB C + l0) dX7_walk_55 rfl 0 rfl ?_
    refine C_getR (D := mdX7_walk) (pc' := 59) (p := l0) f_X7_46 rfl dX7_walk_56 rfl (fun automaton11 => ?_)
    refine C_getR (D := mdX7_walk) (pc' := 62) (p := automaton11) f_X7_209 rfl dX7_walk_59 rfl (fun ends12 => ?_)
    refine C_aload_n (D := mdX7_walk) (pc' := 63) (x := kB C + l0) dX7_walk_62 rfl 0 rfl ?_
    refine C_getI (D := mdX7_walk) (pc' := 66) (p := l0) f_X7_101 rfl dX7_walk_63 rfl (fun at13 => ?_)
    refine C_aI (D := mdX7_walk) (pc' := 67) (p := ends12) dX7_walk_66 rfl (fun x14 => ?_)
    refine C_istore_n (D := mdX7_walk) (pc' := 68) (ls' := [(2, .int x14), (0, .ref (kB C + l0)), (1, .int l1)]) dX7_walk_67 rfl rfl (by decide) rfl ?_
    refine C_iconst (D := mdX7_walk) (pc' := 69) (v := 0) dX7_walk_68 rfl (by decide) ?_
    refine C_istore_n (D := mdX7_walk) (pc' := 70) (ls' := [(3, .int 0), (2, .int x14), (0, .ref (kB C + l0)), (1, .int l1)]) dX7_walk_69 rfl rfl (by decide) rfl ?_
    exact C_sub [2, 3, 1, 0] rfl (C_loop (fun s => [(0, .ref (kB C + l0)), (1, .int l1), (2, .int x14), (3, .int s)]) (fun k hk s => p_X7_walk_B70 C l0 l1 x14 k15 hk15 k hk s) FU 0)
set_option maxHeartbeats 2000000 in
set_option maxRecDepth 20000 in
theorem i_X7_walk (C : KX) (l0 : Nat) : Imp C yX7_walk cX7_walk 4 none 1 24 rvV [.ref (kB C + l0)] (m_X7_walk l0) := by
  refine Imp.of (by decide) (Nat.le_of_ble_eq_true rfl) [(0, .ref (kB C + l0))] rfl ?_
  show Cmp C mdX7_walk (QM rvV) 0 [(0, .ref (kB C + l0))] [] (m_X7_walk l0)
  unfold m_X7_walk
  refine C_aload_n (D := mdX7_walk) (pc' := 1) (x := kB C + l0) dX7_walk_0 rfl 0 rfl ?_
  refine C_getR (D := mdX7_walk) (pc' := 4) (p := l0) f_X7_50 rfl dX7_walk_1 rfl (fun hits1 => ?_)
  refine C_lconst (D := mdX7_walk) (pc' := 5) (v := 0) dX7_walk_4 rfl (by decide) ?_
  refine C_callS (D := mdX7_walk) (pc' := 8) (st := []) [.ref (kB C + hits1), .long 0] s_X7_244 (i_J7_fill_d0a16 C hits1 0) dX7_walk_5 rfl rfl rfl (Nat.le_of_ble_eq_true rfl) (by decide) (by decide) (fun _ => ?_)
  refine C_aload_n (D := mdX7_walk) (pc' := 9) (x := kB C + l0) dX7_walk_8 rfl 0 rfl ?_
  refine C_iconst (D := mdX7_walk) (pc' := 10) (v := 0) dX7_walk_9 rfl (by decide) ?_
  refine C_putI (D := mdX7_walk) (pc' := 13) (p := l0) f_X7_101 rfl dX7_walk_10 rfl ?_
  refine C_iconst (D := mdX7_walk) (pc' := 14) (v := 0) dX7_walk_13 rfl (by decide) ?_
  refine C_istore_n (D := mdX7_walk) (pc' := 15) (ls' := [(1, .int 0), (0, .ref (kB C + l0))]) dX7_walk_14 rfl rfl (by decide) rfl ?_
  exact C_sub [1, 0] rfl (C_loop (fun s => [(0, .ref (kB C + l0)), (1, .int s)]) (fun k hk s => p_X7_walk_B15 C l0  k hk s) FU 0)

-- StandingQueries.rebuild()V
theorem dX7_rebuild_0 : decode cX7_rebuild 0 = .ok (.aload_n 0, 1) := by decide +kernel
theorem dX7_rebuild_1 : decode cX7_rebuild 1 = .ok (.getfield 39, 3) := by decide +kernel
theorem dX7_rebuild_4 : decode cX7_rebuild 4 = .ok (.aload_n 0, 1) := by decide +kernel
theorem dX7_rebuild_5 : decode cX7_rebuild 5 = .ok (.getfield 19, 3) := by decide +kernel
theorem dX7_rebuild_8 : decode cX7_rebuild 8 = .ok (.invokevirtual 237, 3) := by decide +kernel
theorem dX7_rebuild_11 : decode cX7_rebuild 11 = .ok (.aload_n 0, 1) := by decide +kernel
theorem dX7_rebuild_12 : decode cX7_rebuild 12 = .ok (.getfield 46, 3) := by decide +kernel
theorem dX7_rebuild_15 : decode cX7_rebuild 15 = .ok (.aload_n 0, 1) := by decide +kernel
theorem dX7_rebuild_16 : decode cX7_rebuild 16 = .ok (.getfield 39, 3) := by decide +kernel
theorem dX7_rebuild_19 : decode cX7_rebuild 19 = .ok (.invokevirtual 240, 3) := by decide +kernel
theorem dX7_rebuild_22 : decode cX7_rebuild 22 = .ok (.aload_n 0, 1) := by decide +kernel
theorem dX7_rebuild_23 : decode cX7_rebuild 23 = .ok (.invokevirtual 98, 3) := by decide +kernel
theorem dX7_rebuild_26 : decode cX7_rebuild 26 = .ok (.return_, 1) := by decide +kernel
abbrev mdX7_rebuild : MD := (cX7_rebuild, RX7, 1, none, yX7_rebuild.name, 4, 90, eT)
set_option maxHeartbeats 2000000 in
set_option maxRecDepth 20000 in
theorem i_X7_rebuild (C : KX) (l0 : Nat) : Imp C yX7_rebuild cX7_rebuild 1 none 4 90 rvV [.ref (kB C + l0)] (m_X7_rebuild l0) := by
  refine Imp.of (by decide) (Nat.le_of_ble_eq_true rfl) [(0, .ref (kB C + l0))] rfl ?_
  show Cmp C mdX7_rebuild (QM rvV) 0 [(0, .ref (kB C + l0))] [] (m_X7_rebuild l0)
  unfold m_X7_rebuild
  refine C_aload_n (D := mdX7_rebuild) (pc' := 1) (x := kB C + l0) dX7_rebuild_0 rfl 0 rfl ?_
  refine C_getR (D := mdX7_rebuild) (pc' := 4) (p := l0) f_X7_39 rfl dX7_rebuild_1 rfl (fun words1 => ?_)
  refine C_aload_n (D := mdX7_rebuild) (pc' := 5) (x := kB C + l0) dX7_rebuild_4 rfl 0 rfl ?_
  refine C_getR (D := mdX7_rebuild) (pc' := 8) (p := l0) f_X7_19 rfl dX7_rebuild_5 rfl (fun held2 => ?_)
  refine C_callV (D := mdX7_rebuild) (pc' := 11) (p := words1) (st := []) [.ref (kB C + held2)] v_X7_237 (i_X6_gatherAll C words1 held2) dX7_rebuild_8 rfl rfl rfl (Nat.le_of_ble_eq_true rfl) (by decide) (by decide) (fun _ => ?_)
  refine C_aload_n (D := mdX7_rebuild) (pc' := 12) (x := kB C + l0) dX7_rebuild_11 rfl 0 rfl ?_
  refine C_getR (D := mdX7_rebuild) (pc' := 15) (p := l0) f_X7_46 rfl dX7_rebuild_12 rfl (fun automaton3 => ?_)
  refine C_aload_n (D := mdX7_rebuild) (pc' := 16) (x := kB C + l0) dX7_rebuild_15 rfl 0 rfl ?_
  refine C_getR (D := mdX7_rebuild) (pc' := 19) (p := l0) f_X7_39 rfl dX7_rebuild_16 rfl (fun words4 => ?_)
  refine C_callV (D := mdX7_rebuild) (pc' := 22) (p := automaton3) (st := []) [.ref (kB C + words4)] v_X7_240 (i_X0_build C automaton3 words4) dX7_rebuild_19 rfl rfl rfl (Nat.le_of_ble_eq_true rfl) (by decide) (by decide) (fun _ => ?_)
  refine C_aload_n (D := mdX7_rebuild) (pc' := 23) (x := kB C + l0) dX7_rebuild_22 rfl 0 rfl ?_
  refine C_callV (D := mdX7_rebuild) (pc' := 26) (p := l0) (st := []) [] v_X7_98 (i_X7_walk C l0) dX7_rebuild_23 rfl rfl rfl (Nat.le_of_ble_eq_true rfl) (by decide) (by decide) (fun _ => ?_)
  exact C_vret rfl dX7_rebuild_26

-- StandingQueries.adds()I
theorem dX7_adds_0 : decode cX7_adds 0 = .ok (.aload_n 0, 1) := by decide +kernel
theorem dX7_adds_1 : decode cX7_adds 1 = .ok (.getfield 10, 3) := by decide +kernel
theorem dX7_adds_4 : decode cX7_adds 4 = .ok (.aload_n 0, 1) := by decide +kernel
theorem dX7_adds_5 : decode cX7_adds 5 = .ok (.getfield 19, 3) := by decide +kernel
theorem dX7_adds_8 : decode cX7_adds 8 = .ok (.invokevirtual 62, 3) := by decide +kernel
theorem dX7_adds_11 : decode cX7_adds 11 = .ok (.istore_n 1, 1) := by decide +kernel
theorem dX7_adds_12 : decode cX7_adds 12 = .ok (.iload_n 1, 1) := by decide +kernel
theorem dX7_adds_13 : decode cX7_adds 13 = .ok (.ifCond .lt 8, 3) := by decide +kernel
theorem dX7_adds_16 : decode cX7_adds 16 = .ok (.bipush (-10), 2) := by decide +kernel
theorem dX7_adds_18 : decode cX7_adds 18 = .ok (.iload_n 1, 1) := by decide +kernel
theorem dX7_adds_19 : decode cX7_adds 19 = .ok (.isub, 1) := by decide +kernel
theorem dX7_adds_20 : decode cX7_adds 20 = .ok (.ireturn, 1) := by decide +kernel
theorem dX7_adds_21 : decode cX7_adds 21 = .ok (.aload_n 0, 1) := by decide +kernel
theorem dX7_adds_22 : decode cX7_adds 22 = .ok (.getfield 10, 3) := by decide +kernel
theorem dX7_adds_25 : decode cX7_adds 25 = .ok (.getfield 66, 3) := by decide +kernel
theorem dX7_adds_28 : decode cX7_adds 28 = .ok (.getfield 69, 3) := by decide +kernel
theorem dX7_adds_31 : decode cX7_adds 31 = .ok (.aload_n 0, 1) := by decide +kernel
theorem dX7_adds_32 : decode cX7_adds 32 = .ok (.getfield 19, 3) := by decide +kernel
theorem dX7_adds_35 : decode cX7_adds 35 = .ok (.getfield 69, 3) := by decide +kernel
theorem dX7_adds_38 : decode cX7_adds 38 = .ok (.isub, 1) := by decide +kernel
theorem dX7_adds_39 : decode cX7_adds 39 = .ok (.istore_n 2, 1) := by decide +kernel
theorem dX7_adds_40 : decode cX7_adds 40 = .ok (.aload_n 0, 1) := by decide +kernel
theorem dX7_adds_41 : decode cX7_adds 41 = .ok (.getfield 26, 3) := by decide +kernel
theorem dX7_adds_44 : decode cX7_adds 44 = .ok (.aload_n 0, 1) := by decide +kernel
theorem dX7_adds_45 : decode cX7_adds 45 = .ok (.getfield 19, 3) := by decide +kernel
theorem dX7_adds_48 : decode cX7_adds 48 = .ok (.invokevirtual 72, 3) := by decide +kernel
theorem dX7_adds_51 : decode cX7_adds 51 = .ok (.aload_n 0, 1) := by decide +kernel
theorem dX7_adds_52 : decode cX7_adds 52 = .ok (.getfield 19, 3) := by decide +kernel
theorem dX7_adds_55 : decode cX7_adds 55 = .ok (.aload_n 0, 1) := by decide +kernel
theorem dX7_adds_56 : decode cX7_adds 56 = .ok (.getfield 10, 3) := by decide +kernel
theorem dX7_adds_59 : decode cX7_adds 59 = .ok (.getfield 66, 3) := by decide +kernel
theorem dX7_adds_62 : decode cX7_adds 62 = .ok (.invokevirtual 76, 3) := by decide +kernel
theorem dX7_adds_65 : decode cX7_adds 65 = .ok (.aload_n 0, 1) := by decide +kernel
theorem dX7_adds_66 : decode cX7_adds 66 = .ok (.getfield 10, 3) := by decide +kernel
theorem dX7_adds_69 : decode cX7_adds 69 = .ok (.iconst 0, 1) := by decide +kernel
theorem dX7_adds_70 : decode cX7_adds 70 = .ok (.putfield 58, 3) := by decide +kernel
theorem dX7_adds_73 : decode cX7_adds 73 = .ok (.aload_n 0, 1) := by decide +kernel
theorem dX7_adds_74 : decode cX7_adds 74 = .ok (.invokevirtual 79, 3) := by decide +kernel
theorem dX7_adds_77 : decode cX7_adds 77 = .ok (.iload_n 2, 1) := by decide +kernel
theorem dX7_adds_78 : decode cX7_adds 78 = .ok (.ireturn, 1) := by decide +kernel
abbrev mdX7_adds : MD := (cX7_adds, RX7, 3, (some .int), yX7_adds.name, 6, 130, eT)
set_option maxHeartbeats 2000000 in
set_option maxRecDepth 20000 in
theorem i_X7_adds (C : KX) (l0 : Nat) : Imp C yX7_adds cX7_adds 3 (some .int) 6 130 rvI [.ref (kB C + l0)] (m_X7_adds l0) := by
  refine Imp.of (by decide) (Nat.le_of_ble_eq_true rfl) [(0, .ref (kB C + l0))] rfl ?_
  show Cmp C mdX7_adds (QM rvI) 0 [(0, .ref (kB C + l0))] [] (m_X7_adds l0)
  unfold m_X7_adds
  refine C_aload_n (D := mdX7_adds) (pc' := 1) (x := kB C + l0) dX7_adds_0 rfl 0 rfl ?_
  refine C_getR (D := mdX7_adds) (pc' := 4) (p := l0) f_X7_10 rfl dX7_adds_1 rfl (fun text1 => ?_)
  refine C_aload_n (D := mdX7_adds) (pc' := 5) (x := kB C + l0) dX7_adds_4 rfl 0 rfl ?_
  refine C_getR (D := mdX7_adds) (pc' := 8) (p := l0) f_X7_19 rfl dX7_adds_5 rfl (fun held2 => ?_)
  refine C_callV (D := mdX7_adds) (pc' := 11) (p := text1) (st := []) [.ref (kB C + held2)] v_X7_62 (i_X5_readBehind C text1 held2) dX7_adds_8 rfl rfl rfl (Nat.le_of_ble_eq_true rfl) (by decide) (by decide) (fun c3 => ?_)
  refine C_istore_n (D := mdX7_adds) (pc' := 12) (ls' := [(1, .int c3), (0, .ref (kB C + l0))]) dX7_adds_11 rfl rfl (by decide) rfl ?_
  refine C_iload_n (D := mdX7_adds) (pc' := 13) (x := c3) dX7_adds_12 rfl 0 rfl ?_
  refine C_if_lt (D := mdX7_adds) (pc' := 16) (tgt := 21) dX7_adds_13 (by decide) rfl ?_ ?_
  · refine C_aload_n (D := mdX7_adds) (pc' := 22) (x := kB C + l0) dX7_adds_21 rfl 1 rfl ?_
    refine C_getR (D := mdX7_adds) (pc' := 25) (p := l0) f_X7_10 rfl dX7_adds_22 rfl (fun text4 => ?_)
    refine C_getR (D := mdX7_adds) (pc' := 28) (p := text4) f_X7_66 rfl dX7_adds_25 rfl (fun draft5 => ?_)
    refine C_getI (D := mdX7_adds) (pc' := 31) (p := draft5) f_X7_69 rfl dX7_adds_28 rfl (fun queries6 => ?_)
    refine C_aload_n (D := mdX7_adds) (pc' := 32) (x := kB C + l0) dX7_adds_31 rfl 1 rfl ?_
    refine C_getR (D := mdX7_adds) (pc' := 35) (p := l0) f_X7_19 rfl dX7_adds_32 rfl (fun held7 => ?_)
    refine C_getI (D := mdX7_adds) (pc' := 38) (p := held7) f_X7_69 rfl dX7_adds_35 rfl (fun queries8 => ?_)
    refine C_isub (D := mdX7_adds) (pc' := 39) dX7_adds_38 rfl ?_
    refine C_letI (fun v9 => ?_)
    refine C_istore_n (D := mdX7_adds) (pc' := 40) (ls' := [(2, .int v9), (1, .int c3), (0, .ref (kB C + l0))]) dX7_adds_39 rfl rfl (by decide) rfl ?_
    refine C_aload_n (D := mdX7_adds) (pc' := 41) (x := kB C + l0) dX7_adds_40 rfl 2 rfl ?_
    refine C_getR (D := mdX7_adds) (pc' := 44) (p := l0) f_X7_26 rfl dX7_adds_41 rfl (fun history10 => ?_)
    refine C_aload_n (D := mdX7_adds) (pc' := 45) (x := kB C + l0) dX7_adds_44 rfl 2 rfl ?_
    refine C_getR (D := mdX7_adds) (pc' := 48) (p := l0) f_X7_19 rfl dX7_adds_45 rfl (fun held11 => ?_)
    refine C_callV (D := mdX7_adds) (pc' := 51) (p := history10) (st := []) [.ref (kB C + held11)] v_X7_72 (i_X2_push C history10 held11) dX7_adds_48 rfl rfl rfl (Nat.le_of_ble_eq_true rfl) (by decide) (by decide) (fun _ => ?_)
    refine C_aload_n (D := mdX7_adds) (pc' := 52) (x := kB C + l0) dX7_adds_51 rfl 2 rfl ?_
    refine C_getR (D := mdX7_adds) (pc' := 55) (p := l0) f_X7_19 rfl dX7_adds_52 rfl (fun held12 => ?_)
    refine C_aload_n (D := mdX7_adds) (pc' := 56) (x := kB C + l0) dX7_adds_55 rfl 2 rfl ?_
    refine C_getR (D := mdX7_adds) (pc' := 59) (p := l0) f_X7_10 rfl dX7_adds_56 rfl (fun text13 => ?_)
    refine C_getR (D := mdX7_adds) (pc' := 62) (p := text13) f_X7_66 rfl dX7_adds_59 rfl (fun draft14 => ?_)
    refine C_callV (D := mdX7_adds) (pc' := 65) (p := held12) (st := []) [.ref (kB C + draft14)] v_X7_76 (i_X1_take C held12 draft14) dX7_adds_62 rfl rfl rfl (Nat.le_of_ble_eq_true rfl) (by decide) (by decide) (fun _ => ?_)
    refine C_aload_n (D := mdX7_adds) (pc' := 66) (x := kB C + l0) dX7_adds_65 rfl 2 rfl ?_
    refine C_getR (D := mdX7_adds) (pc' := 69) (p := l0) f_X7_10 rfl dX7_adds_66 rfl (fun text15 => ?_)
    refine C_iconst (D := mdX7_adds) (pc' := 70) (v := 0) dX7_adds_69 rfl (by decide) ?_
    refine C_putI (D := mdX7_adds) (pc' := 73) (p := text15) f_X7_58 rfl dX7_adds_70 rfl ?_
    refine C_aload_n (D := mdX7_adds) (pc' := 74) (x := kB C + l0) dX7_adds_73 rfl 2 rfl ?_
    refine C_callV (D := mdX7_adds) (pc' := 77) (p := l0) (st := []) [] v_X7_79 (i_X7_rebuild C l0) dX7_adds_74 rfl rfl rfl (Nat.le_of_ble_eq_true rfl) (by decide) (by decide) (fun _ => ?_)
    refine C_iload_n (D := mdX7_adds) (pc' := 78) (x := v9) dX7_adds_77 rfl 0 rfl ?_
    exact C_iret rfl dX7_adds_78
  · refine C_bipush (D := mdX7_adds) (pc' := 18) (v := (-10)) dX7_adds_16 rfl (by decide) ?_
    refine C_iload_n (D := mdX7_adds) (pc' := 19) (x := c3) dX7_adds_18 rfl 0 rfl ?_
    refine C_isub (D := mdX7_adds) (pc' := 20) dX7_adds_19 rfl ?_
    exact C_iret rfl dX7_adds_20

-- StandingQueries.isQuery(I)Z
theorem dX7_isQuery_0 : decode cX7_isQuery 0 = .ok (.iload_n 1, 1) := by decide +kernel
theorem dX7_isQuery_1 : decode cX7_isQuery 1 = .ok (.ifCond .lt 18, 3) := by decide +kernel
theorem dX7_isQuery_4 : decode cX7_isQuery 4 = .ok (.iload_n 1, 1) := by decide +kernel
theorem dX7_isQuery_5 : decode cX7_isQuery 5 = .ok (.aload_n 0, 1) := by decide +kernel
theorem dX7_isQuery_6 : decode cX7_isQuery 6 = .ok (.getfield 19, 3) := by decide +kernel
theorem dX7_isQuery_9 : decode cX7_isQuery 9 = .ok (.getfield 69, 3) := by decide +kernel
theorem dX7_isQuery_12 : decode cX7_isQuery 12 = .ok (.if_icmp .ge 7, 3) := by decide +kernel
theorem dX7_isQuery_15 : decode cX7_isQuery 15 = .ok (.iconst 1, 1) := by decide +kernel
theorem dX7_isQuery_16 : decode cX7_isQuery 16 = .ok (.goto 4, 3) := by decide +kernel
theorem dX7_isQuery_19 : decode cX7_isQuery 19 = .ok (.iconst 0, 1) := by decide +kernel
theorem dX7_isQuery_20 : decode cX7_isQuery 20 = .ok (.ireturn, 1) := by decide +kernel
abbrev mdX7_isQuery : MD := (cX7_isQuery, RX7, 2, (some .boolean), yX7_isQuery.name, 0, 0, eT)
set_option maxHeartbeats 2000000 in
set_option maxRecDepth 20000 in
theorem i_X7_isQuery (C : KX) (l0 : Nat) (l1 : Int32) : Imp C yX7_isQuery cX7_isQuery 2 (some .boolean) 0 0 rvI [.ref (kB C + l0), .int l1] (m_X7_isQuery l0 l1) := by
  refine Imp.of (by decide) (Nat.le_of_ble_eq_true rfl) [(0, .ref (kB C + l0)), (1, .int l1)] rfl ?_
  show Cmp C mdX7_isQuery (QM rvI) 0 [(0, .ref (kB C + l0)), (1, .int l1)] [] (m_X7_isQuery l0 l1)
  unfold m_X7_isQuery
  refine C_iload_n (D := mdX7_isQuery) (pc' := 1) (x := l1) dX7_isQuery_0 rfl 1 rfl ?_
  refine C_if_lt (D := mdX7_isQuery) (pc' := 4) (tgt := 19) dX7_isQuery_1 (by decide) rfl ?_ ?_
  · refine C_iconst (D := mdX7_isQuery) (pc' := 20) (v := 0) dX7_isQuery_19 rfl (by decide) ?_
    exact C_zret rfl dX7_isQuery_20
  · refine C_iload_n (D := mdX7_isQuery) (pc' := 5) (x := l1) dX7_isQuery_4 rfl 1 rfl ?_
    refine C_aload_n (D := mdX7_isQuery) (pc' := 6) (x := kB C + l0) dX7_isQuery_5 rfl 0 rfl ?_
    refine C_getR (D := mdX7_isQuery) (pc' := 9) (p := l0) f_X7_19 rfl dX7_isQuery_6 rfl (fun held1 => ?_)
    refine C_getI (D := mdX7_isQuery) (pc' := 12) (p := held1) f_X7_69 rfl dX7_isQuery_9 rfl (fun queries2 => ?_)
    refine C_icmp_ge (D := mdX7_isQuery) (pc' := 15) (tgt := 19) dX7_isQuery_12 (by decide) rfl ?_ ?_
    · refine C_iconst (D := mdX7_isQuery) (pc' := 20) (v := 0) dX7_isQuery_19 rfl (by decide) ?_
      exact C_zret rfl dX7_isQuery_20
    · refine C_iconst (D := mdX7_isQuery) (pc' := 16) (v := 1) dX7_isQuery_15 rfl (by decide) ?_
      refine C_goto (D := mdX7_isQuery) (pc' := 20) dX7_isQuery_16 (by decide) ?_
      exact C_zret rfl dX7_isQuery_20

-- StandingQueries$Held.movePart(II)V
theorem dX1_movePart_0 : decode cX1_movePart 0 = .ok (.aload_n 0, 1) := by decide +kernel
theorem dX1_movePart_1 : decode cX1_movePart 1 = .ok (.getfield 15, 3) := by decide +kernel
theorem dX1_movePart_4 : decode cX1_movePart 4 = .ok (.iload_n 2, 1) := by decide +kernel
theorem dX1_movePart_5 : decode cX1_movePart 5 = .ok (.aload_n 0, 1) := by decide +kernel
theorem dX1_movePart_6 : decode cX1_movePart 6 = .ok (.getfield 15, 3) := by decide +kernel
theorem dX1_movePart_9 : decode cX1_movePart 9 = .ok (.iload_n 1, 1) := by decide +kernel
theorem dX1_movePart_10 : decode cX1_movePart 10 = .ok (.iaload, 1) := by decide +kernel
theorem dX1_movePart_11 : decode cX1_movePart 11 = .ok (.iastore, 1) := by decide +kernel
theorem dX1_movePart_12 : decode cX1_movePart 12 = .ok (.aload_n 0, 1) := by decide +kernel
theorem dX1_movePart_13 : decode cX1_movePart 13 = .ok (.getfield 18, 3) := by decide +kernel
theorem dX1_movePart_16 : decode cX1_movePart 16 = .ok (.iload_n 2, 1) := by decide +kernel
theorem dX1_movePart_17 : decode cX1_movePart 17 = .ok (.aload_n 0, 1) := by decide +kernel
theorem dX1_movePart_18 : decode cX1_movePart 18 = .ok (.getfield 18, 3) := by decide +kernel
theorem dX1_movePart_21 : decode cX1_movePart 21 = .ok (.iload_n 1, 1) := by decide +kernel
theorem dX1_movePart_22 : decode cX1_movePart 22 = .ok (.iaload, 1) := by decide +kernel
theorem dX1_movePart_23 : decode cX1_movePart 23 = .ok (.iastore, 1) := by decide +kernel
theorem dX1_movePart_24 : decode cX1_movePart 24 = .ok (.aload_n 0, 1) := by decide +kernel
theorem dX1_movePart_25 : decode cX1_movePart 25 = .ok (.getfield 21, 3) := by decide +kernel
theorem dX1_movePart_28 : decode cX1_movePart 28 = .ok (.iload_n 2, 1) := by decide +kernel
theorem dX1_movePart_29 : decode cX1_movePart 29 = .ok (.aload_n 0, 1) := by decide +kernel
theorem dX1_movePart_30 : decode cX1_movePart 30 = .ok (.getfield 21, 3) := by decide +kernel
theorem dX1_movePart_33 : decode cX1_movePart 33 = .ok (.iload_n 1, 1) := by decide +kernel
theorem dX1_movePart_34 : decode cX1_movePart 34 = .ok (.iaload, 1) := by decide +kernel
theorem dX1_movePart_35 : decode cX1_movePart 35 = .ok (.iastore, 1) := by decide +kernel
theorem dX1_movePart_36 : decode cX1_movePart 36 = .ok (.aload_n 0, 1) := by decide +kernel
theorem dX1_movePart_37 : decode cX1_movePart 37 = .ok (.getfield 24, 3) := by decide +kernel
theorem dX1_movePart_40 : decode cX1_movePart 40 = .ok (.iload_n 2, 1) := by decide +kernel
theorem dX1_movePart_41 : decode cX1_movePart 41 = .ok (.aload_n 0, 1) := by decide +kernel
theorem dX1_movePart_42 : decode cX1_movePart 42 = .ok (.getfield 24, 3) := by decide +kernel
theorem dX1_movePart_45 : decode cX1_movePart 45 = .ok (.iload_n 1, 1) := by decide +kernel
theorem dX1_movePart_46 : decode cX1_movePart 46 = .ok (.iaload, 1) := by decide +kernel
theorem dX1_movePart_47 : decode cX1_movePart 47 = .ok (.iastore, 1) := by decide +kernel
theorem dX1_movePart_48 : decode cX1_movePart 48 = .ok (.return_, 1) := by decide +kernel
abbrev mdX1_movePart : MD := (cX1_movePart, RX1, 3, none, yX1_movePart.name, 0, 0, eT)
set_option maxHeartbeats 2000000 in
set_option maxRecDepth 20000 in
theorem i_X1_movePart (C : KX) (l0 : Nat) (l1 : Int32) (l2 : Int32) : Imp C yX1_movePart cX1_movePart 3 none 0 0 rvV [.ref (kB C + l0), .int l1, .int l2] (m_X1_movePart l0 l1 l2) := by
  refine Imp.of (by decide) (Nat.le_of_ble_eq_true rfl) [(0, .ref (kB C + l0)), (1, .int l1), (2, .int l2)] rfl ?_
  show Cmp C mdX1_movePart (QM rvV) 0 [(0, .ref (kB C + l0)), (1, .int l1), (2, .int l2)] [] (m_X1_movePart l0 l1 l2)
  unfold m_X1_movePart
  refine C_aload_n (D := mdX1_movePart) (pc' := 1) (x := kB C + l0) dX1_movePart_0 rfl 0 rfl ?_
  refine C_getR (D := mdX1_movePart) (pc' := 4) (p := l0) f_X1_15 rfl dX1_movePart_1 rfl (fun sort1 => ?_)
  refine C_iload_n (D := mdX1_movePart) (pc' := 5) (x := l2) dX1_movePart_4 rfl 2 rfl ?_
  refine C_aload_n (D := mdX1_movePart) (pc' := 6) (x := kB C + l0) dX1_movePart_5 rfl 0 rfl ?_
  refine C_getR (D := mdX1_movePart) (pc' := 9) (p := l0) f_X1_15 rfl dX1_movePart_6 rfl (fun sort2 => ?_)
  refine C_iload_n (D := mdX1_movePart) (pc' := 10) (x := l1) dX1_movePart_9 rfl 1 rfl ?_
  refine C_aI (D := mdX1_movePart) (pc' := 11) (p := sort2) dX1_movePart_10 rfl (fun x3 => ?_)
  refine C_tI (D := mdX1_movePart) (pc' := 12) (p := sort1) dX1_movePart_11 rfl ?_
  refine C_aload_n (D := mdX1_movePart) (pc' := 13) (x := kB C + l0) dX1_movePart_12 rfl 0 rfl ?_
  refine C_getR (D := mdX1_movePart) (pc' := 16) (p := l0) f_X1_18 rfl dX1_movePart_13 rfl (fun word4 => ?_)
  refine C_iload_n (D := mdX1_movePart) (pc' := 17) (x := l2) dX1_movePart_16 rfl 2 rfl ?_
  refine C_aload_n (D := mdX1_movePart) (pc' := 18) (x := kB C + l0) dX1_movePart_17 rfl 0 rfl ?_
  refine C_getR (D := mdX1_movePart) (pc' := 21) (p := l0) f_X1_18 rfl dX1_movePart_18 rfl (fun word5 => ?_)
  refine C_iload_n (D := mdX1_movePart) (pc' := 22) (x := l1) dX1_movePart_21 rfl 1 rfl ?_
  refine C_aI (D := mdX1_movePart) (pc' := 23) (p := word5) dX1_movePart_22 rfl (fun x6 => ?_)
  refine C_tI (D := mdX1_movePart) (pc' := 24) (p := word4) dX1_movePart_23 rfl ?_
  refine C_aload_n (D := mdX1_movePart) (pc' := 25) (x := kB C + l0) dX1_movePart_24 rfl 0 rfl ?_
  refine C_getR (D := mdX1_movePart) (pc' := 28) (p := l0) f_X1_21 rfl dX1_movePart_25 rfl (fun earlier7 => ?_)
  refine C_iload_n (D := mdX1_movePart) (pc' := 29) (x := l2) dX1_movePart_28 rfl 2 rfl ?_
  refine C_aload_n (D := mdX1_movePart) (pc' := 30) (x := kB C + l0) dX1_movePart_29 rfl 0 rfl ?_
  refine C_getR (D := mdX1_movePart) (pc' := 33) (p := l0) f_X1_21 rfl dX1_movePart_30 rfl (fun earlier8 => ?_)
  refine C_iload_n (D := mdX1_movePart) (pc' := 34) (x := l1) dX1_movePart_33 rfl 1 rfl ?_
  refine C_aI (D := mdX1_movePart) (pc' := 35) (p := earlier8) dX1_movePart_34 rfl (fun x9 => ?_)
  refine C_tI (D := mdX1_movePart) (pc' := 36) (p := earlier7) dX1_movePart_35 rfl ?_
  refine C_aload_n (D := mdX1_movePart) (pc' := 37) (x := kB C + l0) dX1_movePart_36 rfl 0 rfl ?_
  refine C_getR (D := mdX1_movePart) (pc' := 40) (p := l0) f_X1_24 rfl dX1_movePart_37 rfl (fun reach10 => ?_)
  refine C_iload_n (D := mdX1_movePart) (pc' := 41) (x := l2) dX1_movePart_40 rfl 2 rfl ?_
  refine C_aload_n (D := mdX1_movePart) (pc' := 42) (x := kB C + l0) dX1_movePart_41 rfl 0 rfl ?_
  refine C_getR (D := mdX1_movePart) (pc' := 45) (p := l0) f_X1_24 rfl dX1_movePart_42 rfl (fun reach11 => ?_)
  refine C_iload_n (D := mdX1_movePart) (pc' := 46) (x := l1) dX1_movePart_45 rfl 1 rfl ?_
  refine C_aI (D := mdX1_movePart) (pc' := 47) (p := reach11) dX1_movePart_46 rfl (fun x12 => ?_)
  refine C_tI (D := mdX1_movePart) (pc' := 48) (p := reach10) dX1_movePart_47 rfl ?_
  exact C_vret rfl dX1_movePart_48

-- StandingQueries$Held.dropQuery(I)V
theorem dX1_dropQuery_0 : decode cX1_dropQuery 0 = .ok (.iload_n 1, 1) := by decide +kernel
theorem dX1_dropQuery_1 : decode cX1_dropQuery 1 = .ok (.istore_n 2, 1) := by decide +kernel
theorem dX1_dropQuery_2 : decode cX1_dropQuery 2 = .ok (.iload_n 2, 1) := by decide +kernel
theorem dX1_dropQuery_3 : decode cX1_dropQuery 3 = .ok (.iconst 1, 1) := by decide +kernel
theorem dX1_dropQuery_4 : decode cX1_dropQuery 4 = .ok (.iadd, 1) := by decide +kernel
theorem dX1_dropQuery_5 : decode cX1_dropQuery 5 = .ok (.aload_n 0, 1) := by decide +kernel
theorem dX1_dropQuery_6 : decode cX1_dropQuery 6 = .ok (.getfield 30, 3) := by decide +kernel
theorem dX1_dropQuery_9 : decode cX1_dropQuery 9 = .ok (.if_icmp .ge 54, 3) := by decide +kernel
theorem dX1_dropQuery_12 : decode cX1_dropQuery 12 = .ok (.aload_n 0, 1) := by decide +kernel
theorem dX1_dropQuery_13 : decode cX1_dropQuery 13 = .ok (.getfield 9, 3) := by decide +kernel
theorem dX1_dropQuery_16 : decode cX1_dropQuery 16 = .ok (.iload_n 2, 1) := by decide +kernel
theorem dX1_dropQuery_17 : decode cX1_dropQuery 17 = .ok (.aload_n 0, 1) := by decide +kernel
theorem dX1_dropQuery_18 : decode cX1_dropQuery 18 = .ok (.getfield 9, 3) := by decide +kernel
theorem dX1_dropQuery_21 : decode cX1_dropQuery 21 = .ok (.iload_n 2, 1) := by decide +kernel
theorem dX1_dropQuery_22 : decode cX1_dropQuery 22 = .ok (.iconst 1, 1) := by decide +kernel
theorem dX1_dropQuery_23 : decode cX1_dropQuery 23 = .ok (.iadd, 1) := by decide +kernel
theorem dX1_dropQuery_24 : decode cX1_dropQuery 24 = .ok (.iaload, 1) := by decide +kernel
theorem dX1_dropQuery_25 : decode cX1_dropQuery 25 = .ok (.iastore, 1) := by decide +kernel
theorem dX1_dropQuery_26 : decode cX1_dropQuery 26 = .ok (.iconst 0, 1) := by decide +kernel
theorem dX1_dropQuery_27 : decode cX1_dropQuery 27 = .ok (.istore_n 3, 1) := by decide +kernel
theorem dX1_dropQuery_28 : decode cX1_dropQuery 28 = .ok (.iload_n 3, 1) := by decide +kernel
theorem dX1_dropQuery_29 : decode cX1_dropQuery 29 = .ok (.iconst 4, 1) := by decide +kernel
theorem dX1_dropQuery_30 : decode cX1_dropQuery 30 = .ok (.if_icmp .ge 27, 3) := by decide +kernel
theorem dX1_dropQuery_33 : decode cX1_dropQuery 33 = .ok (.aload_n 0, 1) := by decide +kernel
theorem dX1_dropQuery_34 : decode cX1_dropQuery 34 = .ok (.aload_n 0, 1) := by decide +kernel
theorem dX1_dropQuery_35 : decode cX1_dropQuery 35 = .ok (.iload_n 2, 1) := by decide +kernel
theorem dX1_dropQuery_36 : decode cX1_dropQuery 36 = .ok (.iconst 1, 1) := by decide +kernel
theorem dX1_dropQuery_37 : decode cX1_dropQuery 37 = .ok (.iadd, 1) := by decide +kernel
theorem dX1_dropQuery_38 : decode cX1_dropQuery 38 = .ok (.iload_n 3, 1) := by decide +kernel
theorem dX1_dropQuery_39 : decode cX1_dropQuery 39 = .ok (.invokevirtual 47, 3) := by decide +kernel
theorem dX1_dropQuery_42 : decode cX1_dropQuery 42 = .ok (.aload_n 0, 1) := by decide +kernel
theorem dX1_dropQuery_43 : decode cX1_dropQuery 43 = .ok (.iload_n 2, 1) := by decide +kernel
theorem dX1_dropQuery_44 : decode cX1_dropQuery 44 = .ok (.iload_n 3, 1) := by decide +kernel
theorem dX1_dropQuery_45 : decode cX1_dropQuery 45 = .ok (.invokevirtual 47, 3) := by decide +kernel
theorem dX1_dropQuery_48 : decode cX1_dropQuery 48 = .ok (.invokevirtual 51, 3) := by decide +kernel
theorem dX1_dropQuery_51 : decode cX1_dropQuery 51 = .ok (.iinc 3 1, 3) := by decide +kernel
theorem dX1_dropQuery_54 : decode cX1_dropQuery 54 = .ok (.goto (-26), 3) := by decide +kernel
theorem dX1_dropQuery_57 : decode cX1_dropQuery 57 = .ok (.iinc 2 1, 3) := by decide +kernel
theorem dX1_dropQuery_60 : decode cX1_dropQuery 60 = .ok (.goto (-58), 3) := by decide +kernel
theorem dX1_dropQuery_63 : decode cX1_dropQuery 63 = .ok (.aload_n 0, 1) := by decide +kernel
theorem dX1_dropQuery_64 : decode cX1_dropQuery 64 = .ok (.dup, 1) := by decide +kernel
theorem dX1_dropQuery_65 : decode cX1_dropQuery 65 = .ok (.getfield 30, 3) := by decide +kernel
theorem dX1_dropQuery_68 : decode cX1_dropQuery 68 = .ok (.iconst 1, 1) := by decide +kernel
theorem dX1_dropQuery_69 : decode cX1_dropQuery 69 = .ok (.isub, 1) := by decide +kernel
theorem dX1_dropQuery_70 : decode cX1_dropQuery 70 = .ok (.putfield 30, 3) := by decide +kernel
theorem dX1_dropQuery_73 : decode cX1_dropQuery 73 = .ok (.return_, 1) := by decide +kernel
abbrev mdX1_dropQuery : MD := (cX1_dropQuery, RX1, 4, none, yX1_dropQuery.name, 1, 22, eT)
set_option maxHeartbeats 2000000 in
set_option maxRecDepth 20000 in
theorem p_X1_dropQuery_B28 (C : KX) (l0 : Nat) (l2 : Int32) (k2 : Int32 → Mo Unit) (hk2 : ∀ s, Cmp C mdX1_dropQuery (QM rvV) 2 [(0, .ref (kB C + l0)), (2, .int s)] [] (k2 s)) (k28 : Int32 → Mo Unit) (hk28 : ∀ s, Cmp C mdX1_dropQuery (QM rvV) 28 [(0, .ref (kB C + l0)), (2, .int l2), (3, .int s)] [] (k28 s)) (l3 : Int32) : Cmp C mdX1_dropQuery (QM rvV) 28 [(0, .ref (kB C + l0)), (2, .int l2), (3, .int l3)] [] (m_X1_dropQuery_B28 l0 l2 k2 k28 l3) := by
  unfold m_X1_dropQuery_B28
  refine C_iload_n (D := mdX1_dropQuery) (pc' := 29) (x := l3) dX1_dropQuery_28 rfl 2 rfl ?_
  refine C_iconst (D := mdX1_dropQuery) (pc' := 30) (v := 4) dX1_dropQuery_29 rfl (by decide) ?_
  refine C_icmp_ge (D := mdX1_dropQuery) (pc' := 33) (tgt := 57) dX1_dropQuery_30 (by decide) rfl ?_ ?_
  · refine C_iinc (D := mdX1_dropQuery) (pc' := 60) (j := 1) (v := (l2 + 1)) (ls' := [(2, .int (l2 + 1)), (0, .ref (kB C + l0)), (3, .int l3)]) dX1_dropQuery_57 rfl rfl rfl (by decide) rfl ?_
    refine C_goto (D := mdX1_dropQuery) (pc' := 2) dX1_dropQuery_60 (by decide) ?_
    exact C_sub [1, 0] rfl (hk2 ((l2 + 1)))
  · refine C_aload_n (D := mdX1_dropQuery) (pc' := 34) (x := kB C + l0) dX1_dropQuery_33 rfl 0 rfl ?_
    refine C_aload_n (D := mdX1_dropQuery) (pc' := 35) (x := kB C + l0) dX1_dropQuery_34 rfl 0 rfl ?_
    refine C_iload_n (D := mdX1_dropQuery) (pc' := 36) (x := l2) dX1_dropQuery_35 rfl 1 rfl ?_
    refine C_iconst (D := mdX1_dropQuery) (pc' := 37) (v := 1) dX1_dropQuery_36 rfl (by decide) ?_
    refine C_iadd (D := mdX1_dropQuery) (pc' := 38) dX1_dropQuery_37 rfl ?_
    refine C_iload_n (D := mdX1_dropQuery) (pc' := 39) (x := l3) dX1_dropQuery_38 rfl 2 rfl ?_
    refine C_callV (D := mdX1_dropQuery) (pc' := 42) (p := l0) (st := [.ref (kB C + l0)]) [.int (l2 + 1), .int l3] v_X1_47 (i_X1_place C l0 ((l2 + 1)) l3) dX1_dropQuery_39 rfl rfl rfl (Nat.le_of_ble_eq_true rfl) (by decide) (by decide) (fun c6 => ?_)
    refine C_aload_n (D := mdX1_dropQuery) (pc' := 43) (x := kB C + l0) dX1_dropQuery_42 rfl 0 rfl ?_
    refine C_iload_n (D := mdX1_dropQuery) (pc' := 44) (x := l2) dX1_dropQuery_43 rfl 1 rfl ?_
    refine C_iload_n (D := mdX1_dropQuery) (pc' := 45) (x := l3) dX1_dropQuery_44 rfl 2 rfl ?_
    refine C_callV (D := mdX1_dropQuery) (pc' := 48) (p := l0) (st := [.int c6, .ref (kB C + l0)]) [.int l2, .int l3] v_X1_47 (i_X1_place C l0 l2 l3) dX1_dropQuery_45 rfl rfl rfl (Nat.le_of_ble_eq_true rfl) (by decide) (by decide) (fun c7 => ?_)
    refine C_callV (D := mdX1_dropQuery) (pc' := 51) (p := l0) (st := []) [.int c6, .int c7] v_X1_51 (i_X1_movePart C l0 c6 c7) dX1_dropQuery_48 rfl rfl rfl (Nat.le_of_ble_eq_true rfl) (by decide) (by decide) (fun _ => ?_)
    refine C_iinc (D := mdX1_dropQuery) (pc' := 54) (j := 2) (v := (l3 + 1)) (ls' := [(3, .int (l3 + 1)), (0, .ref (kB C + l0)), (2, .int l2)]) dX1_dropQuery_51 rfl rfl rfl (by decide) rfl ?_
    refine C_goto (D := mdX1_dropQuery) (pc' := 28) dX1_dropQuery_54 (by decide) ?_
    exact C_sub [1, 2, 0] rfl (hk28 ((l3 + 1)))
set_option maxHeartbeats 2000000 in
set_option maxRecDepth 20000 in
theorem p_X1_dropQuery_B2 (C : KX) (l0 : Nat)  (k2 : Int32 → Mo Unit) (hk2 : ∀ s, Cmp C mdX1_dropQuery (QM rvV) 2 [(0, .ref (kB C + l0)), (2, .int s)] [] (k2 s)) (l2 : Int32) : Cmp C mdX1_dropQuery (QM rvV) 2 [(0, .ref (kB C + l0)), (2, .int l2)] [] (m_X1_dropQuery_B2 l0 k2 l2) := by
  unfold m_X1_dropQuery_B2
  refine C_iload_n (D := mdX1_dropQuery) (pc' := 3) (x := l2) dX1_dropQuery_2 rfl 1 rfl ?_
  refine C_iconst (D := mdX1_dropQuery) (pc' := 4) (v := 1) dX1_dropQuery_3 rfl (by decide) ?_
  refine C_iadd (D := mdX1_dropQuery) (pc' := 5) dX1_dropQuery_4 rfl ?_
  refine C_aload_n (D := mdX1_dropQuery) (pc' := 6) (x := kB C + l0) dX1_dropQuery_5 rfl 0 rfl ?_
  refine C_getI (D := mdX1_dropQuery) (pc' := 9) (p := l0) f_X1_30 rfl dX1_dropQuery_6 rfl (fun queries1 => ?_)
  refine C_icmp_ge (D := mdX1_dropQuery) (pc' := 12) (tgt := 63) dX1_dropQuery_9 (by decide) rfl ?_ ?_
  · refine C_aload_n (D := mdX1_dropQuery) (pc' := 64) (x := kB C + l0) dX1_dropQuery_63 rfl 0 rfl ?_
    refine C_dup (D := mdX1_dropQuery) (pc' := 65) dX1_dropQuery_64 rfl rfl ?_
    refine C_getI (D := mdX1_dropQuery) (pc' := 68) (p := l0) f_X1_30 rfl dX1_dropQuery_65 rfl (fun queries2 => ?_)
    refine C_iconst (D := mdX1_dropQuery) (pc' := 69) (v := 1) dX1_dropQuery_68 rfl (by decide) ?_
    refine C_isub (D := mdX1_dropQuery) (pc' := 70) dX1_dropQuery_69 rfl ?_
    refine C_putI (D := mdX1_dropQuery) (pc' := 73) (p := l0) f_X1_30 rfl dX1_dropQuery_70 rfl ?_
    exact C_vret rfl dX1_dropQuery_73
  · refine C_aload_n (D := mdX1_dropQuery) (pc' := 13) (x := kB C + l0) dX1_dropQuery_12 rfl 0 rfl ?_
    refine C_getR (D := mdX1_dropQuery) (pc' := 16) (p := l0) f_X1_9 rfl dX1_dropQuery_13 rfl (fun parts3 => ?_)
    refine C_iload_n (D := mdX1_dropQuery) (pc' := 17) (x := l2) dX1_dropQuery_16 rfl 1 rfl ?_
    refine C_aload_n (D := mdX1_dropQuery) (pc' := 18) (x := kB C + l0) dX1_dropQuery_17 rfl 0 rfl ?_
    refine C_getR (D := mdX1_dropQuery) (pc' := 21) (p := l0) f_X1_9 rfl dX1_dropQuery_18 rfl (fun parts4 => ?_)
    refine C_iload_n (D := mdX1_dropQuery) (pc' := 22) (x := l2) dX1_dropQuery_21 rfl 1 rfl ?_
    refine C_iconst (D := mdX1_dropQuery) (pc' := 23) (v := 1) dX1_dropQuery_22 rfl (by decide) ?_
    refine C_iadd (D := mdX1_dropQuery) (pc' := 24) dX1_dropQuery_23 rfl ?_
    refine C_aI (D := mdX1_dropQuery) (pc' := 25) (p := parts4) dX1_dropQuery_24 rfl (fun x5 => ?_)
    refine C_tI (D := mdX1_dropQuery) (pc' := 26) (p := parts3) dX1_dropQuery_25 rfl ?_
    refine C_iconst (D := mdX1_dropQuery) (pc' := 27) (v := 0) dX1_dropQuery_26 rfl (by decide) ?_
    refine C_istore_n (D := mdX1_dropQuery) (pc' := 28) (ls' := [(3, .int 0), (0, .ref (kB C + l0)), (2, .int l2)]) dX1_dropQuery_27 rfl rfl (by decide) rfl ?_
    exact C_sub [1, 2, 0] rfl (C_loop (fun s => [(0, .ref (kB C + l0)), (2, .int l2), (3, .int s)]) (fun k hk s => p_X1_dropQuery_B28 C l0 l2 k2 hk2 k hk s) FU 0)
set_option maxHeartbeats 2000000 in
set_option maxRecDepth 20000 in
theorem i_X1_dropQuery (C : KX) (l0 : Nat) (l1 : Int32) : Imp C yX1_dropQuery cX1_dropQuery 4 none 1 22 rvV [.ref (kB C + l0), .int l1] (m_X1_dropQuery l0 l1) := by
  refine Imp.of (by decide) (Nat.le_of_ble_eq_true rfl) [(0, .ref (kB C + l0)), (1, .int l1)] rfl ?_
  show Cmp C mdX1_dropQuery (QM rvV) 0 [(0, .ref (kB C + l0)), (1, .int l1)] [] (m_X1_dropQuery l0 l1)
  unfold m_X1_dropQuery
  refine C_iload_n (D := mdX1_dropQuery) (pc' := 1) (x := l1) dX1_dropQuery_0 rfl 1 rfl ?_
  refine C_istore_n (D := mdX1_dropQuery) (pc' := 2) (ls' := [(2, .int l1), (0, .ref (kB C + l0)), (1, .int l1)]) dX1_dropQuery_1 rfl rfl (by decide) rfl ?_
  exact C_sub [1, 0] rfl (C_loop (fun s => [(0, .ref (kB C + l0)), (2, .int s)]) (fun k hk s => p_X1_dropQuery_B2 C l0  k hk s) FU l1)
