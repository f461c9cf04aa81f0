-- StandingQueriesModel.next(II)I
theorem dX8_next_0 : decode cX8_next 0 = .ok (.aload_n 0, 1) := by decide +kernel
theorem dX8_next_1 : decode cX8_next 1 = .ok (.iconst 0, 1) := by decide +kernel
theorem dX8_next_2 : decode cX8_next 2 = .ok (.putfield 1, 3) := by decide +kernel
theorem dX8_next_5 : decode cX8_next 5 = .ok (.iload_n 1, 1) := by decide +kernel
theorem dX8_next_6 : decode cX8_next 6 = .ok (.i2l, 1) := by decide +kernel
theorem dX8_next_7 : decode cX8_next 7 = .ok (.lconst 0, 1) := by decide +kernel
theorem dX8_next_8 : decode cX8_next 8 = .ok (.aload_n 0, 1) := by decide +kernel
theorem dX8_next_9 : decode cX8_next 9 = .ok (.getfield 73, 3) := by decide +kernel
theorem dX8_next_12 : decode cX8_next 12 = .ok (.iconst 1, 1) := by decide +kernel
theorem dX8_next_13 : decode cX8_next 13 = .ok (.isub, 1) := by decide +kernel
theorem dX8_next_14 : decode cX8_next 14 = .ok (.i2l, 1) := by decide +kernel
theorem dX8_next_15 : decode cX8_next 15 = .ok (.invokestatic 9, 3) := by decide +kernel
theorem dX8_next_18 : decode cX8_next 18 = .ok (.ifCond .eq 34, 3) := by decide +kernel
theorem dX8_next_21 : decode cX8_next 21 = .ok (.iload_n 2, 1) := by decide +kernel
theorem dX8_next_22 : decode cX8_next 22 = .ok (.i2l, 1) := by decide +kernel
theorem dX8_next_23 : decode cX8_next 23 = .ok (.ldc2_w 33, 3) := by decide +kernel
theorem dX8_next_26 : decode cX8_next 26 = .ok (.ldc2_w 186, 3) := by decide +kernel
theorem dX8_next_29 : decode cX8_next 29 = .ok (.invokestatic 9, 3) := by decide +kernel
theorem dX8_next_32 : decode cX8_next 32 = .ok (.ifCond .eq 20, 3) := by decide +kernel
theorem dX8_next_35 : decode cX8_next 35 = .ok (.aload_n 0, 1) := by decide +kernel
theorem dX8_next_36 : decode cX8_next 36 = .ok (.getfield 109, 3) := by decide +kernel
theorem dX8_next_39 : decode cX8_next 39 = .ok (.bipush 8, 2) := by decide +kernel
theorem dX8_next_41 : decode cX8_next 41 = .ok (.iload_n 1, 1) := by decide +kernel
theorem dX8_next_42 : decode cX8_next 42 = .ok (.imul, 1) := by decide +kernel
theorem dX8_next_43 : decode cX8_next 43 = .ok (.iload_n 2, 1) := by decide +kernel
theorem dX8_next_44 : decode cX8_next 44 = .ok (.iadd, 1) := by decide +kernel
theorem dX8_next_45 : decode cX8_next 45 = .ok (.bipush 97, 2) := by decide +kernel
theorem dX8_next_47 : decode cX8_next 47 = .ok (.isub, 1) := by decide +kernel
theorem dX8_next_48 : decode cX8_next 48 = .ok (.iaload, 1) := by decide +kernel
theorem dX8_next_49 : decode cX8_next 49 = .ok (.goto 4, 3) := by decide +kernel
theorem dX8_next_52 : decode cX8_next 52 = .ok (.iconst (-1), 1) := by decide +kernel
theorem dX8_next_53 : decode cX8_next 53 = .ok (.ireturn, 1) := by decide +kernel
abbrev mdX8_next : MD := (cX8_next, RX8, 3, (some .int), yX8_next.name, 1, 25, eT)
set_option maxHeartbeats 2000000 in
set_option maxRecDepth 20000 in
theorem i_X8_next (C : KX) (l0 : Nat) (l1 : Int32) (l2 : Int32) : Imp C yX8_next cX8_next 3 (some .int) 1 25 rvI [.ref (kB C + l0), .int l1, .int l2] (m_X8_next l0 l1 l2) := by
  refine Imp.of (by decide) (Nat.le_of_ble_eq_true rfl) [(0, .ref (kB C + l0)), (1, .int l1), (2, .int l2)] rfl ?_
  show Cmp C mdX8_next (QM rvI) 0 [(0, .ref (kB C + l0)), (1, .int l1), (2, .int l2)] [] (m_X8_next l0 l1 l2)
  unfold m_X8_next
  refine C_aload_n (D := mdX8_next) (pc' := 1) (x := kB C + l0) dX8_next_0 rfl 0 rfl ?_
  refine C_iconst (D := mdX8_next) (pc' := 2) (v := 0) dX8_next_1 rfl (by decide) ?_
  refine C_putI (D := mdX8_next) (pc' := 5) (p := l0) f_X8_1 rfl dX8_next_2 rfl ?_
  refine C_iload_n (D := mdX8_next) (pc' := 6) (x := l1) dX8_next_5 rfl 1 rfl ?_
  refine C_i2l (D := mdX8_next) (pc' := 7) dX8_next_6 rfl ?_
  refine C_lconst (D := mdX8_next) (pc' := 8) (v := 0) dX8_next_7 rfl (by decide) ?_
  refine C_aload_n (D := mdX8_next) (pc' := 9) (x := kB C + l0) dX8_next_8 rfl 0 rfl ?_
  refine C_getI (D := mdX8_next) (pc' := 12) (p := l0) f_X8_73 rfl dX8_next_9 rfl (fun nodeMany1 => ?_)
  refine C_iconst (D := mdX8_next) (pc' := 13) (v := 1) dX8_next_12 rfl (by decide) ?_
  refine C_isub (D := mdX8_next) (pc' := 14) dX8_next_13 rfl ?_
  refine C_i2l (D := mdX8_next) (pc' := 15) dX8_next_14 rfl ?_
  refine C_callS (D := mdX8_next) (pc' := 18) (st := []) [.long ((l1 : Int32).toInt64), .long 0, .long (((nodeMany1 - 1) : Int32).toInt64)] s_X8_9 (i_X8_in C (((l1 : Int32).toInt64)) 0 ((((nodeMany1 - 1) : Int32).toInt64))) dX8_next_15 rfl rfl rfl (Nat.le_of_ble_eq_true rfl) (by decide) (by decide) (fun c2 => ?_)
  refine C_if_eq (D := mdX8_next) (pc' := 21) (tgt := 52) dX8_next_18 (by decide) rfl ?_ ?_
  · refine C_iconst (D := mdX8_next) (pc' := 53) (v := (-1)) dX8_next_52 rfl (by decide) ?_
    exact C_iret rfl dX8_next_53
  · refine C_iload_n (D := mdX8_next) (pc' := 22) (x := l2) dX8_next_21 rfl 2 rfl ?_
    refine C_i2l (D := mdX8_next) (pc' := 23) dX8_next_22 rfl ?_
    refine C_ldc2 (D := mdX8_next) (pc' := 26) (v := 97) c_X8_33 dX8_next_23 rfl ?_
    refine C_ldc2 (D := mdX8_next) (pc' := 29) (v := 104) c_X8_186 dX8_next_26 rfl ?_
    refine C_callS (D := mdX8_next) (pc' := 32) (st := []) [.long ((l2 : Int32).toInt64), .long 97, .long 104] s_X8_9 (i_X8_in C (((l2 : Int32).toInt64)) 97 104) dX8_next_29 rfl rfl rfl (Nat.le_of_ble_eq_true rfl) (by decide) (by decide) (fun c3 => ?_)
    refine C_if_eq (D := mdX8_next) (pc' := 35) (tgt := 52) dX8_next_32 (by decide) rfl ?_ ?_
    · refine C_iconst (D := mdX8_next) (pc' := 53) (v := (-1)) dX8_next_52 rfl (by decide) ?_
      exact C_iret rfl dX8_next_53
    · refine C_aload_n (D := mdX8_next) (pc' := 36) (x := kB C + l0) dX8_next_35 rfl 0 rfl ?_
      refine C_getR (D := mdX8_next) (pc' := 39) (p := l0) f_X8_109 rfl dX8_next_36 rfl (fun nexts4 => ?_)
      refine C_bipush (D := mdX8_next) (pc' := 41) (v := 8) dX8_next_39 rfl (by decide) ?_
      refine C_iload_n (D := mdX8_next) (pc' := 42) (x := l1) dX8_next_41 rfl 1 rfl ?_
      refine C_imul (D := mdX8_next) (pc' := 43) dX8_next_42 rfl ?_
      refine C_iload_n (D := mdX8_next) (pc' := 44) (x := l2) dX8_next_43 rfl 2 rfl ?_
      refine C_iadd (D := mdX8_next) (pc' := 45) dX8_next_44 rfl ?_
      refine C_bipush (D := mdX8_next) (pc' := 47) (v := 97) dX8_next_45 rfl (by decide) ?_
      refine C_isub (D := mdX8_next) (pc' := 48) dX8_next_47 rfl ?_
      refine C_aI (D := mdX8_next) (pc' := 49) (p := nexts4) dX8_next_48 rfl (fun x5 => ?_)
      refine C_goto (D := mdX8_next) (pc' := 53) dX8_next_49 (by decide) ?_
      exact C_iret rfl dX8_next_53

-- StandingQueriesModel.letter(I)I
theorem dX8_letter_0 : decode cX8_letter 0 = .ok (.aload_n 0, 1) := by decide +kernel
theorem dX8_letter_1 : decode cX8_letter 1 = .ok (.iconst 0, 1) := by decide +kernel
theorem dX8_letter_2 : decode cX8_letter 2 = .ok (.putfield 1, 3) := by decide +kernel
theorem dX8_letter_5 : decode cX8_letter 5 = .ok (.iload_n 1, 1) := by decide +kernel
theorem dX8_letter_6 : decode cX8_letter 6 = .ok (.i2l, 1) := by decide +kernel
theorem dX8_letter_7 : decode cX8_letter 7 = .ok (.lconst 0, 1) := by decide +kernel
theorem dX8_letter_8 : decode cX8_letter 8 = .ok (.aload_n 0, 1) := by decide +kernel
theorem dX8_letter_9 : decode cX8_letter 9 = .ok (.getfield 87, 3) := by decide +kernel
theorem dX8_letter_12 : decode cX8_letter 12 = .ok (.iconst 1, 1) := by decide +kernel
theorem dX8_letter_13 : decode cX8_letter 13 = .ok (.iaload, 1) := by decide +kernel
theorem dX8_letter_14 : decode cX8_letter 14 = .ok (.iconst 1, 1) := by decide +kernel
theorem dX8_letter_15 : decode cX8_letter 15 = .ok (.isub, 1) := by decide +kernel
theorem dX8_letter_16 : decode cX8_letter 16 = .ok (.i2l, 1) := by decide +kernel
theorem dX8_letter_17 : decode cX8_letter 17 = .ok (.invokestatic 9, 3) := by decide +kernel
theorem dX8_letter_20 : decode cX8_letter 20 = .ok (.ifCond .eq 17, 3) := by decide +kernel
theorem dX8_letter_23 : decode cX8_letter 23 = .ok (.bipush 97, 2) := by decide +kernel
theorem dX8_letter_25 : decode cX8_letter 25 = .ok (.aload_n 0, 1) := by decide +kernel
theorem dX8_letter_26 : decode cX8_letter 26 = .ok (.getfield 87, 3) := by decide +kernel
theorem dX8_letter_29 : decode cX8_letter 29 = .ok (.iconst 2, 1) := by decide +kernel
theorem dX8_letter_30 : decode cX8_letter 30 = .ok (.iload_n 1, 1) := by decide +kernel
theorem dX8_letter_31 : decode cX8_letter 31 = .ok (.iadd, 1) := by decide +kernel
theorem dX8_letter_32 : decode cX8_letter 32 = .ok (.iaload, 1) := by decide +kernel
theorem dX8_letter_33 : decode cX8_letter 33 = .ok (.iadd, 1) := by decide +kernel
theorem dX8_letter_34 : decode cX8_letter 34 = .ok (.goto 4, 3) := by decide +kernel
theorem dX8_letter_37 : decode cX8_letter 37 = .ok (.iconst (-1), 1) := by decide +kernel
theorem dX8_letter_38 : decode cX8_letter 38 = .ok (.ireturn, 1) := by decide +kernel
abbrev mdX8_letter : MD := (cX8_letter, RX8, 2, (some .int), yX8_letter.name, 1, 25, eT)
set_option maxHeartbeats 2000000 in
set_option maxRecDepth 20000 in
theorem i_X8_letter (C : KX) (l0 : Nat) (l1 : Int32) : Imp C yX8_letter cX8_letter 2 (some .int) 1 25 rvI [.ref (kB C + l0), .int l1] (m_X8_letter l0 l1) := by
  refine Imp.of (by decide) (Nat.le_of_ble_eq_true rfl) [(0, .ref (kB C + l0)), (1, .int l1)] rfl ?_
  show Cmp C mdX8_letter (QM rvI) 0 [(0, .ref (kB C + l0)), (1, .int l1)] [] (m_X8_letter l0 l1)
  unfold m_X8_letter
  refine C_aload_n (D := mdX8_letter) (pc' := 1) (x := kB C + l0) dX8_letter_0 rfl 0 rfl ?_
  refine C_iconst (D := mdX8_letter) (pc' := 2) (v := 0) dX8_letter_1 rfl (by decide) ?_
  refine C_putI (D := mdX8_letter) (pc' := 5) (p := l0) f_X8_1 rfl dX8_letter_2 rfl ?_
  refine C_iload_n (D := mdX8_letter) (pc' := 6) (x := l1) dX8_letter_5 rfl 1 rfl ?_
  refine C_i2l (D := mdX8_letter) (pc' := 7) dX8_letter_6 rfl ?_
  refine C_lconst (D := mdX8_letter) (pc' := 8) (v := 0) dX8_letter_7 rfl (by decide) ?_
  refine C_aload_n (D := mdX8_letter) (pc' := 9) (x := kB C + l0) dX8_letter_8 rfl 0 rfl ?_
  refine C_getR (D := mdX8_letter) (pc' := 12) (p := l0) f_X8_87 rfl dX8_letter_9 rfl (fun now1 => ?_)
  refine C_iconst (D := mdX8_letter) (pc' := 13) (v := 1) dX8_letter_12 rfl (by decide) ?_
  refine C_aI (D := mdX8_letter) (pc' := 14) (p := now1) dX8_letter_13 rfl (fun x2 => ?_)
  refine C_iconst (D := mdX8_letter) (pc' := 15) (v := 1) dX8_letter_14 rfl (by decide) ?_
  refine C_isub (D := mdX8_letter) (pc' := 16) dX8_letter_15 rfl ?_
  refine C_i2l (D := mdX8_letter) (pc' := 17) dX8_letter_16 rfl ?_
  refine C_callS (D := mdX8_letter) (pc' := 20) (st := []) [.long ((l1 : Int32).toInt64), .long 0, .long (((x2 - 1) : Int32).toInt64)] s_X8_9 (i_X8_in C (((l1 : Int32).toInt64)) 0 ((((x2 - 1) : Int32).toInt64))) dX8_letter_17 rfl rfl rfl (Nat.le_of_ble_eq_true rfl) (by decide) (by decide) (fun c3 => ?_)
  refine C_if_eq (D := mdX8_letter) (pc' := 23) (tgt := 37) dX8_letter_20 (by decide) rfl ?_ ?_
  · refine C_iconst (D := mdX8_letter) (pc' := 38) (v := (-1)) dX8_letter_37 rfl (by decide) ?_
    exact C_iret rfl dX8_letter_38
  · refine C_bipush (D := mdX8_letter) (pc' := 25) (v := 97) dX8_letter_23 rfl (by decide) ?_
    refine C_aload_n (D := mdX8_letter) (pc' := 26) (x := kB C + l0) dX8_letter_25 rfl 0 rfl ?_
    refine C_getR (D := mdX8_letter) (pc' := 29) (p := l0) f_X8_87 rfl dX8_letter_26 rfl (fun now4 => ?_)
    refine C_iconst (D := mdX8_letter) (pc' := 30) (v := 2) dX8_letter_29 rfl (by decide) ?_
    refine C_iload_n (D := mdX8_letter) (pc' := 31) (x := l1) dX8_letter_30 rfl 1 rfl ?_
    refine C_iadd (D := mdX8_letter) (pc' := 32) dX8_letter_31 rfl ?_
    refine C_aI (D := mdX8_letter) (pc' := 33) (p := now4) dX8_letter_32 rfl (fun x5 => ?_)
    refine C_iadd (D := mdX8_letter) (pc' := 34) dX8_letter_33 rfl ?_
    refine C_goto (D := mdX8_letter) (pc' := 38) dX8_letter_34 (by decide) ?_
    exact C_iret rfl dX8_letter_38

-- StandingQueriesModel.allHits()I
theorem dX8_allHits_0 : decode cX8_allHits 0 = .ok (.iconst 0, 1) := by decide +kernel
theorem dX8_allHits_1 : decode cX8_allHits 1 = .ok (.istore_n 1, 1) := by decide +kernel
theorem dX8_allHits_2 : decode cX8_allHits 2 = .ok (.iconst 0, 1) := by decide +kernel
theorem dX8_allHits_3 : decode cX8_allHits 3 = .ok (.istore_n 2, 1) := by decide +kernel
theorem dX8_allHits_4 : decode cX8_allHits 4 = .ok (.iload_n 2, 1) := by decide +kernel
theorem dX8_allHits_5 : decode cX8_allHits 5 = .ok (.aload_n 0, 1) := by decide +kernel
theorem dX8_allHits_6 : decode cX8_allHits 6 = .ok (.getfield 52, 3) := by decide +kernel
theorem dX8_allHits_9 : decode cX8_allHits 9 = .ok (.if_icmp .ge 23, 3) := by decide +kernel
theorem dX8_allHits_12 : decode cX8_allHits 12 = .ok (.iload_n 1, 1) := by decide +kernel
theorem dX8_allHits_13 : decode cX8_allHits 13 = .ok (.aload_n 0, 1) := by decide +kernel
theorem dX8_allHits_14 : decode cX8_allHits 14 = .ok (.iload_n 2, 1) := by decide +kernel
theorem dX8_allHits_15 : decode cX8_allHits 15 = .ok (.aload_n 0, 1) := by decide +kernel
theorem dX8_allHits_16 : decode cX8_allHits 16 = .ok (.getfield 87, 3) := by decide +kernel
theorem dX8_allHits_19 : decode cX8_allHits 19 = .ok (.iconst 1, 1) := by decide +kernel
theorem dX8_allHits_20 : decode cX8_allHits 20 = .ok (.iaload, 1) := by decide +kernel
theorem dX8_allHits_21 : decode cX8_allHits 21 = .ok (.invokevirtual 198, 3) := by decide +kernel
theorem dX8_allHits_24 : decode cX8_allHits 24 = .ok (.iadd, 1) := by decide +kernel
theorem dX8_allHits_25 : decode cX8_allHits 25 = .ok (.istore_n 1, 1) := by decide +kernel
theorem dX8_allHits_26 : decode cX8_allHits 26 = .ok (.iinc 2 1, 3) := by decide +kernel
theorem dX8_allHits_29 : decode cX8_allHits 29 = .ok (.goto (-25), 3) := by decide +kernel
theorem dX8_allHits_32 : decode cX8_allHits 32 = .ok (.iload_n 1, 1) := by decide +kernel
theorem dX8_allHits_33 : decode cX8_allHits 33 = .ok (.ireturn, 1) := by decide +kernel
abbrev mdX8_allHits : MD := (cX8_allHits, RX8, 3, (some .int), yX8_allHits.name, 2, 45, eT)
set_option maxHeartbeats 2000000 in
set_option maxRecDepth 20000 in
theorem p_X8_allHits_B4 (C : KX) (l0 : Nat)  (k4 : Int32 × Int32 → Mo Int32) (hk4 : ∀ s, Cmp C mdX8_allHits (QM rvI) 4 [(0, .ref (kB C + l0)), (1, .int s.1), (2, .int s.2)] [] (k4 s)) (l1 : Int32) (l2 : Int32) : Cmp C mdX8_allHits (QM rvI) 4 [(0, .ref (kB C + l0)), (1, .int l1), (2, .int l2)] [] (m_X8_allHits_B4 l0 k4 l1 l2) := by
  unfold m_X8_allHits_B4
  refine C_iload_n (D := mdX8_allHits) (pc' := 5) (x := l2) dX8_allHits_4 rfl 2 rfl ?_
  refine C_aload_n (D := mdX8_allHits) (pc' := 6) (x := kB C + l0) dX8_allHits_5 rfl 0 rfl ?_
  refine C_getI (D := mdX8_allHits) (pc' := 9) (p := l0) f_X8_52 rfl dX8_allHits_6 rfl (fun wordMany1 => ?_)
  refine C_icmp_ge (D := mdX8_allHits) (pc' := 12) (tgt := 32) dX8_allHits_9 (by decide) rfl ?_ ?_
  · refine C_iload_n (D := mdX8_allHits) (pc' := 33) (x := l1) dX8_allHits_32 rfl 1 rfl ?_
    exact C_iret rfl dX8_allHits_33
  · refine C_iload_n (D := mdX8_allHits) (pc' := 13) (x := l1) dX8_allHits_12 rfl 1 rfl ?_
    refine C_aload_n (D := mdX8_allHits) (pc' := 14) (x := kB C + l0) dX8_allHits_13 rfl 0 rfl ?_
    refine C_iload_n (D := mdX8_allHits) (pc' := 15) (x := l2) dX8_allHits_14 rfl 2 rfl ?_
    refine C_aload_n (D := mdX8_allHits) (pc' := 16) (x := kB C + l0) dX8_allHits_15 rfl 0 rfl ?_
    refine C_getR (D := mdX8_allHits) (pc' := 19) (p := l0) f_X8_87 rfl dX8_allHits_16 rfl (fun now2 => ?_)
    refine C_iconst (D := mdX8_allHits) (pc' := 20) (v := 1) dX8_allHits_19 rfl (by decide) ?_
    refine C_aI (D := mdX8_allHits) (pc' := 21) (p := now2) dX8_allHits_20 rfl (fun x3 => ?_)
    refine C_callV (D := mdX8_allHits) (pc' := 24) (p := l0) (st := [.int l1]) [.int l2, .int x3] v_X8_198 (i_X8_hits C l0 l2 x3) dX8_allHits_21 rfl rfl rfl (Nat.le_of_ble_eq_true rfl) (by decide) (by decide) (fun c4 => ?_)
    refine C_iadd (D := mdX8_allHits) (pc' := 25) dX8_allHits_24 rfl ?_
    refine C_letI (fun v5 => ?_)
    refine C_istore_n (D := mdX8_allHits) (pc' := 26) (ls' := [(1, .int v5), (0, .ref (kB C + l0)), (2, .int l2)]) dX8_allHits_25 rfl rfl (by decide) rfl ?_
    refine C_iinc (D := mdX8_allHits) (pc' := 29) (j := 2) (v := (l2 + 1)) (ls' := [(2, .int (l2 + 1)), (1, .int v5), (0, .ref (kB C + l0))]) dX8_allHits_26 rfl rfl rfl (by decide) rfl ?_
    refine C_goto (D := mdX8_allHits) (pc' := 4) dX8_allHits_29 (by decide) ?_
    exact C_sub [2, 1, 0] rfl (hk4 (v5, (l2 + 1)))
set_option maxHeartbeats 2000000 in
set_option maxRecDepth 20000 in
theorem i_X8_allHits (C : KX) (l0 : Nat) : Imp C yX8_allHits cX8_allHits 3 (some .int) 2 45 rvI [.ref (kB C + l0)] (m_X8_allHits l0) := by
  refine Imp.of (by decide) (Nat.le_of_ble_eq_true rfl) [(0, .ref (kB C + l0))] rfl ?_
  show Cmp C mdX8_allHits (QM rvI) 0 [(0, .ref (kB C + l0))] [] (m_X8_allHits l0)
  unfold m_X8_allHits
  refine C_iconst (D := mdX8_allHits) (pc' := 1) (v := 0) dX8_allHits_0 rfl (by decide) ?_
  refine C_istore_n (D := mdX8_allHits) (pc' := 2) (ls' := [(1, .int 0), (0, .ref (kB C + l0))]) dX8_allHits_1 rfl rfl (by decide) rfl ?_
  refine C_iconst (D := mdX8_allHits) (pc' := 3) (v := 0) dX8_allHits_2 rfl (by decide) ?_
  refine C_istore_n (D := mdX8_allHits) (pc' := 4) (ls' := [(2, .int 0), (1, .int 0), (0, .ref (kB C + l0))]) dX8_allHits_3 rfl rfl (by decide) rfl ?_
  exact C_sub [2, 1, 0] rfl (C_loop (fun s => [(0, .ref (kB C + l0)), (1, .int s.1), (2, .int s.2)]) (fun k hk s => p_X8_allHits_B4 C l0  k hk s.1 s.2) FU (0, 0))

-- StandingQueriesModel.now(I)I
theorem dX8_now_0 : decode cX8_now 0 = .ok (.aload_n 0, 1) := by decide +kernel
theorem dX8_now_1 : decode cX8_now 1 = .ok (.iconst 0, 1) := by decide +kernel
theorem dX8_now_2 : decode cX8_now 2 = .ok (.putfield 1, 3) := by decide +kernel
theorem dX8_now_5 : decode cX8_now 5 = .ok (.iload_n 1, 1) := by decide +kernel
theorem dX8_now_6 : decode cX8_now 6 = .ok (.i2l, 1) := by decide +kernel
theorem dX8_now_7 : decode cX8_now 7 = .ok (.lconst 0, 1) := by decide +kernel
theorem dX8_now_8 : decode cX8_now 8 = .ok (.ldc2_w 268, 3) := by decide +kernel
theorem dX8_now_11 : decode cX8_now 11 = .ok (.invokestatic 9, 3) := by decide +kernel
theorem dX8_now_14 : decode cX8_now 14 = .ok (.ifCond .ne 5, 3) := by decide +kernel
theorem dX8_now_17 : decode cX8_now 17 = .ok (.iconst (-1), 1) := by decide +kernel
theorem dX8_now_18 : decode cX8_now 18 = .ok (.ireturn, 1) := by decide +kernel
theorem dX8_now_19 : decode cX8_now 19 = .ok (.aload_n 0, 1) := by decide +kernel
theorem dX8_now_20 : decode cX8_now 20 = .ok (.invokevirtual 211, 3) := by decide +kernel
theorem dX8_now_23 : decode cX8_now 23 = .ok (.iload_n 1, 1) := by decide +kernel
theorem dX8_now_24 : decode cX8_now 24 = .ok (.ifCond .eq 8, 3) := by decide +kernel
theorem dX8_now_27 : decode cX8_now 27 = .ok (.iload_n 1, 1) := by decide +kernel
theorem dX8_now_28 : decode cX8_now 28 = .ok (.iconst 5, 1) := by decide +kernel
theorem dX8_now_29 : decode cX8_now 29 = .ok (.if_icmp .ne 25, 3) := by decide +kernel
theorem dX8_now_32 : decode cX8_now 32 = .ok (.iload_n 1, 1) := by decide +kernel
theorem dX8_now_33 : decode cX8_now 33 = .ok (.ifCond .ne 16, 3) := by decide +kernel
theorem dX8_now_36 : decode cX8_now 36 = .ok (.aload_n 0, 1) := by decide +kernel
theorem dX8_now_37 : decode cX8_now 37 = .ok (.aload_n 0, 1) := by decide +kernel
theorem dX8_now_38 : decode cX8_now 38 = .ok (.getfield 87, 3) := by decide +kernel
theorem dX8_now_41 : decode cX8_now 41 = .ok (.iconst 1, 1) := by decide +kernel
theorem dX8_now_42 : decode cX8_now 42 = .ok (.iaload, 1) := by decide +kernel
theorem dX8_now_43 : decode cX8_now 43 = .ok (.invokevirtual 188, 3) := by decide +kernel
theorem dX8_now_46 : decode cX8_now 46 = .ok (.goto 7, 3) := by decide +kernel
theorem dX8_now_49 : decode cX8_now 49 = .ok (.aload_n 0, 1) := by decide +kernel
theorem dX8_now_50 : decode cX8_now 50 = .ok (.invokevirtual 270, 3) := by decide +kernel
theorem dX8_now_53 : decode cX8_now 53 = .ok (.ireturn, 1) := by decide +kernel
theorem dX8_now_54 : decode cX8_now 54 = .ok (.iconst 0, 1) := by decide +kernel
theorem dX8_now_55 : decode cX8_now 55 = .ok (.istore_n 2, 1) := by decide +kernel
theorem dX8_now_56 : decode cX8_now 56 = .ok (.iconst 0, 1) := by decide +kernel
theorem dX8_now_57 : decode cX8_now 57 = .ok (.istore_n 3, 1) := by decide +kernel
theorem dX8_now_58 : decode cX8_now 58 = .ok (.iload_n 3, 1) := by decide +kernel
theorem dX8_now_59 : decode cX8_now 59 = .ok (.aload_n 0, 1) := by decide +kernel
theorem dX8_now_60 : decode cX8_now 60 = .ok (.getfield 87, 3) := by decide +kernel
theorem dX8_now_63 : decode cX8_now 63 = .ok (.iconst 0, 1) := by decide +kernel
theorem dX8_now_64 : decode cX8_now 64 = .ok (.iaload, 1) := by decide +kernel
theorem dX8_now_65 : decode cX8_now 65 = .ok (.if_icmp .ge 129, 3) := by decide +kernel
theorem dX8_now_68 : decode cX8_now 68 = .ok (.aload_n 0, 1) := by decide +kernel
theorem dX8_now_69 : decode cX8_now 69 = .ok (.iload_n 3, 1) := by decide +kernel
theorem dX8_now_70 : decode cX8_now 70 = .ok (.aload_n 0, 1) := by decide +kernel
theorem dX8_now_71 : decode cX8_now 71 = .ok (.getfield 87, 3) := by decide +kernel
theorem dX8_now_74 : decode cX8_now 74 = .ok (.iconst 1, 1) := by decide +kernel
theorem dX8_now_75 : decode cX8_now 75 = .ok (.iaload, 1) := by decide +kernel
theorem dX8_now_76 : decode cX8_now 76 = .ok (.invokevirtual 205, 3) := by decide +kernel
theorem dX8_now_79 : decode cX8_now 79 = .ok (.istore 4, 2) := by decide +kernel
theorem dX8_now_81 : decode cX8_now 81 = .ok (.aload_n 0, 1) := by decide +kernel
theorem dX8_now_82 : decode cX8_now 82 = .ok (.getfield 87, 3) := by decide +kernel
theorem dX8_now_85 : decode cX8_now 85 = .ok (.iconst 1, 1) := by decide +kernel
theorem dX8_now_86 : decode cX8_now 86 = .ok (.iaload, 1) := by decide +kernel
theorem dX8_now_87 : decode cX8_now 87 = .ok (.ifCond .ne 8, 3) := by decide +kernel
theorem dX8_now_90 : decode cX8_now 90 = .ok (.iload 4, 2) := by decide +kernel
theorem dX8_now_92 : decode cX8_now 92 = .ok (.goto 16, 3) := by decide +kernel
theorem dX8_now_95 : decode cX8_now 95 = .ok (.aload_n 0, 1) := by decide +kernel
theorem dX8_now_96 : decode cX8_now 96 = .ok (.iload_n 3, 1) := by decide +kernel
theorem dX8_now_97 : decode cX8_now 97 = .ok (.aload_n 0, 1) := by decide +kernel
theorem dX8_now_98 : decode cX8_now 98 = .ok (.getfield 87, 3) := by decide +kernel
theorem dX8_now_101 : decode cX8_now 101 = .ok (.iconst 1, 1) := by decide +kernel
theorem dX8_now_102 : decode cX8_now 102 = .ok (.iaload, 1) := by decide +kernel
theorem dX8_now_103 : decode cX8_now 103 = .ok (.iconst 1, 1) := by decide +kernel
theorem dX8_now_104 : decode cX8_now 104 = .ok (.isub, 1) := by decide +kernel
theorem dX8_now_105 : decode cX8_now 105 = .ok (.invokevirtual 205, 3) := by decide +kernel
theorem dX8_now_108 : decode cX8_now 108 = .ok (.istore 5, 2) := by decide +kernel
theorem dX8_now_110 : decode cX8_now 110 = .ok (.iload_n 1, 1) := by decide +kernel
theorem dX8_now_111 : decode cX8_now 111 = .ok (.iconst 1, 1) := by decide +kernel
theorem dX8_now_112 : decode cX8_now 112 = .ok (.if_icmp .ne 8, 3) := by decide +kernel
theorem dX8_now_115 : decode cX8_now 115 = .ok (.iload 4, 2) := by decide +kernel
theorem dX8_now_117 : decode cX8_now 117 = .ok (.goto 54, 3) := by decide +kernel
theorem dX8_now_120 : decode cX8_now 120 = .ok (.iload_n 1, 1) := by decide +kernel
theorem dX8_now_121 : decode cX8_now 121 = .ok (.iconst 2, 1) := by decide +kernel
theorem dX8_now_122 : decode cX8_now 122 = .ok (.if_icmp .ne 21, 3) := by decide +kernel
theorem dX8_now_125 : decode cX8_now 125 = .ok (.iload 4, 2) := by decide +kernel
theorem dX8_now_127 : decode cX8_now 127 = .ok (.ifCond .eq 12, 3) := by decide +kernel
theorem dX8_now_130 : decode cX8_now 130 = .ok (.iload 5, 2) := by decide +kernel
theorem dX8_now_132 : decode cX8_now 132 = .ok (.ifCond .ne 7, 3) := by decide +kernel
theorem dX8_now_135 : decode cX8_now 135 = .ok (.iconst 1, 1) := by decide +kernel
theorem dX8_now_136 : decode cX8_now 136 = .ok (.goto 35, 3) := by decide +kernel
theorem dX8_now_139 : decode cX8_now 139 = .ok (.iconst 0, 1) := by decide +kernel
theorem dX8_now_140 : decode cX8_now 140 = .ok (.goto 31, 3) := by decide +kernel
theorem dX8_now_143 : decode cX8_now 143 = .ok (.iload_n 1, 1) := by decide +kernel
theorem dX8_now_144 : decode cX8_now 144 = .ok (.iconst 3, 1) := by decide +kernel
theorem dX8_now_145 : decode cX8_now 145 = .ok (.if_icmp .ne 21, 3) := by decide +kernel
theorem dX8_now_148 : decode cX8_now 148 = .ok (.iload 5, 2) := by decide +kernel
theorem dX8_now_150 : decode cX8_now 150 = .ok (.ifCond .eq 12, 3) := by decide +kernel
theorem dX8_now_153 : decode cX8_now 153 = .ok (.iload 4, 2) := by decide +kernel
theorem dX8_now_155 : decode cX8_now 155 = .ok (.ifCond .ne 7, 3) := by decide +kernel
theorem dX8_now_158 : decode cX8_now 158 = .ok (.iconst 1, 1) := by decide +kernel
theorem dX8_now_159 : decode cX8_now 159 = .ok (.goto 12, 3) := by decide +kernel
theorem dX8_now_162 : decode cX8_now 162 = .ok (.iconst 0, 1) := by decide +kernel
theorem dX8_now_163 : decode cX8_now 163 = .ok (.goto 8, 3) := by decide +kernel
theorem dX8_now_166 : decode cX8_now 166 = .ok (.aload_n 0, 1) := by decide +kernel
theorem dX8_now_167 : decode cX8_now 167 = .ok (.iload_n 3, 1) := by decide +kernel
theorem dX8_now_168 : decode cX8_now 168 = .ok (.invokevirtual 217, 3) := by decide +kernel
theorem dX8_now_171 : decode cX8_now 171 = .ok (.istore 6, 2) := by decide +kernel
theorem dX8_now_173 : decode cX8_now 173 = .ok (.iload_n 2, 1) := by decide +kernel
theorem dX8_now_174 : decode cX8_now 174 = .ok (.iload 6, 2) := by decide +kernel
theorem dX8_now_176 : decode cX8_now 176 = .ok (.ifCond .eq 9, 3) := by decide +kernel
theorem dX8_now_179 : decode cX8_now 179 = .ok (.iconst 1, 1) := by decide +kernel
theorem dX8_now_180 : decode cX8_now 180 = .ok (.iload_n 3, 1) := by decide +kernel
theorem dX8_now_181 : decode cX8_now 181 = .ok (.ishl, 1) := by decide +kernel
theorem dX8_now_182 : decode cX8_now 182 = .ok (.goto 4, 3) := by decide +kernel
theorem dX8_now_185 : decode cX8_now 185 = .ok (.iconst 0, 1) := by decide +kernel
theorem dX8_now_186 : decode cX8_now 186 = .ok (.ior, 1) := by decide +kernel
theorem dX8_now_187 : decode cX8_now 187 = .ok (.istore_n 2, 1) := by decide +kernel
theorem dX8_now_188 : decode cX8_now 188 = .ok (.iinc 3 1, 3) := by decide +kernel
theorem dX8_now_191 : decode cX8_now 191 = .ok (.goto (-133), 3) := by decide +kernel
theorem dX8_now_194 : decode cX8_now 194 = .ok (.iload_n 2, 1) := by decide +kernel
theorem dX8_now_195 : decode cX8_now 195 = .ok (.ireturn, 1) := by decide +kernel
abbrev mdX8_now : MD := (cX8_now, RX8, 7, (some .int), yX8_now.name, 4, 98, eT)
set_option maxHeartbeats 2000000 in
set_option maxRecDepth 20000 in
theorem p_X8_now_J32 (C : KX) (l0 : Nat) (l1 : Int32)  : Cmp C mdX8_now (QM rvI) 32 [(0, .ref (kB C + l0)), (1, .int l1)] [] (m_X8_now_J32 l0 l1) := by
  unfold m_X8_now_J32
  refine C_iload_n (D := mdX8_now) (pc' := 33) (x := l1) dX8_now_32 rfl 1 rfl ?_
  refine C_if_ne (D := mdX8_now) (pc' := 36) (tgt := 49) dX8_now_33 (by decide) rfl ?_ ?_
  · refine C_aload_n (D := mdX8_now) (pc' := 50) (x := kB C + l0) dX8_now_49 rfl 0 rfl ?_
    refine C_callV (D := mdX8_now) (pc' := 53) (p := l0) (st := []) [] v_X8_270 (i_X8_allHits C l0) dX8_now_50 rfl rfl rfl (Nat.le_of_ble_eq_true rfl) (by decide) (by decide) (fun c2 => ?_)
    exact C_iret rfl dX8_now_53
  · refine C_aload_n (D := mdX8_now) (pc' := 37) (x := kB C + l0) dX8_now_36 rfl 0 rfl ?_
    refine C_aload_n (D := mdX8_now) (pc' := 38) (x := kB C + l0) dX8_now_37 rfl 0 rfl ?_
    refine C_getR (D := mdX8_now) (pc' := 41) (p := l0) f_X8_87 rfl dX8_now_38 rfl (fun now3 => ?_)
    refine C_iconst (D := mdX8_now) (pc' := 42) (v := 1) dX8_now_41 rfl (by decide) ?_
    refine C_aI (D := mdX8_now) (pc' := 43) (p := now3) dX8_now_42 rfl (fun x4 => ?_)
    refine C_callV (D := mdX8_now) (pc' := 46) (p := l0) (st := []) [.int x4] v_X8_188 (i_X8_nodeAt C l0 x4) dX8_now_43 rfl rfl rfl (Nat.le_of_ble_eq_true rfl) (by decide) (by decide) (fun c5 => ?_)
    refine C_goto (D := mdX8_now) (pc' := 53) dX8_now_46 (by decide) ?_
    exact C_iret rfl dX8_now_53
set_option maxHeartbeats 2000000 in
set_option maxRecDepth 20000 in
theorem p_X8_now_J186 (C : KX) (l0 : Nat) (l1 : Int32) (l3 : Int32) (s0 : Int32) (s1 : Int32) (k58 : Int32 × Int32 → Mo Int32) (hk58 : ∀ s, Cmp C mdX8_now (QM rvI) 58 [(0, .ref (kB C + l0)), (1, .int l1), (2, .int s.1), (3, .int s.2)] [] (k58 s)) : Cmp C mdX8_now (QM rvI) 186 [(0, .ref (kB C + l0)), (1, .int l1), (3, .int l3)] [.int s0, .int s1] (m_X8_now_J186 l0 l1 l3 s0 s1 k58) := by
  unfold m_X8_now_J186
  refine C_ior (D := mdX8_now) (pc' := 187) dX8_now_186 rfl ?_
  refine C_letI (fun v17 => ?_)
  refine C_istore_n (D := mdX8_now) (pc' := 188) (ls' := [(2, .int v17), (0, .ref (kB C + l0)), (1, .int l1), (3, .int l3)]) dX8_now_187 rfl rfl (by decide) rfl ?_
  refine C_iinc (D := mdX8_now) (pc' := 191) (j := 3) (v := (l3 + 1)) (ls' := [(3, .int (l3 + 1)), (2, .int v17), (0, .ref (kB C + l0)), (1, .int l1)]) dX8_now_188 rfl rfl rfl (by decide) rfl ?_
  refine C_goto (D := mdX8_now) (pc' := 58) dX8_now_191 (by decide) ?_
  exact C_sub [2, 3, 1, 0] rfl (hk58 (v17, (l3 + 1)))
set_option maxHeartbeats 2000000 in
set_option maxRecDepth 20000 in
theorem p_X8_now_J171 (C : KX) (l0 : Nat) (l1 : Int32) (l2 : Int32) (l3 : Int32) (s0 : Int32) (k58 : Int32 × Int32 → Mo Int32) (hk58 : ∀ s, Cmp C mdX8_now (QM rvI) 58 [(0, .ref (kB C + l0)), (1, .int l1), (2, .int s.1), (3, .int s.2)] [] (k58 s)) : Cmp C mdX8_now (QM rvI) 171 [(0, .ref (kB C + l0)), (1, .int l1), (2, .int l2), (3, .int l3)] [.int s0] (m_X8_now_J171 l0 l1 l2 l3 s0 k58) := by
  unfold m_X8_now_J171
  refine C_istore (D := mdX8_now) (pc' := 173) (ls' := [(6, .int s0), (0, .ref (kB C + l0)), (1, .int l1), (2, .int l2), (3, .int l3)]) dX8_now_171 rfl (by decide) rfl ?_
  refine C_iload_n (D := mdX8_now) (pc' := 174) (x := l2) dX8_now_173 rfl 3 rfl ?_
  refine C_iload (D := mdX8_now) (pc' := 176) (x := s0) dX8_now_174 rfl 0 rfl ?_
  refine C_if_eq (D := mdX8_now) (pc' := 179) (tgt := 185) dX8_now_176 (by decide) rfl ?_ ?_
  · refine C_iconst (D := mdX8_now) (pc' := 186) (v := 0) dX8_now_185 rfl (by decide) ?_
    exact C_sub [1, 2, 4] rfl (p_X8_now_J186 C l0 l1 l3 0 l2 k58 hk58)
  · refine C_iconst (D := mdX8_now) (pc' := 180) (v := 1) dX8_now_179 rfl (by decide) ?_
    refine C_iload_n (D := mdX8_now) (pc' := 181) (x := l3) dX8_now_180 rfl 4 rfl ?_
    refine C_ishl (D := mdX8_now) (pc' := 182) dX8_now_181 rfl ?_
    refine C_goto (D := mdX8_now) (pc' := 186) dX8_now_182 (by decide) ?_
    exact C_sub [1, 2, 4] rfl (p_X8_now_J186 C l0 l1 l3 (((1 : Int32) <<< (l3 &&& 31))) l2 k58 hk58)
set_option maxHeartbeats 2000000 in
set_option maxRecDepth 20000 in
theorem p_X8_now_J162 (C : KX) (l0 : Nat) (l1 : Int32) (l2 : Int32) (l3 : Int32) (k58 : Int32 × Int32 → Mo Int32) (hk58 : ∀ s, Cmp C mdX8_now (QM rvI) 58 [(0, .ref (kB C + l0)), (1, .int l1), (2, .int s.1), (3, .int s.2)] [] (k58 s)) : Cmp C mdX8_now (QM rvI) 162 [(0, .ref (kB C + l0)), (1, .int l1), (2, .int l2), (3, .int l3)] [] (m_X8_now_J162 l0 l1 l2 l3 k58) := by
  unfold m_X8_now_J162
  refine C_iconst (D := mdX8_now) (pc' := 163) (v := 0) dX8_now_162 rfl (by decide) ?_
  refine C_goto (D := mdX8_now) (pc' := 171) dX8_now_163 (by decide) ?_
  exact C_sub [0, 1, 2, 3] rfl (p_X8_now_J171 C l0 l1 l2 l3 0 k58 hk58)
set_option maxHeartbeats 2000000 in
set_option maxRecDepth 20000 in
theorem p_X8_now_J139 (C : KX) (l0 : Nat) (l1 : Int32) (l2 : Int32) (l3 : Int32) (k58 : Int32 × Int32 → Mo Int32) (hk58 : ∀ s, Cmp C mdX8_now (QM rvI) 58 [(0, .ref (kB C + l0)), (1, .int l1), (2, .int s.1), (3, .int s.2)] [] (k58 s)) : Cmp C mdX8_now (QM rvI) 139 [(0, .ref (kB C + l0)), (1, .int l1), (2, .int l2), (3, .int l3)] [] (m_X8_now_J139 l0 l1 l2 l3 k58) := by
  unfold m_X8_now_J139
  refine C_iconst (D := mdX8_now) (pc' := 140) (v := 0) dX8_now_139 rfl (by decide) ?_
  refine C_goto (D := mdX8_now) (pc' := 171) dX8_now_140 (by decide) ?_
  exact C_sub [0, 1, 2, 3] rfl (p_X8_now_J171 C l0 l1 l2 l3 0 k58 hk58)
set_option maxHeartbeats 2000000 in
set_option maxRecDepth 20000 in
theorem p_X8_now_J108 (C : KX) (l0 : Nat) (l1 : Int32) (l2 : Int32) (l3 : Int32) (l4 : Int32) (s0 : Int32) (k58 : Int32 × Int32 → Mo Int32) (hk58 : ∀ s, Cmp C mdX8_now (QM rvI) 58 [(0, .ref (kB C + l0)), (1, .int l1), (2, .int s.1), (3, .int s.2)] [] (k58 s)) : Cmp C mdX8_now (QM rvI) 108 [(0, .ref (kB C + l0)), (1, .int l1), (2, .int l2), (3, .int l3), (4, .int l4)] [.int s0] (m_X8_now_J108 l0 l1 l2 l3 l4 s0 k58) := by
  unfold m_X8_now_J108
  refine C_istore (D := mdX8_now) (pc' := 110) (ls' := [(5, .int s0), (0, .ref (kB C + l0)), (1, .int l1), (2, .int l2), (3, .int l3), (4, .int l4)]) dX8_now_108 rfl (by decide) rfl ?_
  refine C_iload_n (D := mdX8_now) (pc' := 111) (x := l1) dX8_now_110 rfl 2 rfl ?_
  refine C_iconst (D := mdX8_now) (pc' := 112) (v := 1) dX8_now_111 rfl (by decide) ?_
  refine C_icmp_ne (D := mdX8_now) (pc' := 115) (tgt := 120) dX8_now_112 (by decide) rfl ?_ ?_
  · refine C_iload_n (D := mdX8_now) (pc' := 121) (x := l1) dX8_now_120 rfl 2 rfl ?_
    refine C_iconst (D := mdX8_now) (pc' := 122) (v := 2) dX8_now_121 rfl (by decide) ?_
    refine C_icmp_ne (D := mdX8_now) (pc' := 125) (tgt := 143) dX8_now_122 (by decide) rfl ?_ ?_
    · refine C_iload_n (D := mdX8_now) (pc' := 144) (x := l1) dX8_now_143 rfl 2 rfl ?_
      refine C_iconst (D := mdX8_now) (pc' := 145) (v := 3) dX8_now_144 rfl (by decide) ?_
      refine C_icmp_ne (D := mdX8_now) (pc' := 148) (tgt := 166) dX8_now_145 (by decide) rfl ?_ ?_
      · refine C_aload_n (D := mdX8_now) (pc' := 167) (x := kB C + l0) dX8_now_166 rfl 1 rfl ?_
        refine C_iload_n (D := mdX8_now) (pc' := 168) (x := l3) dX8_now_167 rfl 4 rfl ?_
        refine C_callV (D := mdX8_now) (pc' := 171) (p := l0) (st := []) [.int l3] v_X8_217 (i_X8_isAsked C l0 l3) dX8_now_168 rfl rfl rfl (Nat.le_of_ble_eq_true rfl) (by decide) (by decide) (fun c16 => ?_)
        exact C_sub [1, 2, 3, 4] rfl (p_X8_now_J171 C l0 l1 l2 l3 c16 k58 hk58)
      · refine C_iload (D := mdX8_now) (pc' := 150) (x := s0) dX8_now_148 rfl 0 rfl ?_
        refine C_if_eq (D := mdX8_now) (pc' := 153) (tgt := 162) dX8_now_150 (by decide) rfl ?_ ?_
        · exact C_sub [1, 2, 3, 4] rfl (p_X8_now_J162 C l0 l1 l2 l3 k58 hk58)
        · refine C_iload (D := mdX8_now) (pc' := 155) (x := l4) dX8_now_153 rfl 5 rfl ?_
          refine C_if_ne (D := mdX8_now) (pc' := 158) (tgt := 162) dX8_now_155 (by decide) rfl ?_ ?_
          · exact C_sub [1, 2, 3, 4] rfl (p_X8_now_J162 C l0 l1 l2 l3 k58 hk58)
          · refine C_iconst (D := mdX8_now) (pc' := 159) (v := 1) dX8_now_158 rfl (by decide) ?_
            refine C_goto (D := mdX8_now) (pc' := 171) dX8_now_159 (by decide) ?_
            exact C_sub [1, 2, 3, 4] rfl (p_X8_now_J171 C l0 l1 l2 l3 1 k58 hk58)
    · refine C_iload (D := mdX8_now) (pc' := 127) (x := l4) dX8_now_125 rfl 5 rfl ?_
      refine C_if_eq (D := mdX8_now) (pc' := 130) (tgt := 139) dX8_now_127 (by decide) rfl ?_ ?_
      · exact C_sub [1, 2, 3, 4] rfl (p_X8_now_J139 C l0 l1 l2 l3 k58 hk58)
      · refine C_iload (D := mdX8_now) (pc' := 132) (x := s0) dX8_now_130 rfl 0 rfl ?_
        refine C_if_ne (D := mdX8_now) (pc' := 135) (tgt := 139) dX8_now_132 (by decide) rfl ?_ ?_
        · exact C_sub [1, 2, 3, 4] rfl (p_X8_now_J139 C l0 l1 l2 l3 k58 hk58)
        · refine C_iconst (D := mdX8_now) (pc' := 136) (v := 1) dX8_now_135 rfl (by decide) ?_
          refine C_goto (D := mdX8_now) (pc' := 171) dX8_now_136 (by decide) ?_
          exact C_sub [1, 2, 3, 4] rfl (p_X8_now_J171 C l0 l1 l2 l3 1 k58 hk58)
  · refine C_iload (D := mdX8_now) (pc' := 117) (x := l4) dX8_now_115 rfl 5 rfl ?_
    refine C_goto (D := mdX8_now) (pc' := 171) dX8_now_117 (by decide) ?_
    exact C_sub [1, 2, 3, 4] rfl (p_X8_now_J171 C l0 l1 l2 l3 l4 k58 hk58)
set_option maxHeartbeats 2000000 in
set_option maxRecDepth 20000 in
theorem p_X8_now_B58 (C : KX) (l0 : Nat) (l1 : Int32)  (k58 : Int32 × Int32 → Mo Int32) (hk58 : ∀ s, Cmp C mdX8_now (QM rvI) 58 [(0, .ref (kB C + l0)), (1, .int l1), (2, .int s.1), (3, .int s.2)] [] (k58 s)) (l2 : Int32) (l3 : Int32) : Cmp C mdX8_now (QM rvI) 58 [(0, .ref (kB C + l0)), (1, .int l1), (2, .int l2), (3, .int l3)] [] (m_X8_now_B58 l0 l1 k58 l2 l3) := by
  unfold m_X8_now_B58
  refine C_iload_n (D := mdX8_now) (pc' := 59) (x := l3) dX8_now_58 rfl 3 rfl ?_
  refine C_aload_n (D := mdX8_now) (pc' := 60) (x := kB C + l0) dX8_now_59 rfl 0 rfl ?_
  refine C_getR (D := mdX8_now) (pc' := 63) (p := l0) f_X8_87 rfl dX8_now_60 rfl (fun now6 => ?_)
  refine C_iconst (D := mdX8_now) (pc' := 64) (v := 0) dX8_now_63 rfl (by decide) ?_
  refine C_aI (D := mdX8_now) (pc' := 65) (p := now6) dX8_now_64 rfl (fun x7 => ?_)
  refine C_icmp_ge (D := mdX8_now) (pc' := 68) (tgt := 194) dX8_now_65 (by decide) rfl ?_ ?_
  · refine C_iload_n (D := mdX8_now) (pc' := 195) (x := l2) dX8_now_194 rfl 2 rfl ?_
    exact C_iret rfl dX8_now_195
  · refine C_aload_n (D := mdX8_now) (pc' := 69) (x := kB C + l0) dX8_now_68 rfl 0 rfl ?_
    refine C_iload_n (D := mdX8_now) (pc' := 70) (x := l3) dX8_now_69 rfl 3 rfl ?_
    refine C_aload_n (D := mdX8_now) (pc' := 71) (x := kB C + l0) dX8_now_70 rfl 0 rfl ?_
    refine C_getR (D := mdX8_now) (pc' := 74) (p := l0) f_X8_87 rfl dX8_now_71 rfl (fun now8 => ?_)
    refine C_iconst (D := mdX8_now) (pc' := 75) (v := 1) dX8_now_74 rfl (by decide) ?_
    refine C_aI (D := mdX8_now) (pc' := 76) (p := now8) dX8_now_75 rfl (fun x9 => ?_)
    refine C_callV (D := mdX8_now) (pc' := 79) (p := l0) (st := []) [.int l3, .int x9] v_X8_205 (i_X8_matches C l0 l3 x9) dX8_now_76 rfl rfl rfl (Nat.le_of_ble_eq_true rfl) (by decide) (by decide) (fun c10 => ?_)
    refine C_istore (D := mdX8_now) (pc' := 81) (ls' := [(4, .int c10), (0, .ref (kB C + l0)), (1, .int l1), (2, .int l2), (3, .int l3)]) dX8_now_79 rfl (by decide) rfl ?_
    refine C_aload_n (D := mdX8_now) (pc' := 82) (x := kB C + l0) dX8_now_81 rfl 1 rfl ?_
    refine C_getR (D := mdX8_now) (pc' := 85) (p := l0) f_X8_87 rfl dX8_now_82 rfl (fun now11 => ?_)
    refine C_iconst (D := mdX8_now) (pc' := 86) (v := 1) dX8_now_85 rfl (by decide) ?_
    refine C_aI (D := mdX8_now) (pc' := 87) (p := now11) dX8_now_86 rfl (fun x12 => ?_)
    refine C_if_ne (D := mdX8_now) (pc' := 90) (tgt := 95) dX8_now_87 (by decide) rfl ?_ ?_
    · refine C_aload_n (D := mdX8_now) (pc' := 96) (x := kB C + l0) dX8_now_95 rfl 1 rfl ?_
      refine C_iload_n (D := mdX8_now) (pc' := 97) (x := l3) dX8_now_96 rfl 4 rfl ?_
      refine C_aload_n (D := mdX8_now) (pc' := 98) (x := kB C + l0) dX8_now_97 rfl 1 rfl ?_
      refine C_getR (D := mdX8_now) (pc' := 101) (p := l0) f_X8_87 rfl dX8_now_98 rfl (fun now13 => ?_)
      refine C_iconst (D := mdX8_now) (pc' := 102) (v := 1) dX8_now_101 rfl (by decide) ?_
      refine C_aI (D := mdX8_now) (pc' := 103) (p := now13) dX8_now_102 rfl (fun x14 => ?_)
      refine C_iconst (D := mdX8_now) (pc' := 104) (v := 1) dX8_now_103 rfl (by decide) ?_
      refine C_isub (D := mdX8_now) (pc' := 105) dX8_now_104 rfl ?_
      refine C_callV (D := mdX8_now) (pc' := 108) (p := l0) (st := []) [.int l3, .int (x14 - 1)] v_X8_205 (i_X8_matches C l0 l3 ((x14 - 1))) dX8_now_105 rfl rfl rfl (Nat.le_of_ble_eq_true rfl) (by decide) (by decide) (fun c15 => ?_)
      exact C_sub [1, 2, 3, 4, 0] rfl (p_X8_now_J108 C l0 l1 l2 l3 c10 c15 k58 hk58)
    · refine C_iload (D := mdX8_now) (pc' := 92) (x := c10) dX8_now_90 rfl 0 rfl ?_
      refine C_goto (D := mdX8_now) (pc' := 108) dX8_now_92 (by decide) ?_
      exact C_sub [1, 2, 3, 4, 0] rfl (p_X8_now_J108 C l0 l1 l2 l3 c10 c10 k58 hk58)
set_option maxHeartbeats 2000000 in
set_option maxRecDepth 20000 in
theorem i_X8_now (C : KX) (l0 : Nat) (l1 : Int32) : Imp C yX8_now cX8_now 7 (some .int) 4 98 rvI [.ref (kB C + l0), .int l1] (m_X8_now l0 l1) := by
  refine Imp.of (by decide) (Nat.le_of_ble_eq_true rfl) [(0, .ref (kB C + l0)), (1, .int l1)] rfl ?_
  show Cmp C mdX8_now (QM rvI) 0 [(0, .ref (kB C + l0)), (1, .int l1)] [] (m_X8_now l0 l1)
  unfold m_X8_now
  refine C_aload_n (D := mdX8_now) (pc' := 1) (x := kB C + l0) dX8_now_0 rfl 0 rfl ?_
  refine C_iconst (D := mdX8_now) (pc' := 2) (v := 0) dX8_now_1 rfl (by decide) ?_
  refine C_putI (D := mdX8_now) (pc' := 5) (p := l0) f_X8_1 rfl dX8_now_2 rfl ?_
  refine C_iload_n (D := mdX8_now) (pc' := 6) (x := l1) dX8_now_5 rfl 1 rfl ?_
  refine C_i2l (D := mdX8_now) (pc' := 7) dX8_now_6 rfl ?_
  refine C_lconst (D := mdX8_now) (pc' := 8) (v := 0) dX8_now_7 rfl (by decide) ?_
  refine C_ldc2 (D := mdX8_now) (pc' := 11) (v := 5) c_X8_268 dX8_now_8 rfl ?_
  refine C_callS (D := mdX8_now) (pc' := 14) (st := []) [.long ((l1 : Int32).toInt64), .long 0, .long 5] s_X8_9 (i_X8_in C (((l1 : Int32).toInt64)) 0 5) dX8_now_11 rfl rfl rfl (Nat.le_of_ble_eq_true rfl) (by decide) (by decide) (fun c1 => ?_)
  refine C_if_ne (D := mdX8_now) (pc' := 17) (tgt := 19) dX8_now_14 (by decide) rfl ?_ ?_
  · refine C_aload_n (D := mdX8_now) (pc' := 20) (x := kB C + l0) dX8_now_19 rfl 0 rfl ?_
    refine C_callV (D := mdX8_now) (pc' := 23) (p := l0) (st := []) [] v_X8_211 (i_X8_layEnds C l0) dX8_now_20 rfl rfl rfl (Nat.le_of_ble_eq_true rfl) (by decide) (by decide) (fun _ => ?_)
    refine C_iload_n (D := mdX8_now) (pc' := 24) (x := l1) dX8_now_23 rfl 1 rfl ?_
    refine C_if_eq (D := mdX8_now) (pc' := 27) (tgt := 32) dX8_now_24 (by decide) rfl ?_ ?_
    · exact C_sub [0, 1] rfl (p_X8_now_J32 C l0 l1)
    · refine C_iload_n (D := mdX8_now) (pc' := 28) (x := l1) dX8_now_27 rfl 1 rfl ?_
      refine C_iconst (D := mdX8_now) (pc' := 29) (v := 5) dX8_now_28 rfl (by decide) ?_
      refine C_icmp_ne (D := mdX8_now) (pc' := 32) (tgt := 54) dX8_now_29 (by decide) rfl ?_ ?_
      · refine C_iconst (D := mdX8_now) (pc' := 55) (v := 0) dX8_now_54 rfl (by decide) ?_
        refine C_istore_n (D := mdX8_now) (pc' := 56) (ls' := [(2, .int 0), (0, .ref (kB C + l0)), (1, .int l1)]) dX8_now_55 rfl rfl (by decide) rfl ?_
        refine C_iconst (D := mdX8_now) (pc' := 57) (v := 0) dX8_now_56 rfl (by decide) ?_
        refine C_istore_n (D := mdX8_now) (pc' := 58) (ls' := [(3, .int 0), (2, .int 0), (0, .ref (kB C + l0)), (1, .int l1)]) dX8_now_57 rfl rfl (by decide) rfl ?_
        exact C_sub [2, 3, 1, 0] rfl (C_loop (fun s => [(0, .ref (kB C + l0)), (1, .int l1), (2, .int s.1), (3, .int s.2)]) (fun k hk s => p_X8_now_B58 C l0 l1  k hk s.1 s.2) FU (0, 0))
      · exact C_sub [0, 1] rfl (p_X8_now_J32 C l0 l1)
  · refine C_iconst (D := mdX8_now) (pc' := 18) (v := (-1)) dX8_now_17 rfl (by decide) ?_
    exact C_iret rfl dX8_now_18

-- StandingQueriesModel.keep(I)I
theorem dX8_keep_0 : decode cX8_keep 0 = .ok (.aload_n 0, 1) := by decide +kernel
theorem dX8_keep_1 : decode cX8_keep 1 = .ok (.iconst 0, 1) := by decide +kernel
theorem dX8_keep_2 : decode cX8_keep 2 = .ok (.putfield 1, 3) := by decide +kernel
theorem dX8_keep_5 : decode cX8_keep 5 = .ok (.iload_n 1, 1) := by decide +kernel
theorem dX8_keep_6 : decode cX8_keep 6 = .ok (.i2l, 1) := by decide +kernel
theorem dX8_keep_7 : decode cX8_keep 7 = .ok (.lconst 0, 1) := by decide +kernel
theorem dX8_keep_8 : decode cX8_keep 8 = .ok (.lconst 1, 1) := by decide +kernel
theorem dX8_keep_9 : decode cX8_keep 9 = .ok (.invokestatic 9, 3) := by decide +kernel
theorem dX8_keep_12 : decode cX8_keep 12 = .ok (.ifCond .ne 5, 3) := by decide +kernel
theorem dX8_keep_15 : decode cX8_keep 15 = .ok (.iconst (-1), 1) := by decide +kernel
theorem dX8_keep_16 : decode cX8_keep 16 = .ok (.ireturn, 1) := by decide +kernel
theorem dX8_keep_17 : decode cX8_keep 17 = .ok (.iconst 0, 1) := by decide +kernel
theorem dX8_keep_18 : decode cX8_keep 18 = .ok (.istore_n 2, 1) := by decide +kernel
theorem dX8_keep_19 : decode cX8_keep 19 = .ok (.iload_n 2, 1) := by decide +kernel
theorem dX8_keep_20 : decode cX8_keep 20 = .ok (.sipush 178, 3) := by decide +kernel
theorem dX8_keep_23 : decode cX8_keep 23 = .ok (.if_icmp .ge 27, 3) := by decide +kernel
theorem dX8_keep_26 : decode cX8_keep 26 = .ok (.aload_n 0, 1) := by decide +kernel
theorem dX8_keep_27 : decode cX8_keep 27 = .ok (.getfield 131, 3) := by decide +kernel
theorem dX8_keep_30 : decode cX8_keep 30 = .ok (.sipush 178, 3) := by decide +kernel
theorem dX8_keep_33 : decode cX8_keep 33 = .ok (.iload_n 1, 1) := by decide +kernel
theorem dX8_keep_34 : decode cX8_keep 34 = .ok (.imul, 1) := by decide +kernel
theorem dX8_keep_35 : decode cX8_keep 35 = .ok (.iload_n 2, 1) := by decide +kernel
theorem dX8_keep_36 : decode cX8_keep 36 = .ok (.iadd, 1) := by decide +kernel
theorem dX8_keep_37 : decode cX8_keep 37 = .ok (.aload_n 0, 1) := by decide +kernel
theorem dX8_keep_38 : decode cX8_keep 38 = .ok (.getfield 87, 3) := by decide +kernel
theorem dX8_keep_41 : decode cX8_keep 41 = .ok (.iload_n 2, 1) := by decide +kernel
theorem dX8_keep_42 : decode cX8_keep 42 = .ok (.iaload, 1) := by decide +kernel
theorem dX8_keep_43 : decode cX8_keep 43 = .ok (.iastore, 1) := by decide +kernel
theorem dX8_keep_44 : decode cX8_keep 44 = .ok (.iinc 2 1, 3) := by decide +kernel
theorem dX8_keep_47 : decode cX8_keep 47 = .ok (.goto (-28), 3) := by decide +kernel
theorem dX8_keep_50 : decode cX8_keep 50 = .ok (.aload_n 0, 1) := by decide +kernel
theorem dX8_keep_51 : decode cX8_keep 51 = .ok (.getfield 127, 3) := by decide +kernel
theorem dX8_keep_54 : decode cX8_keep 54 = .ok (.iload_n 1, 1) := by decide +kernel
theorem dX8_keep_55 : decode cX8_keep 55 = .ok (.iconst 1, 1) := by decide +kernel
theorem dX8_keep_56 : decode cX8_keep 56 = .ok (.bastore, 1) := by decide +kernel
theorem dX8_keep_57 : decode cX8_keep 57 = .ok (.aload_n 0, 1) := by decide +kernel
theorem dX8_keep_58 : decode cX8_keep 58 = .ok (.getfield 87, 3) := by decide +kernel
theorem dX8_keep_61 : decode cX8_keep 61 = .ok (.iconst 0, 1) := by decide +kernel
theorem dX8_keep_62 : decode cX8_keep 62 = .ok (.iaload, 1) := by decide +kernel
theorem dX8_keep_63 : decode cX8_keep 63 = .ok (.ireturn, 1) := by decide +kernel
abbrev mdX8_keep : MD := (cX8_keep, RX8, 3, (some .int), yX8_keep.name, 1, 25, eT)
set_option maxHeartbeats 2000000 in
set_option maxRecDepth 20000 in
theorem p_X8_keep_B19 (C : KX) (l0 : Nat) (l1 : Int32)  (k19 : Int32 → Mo Int32) (hk19 : ∀ s, Cmp C mdX8_keep (QM rvI) 19 [(0, .ref (kB C + l0)), (1, .int l1), (2, .int s)] [] (k19 s)) (l2 : Int32) : Cmp C mdX8_keep (QM rvI) 19 [(0, .ref (kB C + l0)), (1, .int l1), (2, .int l2)] [] (m_X8_keep_B19 l0 l1 k19 l2) := by
  unfold m_X8_keep_B19
  refine C_iload_n (D := mdX8_keep) (pc' := 20) (x := l2) dX8_keep_19 rfl 2 rfl ?_
  refine C_sipush (D := mdX8_keep) (pc' := 23) (v := 178) dX8_keep_20 rfl (by decide) ?_
  refine C_icmp_ge (D := mdX8_keep) (pc' := 26) (tgt := 50) dX8_keep_23 (by decide) rfl ?_ ?_
  · refine C_aload_n (D := mdX8_keep) (pc' := 51) (x := kB C + l0) dX8_keep_50 rfl 0 rfl ?_
    refine C_getR (D := mdX8_keep) (pc' := 54) (p := l0) f_X8_127 rfl dX8_keep_51 rfl (fun isKept2 => ?_)
    refine C_iload_n (D := mdX8_keep) (pc' := 55) (x := l1) dX8_keep_54 rfl 1 rfl ?_
    refine C_iconst (D := mdX8_keep) (pc' := 56) (v := 1) dX8_keep_55 rfl (by decide) ?_
    refine C_tZ (D := mdX8_keep) (pc' := 57) (p := isKept2) dX8_keep_56 rfl ?_
    refine C_aload_n (D := mdX8_keep) (pc' := 58) (x := kB C + l0) dX8_keep_57 rfl 0 rfl ?_
    refine C_getR (D := mdX8_keep) (pc' := 61) (p := l0) f_X8_87 rfl dX8_keep_58 rfl (fun now3 => ?_)
    refine C_iconst (D := mdX8_keep) (pc' := 62) (v := 0) dX8_keep_61 rfl (by decide) ?_
    refine C_aI (D := mdX8_keep) (pc' := 63) (p := now3) dX8_keep_62 rfl (fun x4 => ?_)
    exact C_iret rfl dX8_keep_63
  · refine C_aload_n (D := mdX8_keep) (pc' := 27) (x := kB C + l0) dX8_keep_26 rfl 0 rfl ?_
    refine C_getR (D := mdX8_keep) (pc' := 30) (p := l0) f_X8_131 rfl dX8_keep_27 rfl (fun kept5 => ?_)
    refine C_sipush (D := mdX8_keep) (pc' := 33) (v := 178) dX8_keep_30 rfl (by decide) ?_
    refine C_iload_n (D := mdX8_keep) (pc' := 34) (x := l1) dX8_keep_33 rfl 1 rfl ?_
    refine C_imul (D := mdX8_keep) (pc' := 35) dX8_keep_34 rfl ?_
    refine C_iload_n (D := mdX8_keep) (pc' := 36) (x := l2) dX8_keep_35 rfl 2 rfl ?_
    refine C_iadd (D := mdX8_keep) (pc' := 37) dX8_keep_36 rfl ?_
    refine C_aload_n (D := mdX8_keep) (pc' := 38) (x := kB C + l0) dX8_keep_37 rfl 0 rfl ?_
    refine C_getR (D := mdX8_keep) (pc' := 41) (p := l0) f_X8_87 rfl dX8_keep_38 rfl (fun now6 => ?_)
    refine C_iload_n (D := mdX8_keep) (pc' := 42) (x := l2) dX8_keep_41 rfl 2 rfl ?_
    refine C_aI (D := mdX8_keep) (pc' := 43) (p := now6) dX8_keep_42 rfl (fun x7 => ?_)
    refine C_tI (D := mdX8_keep) (pc' := 44) (p := kept5) dX8_keep_43 rfl ?_
    refine C_iinc (D := mdX8_keep) (pc' := 47) (j := 2) (v := (l2 + 1)) (ls' := [(2, .int (l2 + 1)), (0, .ref (kB C + l0)), (1, .int l1)]) dX8_keep_44 rfl rfl rfl (by decide) rfl ?_
    refine C_goto (D := mdX8_keep) (pc' := 19) dX8_keep_47 (by decide) ?_
    exact C_sub [1, 2, 0] rfl (hk19 ((l2 + 1)))
set_option maxHeartbeats 2000000 in
set_option maxRecDepth 20000 in
theorem i_X8_keep (C : KX) (l0 : Nat) (l1 : Int32) : Imp C yX8_keep cX8_keep 3 (some .int) 1 25 rvI [.ref (kB C + l0), .int l1] (m_X8_keep l0 l1) := by
  refine Imp.of (by decide) (Nat.le_of_ble_eq_true rfl) [(0, .ref (kB C + l0)), (1, .int l1)] rfl ?_
  show Cmp C mdX8_keep (QM rvI) 0 [(0, .ref (kB C + l0)), (1, .int l1)] [] (m_X8_keep l0 l1)
  unfold m_X8_keep
  refine C_aload_n (D := mdX8_keep) (pc' := 1) (x := kB C + l0) dX8_keep_0 rfl 0 rfl ?_
  refine C_iconst (D := mdX8_keep) (pc' := 2) (v := 0) dX8_keep_1 rfl (by decide) ?_
  refine C_putI (D := mdX8_keep) (pc' := 5) (p := l0) f_X8_1 rfl dX8_keep_2 rfl ?_
  refine C_iload_n (D := mdX8_keep) (pc' := 6) (x := l1) dX8_keep_5 rfl 1 rfl ?_
  refine C_i2l (D := mdX8_keep) (pc' := 7) dX8_keep_6 rfl ?_
  refine C_lconst (D := mdX8_keep) (pc' := 8) (v := 0) dX8_keep_7 rfl (by decide) ?_
  refine C_lconst (D := mdX8_keep) (pc' := 9) (v := 1) dX8_keep_8 rfl (by decide) ?_
  refine C_callS (D := mdX8_keep) (pc' := 12) (st := []) [.long ((l1 : Int32).toInt64), .long 0, .long 1] s_X8_9 (i_X8_in C (((l1 : Int32).toInt64)) 0 1) dX8_keep_9 rfl rfl rfl (Nat.le_of_ble_eq_true rfl) (by decide) (by decide) (fun c1 => ?_)
  refine C_if_ne (D := mdX8_keep) (pc' := 15) (tgt := 17) dX8_keep_12 (by decide) rfl ?_ ?_
  · refine C_iconst (D := mdX8_keep) (pc' := 18) (v := 0) dX8_keep_17 rfl (by decide) ?_
    refine C_istore_n (D := mdX8_keep) (pc' := 19) (ls' := [(2, .int 0), (0, .ref (kB C + l0)), (1, .int l1)]) dX8_keep_18 rfl rfl (by decide) rfl ?_
    exact C_sub [1, 2, 0] rfl (C_loop (fun s => [(0, .ref (kB C + l0)), (1, .int l1), (2, .int s)]) (fun k hk s => p_X8_keep_B19 C l0 l1  k hk s) FU 0)
  · refine C_iconst (D := mdX8_keep) (pc' := 16) (v := (-1)) dX8_keep_15 rfl (by decide) ?_
    exact C_iret rfl dX8_keep_16

-- StandingQueriesModel.back(I)I
theorem dX8_back_0 : decode cX8_back 0 = .ok (.aload_n 0, 1) := by decide +kernel
theorem dX8_back_1 : decode cX8_back 1 = .ok (.iconst 0, 1) := by decide +kernel
theorem dX8_back_2 : decode cX8_back 2 = .ok (.putfield 1, 3) := by decide +kernel
theorem dX8_back_5 : decode cX8_back 5 = .ok (.iload_n 1, 1) := by decide +kernel
theorem dX8_back_6 : decode cX8_back 6 = .ok (.i2l, 1) := by decide +kernel
theorem dX8_back_7 : decode cX8_back 7 = .ok (.lconst 0, 1) := by decide +kernel
theorem dX8_back_8 : decode cX8_back 8 = .ok (.lconst 1, 1) := by decide +kernel
theorem dX8_back_9 : decode cX8_back 9 = .ok (.invokestatic 9, 3) := by decide +kernel
theorem dX8_back_12 : decode cX8_back 12 = .ok (.ifCond .ne 5, 3) := by decide +kernel
theorem dX8_back_15 : decode cX8_back 15 = .ok (.iconst (-1), 1) := by decide +kernel
theorem dX8_back_16 : decode cX8_back 16 = .ok (.ireturn, 1) := by decide +kernel
theorem dX8_back_17 : decode cX8_back 17 = .ok (.aload_n 0, 1) := by decide +kernel
theorem dX8_back_18 : decode cX8_back 18 = .ok (.getfield 127, 3) := by decide +kernel
theorem dX8_back_21 : decode cX8_back 21 = .ok (.iload_n 1, 1) := by decide +kernel
theorem dX8_back_22 : decode cX8_back 22 = .ok (.baload, 1) := by decide +kernel
theorem dX8_back_23 : decode cX8_back 23 = .ok (.ifCond .ne 6, 3) := by decide +kernel
theorem dX8_back_26 : decode cX8_back 26 = .ok (.bipush (-2), 2) := by decide +kernel
theorem dX8_back_28 : decode cX8_back 28 = .ok (.ireturn, 1) := by decide +kernel
theorem dX8_back_29 : decode cX8_back 29 = .ok (.iconst 0, 1) := by decide +kernel
theorem dX8_back_30 : decode cX8_back 30 = .ok (.istore_n 2, 1) := by decide +kernel
theorem dX8_back_31 : decode cX8_back 31 = .ok (.iload_n 2, 1) := by decide +kernel
theorem dX8_back_32 : decode cX8_back 32 = .ok (.sipush 178, 3) := by decide +kernel
theorem dX8_back_35 : decode cX8_back 35 = .ok (.if_icmp .ge 27, 3) := by decide +kernel
theorem dX8_back_38 : decode cX8_back 38 = .ok (.aload_n 0, 1) := by decide +kernel
theorem dX8_back_39 : decode cX8_back 39 = .ok (.getfield 87, 3) := by decide +kernel
theorem dX8_back_42 : decode cX8_back 42 = .ok (.iload_n 2, 1) := by decide +kernel
theorem dX8_back_43 : decode cX8_back 43 = .ok (.aload_n 0, 1) := by decide +kernel
theorem dX8_back_44 : decode cX8_back 44 = .ok (.getfield 131, 3) := by decide +kernel
theorem dX8_back_47 : decode cX8_back 47 = .ok (.sipush 178, 3) := by decide +kernel
theorem dX8_back_50 : decode cX8_back 50 = .ok (.iload_n 1, 1) := by decide +kernel
theorem dX8_back_51 : decode cX8_back 51 = .ok (.imul, 1) := by decide +kernel
theorem dX8_back_52 : decode cX8_back 52 = .ok (.iload_n 2, 1) := by decide +kernel
theorem dX8_back_53 : decode cX8_back 53 = .ok (.iadd, 1) := by decide +kernel
theorem dX8_back_54 : decode cX8_back 54 = .ok (.iaload, 1) := by decide +kernel
theorem dX8_back_55 : decode cX8_back 55 = .ok (.iastore, 1) := by decide +kernel
theorem dX8_back_56 : decode cX8_back 56 = .ok (.iinc 2 1, 3) := by decide +kernel
theorem dX8_back_59 : decode cX8_back 59 = .ok (.goto (-28), 3) := by decide +kernel
theorem dX8_back_62 : decode cX8_back 62 = .ok (.aload_n 0, 1) := by decide +kernel
theorem dX8_back_63 : decode cX8_back 63 = .ok (.iconst 0, 1) := by decide +kernel
theorem dX8_back_64 : decode cX8_back 64 = .ok (.putfield 180, 3) := by decide +kernel
theorem dX8_back_67 : decode cX8_back 67 = .ok (.aload_n 0, 1) := by decide +kernel
theorem dX8_back_68 : decode cX8_back 68 = .ok (.invokevirtual 144, 3) := by decide +kernel
theorem dX8_back_71 : decode cX8_back 71 = .ok (.aload_n 0, 1) := by decide +kernel
theorem dX8_back_72 : decode cX8_back 72 = .ok (.getfield 87, 3) := by decide +kernel
theorem dX8_back_75 : decode cX8_back 75 = .ok (.iconst 0, 1) := by decide +kernel
theorem dX8_back_76 : decode cX8_back 76 = .ok (.iaload, 1) := by decide +kernel
theorem dX8_back_77 : decode cX8_back 77 = .ok (.ireturn, 1) := by decide +kernel
abbrev mdX8_back : MD := (cX8_back, RX8, 3, (some .int), yX8_back.name, 5, 116, eT)
set_option maxHeartbeats 2000000 in
set_option maxRecDepth 20000 in
theorem p_X8_back_B31 (C : KX) (l0 : Nat) (l1 : Int32)  (k31 : Int32 → Mo Int32) (hk31 : ∀ s, Cmp C mdX8_back (QM rvI) 31 [(0, .ref (kB C + l0)), (1, .int l1), (2, .int s)] [] (k31 s)) (l2 : Int32) : Cmp C mdX8_back (QM rvI) 31 [(0, .ref (kB C + l0)), (1, .int l1), (2, .int l2)] [] (m_X8_back_B31 l0 l1 k31 l2) := by
  unfold m_X8_back_B31
  refine C_iload_n (D := mdX8_back) (pc' := 32) (x := l2) dX8_back_31 rfl 2 rfl ?_
  refine C_sipush (D := mdX8_back) (pc' := 35) (v := 178) dX8_back_32 rfl (by decide) ?_
  refine C_icmp_ge (D := mdX8_back) (pc' := 38) (tgt := 62) dX8_back_35 (by decide) rfl ?_ ?_
  · refine C_aload_n (D := mdX8_back) (pc' := 63) (x := kB C + l0) dX8_back_62 rfl 0 rfl ?_
    refine C_iconst (D := mdX8_back) (pc' := 64) (v := 0) dX8_back_63 rfl (by decide) ?_
    refine C_putI (D := mdX8_back) (pc' := 67) (p := l0) f_X8_180 rfl dX8_back_64 rfl ?_
    refine C_aload_n (D := mdX8_back) (pc' := 68) (x := kB C + l0) dX8_back_67 rfl 0 rfl ?_
    refine C_callV (D := mdX8_back) (pc' := 71) (p := l0) (st := []) [] v_X8_144 (i_X8_make C l0) dX8_back_68 rfl rfl rfl (Nat.le_of_ble_eq_true rfl) (by decide) (by decide) (fun _ => ?_)
    refine C_aload_n (D := mdX8_back) (pc' := 72) (x := kB C + l0) dX8_back_71 rfl 0 rfl ?_
    refine C_getR (D := mdX8_back) (pc' := 75) (p := l0) f_X8_87 rfl dX8_back_72 rfl (fun now4 => ?_)
    refine C_iconst (D := mdX8_back) (pc' := 76) (v := 0) dX8_back_75 rfl (by decide) ?_
    refine C_aI (D := mdX8_back) (pc' := 77) (p := now4) dX8_back_76 rfl (fun x5 => ?_)
    exact C_iret rfl dX8_back_77
  · refine C_aload_n (D := mdX8_back) (pc' := 39) (x := kB C + l0) dX8_back_38 rfl 0 rfl ?_
    refine C_getR (D := mdX8_back) (pc' := 42) (p := l0) f_X8_87 rfl dX8_back_39 rfl (fun now6 => ?_)
    refine C_iload_n (D := mdX8_back) (pc' := 43) (x := l2) dX8_back_42 rfl 2 rfl ?_
    refine C_aload_n (D := mdX8_back) (pc' := 44) (x := kB C + l0) dX8_back_43 rfl 0 rfl ?_
    refine C_getR (D := mdX8_back) (pc' := 47) (p := l0) f_X8_131 rfl dX8_back_44 rfl (fun kept7 => ?_)
    refine C_sipush (D := mdX8_back) (pc' := 50) (v := 178) dX8_back_47 rfl (by decide) ?_
    refine C_iload_n (D := mdX8_back) (pc' := 51) (x := l1) dX8_back_50 rfl 1 rfl ?_
    refine C_imul (D := mdX8_back) (pc' := 52) dX8_back_51 rfl ?_
    refine C_iload_n (D := mdX8_back) (pc' := 53) (x := l2) dX8_back_52 rfl 2 rfl ?_
    refine C_iadd (D := mdX8_back) (pc' := 54) dX8_back_53 rfl ?_
    refine C_aI (D := mdX8_back) (pc' := 55) (p := kept7) dX8_back_54 rfl (fun x8 => ?_)
    refine C_tI (D := mdX8_back) (pc' := 56) (p := now6) dX8_back_55 rfl ?_
    refine C_iinc (D := mdX8_back) (pc' := 59) (j := 2) (v := (l2 + 1)) (ls' := [(2, .int (l2 + 1)), (0, .ref (kB C + l0)), (1, .int l1)]) dX8_back_56 rfl rfl rfl (by decide) rfl ?_
    refine C_goto (D := mdX8_back) (pc' := 31) dX8_back_59 (by decide) ?_
    exact C_sub [1, 2, 0] rfl (hk31 ((l2 + 1)))
set_option maxHeartbeats 2000000 in
set_option maxRecDepth 20000 in
theorem i_X8_back (C : KX) (l0 : Nat) (l1 : Int32) : Imp C yX8_back cX8_back 3 (some .int) 5 116 rvI [.ref (kB C + l0), .int l1] (m_X8_back l0 l1) := by
  refine Imp.of (by decide) (Nat.le_of_ble_eq_true rfl) [(0, .ref (kB C + l0)), (1, .int l1)] rfl ?_
  show Cmp C mdX8_back (QM rvI) 0 [(0, .ref (kB C + l0)), (1, .int l1)] [] (m_X8_back l0 l1)
  unfold m_X8_back
  refine C_aload_n (D := mdX8_back) (pc' := 1) (x := kB C + l0) dX8_back_0 rfl 0 rfl ?_
  refine C_iconst (D := mdX8_back) (pc' := 2) (v := 0) dX8_back_1 rfl (by decide) ?_
  refine C_putI (D := mdX8_back) (pc' := 5) (p := l0) f_X8_1 rfl dX8_back_2 rfl ?_
  refine C_iload_n (D := mdX8_back) (pc' := 6) (x := l1) dX8_back_5 rfl 1 rfl ?_
  refine C_i2l (D := mdX8_back) (pc' := 7) dX8_back_6 rfl ?_
  refine C_lconst (D := mdX8_back) (pc' := 8) (v := 0) dX8_back_7 rfl (by decide) ?_
  refine C_lconst (D := mdX8_back) (pc' := 9) (v := 1) dX8_back_8 rfl (by decide) ?_
  refine C_callS (D := mdX8_back) (pc' := 12) (st := []) [.long ((l1 : Int32).toInt64), .long 0, .long 1] s_X8_9 (i_X8_in C (((l1 : Int32).toInt64)) 0 1) dX8_back_9 rfl rfl rfl (Nat.le_of_ble_eq_true rfl) (by decide) (by decide) (fun c1 => ?_)
  refine C_if_ne (D := mdX8_back) (pc' := 15) (tgt := 17) dX8_back_12 (by decide) rfl ?_ ?_
  · refine C_aload_n (D := mdX8_back) (pc' := 18) (x := kB C + l0) dX8_back_17 rfl 0 rfl ?_
    refine C_getR (D := mdX8_back) (pc' := 21) (p := l0) f_X8_127 rfl dX8_back_18 rfl (fun isKept2 => ?_)
    refine C_iload_n (D := mdX8_back) (pc' := 22) (x := l1) dX8_back_21 rfl 1 rfl ?_
    refine C_aZ (D := mdX8_back) (pc' := 23) (p := isKept2) dX8_back_22 rfl (fun x3 => ?_)
    refine C_if_ne (D := mdX8_back) (pc' := 26) (tgt := 29) dX8_back_23 (by decide) rfl ?_ ?_
    · refine C_iconst (D := mdX8_back) (pc' := 30) (v := 0) dX8_back_29 rfl (by decide) ?_
      refine C_istore_n (D := mdX8_back) (pc' := 31) (ls' := [(2, .int 0), (0, .ref (kB C + l0)), (1, .int l1)]) dX8_back_30 rfl rfl (by decide) rfl ?_
      exact C_sub [1, 2, 0] rfl (C_loop (fun s => [(0, .ref (kB C + l0)), (1, .int l1), (2, .int s)]) (fun k hk s => p_X8_back_B31 C l0 l1  k hk s) FU 0)
    · refine C_bipush (D := mdX8_back) (pc' := 28) (v := (-2)) dX8_back_26 rfl (by decide) ?_
      exact C_iret rfl dX8_back_28
  · refine C_iconst (D := mdX8_back) (pc' := 16) (v := (-1)) dX8_back_15 rfl (by decide) ?_
    exact C_iret rfl dX8_back_16

-- StandingQueriesModel.count(I)I
theorem dX8_count_0 : decode cX8_count 0 = .ok (.aload_n 0, 1) := by decide +kernel
theorem dX8_count_1 : decode cX8_count 1 = .ok (.iconst 0, 1) := by decide +kernel
theorem dX8_count_2 : decode cX8_count 2 = .ok (.putfield 1, 3) := by decide +kernel
theorem dX8_count_5 : decode cX8_count 5 = .ok (.iload_n 1, 1) := by decide +kernel
theorem dX8_count_6 : decode cX8_count 6 = .ok (.tableswitch 72 0 5 #[38, 45, 50, 55, 62, 67], 38) := by decide +kernel
theorem dX8_count_44 : decode cX8_count 44 = .ok (.aload_n 0, 1) := by decide +kernel
theorem dX8_count_45 : decode cX8_count 45 = .ok (.getfield 87, 3) := by decide +kernel
theorem dX8_count_48 : decode cX8_count 48 = .ok (.iconst 0, 1) := by decide +kernel
theorem dX8_count_49 : decode cX8_count 49 = .ok (.iaload, 1) := by decide +kernel
theorem dX8_count_50 : decode cX8_count 50 = .ok (.ireturn, 1) := by decide +kernel
theorem dX8_count_51 : decode cX8_count 51 = .ok (.aload_n 0, 1) := by decide +kernel
theorem dX8_count_52 : decode cX8_count 52 = .ok (.getfield 52, 3) := by decide +kernel
theorem dX8_count_55 : decode cX8_count 55 = .ok (.ireturn, 1) := by decide +kernel
theorem dX8_count_56 : decode cX8_count 56 = .ok (.aload_n 0, 1) := by decide +kernel
theorem dX8_count_57 : decode cX8_count 57 = .ok (.getfield 73, 3) := by decide +kernel
theorem dX8_count_60 : decode cX8_count 60 = .ok (.ireturn, 1) := by decide +kernel
theorem dX8_count_61 : decode cX8_count 61 = .ok (.aload_n 0, 1) := by decide +kernel
theorem dX8_count_62 : decode cX8_count 62 = .ok (.getfield 87, 3) := by decide +kernel
theorem dX8_count_65 : decode cX8_count 65 = .ok (.iconst 1, 1) := by decide +kernel
theorem dX8_count_66 : decode cX8_count 66 = .ok (.iaload, 1) := by decide +kernel
theorem dX8_count_67 : decode cX8_count 67 = .ok (.ireturn, 1) := by decide +kernel
theorem dX8_count_68 : decode cX8_count 68 = .ok (.aload_n 0, 1) := by decide +kernel
theorem dX8_count_69 : decode cX8_count 69 = .ok (.getfield 180, 3) := by decide +kernel
theorem dX8_count_72 : decode cX8_count 72 = .ok (.ireturn, 1) := by decide +kernel
theorem dX8_count_73 : decode cX8_count 73 = .ok (.aload_n 0, 1) := by decide +kernel
theorem dX8_count_74 : decode cX8_count 74 = .ok (.getfield 13, 3) := by decide +kernel
theorem dX8_count_77 : decode cX8_count 77 = .ok (.ireturn, 1) := by decide +kernel
theorem dX8_count_78 : decode cX8_count 78 = .ok (.iconst (-1), 1) := by decide +kernel
theorem dX8_count_79 : decode cX8_count 79 = .ok (.ireturn, 1) := by decide +kernel
abbrev mdX8_count : MD := (cX8_count, RX8, 2, (some .int), yX8_count.name, 0, 0, eT)
set_option maxHeartbeats 2000000 in
set_option maxRecDepth 20000 in
theorem i_X8_count (C : KX) (l0 : Nat) (l1 : Int32) : Imp C yX8_count cX8_count 2 (some .int) 0 0 rvI [.ref (kB C + l0), .int l1] (m_X8_count l0 l1) := by
  refine Imp.of (by decide) (Nat.le_of_ble_eq_true rfl) [(0, .ref (kB C + l0)), (1, .int l1)] rfl ?_
  show Cmp C mdX8_count (QM rvI) 0 [(0, .ref (kB C + l0)), (1, .int l1)] [] (m_X8_count l0 l1)
  unfold m_X8_count
  refine C_aload_n (D := mdX8_count) (pc' := 1) (x := kB C + l0) dX8_count_0 rfl 0 rfl ?_
  refine C_iconst (D := mdX8_count) (pc' := 2) (v := 0) dX8_count_1 rfl (by decide) ?_
  refine C_putI (D := mdX8_count) (pc' := 5) (p := l0) f_X8_1 rfl dX8_count_2 rfl ?_
  refine C_iload_n (D := mdX8_count) (pc' := 6) (x := l1) dX8_count_5 rfl 1 rfl ?_
  refine C_tcase (D := mdX8_count) (c := 0) 0 (by decide) (tgt := 44) dX8_count_6 (by decide) (by decide) rfl (by decide) ?_ (fun h0 => ?_)
  · refine C_aload_n (D := mdX8_count) (pc' := 45) (x := kB C + l0) dX8_count_44 rfl 0 rfl ?_
    refine C_getR (D := mdX8_count) (pc' := 48) (p := l0) f_X8_87 rfl dX8_count_45 rfl (fun now1 => ?_)
    refine C_iconst (D := mdX8_count) (pc' := 49) (v := 0) dX8_count_48 rfl (by decide) ?_
    refine C_aI (D := mdX8_count) (pc' := 50) (p := now1) dX8_count_49 rfl (fun x2 => ?_)
    exact C_iret rfl dX8_count_50
  refine C_tcase (D := mdX8_count) (c := 1) 1 (by decide) (tgt := 51) dX8_count_6 (by decide) (by decide) rfl (by decide) ?_ (fun h1 => ?_)
  · refine C_aload_n (D := mdX8_count) (pc' := 52) (x := kB C + l0) dX8_count_51 rfl 0 rfl ?_
    refine C_getI (D := mdX8_count) (pc' := 55) (p := l0) f_X8_52 rfl dX8_count_52 rfl (fun wordMany3 => ?_)
    exact C_iret rfl dX8_count_55
  refine C_tcase (D := mdX8_count) (c := 2) 2 (by decide) (tgt := 56) dX8_count_6 (by decide) (by decide) rfl (by decide) ?_ (fun h2 => ?_)
  · refine C_aload_n (D := mdX8_count) (pc' := 57) (x := kB C + l0) dX8_count_56 rfl 0 rfl ?_
    refine C_getI (D := mdX8_count) (pc' := 60) (p := l0) f_X8_73 rfl dX8_count_57 rfl (fun nodeMany4 => ?_)
    exact C_iret rfl dX8_count_60
  refine C_tcase (D := mdX8_count) (c := 3) 3 (by decide) (tgt := 61) dX8_count_6 (by decide) (by decide) rfl (by decide) ?_ (fun h3 => ?_)
  · refine C_aload_n (D := mdX8_count) (pc' := 62) (x := kB C + l0) dX8_count_61 rfl 0 rfl ?_
    refine C_getR (D := mdX8_count) (pc' := 65) (p := l0) f_X8_87 rfl dX8_count_62 rfl (fun now5 => ?_)
    refine C_iconst (D := mdX8_count) (pc' := 66) (v := 1) dX8_count_65 rfl (by decide) ?_
    refine C_aI (D := mdX8_count) (pc' := 67) (p := now5) dX8_count_66 rfl (fun x6 => ?_)
    exact C_iret rfl dX8_count_67
  refine C_tcase (D := mdX8_count) (c := 4) 4 (by decide) (tgt := 68) dX8_count_6 (by decide) (by decide) rfl (by decide) ?_ (fun h4 => ?_)
  · refine C_aload_n (D := mdX8_count) (pc' := 69) (x := kB C + l0) dX8_count_68 rfl 0 rfl ?_
    refine C_getI (D := mdX8_count) (pc' := 72) (p := l0) f_X8_180 rfl dX8_count_69 rfl (fun acts7 => ?_)
    exact C_iret rfl dX8_count_72
  refine C_tcase (D := mdX8_count) (c := 5) 5 (by decide) (tgt := 73) dX8_count_6 (by decide) (by decide) rfl (by decide) ?_ (fun h5 => ?_)
  · refine C_aload_n (D := mdX8_count) (pc' := 74) (x := kB C + l0) dX8_count_73 rfl 0 rfl ?_
    refine C_getI (D := mdX8_count) (pc' := 77) (p := l0) f_X8_13 rfl dX8_count_74 rfl (fun typed8 => ?_)
    exact C_iret rfl dX8_count_77
  refine C_tdef (D := mdX8_count) (tgt := 78) dX8_count_6 (by omega) (by decide) ?_
  refine C_iconst (D := mdX8_count) (pc' := 79) (v := (-1)) dX8_count_78 rfl (by decide) ?_
  exact C_iret rfl dX8_count_79
