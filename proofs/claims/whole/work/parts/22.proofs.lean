-- StandingQueries.drops(I)I
theorem dX7_drops_0 : decode cX7_drops 0 = .ok (.aload_n 0, 1) := by decide +kernel
theorem dX7_drops_1 : decode cX7_drops 1 = .ok (.iload_n 1, 1) := by decide +kernel
theorem dX7_drops_2 : decode cX7_drops 2 = .ok (.invokevirtual 82, 3) := by decide +kernel
theorem dX7_drops_5 : decode cX7_drops 5 = .ok (.ifCond .ne 5, 3) := by decide +kernel
theorem dX7_drops_8 : decode cX7_drops 8 = .ok (.iconst (-1), 1) := by decide +kernel
theorem dX7_drops_9 : decode cX7_drops 9 = .ok (.ireturn, 1) := by decide +kernel
theorem dX7_drops_10 : decode cX7_drops 10 = .ok (.aload_n 0, 1) := by decide +kernel
theorem dX7_drops_11 : decode cX7_drops 11 = .ok (.getfield 26, 3) := by decide +kernel
theorem dX7_drops_14 : decode cX7_drops 14 = .ok (.aload_n 0, 1) := by decide +kernel
theorem dX7_drops_15 : decode cX7_drops 15 = .ok (.getfield 19, 3) := by decide +kernel
theorem dX7_drops_18 : decode cX7_drops 18 = .ok (.invokevirtual 72, 3) := by decide +kernel
theorem dX7_drops_21 : decode cX7_drops 21 = .ok (.aload_n 0, 1) := by decide +kernel
theorem dX7_drops_22 : decode cX7_drops 22 = .ok (.getfield 19, 3) := by decide +kernel
theorem dX7_drops_25 : decode cX7_drops 25 = .ok (.iload_n 1, 1) := by decide +kernel
theorem dX7_drops_26 : decode cX7_drops 26 = .ok (.invokevirtual 85, 3) := by decide +kernel
theorem dX7_drops_29 : decode cX7_drops 29 = .ok (.aload_n 0, 1) := by decide +kernel
theorem dX7_drops_30 : decode cX7_drops 30 = .ok (.invokevirtual 79, 3) := by decide +kernel
theorem dX7_drops_33 : decode cX7_drops 33 = .ok (.aload_n 0, 1) := by decide +kernel
theorem dX7_drops_34 : decode cX7_drops 34 = .ok (.getfield 19, 3) := by decide +kernel
theorem dX7_drops_37 : decode cX7_drops 37 = .ok (.getfield 69, 3) := by decide +kernel
theorem dX7_drops_40 : decode cX7_drops 40 = .ok (.ireturn, 1) := by decide +kernel
abbrev mdX7_drops : MD := (cX7_drops, RX7, 2, (some .int), yX7_drops.name, 5, 110, eT)
set_option maxHeartbeats 2000000 in
set_option maxRecDepth 20000 in
theorem i_X7_drops (C : KX) (l0 : Nat) (l1 : Int32) : Imp C yX7_drops cX7_drops 2 (some .int) 5 110 rvI [.ref (kB C + l0), .int l1] (m_X7_drops l0 l1) := by
  refine Imp.of (by decide) (Nat.le_of_ble_eq_true rfl) [(0, .ref (kB C + l0)), (1, .int l1)] rfl ?_
  show Cmp C mdX7_drops (QM rvI) 0 [(0, .ref (kB C + l0)), (1, .int l1)] [] (m_X7_drops l0 l1)
  unfold m_X7_drops
  refine C_aload_n (D := mdX7_drops) (pc' := 1) (x := kB C + l0) dX7_drops_0 rfl 0 rfl ?_
  refine C_iload_n (D := mdX7_drops) (pc' := 2) (x := l1) dX7_drops_1 rfl 1 rfl ?_
  refine C_callV (D := mdX7_drops) (pc' := 5) (p := l0) (st := []) [.int l1] v_X7_82 (i_X7_isQuery C l0 l1) dX7_drops_2 rfl rfl rfl (Nat.le_of_ble_eq_true rfl) (by decide) (by decide) (fun c1 => ?_)
  refine C_if_ne (D := mdX7_drops) (pc' := 8) (tgt := 10) dX7_drops_5 (by decide) rfl ?_ ?_
  · refine C_aload_n (D := mdX7_drops) (pc' := 11) (x := kB C + l0) dX7_drops_10 rfl 0 rfl ?_
    refine C_getR (D := mdX7_drops) (pc' := 14) (p := l0) f_X7_26 rfl dX7_drops_11 rfl (fun history2 => ?_)
    refine C_aload_n (D := mdX7_drops) (pc' := 15) (x := kB C + l0) dX7_drops_14 rfl 0 rfl ?_
    refine C_getR (D := mdX7_drops) (pc' := 18) (p := l0) f_X7_19 rfl dX7_drops_15 rfl (fun held3 => ?_)
    refine C_callV (D := mdX7_drops) (pc' := 21) (p := history2) (st := []) [.ref (kB C + held3)] v_X7_72 (i_X2_push C history2 held3) dX7_drops_18 rfl rfl rfl (Nat.le_of_ble_eq_true rfl) (by decide) (by decide) (fun _ => ?_)
    refine C_aload_n (D := mdX7_drops) (pc' := 22) (x := kB C + l0) dX7_drops_21 rfl 0 rfl ?_
    refine C_getR (D := mdX7_drops) (pc' := 25) (p := l0) f_X7_19 rfl dX7_drops_22 rfl (fun held4 => ?_)
    refine C_iload_n (D := mdX7_drops) (pc' := 26) (x := l1) dX7_drops_25 rfl 1 rfl ?_
    refine C_callV (D := mdX7_drops) (pc' := 29) (p := held4) (st := []) [.int l1] v_X7_85 (i_X1_dropQuery C held4 l1) dX7_drops_26 rfl rfl rfl (Nat.le_of_ble_eq_true rfl) (by decide) (by decide) (fun _ => ?_)
    refine C_aload_n (D := mdX7_drops) (pc' := 30) (x := kB C + l0) dX7_drops_29 rfl 0 rfl ?_
    refine C_callV (D := mdX7_drops) (pc' := 33) (p := l0) (st := []) [] v_X7_79 (i_X7_rebuild C l0) dX7_drops_30 rfl rfl rfl (Nat.le_of_ble_eq_true rfl) (by decide) (by decide) (fun _ => ?_)
    refine C_aload_n (D := mdX7_drops) (pc' := 34) (x := kB C + l0) dX7_drops_33 rfl 0 rfl ?_
    refine C_getR (D := mdX7_drops) (pc' := 37) (p := l0) f_X7_19 rfl dX7_drops_34 rfl (fun held5 => ?_)
    refine C_getI (D := mdX7_drops) (pc' := 40) (p := held5) f_X7_69 rfl dX7_drops_37 rfl (fun queries6 => ?_)
    exact C_iret rfl dX7_drops_40
  · refine C_iconst (D := mdX7_drops) (pc' := 9) (v := (-1)) dX7_drops_8 rfl (by decide) ?_
    exact C_iret rfl dX7_drops_9

-- StandingQueries.feeds(I)I
theorem dX7_feeds_0 : decode cX7_feeds 0 = .ok (.iload_n 1, 1) := by decide +kernel
theorem dX7_feeds_1 : decode cX7_feeds 1 = .ok (.invokestatic 88, 3) := by decide +kernel
theorem dX7_feeds_4 : decode cX7_feeds 4 = .ok (.ifCond .ne 5, 3) := by decide +kernel
theorem dX7_feeds_7 : decode cX7_feeds 7 = .ok (.iconst (-1), 1) := by decide +kernel
theorem dX7_feeds_8 : decode cX7_feeds 8 = .ok (.ireturn, 1) := by decide +kernel
theorem dX7_feeds_9 : decode cX7_feeds 9 = .ok (.aload_n 0, 1) := by decide +kernel
theorem dX7_feeds_10 : decode cX7_feeds 10 = .ok (.getfield 19, 3) := by decide +kernel
theorem dX7_feeds_13 : decode cX7_feeds 13 = .ok (.getfield 91, 3) := by decide +kernel
theorem dX7_feeds_16 : decode cX7_feeds 16 = .ok (.bipush 40, 2) := by decide +kernel
theorem dX7_feeds_18 : decode cX7_feeds 18 = .ok (.if_icmp .lt 6, 3) := by decide +kernel
theorem dX7_feeds_21 : decode cX7_feeds 21 = .ok (.bipush (-3), 2) := by decide +kernel
theorem dX7_feeds_23 : decode cX7_feeds 23 = .ok (.ireturn, 1) := by decide +kernel
theorem dX7_feeds_24 : decode cX7_feeds 24 = .ok (.aload_n 0, 1) := by decide +kernel
theorem dX7_feeds_25 : decode cX7_feeds 25 = .ok (.getfield 26, 3) := by decide +kernel
theorem dX7_feeds_28 : decode cX7_feeds 28 = .ok (.aload_n 0, 1) := by decide +kernel
theorem dX7_feeds_29 : decode cX7_feeds 29 = .ok (.getfield 19, 3) := by decide +kernel
theorem dX7_feeds_32 : decode cX7_feeds 32 = .ok (.invokevirtual 72, 3) := by decide +kernel
theorem dX7_feeds_35 : decode cX7_feeds 35 = .ok (.aload_n 0, 1) := by decide +kernel
theorem dX7_feeds_36 : decode cX7_feeds 36 = .ok (.getfield 19, 3) := by decide +kernel
theorem dX7_feeds_39 : decode cX7_feeds 39 = .ok (.getfield 94, 3) := by decide +kernel
theorem dX7_feeds_42 : decode cX7_feeds 42 = .ok (.aload_n 0, 1) := by decide +kernel
theorem dX7_feeds_43 : decode cX7_feeds 43 = .ok (.getfield 19, 3) := by decide +kernel
theorem dX7_feeds_46 : decode cX7_feeds 46 = .ok (.getfield 91, 3) := by decide +kernel
theorem dX7_feeds_49 : decode cX7_feeds 49 = .ok (.iload_n 1, 1) := by decide +kernel
theorem dX7_feeds_50 : decode cX7_feeds 50 = .ok (.bipush 97, 2) := by decide +kernel
theorem dX7_feeds_52 : decode cX7_feeds 52 = .ok (.isub, 1) := by decide +kernel
theorem dX7_feeds_53 : decode cX7_feeds 53 = .ok (.iastore, 1) := by decide +kernel
theorem dX7_feeds_54 : decode cX7_feeds 54 = .ok (.aload_n 0, 1) := by decide +kernel
theorem dX7_feeds_55 : decode cX7_feeds 55 = .ok (.getfield 19, 3) := by decide +kernel
theorem dX7_feeds_58 : decode cX7_feeds 58 = .ok (.dup, 1) := by decide +kernel
theorem dX7_feeds_59 : decode cX7_feeds 59 = .ok (.getfield 91, 3) := by decide +kernel
theorem dX7_feeds_62 : decode cX7_feeds 62 = .ok (.iconst 1, 1) := by decide +kernel
theorem dX7_feeds_63 : decode cX7_feeds 63 = .ok (.iadd, 1) := by decide +kernel
theorem dX7_feeds_64 : decode cX7_feeds 64 = .ok (.putfield 91, 3) := by decide +kernel
theorem dX7_feeds_67 : decode cX7_feeds 67 = .ok (.aload_n 0, 1) := by decide +kernel
theorem dX7_feeds_68 : decode cX7_feeds 68 = .ok (.invokevirtual 98, 3) := by decide +kernel
theorem dX7_feeds_71 : decode cX7_feeds 71 = .ok (.aload_n 0, 1) := by decide +kernel
theorem dX7_feeds_72 : decode cX7_feeds 72 = .ok (.getfield 101, 3) := by decide +kernel
theorem dX7_feeds_75 : decode cX7_feeds 75 = .ok (.ireturn, 1) := by decide +kernel
abbrev mdX7_feeds : MD := (cX7_feeds, RX7, 2, (some .int), yX7_feeds.name, 3, 61, eT)
set_option maxHeartbeats 2000000 in
set_option maxRecDepth 20000 in
theorem i_X7_feeds (C : KX) (l0 : Nat) (l1 : Int32) : Imp C yX7_feeds cX7_feeds 2 (some .int) 3 61 rvI [.ref (kB C + l0), .int l1] (m_X7_feeds l0 l1) := by
  refine Imp.of (by decide) (Nat.le_of_ble_eq_true rfl) [(0, .ref (kB C + l0)), (1, .int l1)] rfl ?_
  show Cmp C mdX7_feeds (QM rvI) 0 [(0, .ref (kB C + l0)), (1, .int l1)] [] (m_X7_feeds l0 l1)
  unfold m_X7_feeds
  refine C_iload_n (D := mdX7_feeds) (pc' := 1) (x := l1) dX7_feeds_0 rfl 1 rfl ?_
  refine C_callS (D := mdX7_feeds) (pc' := 4) (st := []) [.int l1] s_X7_88 (i_X7_isLetter C l1) dX7_feeds_1 rfl rfl rfl (Nat.le_of_ble_eq_true rfl) (by decide) (by decide) (fun c1 => ?_)
  refine C_if_ne (D := mdX7_feeds) (pc' := 7) (tgt := 9) dX7_feeds_4 (by decide) rfl ?_ ?_
  · refine C_aload_n (D := mdX7_feeds) (pc' := 10) (x := kB C + l0) dX7_feeds_9 rfl 0 rfl ?_
    refine C_getR (D := mdX7_feeds) (pc' := 13) (p := l0) f_X7_19 rfl dX7_feeds_10 rfl (fun held2 => ?_)
    refine C_getI (D := mdX7_feeds) (pc' := 16) (p := held2) f_X7_91 rfl dX7_feeds_13 rfl (fun letters3 => ?_)
    refine C_bipush (D := mdX7_feeds) (pc' := 18) (v := 40) dX7_feeds_16 rfl (by decide) ?_
    refine C_icmp_lt (D := mdX7_feeds) (pc' := 21) (tgt := 24) dX7_feeds_18 (by decide) rfl ?_ ?_
    · refine C_aload_n (D := mdX7_feeds) (pc' := 25) (x := kB C + l0) dX7_feeds_24 rfl 0 rfl ?_
      refine C_getR (D := mdX7_feeds) (pc' := 28) (p := l0) f_X7_26 rfl dX7_feeds_25 rfl (fun history4 => ?_)
      refine C_aload_n (D := mdX7_feeds) (pc' := 29) (x := kB C + l0) dX7_feeds_28 rfl 0 rfl ?_
      refine C_getR (D := mdX7_feeds) (pc' := 32) (p := l0) f_X7_19 rfl dX7_feeds_29 rfl (fun held5 => ?_)
      refine C_callV (D := mdX7_feeds) (pc' := 35) (p := history4) (st := []) [.ref (kB C + held5)] v_X7_72 (i_X2_push C history4 held5) dX7_feeds_32 rfl rfl rfl (Nat.le_of_ble_eq_true rfl) (by decide) (by decide) (fun _ => ?_)
      refine C_aload_n (D := mdX7_feeds) (pc' := 36) (x := kB C + l0) dX7_feeds_35 rfl 0 rfl ?_
      refine C_getR (D := mdX7_feeds) (pc' := 39) (p := l0) f_X7_19 rfl dX7_feeds_36 rfl (fun held6 => ?_)
      refine C_getR (D := mdX7_feeds) (pc' := 42) (p := held6) f_X7_94 rfl dX7_feeds_39 rfl (fun row7 => ?_)
      refine C_aload_n (D := mdX7_feeds) (pc' := 43) (x := kB C + l0) dX7_feeds_42 rfl 0 rfl ?_
      refine C_getR (D := mdX7_feeds) (pc' := 46) (p := l0) f_X7_19 rfl dX7_feeds_43 rfl (fun held8 => ?_)
      refine C_getI (D := mdX7_feeds) (pc' := 49) (p := held8) f_X7_91 rfl dX7_feeds_46 rfl (fun letters9 => ?_)
      refine C_iload_n (D := mdX7_feeds) (pc' := 50) (x := l1) dX7_feeds_49 rfl 1 rfl ?_
      refine C_bipush (D := mdX7_feeds) (pc' := 52) (v := 97) dX7_feeds_50 rfl (by decide) ?_
      refine C_isub (D := mdX7_feeds) (pc' := 53) dX7_feeds_52 rfl ?_
      refine C_tI (D := mdX7_feeds) (pc' := 54) (p := row7) dX7_feeds_53 rfl ?_
      refine C_aload_n (D := mdX7_feeds) (pc' := 55) (x := kB C + l0) dX7_feeds_54 rfl 0 rfl ?_
      refine C_getR (D := mdX7_feeds) (pc' := 58) (p := l0) f_X7_19 rfl dX7_feeds_55 rfl (fun held10 => ?_)
      refine C_dup (D := mdX7_feeds) (pc' := 59) dX7_feeds_58 rfl rfl ?_
      refine C_getI (D := mdX7_feeds) (pc' := 62) (p := held10) f_X7_91 rfl dX7_feeds_59 rfl (fun letters11 => ?_)
      refine C_iconst (D := mdX7_feeds) (pc' := 63) (v := 1) dX7_feeds_62 rfl (by decide) ?_
      refine C_iadd (D := mdX7_feeds) (pc' := 64) dX7_feeds_63 rfl ?_
      refine C_putI (D := mdX7_feeds) (pc' := 67) (p := held10) f_X7_91 rfl dX7_feeds_64 rfl ?_
      refine C_aload_n (D := mdX7_feeds) (pc' := 68) (x := kB C + l0) dX7_feeds_67 rfl 0 rfl ?_
      refine C_callV (D := mdX7_feeds) (pc' := 71) (p := l0) (st := []) [] v_X7_98 (i_X7_walk C l0) dX7_feeds_68 rfl rfl rfl (Nat.le_of_ble_eq_true rfl) (by decide) (by decide) (fun _ => ?_)
      refine C_aload_n (D := mdX7_feeds) (pc' := 72) (x := kB C + l0) dX7_feeds_71 rfl 0 rfl ?_
      refine C_getI (D := mdX7_feeds) (pc' := 75) (p := l0) f_X7_101 rfl dX7_feeds_72 rfl (fun at12 => ?_)
      exact C_iret rfl dX7_feeds_75
    · refine C_bipush (D := mdX7_feeds) (pc' := 23) (v := (-3)) dX7_feeds_21 rfl (by decide) ?_
      exact C_iret rfl dX7_feeds_23
  · refine C_iconst (D := mdX7_feeds) (pc' := 8) (v := (-1)) dX7_feeds_7 rfl (by decide) ?_
    exact C_iret rfl dX7_feeds_8

-- StandingQueries.cuts()I
theorem dX7_cuts_0 : decode cX7_cuts 0 = .ok (.aload_n 0, 1) := by decide +kernel
theorem dX7_cuts_1 : decode cX7_cuts 1 = .ok (.getfield 19, 3) := by decide +kernel
theorem dX7_cuts_4 : decode cX7_cuts 4 = .ok (.getfield 91, 3) := by decide +kernel
theorem dX7_cuts_7 : decode cX7_cuts 7 = .ok (.ifCond .gt 6, 3) := by decide +kernel
theorem dX7_cuts_10 : decode cX7_cuts 10 = .ok (.bipush (-2), 2) := by decide +kernel
theorem dX7_cuts_12 : decode cX7_cuts 12 = .ok (.ireturn, 1) := by decide +kernel
theorem dX7_cuts_13 : decode cX7_cuts 13 = .ok (.aload_n 0, 1) := by decide +kernel
theorem dX7_cuts_14 : decode cX7_cuts 14 = .ok (.getfield 26, 3) := by decide +kernel
theorem dX7_cuts_17 : decode cX7_cuts 17 = .ok (.aload_n 0, 1) := by decide +kernel
theorem dX7_cuts_18 : decode cX7_cuts 18 = .ok (.getfield 19, 3) := by decide +kernel
theorem dX7_cuts_21 : decode cX7_cuts 21 = .ok (.invokevirtual 72, 3) := by decide +kernel
theorem dX7_cuts_24 : decode cX7_cuts 24 = .ok (.aload_n 0, 1) := by decide +kernel
theorem dX7_cuts_25 : decode cX7_cuts 25 = .ok (.getfield 19, 3) := by decide +kernel
theorem dX7_cuts_28 : decode cX7_cuts 28 = .ok (.dup, 1) := by decide +kernel
theorem dX7_cuts_29 : decode cX7_cuts 29 = .ok (.getfield 91, 3) := by decide +kernel
theorem dX7_cuts_32 : decode cX7_cuts 32 = .ok (.iconst 1, 1) := by decide +kernel
theorem dX7_cuts_33 : decode cX7_cuts 33 = .ok (.isub, 1) := by decide +kernel
theorem dX7_cuts_34 : decode cX7_cuts 34 = .ok (.putfield 91, 3) := by decide +kernel
theorem dX7_cuts_37 : decode cX7_cuts 37 = .ok (.aload_n 0, 1) := by decide +kernel
theorem dX7_cuts_38 : decode cX7_cuts 38 = .ok (.getfield 19, 3) := by decide +kernel
theorem dX7_cuts_41 : decode cX7_cuts 41 = .ok (.getfield 94, 3) := by decide +kernel
theorem dX7_cuts_44 : decode cX7_cuts 44 = .ok (.aload_n 0, 1) := by decide +kernel
theorem dX7_cuts_45 : decode cX7_cuts 45 = .ok (.getfield 19, 3) := by decide +kernel
theorem dX7_cuts_48 : decode cX7_cuts 48 = .ok (.getfield 91, 3) := by decide +kernel
theorem dX7_cuts_51 : decode cX7_cuts 51 = .ok (.iaload, 1) := by decide +kernel
theorem dX7_cuts_52 : decode cX7_cuts 52 = .ok (.bipush 97, 2) := by decide +kernel
theorem dX7_cuts_54 : decode cX7_cuts 54 = .ok (.iadd, 1) := by decide +kernel
theorem dX7_cuts_55 : decode cX7_cuts 55 = .ok (.istore_n 1, 1) := by decide +kernel
theorem dX7_cuts_56 : decode cX7_cuts 56 = .ok (.aload_n 0, 1) := by decide +kernel
theorem dX7_cuts_57 : decode cX7_cuts 57 = .ok (.invokevirtual 98, 3) := by decide +kernel
theorem dX7_cuts_60 : decode cX7_cuts 60 = .ok (.iload_n 1, 1) := by decide +kernel
theorem dX7_cuts_61 : decode cX7_cuts 61 = .ok (.ireturn, 1) := by decide +kernel
abbrev mdX7_cuts : MD := (cX7_cuts, RX7, 2, (some .int), yX7_cuts.name, 3, 61, eT)
set_option maxHeartbeats 2000000 in
set_option maxRecDepth 20000 in
theorem i_X7_cuts (C : KX) (l0 : Nat) : Imp C yX7_cuts cX7_cuts 2 (some .int) 3 61 rvI [.ref (kB C + l0)] (m_X7_cuts l0) := by
  refine Imp.of (by decide) (Nat.le_of_ble_eq_true rfl) [(0, .ref (kB C + l0))] rfl ?_
  show Cmp C mdX7_cuts (QM rvI) 0 [(0, .ref (kB C + l0))] [] (m_X7_cuts l0)
  unfold m_X7_cuts
  refine C_aload_n (D := mdX7_cuts) (pc' := 1) (x := kB C + l0) dX7_cuts_0 rfl 0 rfl ?_
  refine C_getR (D := mdX7_cuts) (pc' := 4) (p := l0) f_X7_19 rfl dX7_cuts_1 rfl (fun held1 => ?_)
  refine C_getI (D := mdX7_cuts) (pc' := 7) (p := held1) f_X7_91 rfl dX7_cuts_4 rfl (fun letters2 => ?_)
  refine C_if_gt (D := mdX7_cuts) (pc' := 10) (tgt := 13) dX7_cuts_7 (by decide) rfl ?_ ?_
  · refine C_aload_n (D := mdX7_cuts) (pc' := 14) (x := kB C + l0) dX7_cuts_13 rfl 0 rfl ?_
    refine C_getR (D := mdX7_cuts) (pc' := 17) (p := l0) f_X7_26 rfl dX7_cuts_14 rfl (fun history3 => ?_)
    refine C_aload_n (D := mdX7_cuts) (pc' := 18) (x := kB C + l0) dX7_cuts_17 rfl 0 rfl ?_
    refine C_getR (D := mdX7_cuts) (pc' := 21) (p := l0) f_X7_19 rfl dX7_cuts_18 rfl (fun held4 => ?_)
    refine C_callV (D := mdX7_cuts) (pc' := 24) (p := history3) (st := []) [.ref (kB C + held4)] v_X7_72 (i_X2_push C history3 held4) dX7_cuts_21 rfl rfl rfl (Nat.le_of_ble_eq_true rfl) (by decide) (by decide) (fun _ => ?_)
    refine C_aload_n (D := mdX7_cuts) (pc' := 25) (x := kB C + l0) dX7_cuts_24 rfl 0 rfl ?_
    refine C_getR (D := mdX7_cuts) (pc' := 28) (p := l0) f_X7_19 rfl dX7_cuts_25 rfl (fun held5 => ?_)
    refine C_dup (D := mdX7_cuts) (pc' := 29) dX7_cuts_28 rfl rfl ?_
    refine C_getI (D := mdX7_cuts) (pc' := 32) (p := held5) f_X7_91 rfl dX7_cuts_29 rfl (fun letters6 => ?_)
    refine C_iconst (D := mdX7_cuts) (pc' := 33) (v := 1) dX7_cuts_32 rfl (by decide) ?_
    refine C_isub (D := mdX7_cuts) (pc' := 34) dX7_cuts_33 rfl ?_
    refine C_putI (D := mdX7_cuts) (pc' := 37) (p := held5) f_X7_91 rfl dX7_cuts_34 rfl ?_
    refine C_aload_n (D := mdX7_cuts) (pc' := 38) (x := kB C + l0) dX7_cuts_37 rfl 0 rfl ?_
    refine C_getR (D := mdX7_cuts) (pc' := 41) (p := l0) f_X7_19 rfl dX7_cuts_38 rfl (fun held7 => ?_)
    refine C_getR (D := mdX7_cuts) (pc' := 44) (p := held7) f_X7_94 rfl dX7_cuts_41 rfl (fun row8 => ?_)
    refine C_aload_n (D := mdX7_cuts) (pc' := 45) (x := kB C + l0) dX7_cuts_44 rfl 0 rfl ?_
    refine C_getR (D := mdX7_cuts) (pc' := 48) (p := l0) f_X7_19 rfl dX7_cuts_45 rfl (fun held9 => ?_)
    refine C_getI (D := mdX7_cuts) (pc' := 51) (p := held9) f_X7_91 rfl dX7_cuts_48 rfl (fun letters10 => ?_)
    refine C_aI (D := mdX7_cuts) (pc' := 52) (p := row8) dX7_cuts_51 rfl (fun x11 => ?_)
    refine C_bipush (D := mdX7_cuts) (pc' := 54) (v := 97) dX7_cuts_52 rfl (by decide) ?_
    refine C_iadd (D := mdX7_cuts) (pc' := 55) dX7_cuts_54 rfl ?_
    refine C_letI (fun v12 => ?_)
    refine C_istore_n (D := mdX7_cuts) (pc' := 56) (ls' := [(1, .int v12), (0, .ref (kB C + l0))]) dX7_cuts_55 rfl rfl (by decide) rfl ?_
    refine C_aload_n (D := mdX7_cuts) (pc' := 57) (x := kB C + l0) dX7_cuts_56 rfl 1 rfl ?_
    refine C_callV (D := mdX7_cuts) (pc' := 60) (p := l0) (st := []) [] v_X7_98 (i_X7_walk C l0) dX7_cuts_57 rfl rfl rfl (Nat.le_of_ble_eq_true rfl) (by decide) (by decide) (fun _ => ?_)
    refine C_iload_n (D := mdX7_cuts) (pc' := 61) (x := v12) dX7_cuts_60 rfl 0 rfl ?_
    exact C_iret rfl dX7_cuts_61
  · refine C_bipush (D := mdX7_cuts) (pc' := 12) (v := (-2)) dX7_cuts_10 rfl (by decide) ?_
    exact C_iret rfl dX7_cuts_12

-- StandingQueries$History.popInto(LStandingQueries$Held;)Z
theorem dX2_popInto_0 : decode cX2_popInto 0 = .ok (.aload_n 0, 1) := by decide +kernel
theorem dX2_popInto_1 : decode cX2_popInto 1 = .ok (.getfield 11, 3) := by decide +kernel
theorem dX2_popInto_4 : decode cX2_popInto 4 = .ok (.aload_n 0, 1) := by decide +kernel
theorem dX2_popInto_5 : decode cX2_popInto 5 = .ok (.getfield 17, 3) := by decide +kernel
theorem dX2_popInto_8 : decode cX2_popInto 8 = .ok (.aaload, 1) := by decide +kernel
theorem dX2_popInto_9 : decode cX2_popInto 9 = .ok (.astore_n 2, 1) := by decide +kernel
theorem dX2_popInto_10 : decode cX2_popInto 10 = .ok (.aload_n 0, 1) := by decide +kernel
theorem dX2_popInto_11 : decode cX2_popInto 11 = .ok (.getfield 26, 3) := by decide +kernel
theorem dX2_popInto_14 : decode cX2_popInto 14 = .ok (.ifCond .le 7, 3) := by decide +kernel
theorem dX2_popInto_17 : decode cX2_popInto 17 = .ok (.aload_n 2, 1) := by decide +kernel
theorem dX2_popInto_18 : decode cX2_popInto 18 = .ok (.ifnonnull 5, 3) := by decide +kernel
theorem dX2_popInto_21 : decode cX2_popInto 21 = .ok (.iconst 0, 1) := by decide +kernel
theorem dX2_popInto_22 : decode cX2_popInto 22 = .ok (.ireturn, 1) := by decide +kernel
theorem dX2_popInto_23 : decode cX2_popInto 23 = .ok (.aload_n 1, 1) := by decide +kernel
theorem dX2_popInto_24 : decode cX2_popInto 24 = .ok (.aload_n 2, 1) := by decide +kernel
theorem dX2_popInto_25 : decode cX2_popInto 25 = .ok (.invokevirtual 22, 3) := by decide +kernel
theorem dX2_popInto_28 : decode cX2_popInto 28 = .ok (.aload_n 0, 1) := by decide +kernel
theorem dX2_popInto_29 : decode cX2_popInto 29 = .ok (.aload_n 0, 1) := by decide +kernel
theorem dX2_popInto_30 : decode cX2_popInto 30 = .ok (.getfield 17, 3) := by decide +kernel
theorem dX2_popInto_33 : decode cX2_popInto 33 = .ok (.bipush 10, 2) := by decide +kernel
theorem dX2_popInto_35 : decode cX2_popInto 35 = .ok (.iadd, 1) := by decide +kernel
theorem dX2_popInto_36 : decode cX2_popInto 36 = .ok (.iconst 1, 1) := by decide +kernel
theorem dX2_popInto_37 : decode cX2_popInto 37 = .ok (.isub, 1) := by decide +kernel
theorem dX2_popInto_38 : decode cX2_popInto 38 = .ok (.bipush 10, 2) := by decide +kernel
theorem dX2_popInto_40 : decode cX2_popInto 40 = .ok (.irem, 1) := by decide +kernel
theorem dX2_popInto_41 : decode cX2_popInto 41 = .ok (.putfield 17, 3) := by decide +kernel
theorem dX2_popInto_44 : decode cX2_popInto 44 = .ok (.aload_n 0, 1) := by decide +kernel
theorem dX2_popInto_45 : decode cX2_popInto 45 = .ok (.dup, 1) := by decide +kernel
theorem dX2_popInto_46 : decode cX2_popInto 46 = .ok (.getfield 26, 3) := by decide +kernel
theorem dX2_popInto_49 : decode cX2_popInto 49 = .ok (.iconst 1, 1) := by decide +kernel
theorem dX2_popInto_50 : decode cX2_popInto 50 = .ok (.isub, 1) := by decide +kernel
theorem dX2_popInto_51 : decode cX2_popInto 51 = .ok (.putfield 26, 3) := by decide +kernel
theorem dX2_popInto_54 : decode cX2_popInto 54 = .ok (.iconst 1, 1) := by decide +kernel
theorem dX2_popInto_55 : decode cX2_popInto 55 = .ok (.ireturn, 1) := by decide +kernel
abbrev mdX2_popInto : MD := (cX2_popInto, RX2, 3, (some .boolean), yX2_popInto.name, 2, 39, eT)
set_option maxHeartbeats 2000000 in
set_option maxRecDepth 20000 in
theorem i_X2_popInto (C : KX) (l0 : Nat) (l1 : Nat) : Imp C yX2_popInto cX2_popInto 3 (some .boolean) 2 39 rvI [.ref (kB C + l0), .ref (kB C + l1)] (m_X2_popInto l0 l1) := by
  refine Imp.of (by decide) (Nat.le_of_ble_eq_true rfl) [(0, .ref (kB C + l0)), (1, .ref (kB C + l1))] rfl ?_
  show Cmp C mdX2_popInto (QM rvI) 0 [(0, .ref (kB C + l0)), (1, .ref (kB C + l1))] [] (m_X2_popInto l0 l1)
  unfold m_X2_popInto
  refine C_aload_n (D := mdX2_popInto) (pc' := 1) (x := kB C + l0) dX2_popInto_0 rfl 0 rfl ?_
  refine C_getR (D := mdX2_popInto) (pc' := 4) (p := l0) f_X2_11 rfl dX2_popInto_1 rfl (fun ring1 => ?_)
  refine C_aload_n (D := mdX2_popInto) (pc' := 5) (x := kB C + l0) dX2_popInto_4 rfl 0 rfl ?_
  refine C_getI (D := mdX2_popInto) (pc' := 8) (p := l0) f_X2_17 rfl dX2_popInto_5 rfl (fun latest2 => ?_)
  refine C_aQ (D := mdX2_popInto) (pc' := 9) (p := ring1) dX2_popInto_8 rfl ?_ (fun r3 => ?_)
  · refine C_astore_nN (D := mdX2_popInto) (pc' := 10) (ls' := [(2, .null), (0, .ref (kB C + l0)), (1, .ref (kB C + l1))]) dX2_popInto_9 rfl rfl (by decide) rfl ?_
    refine C_aload_n (D := mdX2_popInto) (pc' := 11) (x := kB C + l0) dX2_popInto_10 rfl 1 rfl ?_
    refine C_getI (D := mdX2_popInto) (pc' := 14) (p := l0) f_X2_26 rfl dX2_popInto_11 rfl (fun known5 => ?_)
    refine C_if_le (D := mdX2_popInto) (pc' := 17) (tgt := 21) dX2_popInto_14 (by decide) rfl ?_ ?_
    · refine C_iconst (D := mdX2_popInto) (pc' := 22) (v := 0) dX2_popInto_21 rfl (by decide) ?_
      exact C_zret rfl dX2_popInto_22
    · refine C_aload_nN (D := mdX2_popInto) (pc' := 18) dX2_popInto_17 rfl 0 rfl ?_
      refine C_ifnonnullN (D := mdX2_popInto) (pc' := 21) dX2_popInto_18 rfl ?_
      refine C_iconst (D := mdX2_popInto) (pc' := 22) (v := 0) dX2_popInto_21 rfl (by decide) ?_
      exact C_zret rfl dX2_popInto_22
  · refine C_astore_n (D := mdX2_popInto) (pc' := 10) (ls' := [(2, .ref (kB C + r3)), (0, .ref (kB C + l0)), (1, .ref (kB C + l1))]) dX2_popInto_9 rfl rfl (by decide) rfl ?_
    refine C_aload_n (D := mdX2_popInto) (pc' := 11) (x := kB C + l0) dX2_popInto_10 rfl 1 rfl ?_
    refine C_getI (D := mdX2_popInto) (pc' := 14) (p := l0) f_X2_26 rfl dX2_popInto_11 rfl (fun known6 => ?_)
    refine C_if_le (D := mdX2_popInto) (pc' := 17) (tgt := 21) dX2_popInto_14 (by decide) rfl ?_ ?_
    · refine C_iconst (D := mdX2_popInto) (pc' := 22) (v := 0) dX2_popInto_21 rfl (by decide) ?_
      exact C_zret rfl dX2_popInto_22
    · refine C_aload_n (D := mdX2_popInto) (pc' := 18) (x := kB C + r3) dX2_popInto_17 rfl 0 rfl ?_
      refine C_ifnonnull (D := mdX2_popInto) (pc' := 23) dX2_popInto_18 (by decide) ?_
      refine C_aload_n (D := mdX2_popInto) (pc' := 24) (x := kB C + l1) dX2_popInto_23 rfl 2 rfl ?_
      refine C_aload_n (D := mdX2_popInto) (pc' := 25) (x := kB C + r3) dX2_popInto_24 rfl 0 rfl ?_
      refine C_callV (D := mdX2_popInto) (pc' := 28) (p := l1) (st := []) [.ref (kB C + r3)] v_X2_22 (i_X1_take C l1 r3) dX2_popInto_25 rfl rfl rfl (Nat.le_of_ble_eq_true rfl) (by decide) (by decide) (fun _ => ?_)
      refine C_aload_n (D := mdX2_popInto) (pc' := 29) (x := kB C + l0) dX2_popInto_28 rfl 1 rfl ?_
      refine C_aload_n (D := mdX2_popInto) (pc' := 30) (x := kB C + l0) dX2_popInto_29 rfl 1 rfl ?_
      refine C_getI (D := mdX2_popInto) (pc' := 33) (p := l0) f_X2_17 rfl dX2_popInto_30 rfl (fun latest7 => ?_)
      refine C_bipush (D := mdX2_popInto) (pc' := 35) (v := 10) dX2_popInto_33 rfl (by decide) ?_
      refine C_iadd (D := mdX2_popInto) (pc' := 36) dX2_popInto_35 rfl ?_
      refine C_iconst (D := mdX2_popInto) (pc' := 37) (v := 1) dX2_popInto_36 rfl (by decide) ?_
      refine C_isub (D := mdX2_popInto) (pc' := 38) dX2_popInto_37 rfl ?_
      refine C_bipush (D := mdX2_popInto) (pc' := 40) (v := 10) dX2_popInto_38 rfl (by decide) ?_
      refine C_irem (D := mdX2_popInto) (pc' := 41) dX2_popInto_40 rfl (by decide) ?_
      refine C_putI (D := mdX2_popInto) (pc' := 44) (p := l0) f_X2_17 rfl dX2_popInto_41 rfl ?_
      refine C_aload_n (D := mdX2_popInto) (pc' := 45) (x := kB C + l0) dX2_popInto_44 rfl 1 rfl ?_
      refine C_dup (D := mdX2_popInto) (pc' := 46) dX2_popInto_45 rfl rfl ?_
      refine C_getI (D := mdX2_popInto) (pc' := 49) (p := l0) f_X2_26 rfl dX2_popInto_46 rfl (fun known8 => ?_)
      refine C_iconst (D := mdX2_popInto) (pc' := 50) (v := 1) dX2_popInto_49 rfl (by decide) ?_
      refine C_isub (D := mdX2_popInto) (pc' := 51) dX2_popInto_50 rfl ?_
      refine C_putI (D := mdX2_popInto) (pc' := 54) (p := l0) f_X2_26 rfl dX2_popInto_51 rfl ?_
      refine C_iconst (D := mdX2_popInto) (pc' := 55) (v := 1) dX2_popInto_54 rfl (by decide) ?_
      exact C_zret rfl dX2_popInto_55

-- StandingQueries.undo()I
theorem dX7_undo_0 : decode cX7_undo 0 = .ok (.aload_n 0, 1) := by decide +kernel
theorem dX7_undo_1 : decode cX7_undo 1 = .ok (.getfield 26, 3) := by decide +kernel
theorem dX7_undo_4 : decode cX7_undo 4 = .ok (.aload_n 0, 1) := by decide +kernel
theorem dX7_undo_5 : decode cX7_undo 5 = .ok (.getfield 19, 3) := by decide +kernel
theorem dX7_undo_8 : decode cX7_undo 8 = .ok (.invokevirtual 104, 3) := by decide +kernel
theorem dX7_undo_11 : decode cX7_undo 11 = .ok (.ifCond .ne 6, 3) := by decide +kernel
theorem dX7_undo_14 : decode cX7_undo 14 = .ok (.bipush (-2), 2) := by decide +kernel
theorem dX7_undo_16 : decode cX7_undo 16 = .ok (.ireturn, 1) := by decide +kernel
theorem dX7_undo_17 : decode cX7_undo 17 = .ok (.aload_n 0, 1) := by decide +kernel
theorem dX7_undo_18 : decode cX7_undo 18 = .ok (.invokevirtual 79, 3) := by decide +kernel
theorem dX7_undo_21 : decode cX7_undo 21 = .ok (.aload_n 0, 1) := by decide +kernel
theorem dX7_undo_22 : decode cX7_undo 22 = .ok (.getfield 26, 3) := by decide +kernel
theorem dX7_undo_25 : decode cX7_undo 25 = .ok (.getfield 108, 3) := by decide +kernel
theorem dX7_undo_28 : decode cX7_undo 28 = .ok (.ireturn, 1) := by decide +kernel
abbrev mdX7_undo : MD := (cX7_undo, RX7, 1, (some .int), yX7_undo.name, 5, 110, eT)
set_option maxHeartbeats 2000000 in
set_option maxRecDepth 20000 in
theorem i_X7_undo (C : KX) (l0 : Nat) : Imp C yX7_undo cX7_undo 1 (some .int) 5 110 rvI [.ref (kB C + l0)] (m_X7_undo l0) := by
  refine Imp.of (by decide) (Nat.le_of_ble_eq_true rfl) [(0, .ref (kB C + l0))] rfl ?_
  show Cmp C mdX7_undo (QM rvI) 0 [(0, .ref (kB C + l0))] [] (m_X7_undo l0)
  unfold m_X7_undo
  refine C_aload_n (D := mdX7_undo) (pc' := 1) (x := kB C + l0) dX7_undo_0 rfl 0 rfl ?_
  refine C_getR (D := mdX7_undo) (pc' := 4) (p := l0) f_X7_26 rfl dX7_undo_1 rfl (fun history1 => ?_)
  refine C_aload_n (D := mdX7_undo) (pc' := 5) (x := kB C + l0) dX7_undo_4 rfl 0 rfl ?_
  refine C_getR (D := mdX7_undo) (pc' := 8) (p := l0) f_X7_19 rfl dX7_undo_5 rfl (fun held2 => ?_)
  refine C_callV (D := mdX7_undo) (pc' := 11) (p := history1) (st := []) [.ref (kB C + held2)] v_X7_104 (i_X2_popInto C history1 held2) dX7_undo_8 rfl rfl rfl (Nat.le_of_ble_eq_true rfl) (by decide) (by decide) (fun c3 => ?_)
  refine C_if_ne (D := mdX7_undo) (pc' := 14) (tgt := 17) dX7_undo_11 (by decide) rfl ?_ ?_
  · refine C_aload_n (D := mdX7_undo) (pc' := 18) (x := kB C + l0) dX7_undo_17 rfl 0 rfl ?_
    refine C_callV (D := mdX7_undo) (pc' := 21) (p := l0) (st := []) [] v_X7_79 (i_X7_rebuild C l0) dX7_undo_18 rfl rfl rfl (Nat.le_of_ble_eq_true rfl) (by decide) (by decide) (fun _ => ?_)
    refine C_aload_n (D := mdX7_undo) (pc' := 22) (x := kB C + l0) dX7_undo_21 rfl 0 rfl ?_
    refine C_getR (D := mdX7_undo) (pc' := 25) (p := l0) f_X7_26 rfl dX7_undo_22 rfl (fun history4 => ?_)
    refine C_getI (D := mdX7_undo) (pc' := 28) (p := history4) f_X7_108 rfl dX7_undo_25 rfl (fun known5 => ?_)
    exact C_iret rfl dX7_undo_28
  · refine C_bipush (D := mdX7_undo) (pc' := 16) (v := (-2)) dX7_undo_14 rfl (by decide) ?_
    exact C_iret rfl dX7_undo_16

-- StandingQueries.hitsOf(I)J
theorem dX7_hitsOf_0 : decode cX7_hitsOf 0 = .ok (.aload_n 0, 1) := by decide +kernel
theorem dX7_hitsOf_1 : decode cX7_hitsOf 1 = .ok (.getfield 39, 3) := by decide +kernel
theorem dX7_hitsOf_4 : decode cX7_hitsOf 4 = .ok (.iload_n 1, 1) := by decide +kernel
theorem dX7_hitsOf_5 : decode cX7_hitsOf 5 = .ok (.invokevirtual 125, 3) := by decide +kernel
theorem dX7_hitsOf_8 : decode cX7_hitsOf 8 = .ok (.istore_n 2, 1) := by decide +kernel
theorem dX7_hitsOf_9 : decode cX7_hitsOf 9 = .ok (.iload_n 2, 1) := by decide +kernel
theorem dX7_hitsOf_10 : decode cX7_hitsOf 10 = .ok (.ifCond .ge 7, 3) := by decide +kernel
theorem dX7_hitsOf_13 : decode cX7_hitsOf 13 = .ok (.lconst 0, 1) := by decide +kernel
theorem dX7_hitsOf_14 : decode cX7_hitsOf 14 = .ok (.goto 9, 3) := by decide +kernel
theorem dX7_hitsOf_17 : decode cX7_hitsOf 17 = .ok (.aload_n 0, 1) := by decide +kernel
theorem dX7_hitsOf_18 : decode cX7_hitsOf 18 = .ok (.getfield 50, 3) := by decide +kernel
theorem dX7_hitsOf_21 : decode cX7_hitsOf 21 = .ok (.iload_n 2, 1) := by decide +kernel
theorem dX7_hitsOf_22 : decode cX7_hitsOf 22 = .ok (.laload, 1) := by decide +kernel
theorem dX7_hitsOf_23 : decode cX7_hitsOf 23 = .ok (.lreturn, 1) := by decide +kernel
abbrev mdX7_hitsOf : MD := (cX7_hitsOf, RX7, 3, (some .long), yX7_hitsOf.name, 1, 22, eT)
set_option maxHeartbeats 2000000 in
set_option maxRecDepth 20000 in
theorem i_X7_hitsOf (C : KX) (l0 : Nat) (l1 : Int32) : Imp C yX7_hitsOf cX7_hitsOf 3 (some .long) 1 22 rvL [.ref (kB C + l0), .int l1] (m_X7_hitsOf l0 l1) := by
  refine Imp.of (by decide) (Nat.le_of_ble_eq_true rfl) [(0, .ref (kB C + l0)), (1, .int l1)] rfl ?_
  show Cmp C mdX7_hitsOf (QM rvL) 0 [(0, .ref (kB C + l0)), (1, .int l1)] [] (m_X7_hitsOf l0 l1)
  unfold m_X7_hitsOf
  refine C_aload_n (D := mdX7_hitsOf) (pc' := 1) (x := kB C + l0) dX7_hitsOf_0 rfl 0 rfl ?_
  refine C_getR (D := mdX7_hitsOf) (pc' := 4) (p := l0) f_X7_39 rfl dX7_hitsOf_1 rfl (fun words1 => ?_)
  refine C_iload_n (D := mdX7_hitsOf) (pc' := 5) (x := l1) dX7_hitsOf_4 rfl 1 rfl ?_
  refine C_callV (D := mdX7_hitsOf) (pc' := 8) (p := words1) (st := []) [.int l1] v_X7_125 (i_X6_find C words1 l1) dX7_hitsOf_5 rfl rfl rfl (Nat.le_of_ble_eq_true rfl) (by decide) (by decide) (fun c2 => ?_)
  refine C_istore_n (D := mdX7_hitsOf) (pc' := 9) (ls' := [(2, .int c2), (0, .ref (kB C + l0)), (1, .int l1)]) dX7_hitsOf_8 rfl rfl (by decide) rfl ?_
  refine C_iload_n (D := mdX7_hitsOf) (pc' := 10) (x := c2) dX7_hitsOf_9 rfl 0 rfl ?_
  refine C_if_ge (D := mdX7_hitsOf) (pc' := 13) (tgt := 17) dX7_hitsOf_10 (by decide) rfl ?_ ?_
  · refine C_aload_n (D := mdX7_hitsOf) (pc' := 18) (x := kB C + l0) dX7_hitsOf_17 rfl 1 rfl ?_
    refine C_getR (D := mdX7_hitsOf) (pc' := 21) (p := l0) f_X7_50 rfl dX7_hitsOf_18 rfl (fun hits3 => ?_)
    refine C_iload_n (D := mdX7_hitsOf) (pc' := 22) (x := c2) dX7_hitsOf_21 rfl 0 rfl ?_
    refine C_aJ (D := mdX7_hitsOf) (pc' := 23) (p := hits3) dX7_hitsOf_22 rfl (fun x4 => ?_)
    exact C_lret rfl dX7_hitsOf_23
  · refine C_lconst (D := mdX7_hitsOf) (pc' := 14) (v := 0) dX7_hitsOf_13 rfl (by decide) ?_
    refine C_goto (D := mdX7_hitsOf) (pc' := 23) dX7_hitsOf_14 (by decide) ?_
    exact C_lret rfl dX7_hitsOf_23

-- StandingQueries.isNear(JJI)Z
theorem dX7_isNear_0 : decode cX7_isNear 0 = .ok (.iconst 1, 1) := by decide +kernel
theorem dX7_isNear_1 : decode cX7_isNear 1 = .ok (.istore 5, 2) := by decide +kernel
theorem dX7_isNear_3 : decode cX7_isNear 3 = .ok (.iload 5, 2) := by decide +kernel
theorem dX7_isNear_5 : decode cX7_isNear 5 = .ok (.iload 4, 2) := by decide +kernel
theorem dX7_isNear_7 : decode cX7_isNear 7 = .ok (.if_icmp .gt 22, 3) := by decide +kernel
theorem dX7_isNear_10 : decode cX7_isNear 10 = .ok (.lload_n 0, 1) := by decide +kernel
theorem dX7_isNear_11 : decode cX7_isNear 11 = .ok (.iload 5, 2) := by decide +kernel
theorem dX7_isNear_13 : decode cX7_isNear 13 = .ok (.lshl, 1) := by decide +kernel
theorem dX7_isNear_14 : decode cX7_isNear 14 = .ok (.lload_n 2, 1) := by decide +kernel
theorem dX7_isNear_15 : decode cX7_isNear 15 = .ok (.land, 1) := by decide +kernel
theorem dX7_isNear_16 : decode cX7_isNear 16 = .ok (.lconst 0, 1) := by decide +kernel
theorem dX7_isNear_17 : decode cX7_isNear 17 = .ok (.lcmp, 1) := by decide +kernel
theorem dX7_isNear_18 : decode cX7_isNear 18 = .ok (.ifCond .eq 5, 3) := by decide +kernel
theorem dX7_isNear_21 : decode cX7_isNear 21 = .ok (.iconst 1, 1) := by decide +kernel
theorem dX7_isNear_22 : decode cX7_isNear 22 = .ok (.ireturn, 1) := by decide +kernel
theorem dX7_isNear_23 : decode cX7_isNear 23 = .ok (.iinc 5 1, 3) := by decide +kernel
theorem dX7_isNear_26 : decode cX7_isNear 26 = .ok (.goto (-23), 3) := by decide +kernel
theorem dX7_isNear_29 : decode cX7_isNear 29 = .ok (.iconst 0, 1) := by decide +kernel
theorem dX7_isNear_30 : decode cX7_isNear 30 = .ok (.ireturn, 1) := by decide +kernel
abbrev mdX7_isNear : MD := (cX7_isNear, RX7, 6, (some .boolean), yX7_isNear.name, 0, 0, eT)
set_option maxHeartbeats 2000000 in
set_option maxRecDepth 20000 in
theorem p_X7_isNear_B3 (C : KX) (l0 : Int64) (l2 : Int64) (l4 : Int32)  (k3 : Int32 → Mo Int32) (hk3 : ∀ s, Cmp C mdX7_isNear (QM rvI) 3 [(0, .long l0), (2, .long l2), (4, .int l4), (5, .int s)] [] (k3 s)) (l5 : Int32) : Cmp C mdX7_isNear (QM rvI) 3 [(0, .long l0), (2, .long l2), (4, .int l4), (5, .int l5)] [] (m_X7_isNear_B3 l0 l2 l4 k3 l5) := by
  unfold m_X7_isNear_B3
  refine C_iload (D := mdX7_isNear) (pc' := 5) (x := l5) dX7_isNear_3 rfl 3 rfl ?_
  refine C_iload (D := mdX7_isNear) (pc' := 7) (x := l4) dX7_isNear_5 rfl 2 rfl ?_
  refine C_icmp_gt (D := mdX7_isNear) (pc' := 10) (tgt := 29) dX7_isNear_7 (by decide) rfl ?_ ?_
  · refine C_iconst (D := mdX7_isNear) (pc' := 30) (v := 0) dX7_isNear_29 rfl (by decide) ?_
    exact C_zret rfl dX7_isNear_30
  · refine C_lload_n (D := mdX7_isNear) (pc' := 11) (x := l0) dX7_isNear_10 rfl 0 rfl ?_
    refine C_iload (D := mdX7_isNear) (pc' := 13) (x := l5) dX7_isNear_11 rfl 3 rfl ?_
    refine C_lshl (D := mdX7_isNear) (pc' := 14) dX7_isNear_13 rfl ?_
    refine C_lload_n (D := mdX7_isNear) (pc' := 15) (x := l2) dX7_isNear_14 rfl 1 rfl ?_
    refine C_land (D := mdX7_isNear) (pc' := 16) dX7_isNear_15 rfl ?_
    refine C_lconst (D := mdX7_isNear) (pc' := 17) (v := 0) dX7_isNear_16 rfl (by decide) ?_
    refine C_lcmp (D := mdX7_isNear) (pc' := 18) dX7_isNear_17 rfl ?_
    refine C_if_eq (D := mdX7_isNear) (pc' := 21) (tgt := 23) dX7_isNear_18 (by decide) rfl ?_ ?_
    · refine C_iinc (D := mdX7_isNear) (pc' := 26) (j := 3) (v := (l5 + 1)) (ls' := [(5, .int (l5 + 1)), (0, .long l0), (2, .long l2), (4, .int l4)]) dX7_isNear_23 rfl rfl rfl (by decide) rfl ?_
      refine C_goto (D := mdX7_isNear) (pc' := 3) dX7_isNear_26 (by decide) ?_
      exact C_sub [1, 2, 3, 0] rfl (hk3 ((l5 + 1)))
    · refine C_iconst (D := mdX7_isNear) (pc' := 22) (v := 1) dX7_isNear_21 rfl (by decide) ?_
      exact C_zret rfl dX7_isNear_22
set_option maxHeartbeats 2000000 in
set_option maxRecDepth 20000 in
theorem i_X7_isNear (C : KX) (l0 : Int64) (l2 : Int64) (l4 : Int32) : Imp C yX7_isNear cX7_isNear 6 (some .boolean) 0 0 rvI [.long l0, .long l2, .int l4] (m_X7_isNear l0 l2 l4) := by
  refine Imp.of (by decide) (Nat.le_of_ble_eq_true rfl) [(0, .long l0), (2, .long l2), (4, .int l4)] rfl ?_
  show Cmp C mdX7_isNear (QM rvI) 0 [(0, .long l0), (2, .long l2), (4, .int l4)] [] (m_X7_isNear l0 l2 l4)
  unfold m_X7_isNear
  refine C_iconst (D := mdX7_isNear) (pc' := 1) (v := 1) dX7_isNear_0 rfl (by decide) ?_
  refine C_istore (D := mdX7_isNear) (pc' := 3) (ls' := [(5, .int 1), (0, .long l0), (2, .long l2), (4, .int l4)]) dX7_isNear_1 rfl (by decide) rfl ?_
  exact C_sub [1, 2, 3, 0] rfl (C_loop (fun s => [(0, .long l0), (2, .long l2), (4, .int l4), (5, .int s)]) (fun k hk s => p_X7_isNear_B3 C l0 l2 l4  k hk s) FU 1)

-- StandingQueries.holds(II)Z
theorem dX7_holds_0 : decode cX7_holds 0 = .ok (.aload_n 0, 1) := by decide +kernel
theorem dX7_holds_1 : decode cX7_holds 1 = .ok (.aload_n 0, 1) := by decide +kernel
theorem dX7_holds_2 : decode cX7_holds 2 = .ok (.getfield 19, 3) := by decide +kernel
theorem dX7_holds_5 : decode cX7_holds 5 = .ok (.getfield 138, 3) := by decide +kernel
theorem dX7_holds_8 : decode cX7_holds 8 = .ok (.iload_n 1, 1) := by decide +kernel
theorem dX7_holds_9 : decode cX7_holds 9 = .ok (.iaload, 1) := by decide +kernel
theorem dX7_holds_10 : decode cX7_holds 10 = .ok (.invokevirtual 250, 3) := by decide +kernel
theorem dX7_holds_13 : decode cX7_holds 13 = .ok (.lconst 1, 1) := by decide +kernel
theorem dX7_holds_14 : decode cX7_holds 14 = .ok (.iload_n 2, 1) := by decide +kernel
theorem dX7_holds_15 : decode cX7_holds 15 = .ok (.lshl, 1) := by decide +kernel
theorem dX7_holds_16 : decode cX7_holds 16 = .ok (.lconst 1, 1) := by decide +kernel
theorem dX7_holds_17 : decode cX7_holds 17 = .ok (.lsub, 1) := by decide +kernel
theorem dX7_holds_18 : decode cX7_holds 18 = .ok (.land, 1) := by decide +kernel
theorem dX7_holds_19 : decode cX7_holds 19 = .ok (.lstore_n 3, 1) := by decide +kernel
theorem dX7_holds_20 : decode cX7_holds 20 = .ok (.aload_n 0, 1) := by decide +kernel
theorem dX7_holds_21 : decode cX7_holds 21 = .ok (.getfield 19, 3) := by decide +kernel
theorem dX7_holds_24 : decode cX7_holds 24 = .ok (.getfield 135, 3) := by decide +kernel
theorem dX7_holds_27 : decode cX7_holds 27 = .ok (.iload_n 1, 1) := by decide +kernel
theorem dX7_holds_28 : decode cX7_holds 28 = .ok (.iaload, 1) := by decide +kernel
theorem dX7_holds_29 : decode cX7_holds 29 = .ok (.lookupswitch 51 #[(0, 27), (1, 39)], 27) := by decide +kernel
theorem dX7_holds_56 : decode cX7_holds 56 = .ok (.lload_n 3, 1) := by decide +kernel
theorem dX7_holds_57 : decode cX7_holds 57 = .ok (.lconst 0, 1) := by decide +kernel
theorem dX7_holds_58 : decode cX7_holds 58 = .ok (.lcmp, 1) := by decide +kernel
theorem dX7_holds_59 : decode cX7_holds 59 = .ok (.ifCond .eq 7, 3) := by decide +kernel
theorem dX7_holds_62 : decode cX7_holds 62 = .ok (.iconst 1, 1) := by decide +kernel
theorem dX7_holds_63 : decode cX7_holds 63 = .ok (.goto 4, 3) := by decide +kernel
theorem dX7_holds_66 : decode cX7_holds 66 = .ok (.iconst 0, 1) := by decide +kernel
theorem dX7_holds_67 : decode cX7_holds 67 = .ok (.ireturn, 1) := by decide +kernel
theorem dX7_holds_68 : decode cX7_holds 68 = .ok (.lload_n 3, 1) := by decide +kernel
theorem dX7_holds_69 : decode cX7_holds 69 = .ok (.lconst 0, 1) := by decide +kernel
theorem dX7_holds_70 : decode cX7_holds 70 = .ok (.lcmp, 1) := by decide +kernel
theorem dX7_holds_71 : decode cX7_holds 71 = .ok (.ifCond .ne 7, 3) := by decide +kernel
theorem dX7_holds_74 : decode cX7_holds 74 = .ok (.iconst 1, 1) := by decide +kernel
theorem dX7_holds_75 : decode cX7_holds 75 = .ok (.goto 4, 3) := by decide +kernel
theorem dX7_holds_78 : decode cX7_holds 78 = .ok (.iconst 0, 1) := by decide +kernel
theorem dX7_holds_79 : decode cX7_holds 79 = .ok (.ireturn, 1) := by decide +kernel
theorem dX7_holds_80 : decode cX7_holds 80 = .ok (.aload_n 0, 1) := by decide +kernel
theorem dX7_holds_81 : decode cX7_holds 81 = .ok (.aload_n 0, 1) := by decide +kernel
theorem dX7_holds_82 : decode cX7_holds 82 = .ok (.getfield 19, 3) := by decide +kernel
theorem dX7_holds_85 : decode cX7_holds 85 = .ok (.getfield 141, 3) := by decide +kernel
theorem dX7_holds_88 : decode cX7_holds 88 = .ok (.iload_n 1, 1) := by decide +kernel
theorem dX7_holds_89 : decode cX7_holds 89 = .ok (.iaload, 1) := by decide +kernel
theorem dX7_holds_90 : decode cX7_holds 90 = .ok (.invokevirtual 250, 3) := by decide +kernel
theorem dX7_holds_93 : decode cX7_holds 93 = .ok (.lload_n 3, 1) := by decide +kernel
theorem dX7_holds_94 : decode cX7_holds 94 = .ok (.aload_n 0, 1) := by decide +kernel
theorem dX7_holds_95 : decode cX7_holds 95 = .ok (.getfield 19, 3) := by decide +kernel
theorem dX7_holds_98 : decode cX7_holds 98 = .ok (.getfield 144, 3) := by decide +kernel
theorem dX7_holds_101 : decode cX7_holds 101 = .ok (.iload_n 1, 1) := by decide +kernel
theorem dX7_holds_102 : decode cX7_holds 102 = .ok (.iaload, 1) := by decide +kernel
theorem dX7_holds_103 : decode cX7_holds 103 = .ok (.invokestatic 253, 3) := by decide +kernel
theorem dX7_holds_106 : decode cX7_holds 106 = .ok (.ireturn, 1) := by decide +kernel
abbrev mdX7_holds : MD := (cX7_holds, RX7, 5, (some .boolean), yX7_holds.name, 2, 44, eT)
set_option maxHeartbeats 2000000 in
set_option maxRecDepth 20000 in
theorem i_X7_holds (C : KX) (l0 : Nat) (l1 : Int32) (l2 : Int32) : Imp C yX7_holds cX7_holds 5 (some .boolean) 2 44 rvI [.ref (kB C + l0), .int l1, .int l2] (m_X7_holds l0 l1 l2) := by
  refine Imp.of (by decide) (Nat.le_of_ble_eq_true rfl) [(0, .ref (kB C + l0)), (1, .int l1), (2, .int l2)] rfl ?_
  show Cmp C mdX7_holds (QM rvI) 0 [(0, .ref (kB C + l0)), (1, .int l1), (2, .int l2)] [] (m_X7_holds l0 l1 l2)
  unfold m_X7_holds
  refine C_aload_n (D := mdX7_holds) (pc' := 1) (x := kB C + l0) dX7_holds_0 rfl 0 rfl ?_
  refine C_aload_n (D := mdX7_holds) (pc' := 2) (x := kB C + l0) dX7_holds_1 rfl 0 rfl ?_
  refine C_getR (D := mdX7_holds) (pc' := 5) (p := l0) f_X7_19 rfl dX7_holds_2 rfl (fun held1 => ?_)
  refine C_getR (D := mdX7_holds) (pc' := 8) (p := held1) f_X7_138 rfl dX7_holds_5 rfl (fun word2 => ?_)
  refine C_iload_n (D := mdX7_holds) (pc' := 9) (x := l1) dX7_holds_8 rfl 1 rfl ?_
  refine C_aI (D := mdX7_holds) (pc' := 10) (p := word2) dX7_holds_9 rfl (fun x3 => ?_)
  refine C_callV (D := mdX7_holds) (pc' := 13) (p := l0) (st := []) [.int x3] v_X7_250 (i_X7_hitsOf C l0 x3) dX7_holds_10 rfl rfl rfl (Nat.le_of_ble_eq_true rfl) (by decide) (by decide) (fun c4 => ?_)
  refine C_lconst (D := mdX7_holds) (pc' := 14) (v := 1) dX7_holds_13 rfl (by decide) ?_
  refine C_iload_n (D := mdX7_holds) (pc' := 15) (x := l2) dX7_holds_14 rfl 2 rfl ?_
  refine C_lshl (D := mdX7_holds) (pc' := 16) dX7_holds_15 rfl ?_
  refine C_lconst (D := mdX7_holds) (pc' := 17) (v := 1) dX7_holds_16 rfl (by decide) ?_
  refine C_lsub (D := mdX7_holds) (pc' := 18) dX7_holds_17 rfl ?_
  refine C_land (D := mdX7_holds) (pc' := 19) dX7_holds_18 rfl ?_
  refine C_letL (fun v5 => ?_)
  refine C_lstore_n (D := mdX7_holds) (pc' := 20) (ls' := [(3, .long v5), (0, .ref (kB C + l0)), (1, .int l1), (2, .int l2)]) dX7_holds_19 rfl rfl (by decide) rfl ?_
  refine C_aload_n (D := mdX7_holds) (pc' := 21) (x := kB C + l0) dX7_holds_20 rfl 1 rfl ?_
  refine C_getR (D := mdX7_holds) (pc' := 24) (p := l0) f_X7_19 rfl dX7_holds_21 rfl (fun held6 => ?_)
  refine C_getR (D := mdX7_holds) (pc' := 27) (p := held6) f_X7_135 rfl dX7_holds_24 rfl (fun sort7 => ?_)
  refine C_iload_n (D := mdX7_holds) (pc' := 28) (x := l1) dX7_holds_27 rfl 2 rfl ?_
  refine C_aI (D := mdX7_holds) (pc' := 29) (p := sort7) dX7_holds_28 rfl (fun x8 => ?_)
  refine C_lcase (D := mdX7_holds) (c := 0) (off := 27) 0 (by decide) (tgt := 56) dX7_holds_29 (by decide) (by decide) (by decide) ?_ (fun h0 => ?_)
  · refine C_lload_n (D := mdX7_holds) (pc' := 57) (x := v5) dX7_holds_56 rfl 0 rfl ?_
    refine C_lconst (D := mdX7_holds) (pc' := 58) (v := 0) dX7_holds_57 rfl (by decide) ?_
    refine C_lcmp (D := mdX7_holds) (pc' := 59) dX7_holds_58 rfl ?_
    refine C_if_eq (D := mdX7_holds) (pc' := 62) (tgt := 66) dX7_holds_59 (by decide) rfl ?_ ?_
    · refine C_iconst (D := mdX7_holds) (pc' := 67) (v := 0) dX7_holds_66 rfl (by decide) ?_
      exact C_zret rfl dX7_holds_67
    · refine C_iconst (D := mdX7_holds) (pc' := 63) (v := 1) dX7_holds_62 rfl (by decide) ?_
      refine C_goto (D := mdX7_holds) (pc' := 67) dX7_holds_63 (by decide) ?_
      exact C_zret rfl dX7_holds_67
  refine C_lcase (D := mdX7_holds) (c := 1) (off := 39) 1 (by decide) (tgt := 68) dX7_holds_29 (by decide) (by decide) (by decide) ?_ (fun h1 => ?_)
  · refine C_lload_n (D := mdX7_holds) (pc' := 69) (x := v5) dX7_holds_68 rfl 0 rfl ?_
    refine C_lconst (D := mdX7_holds) (pc' := 70) (v := 0) dX7_holds_69 rfl (by decide) ?_
    refine C_lcmp (D := mdX7_holds) (pc' := 71) dX7_holds_70 rfl ?_
    refine C_if_ne (D := mdX7_holds) (pc' := 74) (tgt := 78) dX7_holds_71 (by decide) rfl ?_ ?_
    · refine C_iconst (D := mdX7_holds) (pc' := 79) (v := 0) dX7_holds_78 rfl (by decide) ?_
      exact C_zret rfl dX7_holds_79
    · refine C_iconst (D := mdX7_holds) (pc' := 75) (v := 1) dX7_holds_74 rfl (by decide) ?_
      refine C_goto (D := mdX7_holds) (pc' := 79) dX7_holds_75 (by decide) ?_
      exact C_zret rfl dX7_holds_79
  refine C_ldef (D := mdX7_holds) (tgt := 80) dX7_holds_29 (by decide) (by simp [Op.lookupswitch.offset, show ¬ (0 : Int) = (x8 : Int32).toInt from fun e => h0 e.symm, show ¬ (1 : Int) = (x8 : Int32).toInt from fun e => h1 e.symm]) (by decide) ?_
  refine C_aload_n (D := mdX7_holds) (pc' := 81) (x := kB C + l0) dX7_holds_80 rfl 1 rfl ?_
  refine C_aload_n (D := mdX7_holds) (pc' := 82) (x := kB C + l0) dX7_holds_81 rfl 1 rfl ?_
  refine C_getR (D := mdX7_holds) (pc' := 85) (p := l0) f_X7_19 rfl dX7_holds_82 rfl (fun held9 => ?_)
  refine C_getR (D := mdX7_holds) (pc' := 88) (p := held9) f_X7_141 rfl dX7_holds_85 rfl (fun earlier10 => ?_)
  refine C_iload_n (D := mdX7_holds) (pc' := 89) (x := l1) dX7_holds_88 rfl 2 rfl ?_
  refine C_aI (D := mdX7_holds) (pc' := 90) (p := earlier10) dX7_holds_89 rfl (fun x11 => ?_)
  refine C_callV (D := mdX7_holds) (pc' := 93) (p := l0) (st := []) [.int x11] v_X7_250 (i_X7_hitsOf C l0 x11) dX7_holds_90 rfl rfl rfl (Nat.le_of_ble_eq_true rfl) (by decide) (by decide) (fun c12 => ?_)
  refine C_lload_n (D := mdX7_holds) (pc' := 94) (x := v5) dX7_holds_93 rfl 0 rfl ?_
  refine C_aload_n (D := mdX7_holds) (pc' := 95) (x := kB C + l0) dX7_holds_94 rfl 1 rfl ?_
  refine C_getR (D := mdX7_holds) (pc' := 98) (p := l0) f_X7_19 rfl dX7_holds_95 rfl (fun held13 => ?_)
  refine C_getR (D := mdX7_holds) (pc' := 101) (p := held13) f_X7_144 rfl dX7_holds_98 rfl (fun reach14 => ?_)
  refine C_iload_n (D := mdX7_holds) (pc' := 102) (x := l1) dX7_holds_101 rfl 2 rfl ?_
  refine C_aI (D := mdX7_holds) (pc' := 103) (p := reach14) dX7_holds_102 rfl (fun x15 => ?_)
  refine C_callS (D := mdX7_holds) (pc' := 106) (st := []) [.long c12, .long v5, .int x15] s_X7_253 (i_X7_isNear C c12 v5 x15) dX7_holds_103 rfl rfl rfl (Nat.le_of_ble_eq_true rfl) (by decide) (by decide) (fun c16 => ?_)
  exact C_zret rfl dX7_holds_106

-- StandingQueries.matches(II)Z
theorem dX7_matches_0 : decode cX7_matches 0 = .ok (.iconst 0, 1) := by decide +kernel
theorem dX7_matches_1 : decode cX7_matches 1 = .ok (.istore_n 3, 1) := by decide +kernel
theorem dX7_matches_2 : decode cX7_matches 2 = .ok (.iload_n 3, 1) := by decide +kernel
theorem dX7_matches_3 : decode cX7_matches 3 = .ok (.aload_n 0, 1) := by decide +kernel
theorem dX7_matches_4 : decode cX7_matches 4 = .ok (.getfield 19, 3) := by decide +kernel
theorem dX7_matches_7 : decode cX7_matches 7 = .ok (.getfield 111, 3) := by decide +kernel
theorem dX7_matches_10 : decode cX7_matches 10 = .ok (.iload_n 1, 1) := by decide +kernel
theorem dX7_matches_11 : decode cX7_matches 11 = .ok (.iaload, 1) := by decide +kernel
theorem dX7_matches_12 : decode cX7_matches 12 = .ok (.if_icmp .ge 28, 3) := by decide +kernel
theorem dX7_matches_15 : decode cX7_matches 15 = .ok (.aload_n 0, 1) := by decide +kernel
theorem dX7_matches_16 : decode cX7_matches 16 = .ok (.aload_n 0, 1) := by decide +kernel
theorem dX7_matches_17 : decode cX7_matches 17 = .ok (.getfield 19, 3) := by decide +kernel
theorem dX7_matches_20 : decode cX7_matches 20 = .ok (.iload_n 1, 1) := by decide +kernel
theorem dX7_matches_21 : decode cX7_matches 21 = .ok (.iload_n 3, 1) := by decide +kernel
theorem dX7_matches_22 : decode cX7_matches 22 = .ok (.invokevirtual 131, 3) := by decide +kernel
theorem dX7_matches_25 : decode cX7_matches 25 = .ok (.iload_n 2, 1) := by decide +kernel
theorem dX7_matches_26 : decode cX7_matches 26 = .ok (.invokevirtual 147, 3) := by decide +kernel
theorem dX7_matches_29 : decode cX7_matches 29 = .ok (.ifCond .ne 5, 3) := by decide +kernel
theorem dX7_matches_32 : decode cX7_matches 32 = .ok (.iconst 0, 1) := by decide +kernel
theorem dX7_matches_33 : decode cX7_matches 33 = .ok (.ireturn, 1) := by decide +kernel
theorem dX7_matches_34 : decode cX7_matches 34 = .ok (.iinc 3 1, 3) := by decide +kernel
theorem dX7_matches_37 : decode cX7_matches 37 = .ok (.goto (-35), 3) := by decide +kernel
theorem dX7_matches_40 : decode cX7_matches 40 = .ok (.iconst 1, 1) := by decide +kernel
theorem dX7_matches_41 : decode cX7_matches 41 = .ok (.ireturn, 1) := by decide +kernel
abbrev mdX7_matches : MD := (cX7_matches, RX7, 4, (some .boolean), yX7_matches.name, 3, 68, eT)
set_option maxHeartbeats 2000000 in
set_option maxRecDepth 20000 in
theorem p_X7_matches_B2 (C : KX) (l0 : Nat) (l1 : Int32) (l2 : Int32)  (k2 : Int32 → Mo Int32) (hk2 : ∀ s, Cmp C mdX7_matches (QM rvI) 2 [(0, .ref (kB C + l0)), (1, .int l1), (2, .int l2), (3, .int s)] [] (k2 s)) (l3 : Int32) : Cmp C mdX7_matches (QM rvI) 2 [(0, .ref (kB C + l0)), (1, .int l1), (2, .int l2), (3, .int l3)] [] (m_X7_matches_B2 l0 l1 l2 k2 l3) := by
  unfold m_X7_matches_B2
  refine C_iload_n (D := mdX7_matches) (pc' := 3) (x := l3) dX7_matches_2 rfl 3 rfl ?_
  refine C_aload_n (D := mdX7_matches) (pc' := 4) (x := kB C + l0) dX7_matches_3 rfl 0 rfl ?_
  refine C_getR (D := mdX7_matches) (pc' := 7) (p := l0) f_X7_19 rfl dX7_matches_4 rfl (fun held1 => ?_)
  refine C_getR (D := mdX7_matches) (pc' := 10) (p := held1) f_X7_111 rfl dX7_matches_7 rfl (fun parts2 => ?_)
  refine C_iload_n (D := mdX7_matches) (pc' := 11) (x := l1) dX7_matches_10 rfl 1 rfl ?_
  refine C_aI (D := mdX7_matches) (pc' := 12) (p := parts2) dX7_matches_11 rfl (fun x3 => ?_)
  refine C_icmp_ge (D := mdX7_matches) (pc' := 15) (tgt := 40) dX7_matches_12 (by decide) rfl ?_ ?_
  · refine C_iconst (D := mdX7_matches) (pc' := 41) (v := 1) dX7_matches_40 rfl (by decide) ?_
    exact C_zret rfl dX7_matches_41
  · refine C_aload_n (D := mdX7_matches) (pc' := 16) (x := kB C + l0) dX7_matches_15 rfl 0 rfl ?_
    refine C_aload_n (D := mdX7_matches) (pc' := 17) (x := kB C + l0) dX7_matches_16 rfl 0 rfl ?_
    refine C_getR (D := mdX7_matches) (pc' := 20) (p := l0) f_X7_19 rfl dX7_matches_17 rfl (fun held4 => ?_)
    refine C_iload_n (D := mdX7_matches) (pc' := 21) (x := l1) dX7_matches_20 rfl 1 rfl ?_
    refine C_iload_n (D := mdX7_matches) (pc' := 22) (x := l3) dX7_matches_21 rfl 3 rfl ?_
    refine C_callV (D := mdX7_matches) (pc' := 25) (p := held4) (st := [.ref (kB C + l0)]) [.int l1, .int l3] v_X7_131 (i_X1_place C held4 l1 l3) dX7_matches_22 rfl rfl rfl (Nat.le_of_ble_eq_true rfl) (by decide) (by decide) (fun c5 => ?_)
    refine C_iload_n (D := mdX7_matches) (pc' := 26) (x := l2) dX7_matches_25 rfl 2 rfl ?_
    refine C_callV (D := mdX7_matches) (pc' := 29) (p := l0) (st := []) [.int c5, .int l2] v_X7_147 (i_X7_holds C l0 c5 l2) dX7_matches_26 rfl rfl rfl (Nat.le_of_ble_eq_true rfl) (by decide) (by decide) (fun c6 => ?_)
    refine C_if_ne (D := mdX7_matches) (pc' := 32) (tgt := 34) dX7_matches_29 (by decide) rfl ?_ ?_
    · refine C_iinc (D := mdX7_matches) (pc' := 37) (j := 3) (v := (l3 + 1)) (ls' := [(3, .int (l3 + 1)), (0, .ref (kB C + l0)), (1, .int l1), (2, .int l2)]) dX7_matches_34 rfl rfl rfl (by decide) rfl ?_
      refine C_goto (D := mdX7_matches) (pc' := 2) dX7_matches_37 (by decide) ?_
      exact C_sub [1, 2, 3, 0] rfl (hk2 ((l3 + 1)))
    · refine C_iconst (D := mdX7_matches) (pc' := 33) (v := 0) dX7_matches_32 rfl (by decide) ?_
      exact C_zret rfl dX7_matches_33
set_option maxHeartbeats 2000000 in
set_option maxRecDepth 20000 in
theorem i_X7_matches (C : KX) (l0 : Nat) (l1 : Int32) (l2 : Int32) : Imp C yX7_matches cX7_matches 4 (some .boolean) 3 68 rvI [.ref (kB C + l0), .int l1, .int l2] (m_X7_matches l0 l1 l2) := by
  refine Imp.of (by decide) (Nat.le_of_ble_eq_true rfl) [(0, .ref (kB C + l0)), (1, .int l1), (2, .int l2)] rfl ?_
  show Cmp C mdX7_matches (QM rvI) 0 [(0, .ref (kB C + l0)), (1, .int l1), (2, .int l2)] [] (m_X7_matches l0 l1 l2)
  unfold m_X7_matches
  refine C_iconst (D := mdX7_matches) (pc' := 1) (v := 0) dX7_matches_0 rfl (by decide) ?_
  refine C_istore_n (D := mdX7_matches) (pc' := 2) (ls' := [(3, .int 0), (0, .ref (kB C + l0)), (1, .int l1), (2, .int l2)]) dX7_matches_1 rfl rfl (by decide) rfl ?_
  exact C_sub [1, 2, 3, 0] rfl (C_loop (fun s => [(0, .ref (kB C + l0)), (1, .int l1), (2, .int l2), (3, .int s)]) (fun k hk s => p_X7_matches_B2 C l0 l1 l2  k hk s) FU 0)

-- StandingQueries.since(I)I
theorem dX7_since_0 : decode cX7_since 0 = .ok (.aload_n 0, 1) := by decide +kernel
theorem dX7_since_1 : decode cX7_since 1 = .ok (.getfield 19, 3) := by decide +kernel
theorem dX7_since_4 : decode cX7_since 4 = .ok (.getfield 91, 3) := by decide +kernel
theorem dX7_since_7 : decode cX7_since 7 = .ok (.istore_n 2, 1) := by decide +kernel
theorem dX7_since_8 : decode cX7_since 8 = .ok (.aload_n 0, 1) := by decide +kernel
theorem dX7_since_9 : decode cX7_since 9 = .ok (.iload_n 1, 1) := by decide +kernel
theorem dX7_since_10 : decode cX7_since 10 = .ok (.iload_n 2, 1) := by decide +kernel
theorem dX7_since_11 : decode cX7_since 11 = .ok (.invokevirtual 114, 3) := by decide +kernel
theorem dX7_since_14 : decode cX7_since 14 = .ok (.ifCond .ne 6, 3) := by decide +kernel
theorem dX7_since_17 : decode cX7_since 17 = .ok (.bipush (-9), 2) := by decide +kernel
theorem dX7_since_19 : decode cX7_since 19 = .ok (.ireturn, 1) := by decide +kernel
theorem dX7_since_20 : decode cX7_since 20 = .ok (.iload_n 2, 1) := by decide +kernel
theorem dX7_since_21 : decode cX7_since 21 = .ok (.ifCond .le 20, 3) := by decide +kernel
theorem dX7_since_24 : decode cX7_since 24 = .ok (.aload_n 0, 1) := by decide +kernel
theorem dX7_since_25 : decode cX7_since 25 = .ok (.iload_n 1, 1) := by decide +kernel
theorem dX7_since_26 : decode cX7_since 26 = .ok (.iload_n 2, 1) := by decide +kernel
theorem dX7_since_27 : decode cX7_since 27 = .ok (.iconst 1, 1) := by decide +kernel
theorem dX7_since_28 : decode cX7_since 28 = .ok (.isub, 1) := by decide +kernel
theorem dX7_since_29 : decode cX7_since 29 = .ok (.invokevirtual 114, 3) := by decide +kernel
theorem dX7_since_32 : decode cX7_since 32 = .ok (.ifCond .eq 9, 3) := by decide +kernel
theorem dX7_since_35 : decode cX7_since 35 = .ok (.iinc 2 (-1), 3) := by decide +kernel
theorem dX7_since_38 : decode cX7_since 38 = .ok (.goto (-18), 3) := by decide +kernel
theorem dX7_since_41 : decode cX7_since 41 = .ok (.iload_n 2, 1) := by decide +kernel
theorem dX7_since_42 : decode cX7_since 42 = .ok (.ireturn, 1) := by decide +kernel
abbrev mdX7_since : MD := (cX7_since, RX7, 3, (some .int), yX7_since.name, 4, 91, eT)
set_option maxHeartbeats 2000000 in
set_option maxRecDepth 20000 in
theorem p_X7_since_B20 (C : KX) (l0 : Nat) (l1 : Int32)  (k20 : Int32 → Mo Int32) (hk20 : ∀ s, Cmp C mdX7_since (QM rvI) 20 [(0, .ref (kB C + l0)), (1, .int l1), (2, .int s)] [] (k20 s)) (l2 : Int32) : Cmp C mdX7_since (QM rvI) 20 [(0, .ref (kB C + l0)), (1, .int l1), (2, .int l2)] [] (m_X7_since_B20 l0 l1 k20 l2) := by
  unfold m_X7_since_B20
  refine C_iload_n (D := mdX7_since) (pc' := 21) (x := l2) dX7_since_20 rfl 2 rfl ?_
  refine C_if_le (D := mdX7_since) (pc' := 24) (tgt := 41) dX7_since_21 (by decide) rfl ?_ ?_
  · refine C_iload_n (D := mdX7_since) (pc' := 42) (x := l2) dX7_since_41 rfl 2 rfl ?_
    exact C_iret rfl dX7_since_42
  · refine C_aload_n (D := mdX7_since) (pc' := 25) (x := kB C + l0) dX7_since_24 rfl 0 rfl ?_
    refine C_iload_n (D := mdX7_since) (pc' := 26) (x := l1) dX7_since_25 rfl 1 rfl ?_
    refine C_iload_n (D := mdX7_since) (pc' := 27) (x := l2) dX7_since_26 rfl 2 rfl ?_
    refine C_iconst (D := mdX7_since) (pc' := 28) (v := 1) dX7_since_27 rfl (by decide) ?_
    refine C_isub (D := mdX7_since) (pc' := 29) dX7_since_28 rfl ?_
    refine C_callV (D := mdX7_since) (pc' := 32) (p := l0) (st := []) [.int l1, .int (l2 - 1)] v_X7_114 (i_X7_matches C l0 l1 ((l2 - 1))) dX7_since_29 rfl rfl rfl (Nat.le_of_ble_eq_true rfl) (by decide) (by decide) (fun c4 => ?_)
    refine C_if_eq (D := mdX7_since) (pc' := 35) (tgt := 41) dX7_since_32 (by decide) rfl ?_ ?_
    · refine C_iload_n (D := mdX7_since) (pc' := 42) (x := l2) dX7_since_41 rfl 2 rfl ?_
      exact C_iret rfl dX7_since_42
    · refine C_iinc (D := mdX7_since) (pc' := 38) (j := 2) (v := (l2 + (-1))) (ls' := [(2, .int (l2 + (-1))), (0, .ref (kB C + l0)), (1, .int l1)]) dX7_since_35 rfl rfl rfl (by decide) rfl ?_
      refine C_goto (D := mdX7_since) (pc' := 20) dX7_since_38 (by decide) ?_
      exact C_sub [1, 2, 0] rfl (hk20 ((l2 + (-1))))
set_option maxHeartbeats 2000000 in
set_option maxRecDepth 20000 in
theorem i_X7_since (C : KX) (l0 : Nat) (l1 : Int32) : Imp C yX7_since cX7_since 3 (some .int) 4 91 rvI [.ref (kB C + l0), .int l1] (m_X7_since l0 l1) := by
  refine Imp.of (by decide) (Nat.le_of_ble_eq_true rfl) [(0, .ref (kB C + l0)), (1, .int l1)] rfl ?_
  show Cmp C mdX7_since (QM rvI) 0 [(0, .ref (kB C + l0)), (1, .int l1)] [] (m_X7_since l0 l1)
  unfold m_X7_since
  refine C_aload_n (D := mdX7_since) (pc' := 1) (x := kB C + l0) dX7_since_0 rfl 0 rfl ?_
  refine C_getR (D := mdX7_since) (pc' := 4) (p := l0) f_X7_19 rfl dX7_since_1 rfl (fun held1 => ?_)
  refine C_getI (D := mdX7_since) (pc' := 7) (p := held1) f_X7_91 rfl dX7_since_4 rfl (fun letters2 => ?_)
  refine C_istore_n (D := mdX7_since) (pc' := 8) (ls' := [(2, .int letters2), (0, .ref (kB C + l0)), (1, .int l1)]) dX7_since_7 rfl rfl (by decide) rfl ?_
  refine C_aload_n (D := mdX7_since) (pc' := 9) (x := kB C + l0) dX7_since_8 rfl 1 rfl ?_
  refine C_iload_n (D := mdX7_since) (pc' := 10) (x := l1) dX7_since_9 rfl 2 rfl ?_
  refine C_iload_n (D := mdX7_since) (pc' := 11) (x := letters2) dX7_since_10 rfl 0 rfl ?_
  refine C_callV (D := mdX7_since) (pc' := 14) (p := l0) (st := []) [.int l1, .int letters2] v_X7_114 (i_X7_matches C l0 l1 letters2) dX7_since_11 rfl rfl rfl (Nat.le_of_ble_eq_true rfl) (by decide) (by decide) (fun c3 => ?_)
  refine C_if_ne (D := mdX7_since) (pc' := 17) (tgt := 20) dX7_since_14 (by decide) rfl ?_ ?_
  · exact C_sub [1, 2, 0] rfl (C_loop (fun s => [(0, .ref (kB C + l0)), (1, .int l1), (2, .int s)]) (fun k hk s => p_X7_since_B20 C l0 l1  k hk s) FU letters2)
  · refine C_bipush (D := mdX7_since) (pc' := 19) (v := (-9)) dX7_since_17 rfl (by decide) ?_
    exact C_iret rfl dX7_since_19

-- StandingQueries.isBetterKey(II)Z
theorem dX7_isBetterKey_0 : decode cX7_isBetterKey 0 = .ok (.iload_n 0, 1) := by decide +kernel
theorem dX7_isBetterKey_1 : decode cX7_isBetterKey 1 = .ok (.invokestatic 177, 3) := by decide +kernel
theorem dX7_isBetterKey_4 : decode cX7_isBetterKey 4 = .ok (.iload_n 1, 1) := by decide +kernel
theorem dX7_isBetterKey_5 : decode cX7_isBetterKey 5 = .ok (.invokestatic 177, 3) := by decide +kernel
theorem dX7_isBetterKey_8 : decode cX7_isBetterKey 8 = .ok (.isub, 1) := by decide +kernel
theorem dX7_isBetterKey_9 : decode cX7_isBetterKey 9 = .ok (.istore_n 2, 1) := by decide +kernel
theorem dX7_isBetterKey_10 : decode cX7_isBetterKey 10 = .ok (.iload_n 2, 1) := by decide +kernel
theorem dX7_isBetterKey_11 : decode cX7_isBetterKey 11 = .ok (.ifCond .gt 12, 3) := by decide +kernel
theorem dX7_isBetterKey_14 : decode cX7_isBetterKey 14 = .ok (.iload_n 2, 1) := by decide +kernel
theorem dX7_isBetterKey_15 : decode cX7_isBetterKey 15 = .ok (.ifCond .ne 12, 3) := by decide +kernel
theorem dX7_isBetterKey_18 : decode cX7_isBetterKey 18 = .ok (.iload_n 0, 1) := by decide +kernel
theorem dX7_isBetterKey_19 : decode cX7_isBetterKey 19 = .ok (.iload_n 1, 1) := by decide +kernel
theorem dX7_isBetterKey_20 : decode cX7_isBetterKey 20 = .ok (.if_icmp .ge 7, 3) := by decide +kernel
theorem dX7_isBetterKey_23 : decode cX7_isBetterKey 23 = .ok (.iconst 1, 1) := by decide +kernel
theorem dX7_isBetterKey_24 : decode cX7_isBetterKey 24 = .ok (.goto 4, 3) := by decide +kernel
theorem dX7_isBetterKey_27 : decode cX7_isBetterKey 27 = .ok (.iconst 0, 1) := by decide +kernel
theorem dX7_isBetterKey_28 : decode cX7_isBetterKey 28 = .ok (.ireturn, 1) := by decide +kernel
abbrev mdX7_isBetterKey : MD := (cX7_isBetterKey, RX7, 3, (some .boolean), yX7_isBetterKey.name, 2, 42, eT)
set_option maxHeartbeats 2000000 in
set_option maxRecDepth 20000 in
theorem p_X7_isBetterKey_J23 (C : KX)   : Cmp C mdX7_isBetterKey (QM rvI) 23 [] [] (m_X7_isBetterKey_J23 ) := by
  unfold m_X7_isBetterKey_J23
  refine C_iconst (D := mdX7_isBetterKey) (pc' := 24) (v := 1) dX7_isBetterKey_23 rfl (by decide) ?_
  refine C_goto (D := mdX7_isBetterKey) (pc' := 28) dX7_isBetterKey_24 (by decide) ?_
  exact C_zret rfl dX7_isBetterKey_28
set_option maxHeartbeats 2000000 in
set_option maxRecDepth 20000 in
theorem i_X7_isBetterKey (C : KX) (l0 : Int32) (l1 : Int32) : Imp C yX7_isBetterKey cX7_isBetterKey 3 (some .boolean) 2 42 rvI [.int l0, .int l1] (m_X7_isBetterKey l0 l1) := by
  refine Imp.of (by decide) (Nat.le_of_ble_eq_true rfl) [(0, .int l0), (1, .int l1)] rfl ?_
  show Cmp C mdX7_isBetterKey (QM rvI) 0 [(0, .int l0), (1, .int l1)] [] (m_X7_isBetterKey l0 l1)
  unfold m_X7_isBetterKey
  refine C_iload_n (D := mdX7_isBetterKey) (pc' := 1) (x := l0) dX7_isBetterKey_0 rfl 0 rfl ?_
  refine C_callS (D := mdX7_isBetterKey) (pc' := 4) (st := []) [.int l0] s_X7_177 (i_X3_sizeOf C l0) dX7_isBetterKey_1 rfl rfl rfl (Nat.le_of_ble_eq_true rfl) (by decide) (by decide) (fun c1 => ?_)
  refine C_iload_n (D := mdX7_isBetterKey) (pc' := 5) (x := l1) dX7_isBetterKey_4 rfl 1 rfl ?_
  refine C_callS (D := mdX7_isBetterKey) (pc' := 8) (st := [.int c1]) [.int l1] s_X7_177 (i_X3_sizeOf C l1) dX7_isBetterKey_5 rfl rfl rfl (Nat.le_of_ble_eq_true rfl) (by decide) (by decide) (fun c2 => ?_)
  refine C_isub (D := mdX7_isBetterKey) (pc' := 9) dX7_isBetterKey_8 rfl ?_
  refine C_letI (fun v3 => ?_)
  refine C_istore_n (D := mdX7_isBetterKey) (pc' := 10) (ls' := [(2, .int v3), (0, .int l0), (1, .int l1)]) dX7_isBetterKey_9 rfl rfl (by decide) rfl ?_
  refine C_iload_n (D := mdX7_isBetterKey) (pc' := 11) (x := v3) dX7_isBetterKey_10 rfl 0 rfl ?_
  refine C_if_gt (D := mdX7_isBetterKey) (pc' := 14) (tgt := 23) dX7_isBetterKey_11 (by decide) rfl ?_ ?_
  · exact C_sub [] rfl (p_X7_isBetterKey_J23 C )
  · refine C_iload_n (D := mdX7_isBetterKey) (pc' := 15) (x := v3) dX7_isBetterKey_14 rfl 0 rfl ?_
    refine C_if_ne (D := mdX7_isBetterKey) (pc' := 18) (tgt := 27) dX7_isBetterKey_15 (by decide) rfl ?_ ?_
    · refine C_iconst (D := mdX7_isBetterKey) (pc' := 28) (v := 0) dX7_isBetterKey_27 rfl (by decide) ?_
      exact C_zret rfl dX7_isBetterKey_28
    · refine C_iload_n (D := mdX7_isBetterKey) (pc' := 19) (x := l0) dX7_isBetterKey_18 rfl 1 rfl ?_
      refine C_iload_n (D := mdX7_isBetterKey) (pc' := 20) (x := l1) dX7_isBetterKey_19 rfl 2 rfl ?_
      refine C_icmp_ge (D := mdX7_isBetterKey) (pc' := 23) (tgt := 27) dX7_isBetterKey_20 (by decide) rfl ?_ ?_
      · refine C_iconst (D := mdX7_isBetterKey) (pc' := 28) (v := 0) dX7_isBetterKey_27 rfl (by decide) ?_
        exact C_zret rfl dX7_isBetterKey_28
      · exact C_sub [] rfl (p_X7_isBetterKey_J23 C )

-- StandingQueries.keyOf(I)I
theorem dX7_keyOf_0 : decode cX7_keyOf 0 = .ok (.iconst 0, 1) := by decide +kernel
theorem dX7_keyOf_1 : decode cX7_keyOf 1 = .ok (.istore_n 2, 1) := by decide +kernel
theorem dX7_keyOf_2 : decode cX7_keyOf 2 = .ok (.iconst 0, 1) := by decide +kernel
theorem dX7_keyOf_3 : decode cX7_keyOf 3 = .ok (.istore_n 3, 1) := by decide +kernel
theorem dX7_keyOf_4 : decode cX7_keyOf 4 = .ok (.iload_n 3, 1) := by decide +kernel
theorem dX7_keyOf_5 : decode cX7_keyOf 5 = .ok (.aload_n 0, 1) := by decide +kernel
theorem dX7_keyOf_6 : decode cX7_keyOf 6 = .ok (.getfield 19, 3) := by decide +kernel
theorem dX7_keyOf_9 : decode cX7_keyOf 9 = .ok (.getfield 111, 3) := by decide +kernel
theorem dX7_keyOf_12 : decode cX7_keyOf 12 = .ok (.iload_n 1, 1) := by decide +kernel
theorem dX7_keyOf_13 : decode cX7_keyOf 13 = .ok (.iaload, 1) := by decide +kernel
theorem dX7_keyOf_14 : decode cX7_keyOf 14 = .ok (.if_icmp .ge 61, 3) := by decide +kernel
theorem dX7_keyOf_17 : decode cX7_keyOf 17 = .ok (.aload_n 0, 1) := by decide +kernel
theorem dX7_keyOf_18 : decode cX7_keyOf 18 = .ok (.getfield 19, 3) := by decide +kernel
theorem dX7_keyOf_21 : decode cX7_keyOf 21 = .ok (.iload_n 1, 1) := by decide +kernel
theorem dX7_keyOf_22 : decode cX7_keyOf 22 = .ok (.iload_n 3, 1) := by decide +kernel
theorem dX7_keyOf_23 : decode cX7_keyOf 23 = .ok (.invokevirtual 131, 3) := by decide +kernel
theorem dX7_keyOf_26 : decode cX7_keyOf 26 = .ok (.istore 4, 2) := by decide +kernel
theorem dX7_keyOf_28 : decode cX7_keyOf 28 = .ok (.aload_n 0, 1) := by decide +kernel
theorem dX7_keyOf_29 : decode cX7_keyOf 29 = .ok (.getfield 19, 3) := by decide +kernel
theorem dX7_keyOf_32 : decode cX7_keyOf 32 = .ok (.getfield 135, 3) := by decide +kernel
theorem dX7_keyOf_35 : decode cX7_keyOf 35 = .ok (.iload 4, 2) := by decide +kernel
theorem dX7_keyOf_37 : decode cX7_keyOf 37 = .ok (.iaload, 1) := by decide +kernel
theorem dX7_keyOf_38 : decode cX7_keyOf 38 = .ok (.ifCond .ne 31, 3) := by decide +kernel
theorem dX7_keyOf_41 : decode cX7_keyOf 41 = .ok (.aload_n 0, 1) := by decide +kernel
theorem dX7_keyOf_42 : decode cX7_keyOf 42 = .ok (.getfield 19, 3) := by decide +kernel
theorem dX7_keyOf_45 : decode cX7_keyOf 45 = .ok (.getfield 138, 3) := by decide +kernel
theorem dX7_keyOf_48 : decode cX7_keyOf 48 = .ok (.iload 4, 2) := by decide +kernel
theorem dX7_keyOf_50 : decode cX7_keyOf 50 = .ok (.iaload, 1) := by decide +kernel
theorem dX7_keyOf_51 : decode cX7_keyOf 51 = .ok (.iload_n 2, 1) := by decide +kernel
theorem dX7_keyOf_52 : decode cX7_keyOf 52 = .ok (.invokestatic 262, 3) := by decide +kernel
theorem dX7_keyOf_55 : decode cX7_keyOf 55 = .ok (.ifCond .eq 14, 3) := by decide +kernel
theorem dX7_keyOf_58 : decode cX7_keyOf 58 = .ok (.aload_n 0, 1) := by decide +kernel
theorem dX7_keyOf_59 : decode cX7_keyOf 59 = .ok (.getfield 19, 3) := by decide +kernel
theorem dX7_keyOf_62 : decode cX7_keyOf 62 = .ok (.getfield 138, 3) := by decide +kernel
theorem dX7_keyOf_65 : decode cX7_keyOf 65 = .ok (.iload 4, 2) := by decide +kernel
theorem dX7_keyOf_67 : decode cX7_keyOf 67 = .ok (.iaload, 1) := by decide +kernel
theorem dX7_keyOf_68 : decode cX7_keyOf 68 = .ok (.istore_n 2, 1) := by decide +kernel
theorem dX7_keyOf_69 : decode cX7_keyOf 69 = .ok (.iinc 3 1, 3) := by decide +kernel
theorem dX7_keyOf_72 : decode cX7_keyOf 72 = .ok (.goto (-68), 3) := by decide +kernel
theorem dX7_keyOf_75 : decode cX7_keyOf 75 = .ok (.iload_n 2, 1) := by decide +kernel
theorem dX7_keyOf_76 : decode cX7_keyOf 76 = .ok (.ireturn, 1) := by decide +kernel
abbrev mdX7_keyOf : MD := (cX7_keyOf, RX7, 5, (some .int), yX7_keyOf.name, 3, 64, eT)
set_option maxHeartbeats 2000000 in
set_option maxRecDepth 20000 in
theorem p_X7_keyOf_J69 (C : KX) (l0 : Nat) (l1 : Int32) (l2 : Int32) (l3 : Int32) (k4 : Int32 × Int32 → Mo Int32) (hk4 : ∀ s, Cmp C mdX7_keyOf (QM rvI) 4 [(0, .ref (kB C + l0)), (1, .int l1), (2, .int s.1), (3, .int s.2)] [] (k4 s)) : Cmp C mdX7_keyOf (QM rvI) 69 [(0, .ref (kB C + l0)), (1, .int l1), (2, .int l2), (3, .int l3)] [] (m_X7_keyOf_J69 l0 l1 l2 l3 k4) := by
  unfold m_X7_keyOf_J69
  refine C_iinc (D := mdX7_keyOf) (pc' := 72) (j := 3) (v := (l3 + 1)) (ls' := [(3, .int (l3 + 1)), (0, .ref (kB C + l0)), (1, .int l1), (2, .int l2)]) dX7_keyOf_69 rfl rfl rfl (by decide) rfl ?_
  refine C_goto (D := mdX7_keyOf) (pc' := 4) dX7_keyOf_72 (by decide) ?_
  exact C_sub [1, 2, 3, 0] rfl (hk4 (l2, (l3 + 1)))
set_option maxHeartbeats 2000000 in
set_option maxRecDepth 20000 in
theorem p_X7_keyOf_B4 (C : KX) (l0 : Nat) (l1 : Int32)  (k4 : Int32 × Int32 → Mo Int32) (hk4 : ∀ s, Cmp C mdX7_keyOf (QM rvI) 4 [(0, .ref (kB C + l0)), (1, .int l1), (2, .int s.1), (3, .int s.2)] [] (k4 s)) (l2 : Int32) (l3 : Int32) : Cmp C mdX7_keyOf (QM rvI) 4 [(0, .ref (kB C + l0)), (1, .int l1), (2, .int l2), (3, .int l3)] [] (m_X7_keyOf_B4 l0 l1 k4 l2 l3) := by
  unfold m_X7_keyOf_B4
  refine C_iload_n (D := mdX7_keyOf) (pc' := 5) (x := l3) dX7_keyOf_4 rfl 3 rfl ?_
  refine C_aload_n (D := mdX7_keyOf) (pc' := 6) (x := kB C + l0) dX7_keyOf_5 rfl 0 rfl ?_
  refine C_getR (D := mdX7_keyOf) (pc' := 9) (p := l0) f_X7_19 rfl dX7_keyOf_6 rfl (fun held1 => ?_)
  refine C_getR (D := mdX7_keyOf) (pc' := 12) (p := held1) f_X7_111 rfl dX7_keyOf_9 rfl (fun parts2 => ?_)
  refine C_iload_n (D := mdX7_keyOf) (pc' := 13) (x := l1) dX7_keyOf_12 rfl 1 rfl ?_
  refine C_aI (D := mdX7_keyOf) (pc' := 14) (p := parts2) dX7_keyOf_13 rfl (fun x3 => ?_)
  refine C_icmp_ge (D := mdX7_keyOf) (pc' := 17) (tgt := 75) dX7_keyOf_14 (by decide) rfl ?_ ?_
  · refine C_iload_n (D := mdX7_keyOf) (pc' := 76) (x := l2) dX7_keyOf_75 rfl 2 rfl ?_
    exact C_iret rfl dX7_keyOf_76
  · refine C_aload_n (D := mdX7_keyOf) (pc' := 18) (x := kB C + l0) dX7_keyOf_17 rfl 0 rfl ?_
    refine C_getR (D := mdX7_keyOf) (pc' := 21) (p := l0) f_X7_19 rfl dX7_keyOf_18 rfl (fun held4 => ?_)
    refine C_iload_n (D := mdX7_keyOf) (pc' := 22) (x := l1) dX7_keyOf_21 rfl 1 rfl ?_
    refine C_iload_n (D := mdX7_keyOf) (pc' := 23) (x := l3) dX7_keyOf_22 rfl 3 rfl ?_
    refine C_callV (D := mdX7_keyOf) (pc' := 26) (p := held4) (st := []) [.int l1, .int l3] v_X7_131 (i_X1_place C held4 l1 l3) dX7_keyOf_23 rfl rfl rfl (Nat.le_of_ble_eq_true rfl) (by decide) (by decide) (fun c5 => ?_)
    refine C_istore (D := mdX7_keyOf) (pc' := 28) (ls' := [(4, .int c5), (0, .ref (kB C + l0)), (1, .int l1), (2, .int l2), (3, .int l3)]) dX7_keyOf_26 rfl (by decide) rfl ?_
    refine C_aload_n (D := mdX7_keyOf) (pc' := 29) (x := kB C + l0) dX7_keyOf_28 rfl 1 rfl ?_
    refine C_getR (D := mdX7_keyOf) (pc' := 32) (p := l0) f_X7_19 rfl dX7_keyOf_29 rfl (fun held6 => ?_)
    refine C_getR (D := mdX7_keyOf) (pc' := 35) (p := held6) f_X7_135 rfl dX7_keyOf_32 rfl (fun sort7 => ?_)
    refine C_iload (D := mdX7_keyOf) (pc' := 37) (x := c5) dX7_keyOf_35 rfl 0 rfl ?_
    refine C_aI (D := mdX7_keyOf) (pc' := 38) (p := sort7) dX7_keyOf_37 rfl (fun x8 => ?_)
    refine C_if_ne (D := mdX7_keyOf) (pc' := 41) (tgt := 69) dX7_keyOf_38 (by decide) rfl ?_ ?_
    · exact C_sub [1, 2, 3, 4] rfl (p_X7_keyOf_J69 C l0 l1 l2 l3 k4 hk4)
    · refine C_aload_n (D := mdX7_keyOf) (pc' := 42) (x := kB C + l0) dX7_keyOf_41 rfl 1 rfl ?_
      refine C_getR (D := mdX7_keyOf) (pc' := 45) (p := l0) f_X7_19 rfl dX7_keyOf_42 rfl (fun held9 => ?_)
      refine C_getR (D := mdX7_keyOf) (pc' := 48) (p := held9) f_X7_138 rfl dX7_keyOf_45 rfl (fun word10 => ?_)
      refine C_iload (D := mdX7_keyOf) (pc' := 50) (x := c5) dX7_keyOf_48 rfl 0 rfl ?_
      refine C_aI (D := mdX7_keyOf) (pc' := 51) (p := word10) dX7_keyOf_50 rfl (fun x11 => ?_)
      refine C_iload_n (D := mdX7_keyOf) (pc' := 52) (x := l2) dX7_keyOf_51 rfl 3 rfl ?_
      refine C_callS (D := mdX7_keyOf) (pc' := 55) (st := []) [.int x11, .int l2] s_X7_262 (i_X7_isBetterKey C x11 l2) dX7_keyOf_52 rfl rfl rfl (Nat.le_of_ble_eq_true rfl) (by decide) (by decide) (fun c12 => ?_)
      refine C_if_eq (D := mdX7_keyOf) (pc' := 58) (tgt := 69) dX7_keyOf_55 (by decide) rfl ?_ ?_
      · exact C_sub [1, 2, 3, 4] rfl (p_X7_keyOf_J69 C l0 l1 l2 l3 k4 hk4)
      · refine C_aload_n (D := mdX7_keyOf) (pc' := 59) (x := kB C + l0) dX7_keyOf_58 rfl 1 rfl ?_
        refine C_getR (D := mdX7_keyOf) (pc' := 62) (p := l0) f_X7_19 rfl dX7_keyOf_59 rfl (fun held13 => ?_)
        refine C_getR (D := mdX7_keyOf) (pc' := 65) (p := held13) f_X7_138 rfl dX7_keyOf_62 rfl (fun word14 => ?_)
        refine C_iload (D := mdX7_keyOf) (pc' := 67) (x := c5) dX7_keyOf_65 rfl 0 rfl ?_
        refine C_aI (D := mdX7_keyOf) (pc' := 68) (p := word14) dX7_keyOf_67 rfl (fun x15 => ?_)
        refine C_istore_n (D := mdX7_keyOf) (pc' := 69) (ls' := [(2, .int x15), (4, .int c5), (0, .ref (kB C + l0)), (1, .int l1), (3, .int l3)]) dX7_keyOf_68 rfl rfl (by decide) rfl ?_
        exact C_sub [2, 3, 0, 4] rfl (p_X7_keyOf_J69 C l0 l1 x15 l3 k4 hk4)
set_option maxHeartbeats 2000000 in
set_option maxRecDepth 20000 in
theorem i_X7_keyOf (C : KX) (l0 : Nat) (l1 : Int32) : Imp C yX7_keyOf cX7_keyOf 5 (some .int) 3 64 rvI [.ref (kB C + l0), .int l1] (m_X7_keyOf l0 l1) := by
  refine Imp.of (by decide) (Nat.le_of_ble_eq_true rfl) [(0, .ref (kB C + l0)), (1, .int l1)] rfl ?_
  show Cmp C mdX7_keyOf (QM rvI) 0 [(0, .ref (kB C + l0)), (1, .int l1)] [] (m_X7_keyOf l0 l1)
  unfold m_X7_keyOf
  refine C_iconst (D := mdX7_keyOf) (pc' := 1) (v := 0) dX7_keyOf_0 rfl (by decide) ?_
  refine C_istore_n (D := mdX7_keyOf) (pc' := 2) (ls' := [(2, .int 0), (0, .ref (kB C + l0)), (1, .int l1)]) dX7_keyOf_1 rfl rfl (by decide) rfl ?_
  refine C_iconst (D := mdX7_keyOf) (pc' := 3) (v := 0) dX7_keyOf_2 rfl (by decide) ?_
  refine C_istore_n (D := mdX7_keyOf) (pc' := 4) (ls' := [(3, .int 0), (2, .int 0), (0, .ref (kB C + l0)), (1, .int l1)]) dX7_keyOf_3 rfl rfl (by decide) rfl ?_
  exact C_sub [2, 3, 1, 0] rfl (C_loop (fun s => [(0, .ref (kB C + l0)), (1, .int l1), (2, .int s.1), (3, .int s.2)]) (fun k hk s => p_X7_keyOf_B4 C l0 l1  k hk s.1 s.2) FU (0, 0))

-- StandingQueries.isAsked(I)Z
theorem dX7_isAsked_0 : decode cX7_isAsked 0 = .ok (.aload_n 0, 1) := by decide +kernel
theorem dX7_isAsked_1 : decode cX7_isAsked 1 = .ok (.iload_n 1, 1) := by decide +kernel
theorem dX7_isAsked_2 : decode cX7_isAsked 2 = .ok (.invokevirtual 122, 3) := by decide +kernel
theorem dX7_isAsked_5 : decode cX7_isAsked 5 = .ok (.istore_n 2, 1) := by decide +kernel
theorem dX7_isAsked_6 : decode cX7_isAsked 6 = .ok (.iload_n 2, 1) := by decide +kernel
theorem dX7_isAsked_7 : decode cX7_isAsked 7 = .ok (.ifCond .eq 13, 3) := by decide +kernel
theorem dX7_isAsked_10 : decode cX7_isAsked 10 = .ok (.aload_n 0, 1) := by decide +kernel
theorem dX7_isAsked_11 : decode cX7_isAsked 11 = .ok (.iload_n 2, 1) := by decide +kernel
theorem dX7_isAsked_12 : decode cX7_isAsked 12 = .ok (.invokevirtual 250, 3) := by decide +kernel
theorem dX7_isAsked_15 : decode cX7_isAsked 15 = .ok (.lconst 0, 1) := by decide +kernel
theorem dX7_isAsked_16 : decode cX7_isAsked 16 = .ok (.lcmp, 1) := by decide +kernel
theorem dX7_isAsked_17 : decode cX7_isAsked 17 = .ok (.ifCond .eq 7, 3) := by decide +kernel
theorem dX7_isAsked_20 : decode cX7_isAsked 20 = .ok (.iconst 1, 1) := by decide +kernel
theorem dX7_isAsked_21 : decode cX7_isAsked 21 = .ok (.goto 4, 3) := by decide +kernel
theorem dX7_isAsked_24 : decode cX7_isAsked 24 = .ok (.iconst 0, 1) := by decide +kernel
theorem dX7_isAsked_25 : decode cX7_isAsked 25 = .ok (.ireturn, 1) := by decide +kernel
abbrev mdX7_isAsked : MD := (cX7_isAsked, RX7, 3, (some .boolean), yX7_isAsked.name, 4, 88, eT)
set_option maxHeartbeats 2000000 in
set_option maxRecDepth 20000 in
theorem p_X7_isAsked_J20 (C : KX)   : Cmp C mdX7_isAsked (QM rvI) 20 [] [] (m_X7_isAsked_J20 ) := by
  unfold m_X7_isAsked_J20
  refine C_iconst (D := mdX7_isAsked) (pc' := 21) (v := 1) dX7_isAsked_20 rfl (by decide) ?_
  refine C_goto (D := mdX7_isAsked) (pc' := 25) dX7_isAsked_21 (by decide) ?_
  exact C_zret rfl dX7_isAsked_25
set_option maxHeartbeats 2000000 in
set_option maxRecDepth 20000 in
theorem i_X7_isAsked (C : KX) (l0 : Nat) (l1 : Int32) : Imp C yX7_isAsked cX7_isAsked 3 (some .boolean) 4 88 rvI [.ref (kB C + l0), .int l1] (m_X7_isAsked l0 l1) := by
  refine Imp.of (by decide) (Nat.le_of_ble_eq_true rfl) [(0, .ref (kB C + l0)), (1, .int l1)] rfl ?_
  show Cmp C mdX7_isAsked (QM rvI) 0 [(0, .ref (kB C + l0)), (1, .int l1)] [] (m_X7_isAsked l0 l1)
  unfold m_X7_isAsked
  refine C_aload_n (D := mdX7_isAsked) (pc' := 1) (x := kB C + l0) dX7_isAsked_0 rfl 0 rfl ?_
  refine C_iload_n (D := mdX7_isAsked) (pc' := 2) (x := l1) dX7_isAsked_1 rfl 1 rfl ?_
  refine C_callV (D := mdX7_isAsked) (pc' := 5) (p := l0) (st := []) [.int l1] v_X7_122 (i_X7_keyOf C l0 l1) dX7_isAsked_2 rfl rfl rfl (Nat.le_of_ble_eq_true rfl) (by decide) (by decide) (fun c1 => ?_)
  refine C_istore_n (D := mdX7_isAsked) (pc' := 6) (ls' := [(2, .int c1), (0, .ref (kB C + l0)), (1, .int l1)]) dX7_isAsked_5 rfl rfl (by decide) rfl ?_
  refine C_iload_n (D := mdX7_isAsked) (pc' := 7) (x := c1) dX7_isAsked_6 rfl 0 rfl ?_
  refine C_if_eq (D := mdX7_isAsked) (pc' := 10) (tgt := 20) dX7_isAsked_7 (by decide) rfl ?_ ?_
  · exact C_sub [] rfl (p_X7_isAsked_J20 C )
  · refine C_aload_n (D := mdX7_isAsked) (pc' := 11) (x := kB C + l0) dX7_isAsked_10 rfl 1 rfl ?_
    refine C_iload_n (D := mdX7_isAsked) (pc' := 12) (x := c1) dX7_isAsked_11 rfl 0 rfl ?_
    refine C_callV (D := mdX7_isAsked) (pc' := 15) (p := l0) (st := []) [.int c1] v_X7_250 (i_X7_hitsOf C l0 c1) dX7_isAsked_12 rfl rfl rfl (Nat.le_of_ble_eq_true rfl) (by decide) (by decide) (fun c2 => ?_)
    refine C_lconst (D := mdX7_isAsked) (pc' := 16) (v := 0) dX7_isAsked_15 rfl (by decide) ?_
    refine C_lcmp (D := mdX7_isAsked) (pc' := 17) dX7_isAsked_16 rfl ?_
    refine C_if_eq (D := mdX7_isAsked) (pc' := 20) (tgt := 24) dX7_isAsked_17 (by decide) rfl ?_ ?_
    · refine C_iconst (D := mdX7_isAsked) (pc' := 25) (v := 0) dX7_isAsked_24 rfl (by decide) ?_
      exact C_zret rfl dX7_isAsked_25
    · exact C_sub [] rfl (p_X7_isAsked_J20 C )

-- StandingQueries.query(II)I
theorem dX7_query_0 : decode cX7_query 0 = .ok (.aload_n 0, 1) := by decide +kernel
theorem dX7_query_1 : decode cX7_query 1 = .ok (.iload_n 1, 1) := by decide +kernel
theorem dX7_query_2 : decode cX7_query 2 = .ok (.invokevirtual 82, 3) := by decide +kernel
theorem dX7_query_5 : decode cX7_query 5 = .ok (.ifCond .ne 5, 3) := by decide +kernel
theorem dX7_query_8 : decode cX7_query 8 = .ok (.iconst (-1), 1) := by decide +kernel
theorem dX7_query_9 : decode cX7_query 9 = .ok (.ireturn, 1) := by decide +kernel
theorem dX7_query_10 : decode cX7_query 10 = .ok (.iload_n 2, 1) := by decide +kernel
theorem dX7_query_11 : decode cX7_query 11 = .ok (.tableswitch 97 0 4 #[33, 43, 64, 70, 83], 33) := by decide +kernel
theorem dX7_query_44 : decode cX7_query 44 = .ok (.aload_n 0, 1) := by decide +kernel
theorem dX7_query_45 : decode cX7_query 45 = .ok (.getfield 19, 3) := by decide +kernel
theorem dX7_query_48 : decode cX7_query 48 = .ok (.getfield 111, 3) := by decide +kernel
theorem dX7_query_51 : decode cX7_query 51 = .ok (.iload_n 1, 1) := by decide +kernel
theorem dX7_query_52 : decode cX7_query 52 = .ok (.iaload, 1) := by decide +kernel
theorem dX7_query_53 : decode cX7_query 53 = .ok (.ireturn, 1) := by decide +kernel
theorem dX7_query_54 : decode cX7_query 54 = .ok (.aload_n 0, 1) := by decide +kernel
theorem dX7_query_55 : decode cX7_query 55 = .ok (.iload_n 1, 1) := by decide +kernel
theorem dX7_query_56 : decode cX7_query 56 = .ok (.aload_n 0, 1) := by decide +kernel
theorem dX7_query_57 : decode cX7_query 57 = .ok (.getfield 19, 3) := by decide +kernel
theorem dX7_query_60 : decode cX7_query 60 = .ok (.getfield 91, 3) := by decide +kernel
theorem dX7_query_63 : decode cX7_query 63 = .ok (.invokevirtual 114, 3) := by decide +kernel
theorem dX7_query_66 : decode cX7_query 66 = .ok (.ifCond .eq 7, 3) := by decide +kernel
theorem dX7_query_69 : decode cX7_query 69 = .ok (.iconst 1, 1) := by decide +kernel
theorem dX7_query_70 : decode cX7_query 70 = .ok (.goto 4, 3) := by decide +kernel
theorem dX7_query_73 : decode cX7_query 73 = .ok (.iconst 0, 1) := by decide +kernel
theorem dX7_query_74 : decode cX7_query 74 = .ok (.ireturn, 1) := by decide +kernel
theorem dX7_query_75 : decode cX7_query 75 = .ok (.aload_n 0, 1) := by decide +kernel
theorem dX7_query_76 : decode cX7_query 76 = .ok (.iload_n 1, 1) := by decide +kernel
theorem dX7_query_77 : decode cX7_query 77 = .ok (.invokevirtual 118, 3) := by decide +kernel
theorem dX7_query_80 : decode cX7_query 80 = .ok (.ireturn, 1) := by decide +kernel
theorem dX7_query_81 : decode cX7_query 81 = .ok (.aload_n 0, 1) := by decide +kernel
theorem dX7_query_82 : decode cX7_query 82 = .ok (.getfield 39, 3) := by decide +kernel
theorem dX7_query_85 : decode cX7_query 85 = .ok (.aload_n 0, 1) := by decide +kernel
theorem dX7_query_86 : decode cX7_query 86 = .ok (.iload_n 1, 1) := by decide +kernel
theorem dX7_query_87 : decode cX7_query 87 = .ok (.invokevirtual 122, 3) := by decide +kernel
theorem dX7_query_90 : decode cX7_query 90 = .ok (.invokevirtual 125, 3) := by decide +kernel
theorem dX7_query_93 : decode cX7_query 93 = .ok (.ireturn, 1) := by decide +kernel
theorem dX7_query_94 : decode cX7_query 94 = .ok (.aload_n 0, 1) := by decide +kernel
theorem dX7_query_95 : decode cX7_query 95 = .ok (.iload_n 1, 1) := by decide +kernel
theorem dX7_query_96 : decode cX7_query 96 = .ok (.invokevirtual 128, 3) := by decide +kernel
theorem dX7_query_99 : decode cX7_query 99 = .ok (.ifCond .eq 7, 3) := by decide +kernel
theorem dX7_query_102 : decode cX7_query 102 = .ok (.iconst 1, 1) := by decide +kernel
theorem dX7_query_103 : decode cX7_query 103 = .ok (.goto 4, 3) := by decide +kernel
theorem dX7_query_106 : decode cX7_query 106 = .ok (.iconst 0, 1) := by decide +kernel
theorem dX7_query_107 : decode cX7_query 107 = .ok (.ireturn, 1) := by decide +kernel
theorem dX7_query_108 : decode cX7_query 108 = .ok (.iconst (-1), 1) := by decide +kernel
theorem dX7_query_109 : decode cX7_query 109 = .ok (.ireturn, 1) := by decide +kernel
abbrev mdX7_query : MD := (cX7_query, RX7, 3, (some .int), yX7_query.name, 5, 113, eT)
set_option maxHeartbeats 2000000 in
set_option maxRecDepth 20000 in
theorem i_X7_query (C : KX) (l0 : Nat) (l1 : Int32) (l2 : Int32) : Imp C yX7_query cX7_query 3 (some .int) 5 113 rvI [.ref (kB C + l0), .int l1, .int l2] (m_X7_query l0 l1 l2) := by
  refine Imp.of (by decide) (Nat.le_of_ble_eq_true rfl) [(0, .ref (kB C + l0)), (1, .int l1), (2, .int l2)] rfl ?_
  show Cmp C mdX7_query (QM rvI) 0 [(0, .ref (kB C + l0)), (1, .int l1), (2, .int l2)] [] (m_X7_query l0 l1 l2)
  unfold m_X7_query
  refine C_aload_n (D := mdX7_query) (pc' := 1) (x := kB C + l0) dX7_query_0 rfl 0 rfl ?_
  refine C_iload_n (D := mdX7_query) (pc' := 2) (x := l1) dX7_query_1 rfl 1 rfl ?_
  refine C_callV (D := mdX7_query) (pc' := 5) (p := l0) (st := []) [.int l1] v_X7_82 (i_X7_isQuery C l0 l1) dX7_query_2 rfl rfl rfl (Nat.le_of_ble_eq_true rfl) (by decide) (by decide) (fun c1 => ?_)
  refine C_if_ne (D := mdX7_query) (pc' := 8) (tgt := 10) dX7_query_5 (by decide) rfl ?_ ?_
  · refine C_iload_n (D := mdX7_query) (pc' := 11) (x := l2) dX7_query_10 rfl 2 rfl ?_
    refine C_tcase (D := mdX7_query) (c := 0) 0 (by decide) (tgt := 44) dX7_query_11 (by decide) (by decide) rfl (by decide) ?_ (fun h0 => ?_)
    · refine C_aload_n (D := mdX7_query) (pc' := 45) (x := kB C + l0) dX7_query_44 rfl 0 rfl ?_
      refine C_getR (D := mdX7_query) (pc' := 48) (p := l0) f_X7_19 rfl dX7_query_45 rfl (fun held2 => ?_)
      refine C_getR (D := mdX7_query) (pc' := 51) (p := held2) f_X7_111 rfl dX7_query_48 rfl (fun parts3 => ?_)
      refine C_iload_n (D := mdX7_query) (pc' := 52) (x := l1) dX7_query_51 rfl 1 rfl ?_
      refine C_aI (D := mdX7_query) (pc' := 53) (p := parts3) dX7_query_52 rfl (fun x4 => ?_)
      exact C_iret rfl dX7_query_53
    refine C_tcase (D := mdX7_query) (c := 1) 1 (by decide) (tgt := 54) dX7_query_11 (by decide) (by decide) rfl (by decide) ?_ (fun h1 => ?_)
    · refine C_aload_n (D := mdX7_query) (pc' := 55) (x := kB C + l0) dX7_query_54 rfl 0 rfl ?_
      refine C_iload_n (D := mdX7_query) (pc' := 56) (x := l1) dX7_query_55 rfl 1 rfl ?_
      refine C_aload_n (D := mdX7_query) (pc' := 57) (x := kB C + l0) dX7_query_56 rfl 0 rfl ?_
      refine C_getR (D := mdX7_query) (pc' := 60) (p := l0) f_X7_19 rfl dX7_query_57 rfl (fun held5 => ?_)
      refine C_getI (D := mdX7_query) (pc' := 63) (p := held5) f_X7_91 rfl dX7_query_60 rfl (fun letters6 => ?_)
      refine C_callV (D := mdX7_query) (pc' := 66) (p := l0) (st := []) [.int l1, .int letters6] v_X7_114 (i_X7_matches C l0 l1 letters6) dX7_query_63 rfl rfl rfl (Nat.le_of_ble_eq_true rfl) (by decide) (by decide) (fun c7 => ?_)
      refine C_if_eq (D := mdX7_query) (pc' := 69) (tgt := 73) dX7_query_66 (by decide) rfl ?_ ?_
      · refine C_iconst (D := mdX7_query) (pc' := 74) (v := 0) dX7_query_73 rfl (by decide) ?_
        exact C_iret rfl dX7_query_74
      · refine C_iconst (D := mdX7_query) (pc' := 70) (v := 1) dX7_query_69 rfl (by decide) ?_
        refine C_goto (D := mdX7_query) (pc' := 74) dX7_query_70 (by decide) ?_
        exact C_iret rfl dX7_query_74
    refine C_tcase (D := mdX7_query) (c := 2) 2 (by decide) (tgt := 75) dX7_query_11 (by decide) (by decide) rfl (by decide) ?_ (fun h2 => ?_)
    · refine C_aload_n (D := mdX7_query) (pc' := 76) (x := kB C + l0) dX7_query_75 rfl 0 rfl ?_
      refine C_iload_n (D := mdX7_query) (pc' := 77) (x := l1) dX7_query_76 rfl 1 rfl ?_
      refine C_callV (D := mdX7_query) (pc' := 80) (p := l0) (st := []) [.int l1] v_X7_118 (i_X7_since C l0 l1) dX7_query_77 rfl rfl rfl (Nat.le_of_ble_eq_true rfl) (by decide) (by decide) (fun c8 => ?_)
      exact C_iret rfl dX7_query_80
    refine C_tcase (D := mdX7_query) (c := 3) 3 (by decide) (tgt := 81) dX7_query_11 (by decide) (by decide) rfl (by decide) ?_ (fun h3 => ?_)
    · refine C_aload_n (D := mdX7_query) (pc' := 82) (x := kB C + l0) dX7_query_81 rfl 0 rfl ?_
      refine C_getR (D := mdX7_query) (pc' := 85) (p := l0) f_X7_39 rfl dX7_query_82 rfl (fun words9 => ?_)
      refine C_aload_n (D := mdX7_query) (pc' := 86) (x := kB C + l0) dX7_query_85 rfl 0 rfl ?_
      refine C_iload_n (D := mdX7_query) (pc' := 87) (x := l1) dX7_query_86 rfl 1 rfl ?_
      refine C_callV (D := mdX7_query) (pc' := 90) (p := l0) (st := [.ref (kB C + words9)]) [.int l1] v_X7_122 (i_X7_keyOf C l0 l1) dX7_query_87 rfl rfl rfl (Nat.le_of_ble_eq_true rfl) (by decide) (by decide) (fun c10 => ?_)
      refine C_callV (D := mdX7_query) (pc' := 93) (p := words9) (st := []) [.int c10] v_X7_125 (i_X6_find C words9 c10) dX7_query_90 rfl rfl rfl (Nat.le_of_ble_eq_true rfl) (by decide) (by decide) (fun c11 => ?_)
      exact C_iret rfl dX7_query_93
    refine C_tcase (D := mdX7_query) (c := 4) 4 (by decide) (tgt := 94) dX7_query_11 (by decide) (by decide) rfl (by decide) ?_ (fun h4 => ?_)
    · refine C_aload_n (D := mdX7_query) (pc' := 95) (x := kB C + l0) dX7_query_94 rfl 0 rfl ?_
      refine C_iload_n (D := mdX7_query) (pc' := 96) (x := l1) dX7_query_95 rfl 1 rfl ?_
      refine C_callV (D := mdX7_query) (pc' := 99) (p := l0) (st := []) [.int l1] v_X7_128 (i_X7_isAsked C l0 l1) dX7_query_96 rfl rfl rfl (Nat.le_of_ble_eq_true rfl) (by decide) (by decide) (fun c12 => ?_)
      refine C_if_eq (D := mdX7_query) (pc' := 102) (tgt := 106) dX7_query_99 (by decide) rfl ?_ ?_
      · refine C_iconst (D := mdX7_query) (pc' := 107) (v := 0) dX7_query_106 rfl (by decide) ?_
        exact C_iret rfl dX7_query_107
      · refine C_iconst (D := mdX7_query) (pc' := 103) (v := 1) dX7_query_102 rfl (by decide) ?_
        refine C_goto (D := mdX7_query) (pc' := 107) dX7_query_103 (by decide) ?_
        exact C_iret rfl dX7_query_107
    refine C_tdef (D := mdX7_query) (tgt := 108) dX7_query_11 (by omega) (by decide) ?_
    refine C_iconst (D := mdX7_query) (pc' := 109) (v := (-1)) dX7_query_108 rfl (by decide) ?_
    exact C_iret rfl dX7_query_109
  · refine C_iconst (D := mdX7_query) (pc' := 9) (v := (-1)) dX7_query_8 rfl (by decide) ?_
    exact C_iret rfl dX7_query_9

-- StandingQueries.part(III)I
theorem dX7_part_0 : decode cX7_part 0 = .ok (.aload_n 0, 1) := by decide +kernel
theorem dX7_part_1 : decode cX7_part 1 = .ok (.iload_n 1, 1) := by decide +kernel
theorem dX7_part_2 : decode cX7_part 2 = .ok (.invokevirtual 82, 3) := by decide +kernel
theorem dX7_part_5 : decode cX7_part 5 = .ok (.ifCond .eq 20, 3) := by decide +kernel
theorem dX7_part_8 : decode cX7_part 8 = .ok (.iload_n 2, 1) := by decide +kernel
theorem dX7_part_9 : decode cX7_part 9 = .ok (.ifCond .lt 16, 3) := by decide +kernel
theorem dX7_part_12 : decode cX7_part 12 = .ok (.iload_n 2, 1) := by decide +kernel
theorem dX7_part_13 : decode cX7_part 13 = .ok (.aload_n 0, 1) := by decide +kernel
theorem dX7_part_14 : decode cX7_part 14 = .ok (.getfield 19, 3) := by decide +kernel
theorem dX7_part_17 : decode cX7_part 17 = .ok (.getfield 111, 3) := by decide +kernel
theorem dX7_part_20 : decode cX7_part 20 = .ok (.iload_n 1, 1) := by decide +kernel
theorem dX7_part_21 : decode cX7_part 21 = .ok (.iaload, 1) := by decide +kernel
theorem dX7_part_22 : decode cX7_part 22 = .ok (.if_icmp .lt 5, 3) := by decide +kernel
theorem dX7_part_25 : decode cX7_part 25 = .ok (.iconst (-1), 1) := by decide +kernel
theorem dX7_part_26 : decode cX7_part 26 = .ok (.ireturn, 1) := by decide +kernel
theorem dX7_part_27 : decode cX7_part 27 = .ok (.aload_n 0, 1) := by decide +kernel
theorem dX7_part_28 : decode cX7_part 28 = .ok (.getfield 19, 3) := by decide +kernel
theorem dX7_part_31 : decode cX7_part 31 = .ok (.iload_n 1, 1) := by decide +kernel
theorem dX7_part_32 : decode cX7_part 32 = .ok (.iload_n 2, 1) := by decide +kernel
theorem dX7_part_33 : decode cX7_part 33 = .ok (.invokevirtual 131, 3) := by decide +kernel
theorem dX7_part_36 : decode cX7_part 36 = .ok (.istore 4, 2) := by decide +kernel
theorem dX7_part_38 : decode cX7_part 38 = .ok (.iload_n 3, 1) := by decide +kernel
theorem dX7_part_39 : decode cX7_part 39 = .ok (.tableswitch 132 0 4 #[33, 44, 62, 80, 110], 33) := by decide +kernel
theorem dX7_part_72 : decode cX7_part 72 = .ok (.aload_n 0, 1) := by decide +kernel
theorem dX7_part_73 : decode cX7_part 73 = .ok (.getfield 19, 3) := by decide +kernel
theorem dX7_part_76 : decode cX7_part 76 = .ok (.getfield 135, 3) := by decide +kernel
theorem dX7_part_79 : decode cX7_part 79 = .ok (.iload 4, 2) := by decide +kernel
theorem dX7_part_81 : decode cX7_part 81 = .ok (.iaload, 1) := by decide +kernel
theorem dX7_part_82 : decode cX7_part 82 = .ok (.ireturn, 1) := by decide +kernel
theorem dX7_part_83 : decode cX7_part 83 = .ok (.aload_n 0, 1) := by decide +kernel
theorem dX7_part_84 : decode cX7_part 84 = .ok (.getfield 39, 3) := by decide +kernel
theorem dX7_part_87 : decode cX7_part 87 = .ok (.aload_n 0, 1) := by decide +kernel
theorem dX7_part_88 : decode cX7_part 88 = .ok (.getfield 19, 3) := by decide +kernel
theorem dX7_part_91 : decode cX7_part 91 = .ok (.getfield 138, 3) := by decide +kernel
theorem dX7_part_94 : decode cX7_part 94 = .ok (.iload 4, 2) := by decide +kernel
theorem dX7_part_96 : decode cX7_part 96 = .ok (.iaload, 1) := by decide +kernel
theorem dX7_part_97 : decode cX7_part 97 = .ok (.invokevirtual 125, 3) := by decide +kernel
theorem dX7_part_100 : decode cX7_part 100 = .ok (.ireturn, 1) := by decide +kernel
theorem dX7_part_101 : decode cX7_part 101 = .ok (.aload_n 0, 1) := by decide +kernel
theorem dX7_part_102 : decode cX7_part 102 = .ok (.getfield 39, 3) := by decide +kernel
theorem dX7_part_105 : decode cX7_part 105 = .ok (.aload_n 0, 1) := by decide +kernel
theorem dX7_part_106 : decode cX7_part 106 = .ok (.getfield 19, 3) := by decide +kernel
theorem dX7_part_109 : decode cX7_part 109 = .ok (.getfield 141, 3) := by decide +kernel
theorem dX7_part_112 : decode cX7_part 112 = .ok (.iload 4, 2) := by decide +kernel
theorem dX7_part_114 : decode cX7_part 114 = .ok (.iaload, 1) := by decide +kernel
theorem dX7_part_115 : decode cX7_part 115 = .ok (.invokevirtual 125, 3) := by decide +kernel
theorem dX7_part_118 : decode cX7_part 118 = .ok (.ireturn, 1) := by decide +kernel
theorem dX7_part_119 : decode cX7_part 119 = .ok (.aload_n 0, 1) := by decide +kernel
theorem dX7_part_120 : decode cX7_part 120 = .ok (.getfield 19, 3) := by decide +kernel
theorem dX7_part_123 : decode cX7_part 123 = .ok (.getfield 135, 3) := by decide +kernel
theorem dX7_part_126 : decode cX7_part 126 = .ok (.iload 4, 2) := by decide +kernel
theorem dX7_part_128 : decode cX7_part 128 = .ok (.iaload, 1) := by decide +kernel
theorem dX7_part_129 : decode cX7_part 129 = .ok (.iconst 2, 1) := by decide +kernel
theorem dX7_part_130 : decode cX7_part 130 = .ok (.if_icmp .ne 16, 3) := by decide +kernel
theorem dX7_part_133 : decode cX7_part 133 = .ok (.aload_n 0, 1) := by decide +kernel
theorem dX7_part_134 : decode cX7_part 134 = .ok (.getfield 19, 3) := by decide +kernel
theorem dX7_part_137 : decode cX7_part 137 = .ok (.getfield 144, 3) := by decide +kernel
theorem dX7_part_140 : decode cX7_part 140 = .ok (.iload 4, 2) := by decide +kernel
theorem dX7_part_142 : decode cX7_part 142 = .ok (.iaload, 1) := by decide +kernel
theorem dX7_part_143 : decode cX7_part 143 = .ok (.goto 5, 3) := by decide +kernel
theorem dX7_part_146 : decode cX7_part 146 = .ok (.bipush (-9), 2) := by decide +kernel
theorem dX7_part_148 : decode cX7_part 148 = .ok (.ireturn, 1) := by decide +kernel
theorem dX7_part_149 : decode cX7_part 149 = .ok (.aload_n 0, 1) := by decide +kernel
theorem dX7_part_150 : decode cX7_part 150 = .ok (.iload 4, 2) := by decide +kernel
theorem dX7_part_152 : decode cX7_part 152 = .ok (.aload_n 0, 1) := by decide +kernel
theorem dX7_part_153 : decode cX7_part 153 = .ok (.getfield 19, 3) := by decide +kernel
theorem dX7_part_156 : decode cX7_part 156 = .ok (.getfield 91, 3) := by decide +kernel
theorem dX7_part_159 : decode cX7_part 159 = .ok (.invokevirtual 147, 3) := by decide +kernel
theorem dX7_part_162 : decode cX7_part 162 = .ok (.ifCond .eq 7, 3) := by decide +kernel
theorem dX7_part_165 : decode cX7_part 165 = .ok (.iconst 1, 1) := by decide +kernel
theorem dX7_part_166 : decode cX7_part 166 = .ok (.goto 4, 3) := by decide +kernel
theorem dX7_part_169 : decode cX7_part 169 = .ok (.iconst 0, 1) := by decide +kernel
theorem dX7_part_170 : decode cX7_part 170 = .ok (.ireturn, 1) := by decide +kernel
theorem dX7_part_171 : decode cX7_part 171 = .ok (.iconst (-1), 1) := by decide +kernel
theorem dX7_part_172 : decode cX7_part 172 = .ok (.ireturn, 1) := by decide +kernel
abbrev mdX7_part : MD := (cX7_part, RX7, 5, (some .int), yX7_part.name, 3, 68, eT)
set_option maxHeartbeats 2000000 in
set_option maxRecDepth 20000 in
theorem i_X7_part (C : KX) (l0 : Nat) (l1 : Int32) (l2 : Int32) (l3 : Int32) : Imp C yX7_part cX7_part 5 (some .int) 3 68 rvI [.ref (kB C + l0), .int l1, .int l2, .int l3] (m_X7_part l0 l1 l2 l3) := by
  refine Imp.of (by decide) (Nat.le_of_ble_eq_true rfl) [(0, .ref (kB C + l0)), (1, .int l1), (2, .int l2), (3, .int l3)] rfl ?_
  show Cmp C mdX7_part (QM rvI) 0 [(0, .ref (kB C + l0)), (1, .int l1), (2, .int l2), (3, .int l3)] [] (m_X7_part l0 l1 l2 l3)
  unfold m_X7_part
  refine C_aload_n (D := mdX7_part) (pc' := 1) (x := kB C + l0) dX7_part_0 rfl 0 rfl ?_
  refine C_iload_n (D := mdX7_part) (pc' := 2) (x := l1) dX7_part_1 rfl 1 rfl ?_
  refine C_callV (D := mdX7_part) (pc' := 5) (p := l0) (st := []) [.int l1] v_X7_82 (i_X7_isQuery C l0 l1) dX7_part_2 rfl rfl rfl (Nat.le_of_ble_eq_true rfl) (by decide) (by decide) (fun c1 => ?_)
  refine C_if_eq (D := mdX7_part) (pc' := 8) (tgt := 25) dX7_part_5 (by decide) rfl ?_ ?_
  · refine C_iconst (D := mdX7_part) (pc' := 26) (v := (-1)) dX7_part_25 rfl (by decide) ?_
    exact C_iret rfl dX7_part_26
  · refine C_iload_n (D := mdX7_part) (pc' := 9) (x := l2) dX7_part_8 rfl 2 rfl ?_
    refine C_if_lt (D := mdX7_part) (pc' := 12) (tgt := 25) dX7_part_9 (by decide) rfl ?_ ?_
    · refine C_iconst (D := mdX7_part) (pc' := 26) (v := (-1)) dX7_part_25 rfl (by decide) ?_
      exact C_iret rfl dX7_part_26
    · refine C_iload_n (D := mdX7_part) (pc' := 13) (x := l2) dX7_part_12 rfl 2 rfl ?_
      refine C_aload_n (D := mdX7_part) (pc' := 14) (x := kB C + l0) dX7_part_13 rfl 0 rfl ?_
      refine C_getR (D := mdX7_part) (pc' := 17) (p := l0) f_X7_19 rfl dX7_part_14 rfl (fun held2 => ?_)
      refine C_getR (D := mdX7_part) (pc' := 20) (p := held2) f_X7_111 rfl dX7_part_17 rfl (fun parts3 => ?_)
      refine C_iload_n (D := mdX7_part) (pc' := 21) (x := l1) dX7_part_20 rfl 1 rfl ?_
      refine C_aI (D := mdX7_part) (pc' := 22) (p := parts3) dX7_part_21 rfl (fun x4 => ?_)
      refine C_icmp_lt (D := mdX7_part) (pc' := 25) (tgt := 27) dX7_part_22 (by decide) rfl ?_ ?_
      · refine C_aload_n (D := mdX7_part) (pc' := 28) (x := kB C + l0) dX7_part_27 rfl 0 rfl ?_
        refine C_getR (D := mdX7_part) (pc' := 31) (p := l0) f_X7_19 rfl dX7_part_28 rfl (fun held5 => ?_)
        refine C_iload_n (D := mdX7_part) (pc' := 32) (x := l1) dX7_part_31 rfl 1 rfl ?_
        refine C_iload_n (D := mdX7_part) (pc' := 33) (x := l2) dX7_part_32 rfl 2 rfl ?_
        refine C_callV (D := mdX7_part) (pc' := 36) (p := held5) (st := []) [.int l1, .int l2] v_X7_131 (i_X1_place C held5 l1 l2) dX7_part_33 rfl rfl rfl (Nat.le_of_ble_eq_true rfl) (by decide) (by decide) (fun c6 => ?_)
        refine C_istore (D := mdX7_part) (pc' := 38) (ls' := [(4, .int c6), (0, .ref (kB C + l0)), (1, .int l1), (2, .int l2), (3, .int l3)]) dX7_part_36 rfl (by decide) rfl ?_
        refine C_iload_n (D := mdX7_part) (pc' := 39) (x := l3) dX7_part_38 rfl 4 rfl ?_
        refine C_tcase (D := mdX7_part) (c := 0) 0 (by decide) (tgt := 72) dX7_part_39 (by decide) (by decide) rfl (by decide) ?_ (fun h0 => ?_)
        · refine C_aload_n (D := mdX7_part) (pc' := 73) (x := kB C + l0) dX7_part_72 rfl 1 rfl ?_
          refine C_getR (D := mdX7_part) (pc' := 76) (p := l0) f_X7_19 rfl dX7_part_73 rfl (fun held7 => ?_)
          refine C_getR (D := mdX7_part) (pc' := 79) (p := held7) f_X7_135 rfl dX7_part_76 rfl (fun sort8 => ?_)
          refine C_iload (D := mdX7_part) (pc' := 81) (x := c6) dX7_part_79 rfl 0 rfl ?_
          refine C_aI (D := mdX7_part) (pc' := 82) (p := sort8) dX7_part_81 rfl (fun x9 => ?_)
          exact C_iret rfl dX7_part_82
        refine C_tcase (D := mdX7_part) (c := 1) 1 (by decide) (tgt := 83) dX7_part_39 (by decide) (by decide) rfl (by decide) ?_ (fun h1 => ?_)
        · refine C_aload_n (D := mdX7_part) (pc' := 84) (x := kB C + l0) dX7_part_83 rfl 1 rfl ?_
          refine C_getR (D := mdX7_part) (pc' := 87) (p := l0) f_X7_39 rfl dX7_part_84 rfl (fun words10 => ?_)
          refine C_aload_n (D := mdX7_part) (pc' := 88) (x := kB C + l0) dX7_part_87 rfl 1 rfl ?_
          refine C_getR (D := mdX7_part) (pc' := 91) (p := l0) f_X7_19 rfl dX7_part_88 rfl (fun held11 => ?_)
          refine C_getR (D := mdX7_part) (pc' := 94) (p := held11) f_X7_138 rfl dX7_part_91 rfl (fun word12 => ?_)
          refine C_iload (D := mdX7_part) (pc' := 96) (x := c6) dX7_part_94 rfl 0 rfl ?_
          refine C_aI (D := mdX7_part) (pc' := 97) (p := word12) dX7_part_96 rfl (fun x13 => ?_)
          refine C_callV (D := mdX7_part) (pc' := 100) (p := words10) (st := []) [.int x13] v_X7_125 (i_X6_find C words10 x13) dX7_part_97 rfl rfl rfl (Nat.le_of_ble_eq_true rfl) (by decide) (by decide) (fun c14 => ?_)
          exact C_iret rfl dX7_part_100
        refine C_tcase (D := mdX7_part) (c := 2) 2 (by decide) (tgt := 101) dX7_part_39 (by decide) (by decide) rfl (by decide) ?_ (fun h2 => ?_)
        · refine C_aload_n (D := mdX7_part) (pc' := 102) (x := kB C + l0) dX7_part_101 rfl 1 rfl ?_
          refine C_getR (D := mdX7_part) (pc' := 105) (p := l0) f_X7_39 rfl dX7_part_102 rfl (fun words15 => ?_)
          refine C_aload_n (D := mdX7_part) (pc' := 106) (x := kB C + l0) dX7_part_105 rfl 1 rfl ?_
          refine C_getR (D := mdX7_part) (pc' := 109) (p := l0) f_X7_19 rfl dX7_part_106 rfl (fun held16 => ?_)
          refine C_getR (D := mdX7_part) (pc' := 112) (p := held16) f_X7_141 rfl dX7_part_109 rfl (fun earlier17 => ?_)
          refine C_iload (D := mdX7_part) (pc' := 114) (x := c6) dX7_part_112 rfl 0 rfl ?_
          refine C_aI (D := mdX7_part) (pc' := 115) (p := earlier17) dX7_part_114 rfl (fun x18 => ?_)
          refine C_callV (D := mdX7_part) (pc' := 118) (p := words15) (st := []) [.int x18] v_X7_125 (i_X6_find C words15 x18) dX7_part_115 rfl rfl rfl (Nat.le_of_ble_eq_true rfl) (by decide) (by decide) (fun c19 => ?_)
          exact C_iret rfl dX7_part_118
        refine C_tcase (D := mdX7_part) (c := 3) 3 (by decide) (tgt := 119) dX7_part_39 (by decide) (by decide) rfl (by decide) ?_ (fun h3 => ?_)
        · refine C_aload_n (D := mdX7_part) (pc' := 120) (x := kB C + l0) dX7_part_119 rfl 1 rfl ?_
          refine C_getR (D := mdX7_part) (pc' := 123) (p := l0) f_X7_19 rfl dX7_part_120 rfl (fun held20 => ?_)
          refine C_getR (D := mdX7_part) (pc' := 126) (p := held20) f_X7_135 rfl dX7_part_123 rfl (fun sort21 => ?_)
          refine C_iload (D := mdX7_part) (pc' := 128) (x := c6) dX7_part_126 rfl 0 rfl ?_
          refine C_aI (D := mdX7_part) (pc' := 129) (p := sort21) dX7_part_128 rfl (fun x22 => ?_)
          refine C_iconst (D := mdX7_part) (pc' := 130) (v := 2) dX7_part_129 rfl (by decide) ?_
          refine C_icmp_ne (D := mdX7_part) (pc' := 133) (tgt := 146) dX7_part_130 (by decide) rfl ?_ ?_
          · refine C_bipush (D := mdX7_part) (pc' := 148) (v := (-9)) dX7_part_146 rfl (by decide) ?_
            exact C_iret rfl dX7_part_148
          · refine C_aload_n (D := mdX7_part) (pc' := 134) (x := kB C + l0) dX7_part_133 rfl 1 rfl ?_
            refine C_getR (D := mdX7_part) (pc' := 137) (p := l0) f_X7_19 rfl dX7_part_134 rfl (fun held23 => ?_)
            refine C_getR (D := mdX7_part) (pc' := 140) (p := held23) f_X7_144 rfl dX7_part_137 rfl (fun reach24 => ?_)
            refine C_iload (D := mdX7_part) (pc' := 142) (x := c6) dX7_part_140 rfl 0 rfl ?_
            refine C_aI (D := mdX7_part) (pc' := 143) (p := reach24) dX7_part_142 rfl (fun x25 => ?_)
            refine C_goto (D := mdX7_part) (pc' := 148) dX7_part_143 (by decide) ?_
            exact C_iret rfl dX7_part_148
        refine C_tcase (D := mdX7_part) (c := 4) 4 (by decide) (tgt := 149) dX7_part_39 (by decide) (by decide) rfl (by decide) ?_ (fun h4 => ?_)
        · refine C_aload_n (D := mdX7_part) (pc' := 150) (x := kB C + l0) dX7_part_149 rfl 1 rfl ?_
          refine C_iload (D := mdX7_part) (pc' := 152) (x := c6) dX7_part_150 rfl 0 rfl ?_
          refine C_aload_n (D := mdX7_part) (pc' := 153) (x := kB C + l0) dX7_part_152 rfl 1 rfl ?_
          refine C_getR (D := mdX7_part) (pc' := 156) (p := l0) f_X7_19 rfl dX7_part_153 rfl (fun held26 => ?_)
          refine C_getI (D := mdX7_part) (pc' := 159) (p := held26) f_X7_91 rfl dX7_part_156 rfl (fun letters27 => ?_)
          refine C_callV (D := mdX7_part) (pc' := 162) (p := l0) (st := []) [.int c6, .int letters27] v_X7_147 (i_X7_holds C l0 c6 letters27) dX7_part_159 rfl rfl rfl (Nat.le_of_ble_eq_true rfl) (by decide) (by decide) (fun c28 => ?_)
          refine C_if_eq (D := mdX7_part) (pc' := 165) (tgt := 169) dX7_part_162 (by decide) rfl ?_ ?_
          · refine C_iconst (D := mdX7_part) (pc' := 170) (v := 0) dX7_part_169 rfl (by decide) ?_
            exact C_iret rfl dX7_part_170
          · refine C_iconst (D := mdX7_part) (pc' := 166) (v := 1) dX7_part_165 rfl (by decide) ?_
            refine C_goto (D := mdX7_part) (pc' := 170) dX7_part_166 (by decide) ?_
            exact C_iret rfl dX7_part_170
        refine C_tdef (D := mdX7_part) (tgt := 171) dX7_part_39 (by omega) (by decide) ?_
        refine C_iconst (D := mdX7_part) (pc' := 172) (v := (-1)) dX7_part_171 rfl (by decide) ?_
        exact C_iret rfl dX7_part_172
      · refine C_iconst (D := mdX7_part) (pc' := 26) (v := (-1)) dX7_part_25 rfl (by decide) ?_
        exact C_iret rfl dX7_part_26

-- StandingQueries$Search.<init>()V
theorem dX4_init_0 : decode cX4_init 0 = .ok (.aload_n 0, 1) := by decide +kernel
theorem dX4_init_1 : decode cX4_init 1 = .ok (.invokespecial 5, 3) := by decide +kernel
theorem dX4_init_4 : decode cX4_init 4 = .ok (.aload_n 0, 1) := by decide +kernel
theorem dX4_init_5 : decode cX4_init 5 = .ok (.new 11, 3) := by decide +kernel
theorem dX4_init_8 : decode cX4_init 8 = .ok (.dup, 1) := by decide +kernel
theorem dX4_init_9 : decode cX4_init 9 = .ok (.iconst 5, 1) := by decide +kernel
theorem dX4_init_10 : decode cX4_init 10 = .ok (.invokespecial 13, 3) := by decide +kernel
theorem dX4_init_13 : decode cX4_init 13 = .ok (.putfield 16, 3) := by decide +kernel
theorem dX4_init_16 : decode cX4_init 16 = .ok (.aload_n 0, 1) := by decide +kernel
theorem dX4_init_17 : decode cX4_init 17 = .ok (.new 20, 3) := by decide +kernel
theorem dX4_init_20 : decode cX4_init 20 = .ok (.dup, 1) := by decide +kernel
theorem dX4_init_21 : decode cX4_init 21 = .ok (.iconst 5, 1) := by decide +kernel
theorem dX4_init_22 : decode cX4_init 22 = .ok (.invokespecial 22, 3) := by decide +kernel
theorem dX4_init_25 : decode cX4_init 25 = .ok (.putfield 23, 3) := by decide +kernel
theorem dX4_init_28 : decode cX4_init 28 = .ok (.aload_n 0, 1) := by decide +kernel
theorem dX4_init_29 : decode cX4_init 29 = .ok (.bipush 31, 2) := by decide +kernel
theorem dX4_init_31 : decode cX4_init 31 = .ok (.newarray .int, 2) := by decide +kernel
theorem dX4_init_33 : decode cX4_init 33 = .ok (.putfield 27, 3) := by decide +kernel
theorem dX4_init_36 : decode cX4_init 36 = .ok (.aload_n 0, 1) := by decide +kernel
theorem dX4_init_37 : decode cX4_init 37 = .ok (.sipush 3968, 3) := by decide +kernel
theorem dX4_init_40 : decode cX4_init 40 = .ok (.newarray .int, 2) := by decide +kernel
theorem dX4_init_42 : decode cX4_init 42 = .ok (.putfield 31, 3) := by decide +kernel
theorem dX4_init_45 : decode cX4_init 45 = .ok (.aload_n 0, 1) := by decide +kernel
theorem dX4_init_46 : decode cX4_init 46 = .ok (.sipush 3968, 3) := by decide +kernel
theorem dX4_init_49 : decode cX4_init 49 = .ok (.newarray .int, 2) := by decide +kernel
theorem dX4_init_51 : decode cX4_init 51 = .ok (.putfield 34, 3) := by decide +kernel
theorem dX4_init_54 : decode cX4_init 54 = .ok (.aload_n 0, 1) := by decide +kernel
theorem dX4_init_55 : decode cX4_init 55 = .ok (.sipush 3968, 3) := by decide +kernel
theorem dX4_init_58 : decode cX4_init 58 = .ok (.newarray .long, 2) := by decide +kernel
theorem dX4_init_60 : decode cX4_init 60 = .ok (.putfield 37, 3) := by decide +kernel
theorem dX4_init_63 : decode cX4_init 63 = .ok (.aload_n 0, 1) := by decide +kernel
theorem dX4_init_64 : decode cX4_init 64 = .ok (.sipush 3968, 3) := by decide +kernel
theorem dX4_init_67 : decode cX4_init 67 = .ok (.newarray .long, 2) := by decide +kernel
theorem dX4_init_69 : decode cX4_init 69 = .ok (.putfield 41, 3) := by decide +kernel
theorem dX4_init_72 : decode cX4_init 72 = .ok (.return_, 1) := by decide +kernel
abbrev mdX4_init : MD := (cX4_init, RX4, 1, none, yX4_init.name, 2, 34, eT)
set_option maxHeartbeats 2000000 in
set_option maxRecDepth 20000 in
theorem i_X4_init (C : KX) (l0 : Nat) : Imp C yX4_init cX4_init 1 none 2 34 rvV [.ref (kB C + l0)] (m_X4_init l0) := by
  refine Imp.of (by decide) (Nat.le_of_ble_eq_true rfl) [(0, .ref (kB C + l0))] rfl ?_
  show Cmp C mdX4_init (QM rvV) 0 [(0, .ref (kB C + l0))] [] (m_X4_init l0)
  unfold m_X4_init
  refine C_aload_n (D := mdX4_init) (pc' := 1) (x := kB C + l0) dX4_init_0 rfl 0 rfl ?_
  refine C_objInit (D := mdX4_init) (pc' := 4) (p := l0) oi_X4_5 oi_i oi_c dX4_init_1 rfl (by decide) (Nat.le_of_ble_eq_true rfl) ?_
  refine C_aload_n (D := mdX4_init) (pc' := 5) (x := kB C + l0) dX4_init_4 rfl 0 rfl ?_
  refine C_new (D := mdX4_init) (pc' := 8) n_X4_11 dX4_init_5 rfl (fun p1 => ?_)
  refine C_dup (D := mdX4_init) (pc' := 9) dX4_init_8 rfl rfl ?_
  refine C_iconst (D := mdX4_init) (pc' := 10) (v := 5) dX4_init_9 rfl (by decide) ?_
  refine C_callI (D := mdX4_init) (pc' := 13) (p := p1) (st := [.ref (kB C + p1), .ref (kB C + l0)]) [.int 5] i_X4_13 (i_X6_init C p1 5) dX4_init_10 rfl rfl rfl (Nat.le_of_ble_eq_true rfl) (by decide) (by decide) (fun _ => ?_)
  refine C_putR (D := mdX4_init) (pc' := 16) (p := l0) (q := p1) f_X4_16 (by first | exact Or.inl rfl | exact Or.inr ⟨rfl, rfl⟩) rfl dX4_init_13 rfl ?_
  refine C_aload_n (D := mdX4_init) (pc' := 17) (x := kB C + l0) dX4_init_16 rfl 0 rfl ?_
  refine C_new (D := mdX4_init) (pc' := 20) n_X4_20 dX4_init_17 rfl (fun p2 => ?_)
  refine C_dup (D := mdX4_init) (pc' := 21) dX4_init_20 rfl rfl ?_
  refine C_iconst (D := mdX4_init) (pc' := 22) (v := 5) dX4_init_21 rfl (by decide) ?_
  refine C_callI (D := mdX4_init) (pc' := 25) (p := p2) (st := [.ref (kB C + p2), .ref (kB C + l0)]) [.int 5] i_X4_22 (i_X0_init C p2 5) dX4_init_22 rfl rfl rfl (Nat.le_of_ble_eq_true rfl) (by decide) (by decide) (fun _ => ?_)
  refine C_putR (D := mdX4_init) (pc' := 28) (p := l0) (q := p2) f_X4_23 (by first | exact Or.inl rfl | exact Or.inr ⟨rfl, rfl⟩) rfl dX4_init_25 rfl ?_
  refine C_aload_n (D := mdX4_init) (pc' := 29) (x := kB C + l0) dX4_init_28 rfl 0 rfl ?_
  refine C_bipush (D := mdX4_init) (pc' := 31) (v := 31) dX4_init_29 rfl (by decide) ?_
  refine C_newarr (D := mdX4_init) (pc' := 33) (kd := 100) (by decide) ac_int dX4_init_31 rfl (fun p3 => ?_)
  refine C_putR (D := mdX4_init) (pc' := 36) (p := l0) (q := p3) f_X4_27 (by first | exact Or.inl rfl | exact Or.inr ⟨rfl, rfl⟩) rfl dX4_init_33 rfl ?_
  refine C_aload_n (D := mdX4_init) (pc' := 37) (x := kB C + l0) dX4_init_36 rfl 0 rfl ?_
  refine C_sipush (D := mdX4_init) (pc' := 40) (v := 3968) dX4_init_37 rfl (by decide) ?_
  refine C_newarr (D := mdX4_init) (pc' := 42) (kd := 100) (by decide) ac_int dX4_init_40 rfl (fun p4 => ?_)
  refine C_putR (D := mdX4_init) (pc' := 45) (p := l0) (q := p4) f_X4_31 (by first | exact Or.inl rfl | exact Or.inr ⟨rfl, rfl⟩) rfl dX4_init_42 rfl ?_
  refine C_aload_n (D := mdX4_init) (pc' := 46) (x := kB C + l0) dX4_init_45 rfl 0 rfl ?_
  refine C_sipush (D := mdX4_init) (pc' := 49) (v := 3968) dX4_init_46 rfl (by decide) ?_
  refine C_newarr (D := mdX4_init) (pc' := 51) (kd := 100) (by decide) ac_int dX4_init_49 rfl (fun p5 => ?_)
  refine C_putR (D := mdX4_init) (pc' := 54) (p := l0) (q := p5) f_X4_34 (by first | exact Or.inl rfl | exact Or.inr ⟨rfl, rfl⟩) rfl dX4_init_51 rfl ?_
  refine C_aload_n (D := mdX4_init) (pc' := 55) (x := kB C + l0) dX4_init_54 rfl 0 rfl ?_
  refine C_sipush (D := mdX4_init) (pc' := 58) (v := 3968) dX4_init_55 rfl (by decide) ?_
  refine C_newarr (D := mdX4_init) (pc' := 60) (kd := 101) (by decide) ac_long dX4_init_58 rfl (fun p6 => ?_)
  refine C_putR (D := mdX4_init) (pc' := 63) (p := l0) (q := p6) f_X4_37 (by first | exact Or.inl rfl | exact Or.inr ⟨rfl, rfl⟩) rfl dX4_init_60 rfl ?_
  refine C_aload_n (D := mdX4_init) (pc' := 64) (x := kB C + l0) dX4_init_63 rfl 0 rfl ?_
  refine C_sipush (D := mdX4_init) (pc' := 67) (v := 3968) dX4_init_64 rfl (by decide) ?_
  refine C_newarr (D := mdX4_init) (pc' := 69) (kd := 101) (by decide) ac_long dX4_init_67 rfl (fun p7 => ?_)
  refine C_putR (D := mdX4_init) (pc' := 72) (p := l0) (q := p7) f_X4_41 (by first | exact Or.inl rfl | exact Or.inr ⟨rfl, rfl⟩) rfl dX4_init_69 rfl ?_
  exact C_vret rfl dX4_init_72

-- StandingQueries$Words.gatherOne(LStandingQueries$Held;I)V
theorem dX6_gatherOne_0 : decode cX6_gatherOne 0 = .ok (.aload_n 0, 1) := by decide +kernel
theorem dX6_gatherOne_1 : decode cX6_gatherOne 1 = .ok (.iconst 0, 1) := by decide +kernel
theorem dX6_gatherOne_2 : decode cX6_gatherOne 2 = .ok (.putfield 15, 3) := by decide +kernel
theorem dX6_gatherOne_5 : decode cX6_gatherOne 5 = .ok (.aload_n 0, 1) := by decide +kernel
theorem dX6_gatherOne_6 : decode cX6_gatherOne 6 = .ok (.aload_n 1, 1) := by decide +kernel
theorem dX6_gatherOne_7 : decode cX6_gatherOne 7 = .ok (.iload_n 2, 1) := by decide +kernel
theorem dX6_gatherOne_8 : decode cX6_gatherOne 8 = .ok (.invokevirtual 28, 3) := by decide +kernel
theorem dX6_gatherOne_11 : decode cX6_gatherOne 11 = .ok (.return_, 1) := by decide +kernel
abbrev mdX6_gatherOne : MD := (cX6_gatherOne, RX6, 3, none, yX6_gatherOne.name, 3, 68, eT)
set_option maxHeartbeats 2000000 in
set_option maxRecDepth 20000 in
theorem i_X6_gatherOne (C : KX) (l0 : Nat) (l1 : Nat) (l2 : Int32) : Imp C yX6_gatherOne cX6_gatherOne 3 none 3 68 rvV [.ref (kB C + l0), .ref (kB C + l1), .int l2] (m_X6_gatherOne l0 l1 l2) := by
  refine Imp.of (by decide) (Nat.le_of_ble_eq_true rfl) [(0, .ref (kB C + l0)), (1, .ref (kB C + l1)), (2, .int l2)] rfl ?_
  show Cmp C mdX6_gatherOne (QM rvV) 0 [(0, .ref (kB C + l0)), (1, .ref (kB C + l1)), (2, .int l2)] [] (m_X6_gatherOne l0 l1 l2)
  unfold m_X6_gatherOne
  refine C_aload_n (D := mdX6_gatherOne) (pc' := 1) (x := kB C + l0) dX6_gatherOne_0 rfl 0 rfl ?_
  refine C_iconst (D := mdX6_gatherOne) (pc' := 2) (v := 0) dX6_gatherOne_1 rfl (by decide) ?_
  refine C_putI (D := mdX6_gatherOne) (pc' := 5) (p := l0) f_X6_15 rfl dX6_gatherOne_2 rfl ?_
  refine C_aload_n (D := mdX6_gatherOne) (pc' := 6) (x := kB C + l0) dX6_gatherOne_5 rfl 0 rfl ?_
  refine C_aload_n (D := mdX6_gatherOne) (pc' := 7) (x := kB C + l1) dX6_gatherOne_6 rfl 1 rfl ?_
  refine C_iload_n (D := mdX6_gatherOne) (pc' := 8) (x := l2) dX6_gatherOne_7 rfl 2 rfl ?_
  refine C_callV (D := mdX6_gatherOne) (pc' := 11) (p := l0) (st := []) [.ref (kB C + l1), .int l2] v_X6_28 (i_X6_putWordsOf C l0 l1 l2) dX6_gatherOne_8 rfl rfl rfl (Nat.le_of_ble_eq_true rfl) (by decide) (by decide) (fun _ => ?_)
  exact C_vret rfl dX6_gatherOne_11

-- StandingQueries$Search.markNodes(II)V
theorem dX4_markNodes_0 : decode cX4_markNodes 0 = .ok (.aload_n 0, 1) := by decide +kernel
theorem dX4_markNodes_1 : decode cX4_markNodes 1 = .ok (.getfield 16, 3) := by decide +kernel
theorem dX4_markNodes_4 : decode cX4_markNodes 4 = .ok (.iload_n 1, 1) := by decide +kernel
theorem dX4_markNodes_5 : decode cX4_markNodes 5 = .ok (.invokevirtual 106, 3) := by decide +kernel
theorem dX4_markNodes_8 : decode cX4_markNodes 8 = .ok (.istore_n 3, 1) := by decide +kernel
theorem dX4_markNodes_9 : decode cX4_markNodes 9 = .ok (.iconst 0, 1) := by decide +kernel
theorem dX4_markNodes_10 : decode cX4_markNodes 10 = .ok (.istore 4, 2) := by decide +kernel
theorem dX4_markNodes_12 : decode cX4_markNodes 12 = .ok (.iload_n 3, 1) := by decide +kernel
theorem dX4_markNodes_13 : decode cX4_markNodes 13 = .ok (.ifCond .lt 49, 3) := by decide +kernel
theorem dX4_markNodes_16 : decode cX4_markNodes 16 = .ok (.iload 4, 2) := by decide +kernel
theorem dX4_markNodes_18 : decode cX4_markNodes 18 = .ok (.aload_n 0, 1) := by decide +kernel
theorem dX4_markNodes_19 : decode cX4_markNodes 19 = .ok (.getfield 23, 3) := by decide +kernel
theorem dX4_markNodes_22 : decode cX4_markNodes 22 = .ok (.getfield 95, 3) := by decide +kernel
theorem dX4_markNodes_25 : decode cX4_markNodes 25 = .ok (.if_icmp .ge 37, 3) := by decide +kernel
theorem dX4_markNodes_28 : decode cX4_markNodes 28 = .ok (.aload_n 0, 1) := by decide +kernel
theorem dX4_markNodes_29 : decode cX4_markNodes 29 = .ok (.getfield 23, 3) := by decide +kernel
theorem dX4_markNodes_32 : decode cX4_markNodes 32 = .ok (.getfield 110, 3) := by decide +kernel
theorem dX4_markNodes_35 : decode cX4_markNodes 35 = .ok (.iload 4, 2) := by decide +kernel
theorem dX4_markNodes_37 : decode cX4_markNodes 37 = .ok (.iaload, 1) := by decide +kernel
theorem dX4_markNodes_38 : decode cX4_markNodes 38 = .ok (.iload_n 3, 1) := by decide +kernel
theorem dX4_markNodes_39 : decode cX4_markNodes 39 = .ok (.ishr, 1) := by decide +kernel
theorem dX4_markNodes_40 : decode cX4_markNodes 40 = .ok (.iconst 1, 1) := by decide +kernel
theorem dX4_markNodes_41 : decode cX4_markNodes 41 = .ok (.iand, 1) := by decide +kernel
theorem dX4_markNodes_42 : decode cX4_markNodes 42 = .ok (.ifCond .eq 14, 3) := by decide +kernel
theorem dX4_markNodes_45 : decode cX4_markNodes 45 = .ok (.aload_n 0, 1) := by decide +kernel
theorem dX4_markNodes_46 : decode cX4_markNodes 46 = .ok (.getfield 27, 3) := by decide +kernel
theorem dX4_markNodes_49 : decode cX4_markNodes 49 = .ok (.iload 4, 2) := by decide +kernel
theorem dX4_markNodes_51 : decode cX4_markNodes 51 = .ok (.dup2, 1) := by decide +kernel
theorem dX4_markNodes_52 : decode cX4_markNodes 52 = .ok (.iaload, 1) := by decide +kernel
theorem dX4_markNodes_53 : decode cX4_markNodes 53 = .ok (.iload_n 2, 1) := by decide +kernel
theorem dX4_markNodes_54 : decode cX4_markNodes 54 = .ok (.ior, 1) := by decide +kernel
theorem dX4_markNodes_55 : decode cX4_markNodes 55 = .ok (.iastore, 1) := by decide +kernel
theorem dX4_markNodes_56 : decode cX4_markNodes 56 = .ok (.iinc 4 1, 3) := by decide +kernel
theorem dX4_markNodes_59 : decode cX4_markNodes 59 = .ok (.goto (-47), 3) := by decide +kernel
theorem dX4_markNodes_62 : decode cX4_markNodes 62 = .ok (.return_, 1) := by decide +kernel
abbrev mdX4_markNodes : MD := (cX4_markNodes, RX4, 5, none, yX4_markNodes.name, 1, 22, eT)
set_option maxHeartbeats 2000000 in
set_option maxRecDepth 20000 in
theorem p_X4_markNodes_J56 (C : KX) (l0 : Nat) (l2 : Int32) (l3 : Int32) (l4 : Int32) (k12 : Int32 → Mo Unit) (hk12 : ∀ s, Cmp C mdX4_markNodes (QM rvV) 12 [(0, .ref (kB C + l0)), (2, .int l2), (3, .int l3), (4, .int s)] [] (k12 s)) : Cmp C mdX4_markNodes (QM rvV) 56 [(0, .ref (kB C + l0)), (2, .int l2), (3, .int l3), (4, .int l4)] [] (m_X4_markNodes_J56 l0 l2 l3 l4 k12) := by
  unfold m_X4_markNodes_J56
  refine C_iinc (D := mdX4_markNodes) (pc' := 59) (j := 3) (v := (l4 + 1)) (ls' := [(4, .int (l4 + 1)), (0, .ref (kB C + l0)), (2, .int l2), (3, .int l3)]) dX4_markNodes_56 rfl rfl rfl (by decide) rfl ?_
  refine C_goto (D := mdX4_markNodes) (pc' := 12) dX4_markNodes_59 (by decide) ?_
  exact C_sub [1, 2, 3, 0] rfl (hk12 ((l4 + 1)))
set_option maxHeartbeats 2000000 in
set_option maxRecDepth 20000 in
theorem p_X4_markNodes_B12 (C : KX) (l0 : Nat) (l2 : Int32) (l3 : Int32)  (k12 : Int32 → Mo Unit) (hk12 : ∀ s, Cmp C mdX4_markNodes (QM rvV) 12 [(0, .ref (kB C + l0)), (2, .int l2), (3, .int l3), (4, .int s)] [] (k12 s)) (l4 : Int32) : Cmp C mdX4_markNodes (QM rvV) 12 [(0, .ref (kB C + l0)), (2, .int l2), (3, .int l3), (4, .int l4)] [] (m_X4_markNodes_B12 l0 l2 l3 k12 l4) := by
  unfold m_X4_markNodes_B12
  refine C_iload_n (D := mdX4_markNodes) (pc' := 13) (x := l3) dX4_markNodes_12 rfl 2 rfl ?_
  refine C_if_lt (D := mdX4_markNodes) (pc' := 16) (tgt := 62) dX4_markNodes_13 (by decide) rfl ?_ ?_
  · exact C_vret rfl dX4_markNodes_62
  · refine C_iload (D := mdX4_markNodes) (pc' := 18) (x := l4) dX4_markNodes_16 rfl 3 rfl ?_
    refine C_aload_n (D := mdX4_markNodes) (pc' := 19) (x := kB C + l0) dX4_markNodes_18 rfl 0 rfl ?_
    refine C_getR (D := mdX4_markNodes) (pc' := 22) (p := l0) f_X4_23 rfl dX4_markNodes_19 rfl (fun automaton3 => ?_)
    refine C_getI (D := mdX4_markNodes) (pc' := 25) (p := automaton3) f_X4_95 rfl dX4_markNodes_22 rfl (fun nodes4 => ?_)
    refine C_icmp_ge (D := mdX4_markNodes) (pc' := 28) (tgt := 62) dX4_markNodes_25 (by decide) rfl ?_ ?_
    · exact C_vret rfl dX4_markNodes_62
    · refine C_aload_n (D := mdX4_markNodes) (pc' := 29) (x := kB C + l0) dX4_markNodes_28 rfl 0 rfl ?_
      refine C_getR (D := mdX4_markNodes) (pc' := 32) (p := l0) f_X4_23 rfl dX4_markNodes_29 rfl (fun automaton5 => ?_)
      refine C_getR (D := mdX4_markNodes) (pc' := 35) (p := automaton5) f_X4_110 rfl dX4_markNodes_32 rfl (fun ends6 => ?_)
      refine C_iload (D := mdX4_markNodes) (pc' := 37) (x := l4) dX4_markNodes_35 rfl 3 rfl ?_
      refine C_aI (D := mdX4_markNodes) (pc' := 38) (p := ends6) dX4_markNodes_37 rfl (fun x7 => ?_)
      refine C_iload_n (D := mdX4_markNodes) (pc' := 39) (x := l3) dX4_markNodes_38 rfl 2 rfl ?_
      refine C_ishr (D := mdX4_markNodes) (pc' := 40) dX4_markNodes_39 rfl ?_
      refine C_iconst (D := mdX4_markNodes) (pc' := 41) (v := 1) dX4_markNodes_40 rfl (by decide) ?_
      refine C_iand (D := mdX4_markNodes) (pc' := 42) dX4_markNodes_41 rfl ?_
      refine C_if_eq (D := mdX4_markNodes) (pc' := 45) (tgt := 56) dX4_markNodes_42 (by decide) rfl ?_ ?_
      · exact C_sub [0, 1, 2, 3] rfl (p_X4_markNodes_J56 C l0 l2 l3 l4 k12 hk12)
      · refine C_aload_n (D := mdX4_markNodes) (pc' := 46) (x := kB C + l0) dX4_markNodes_45 rfl 0 rfl ?_
        refine C_getR (D := mdX4_markNodes) (pc' := 49) (p := l0) f_X4_27 rfl dX4_markNodes_46 rfl (fun marks8 => ?_)
        refine C_iload (D := mdX4_markNodes) (pc' := 51) (x := l4) dX4_markNodes_49 rfl 3 rfl ?_
        refine C_dup2 (D := mdX4_markNodes) (pc' := 52) dX4_markNodes_51 rfl rfl rfl ?_
        refine C_aI (D := mdX4_markNodes) (pc' := 53) (p := marks8) dX4_markNodes_52 rfl (fun x9 => ?_)
        refine C_iload_n (D := mdX4_markNodes) (pc' := 54) (x := l2) dX4_markNodes_53 rfl 1 rfl ?_
        refine C_ior (D := mdX4_markNodes) (pc' := 55) dX4_markNodes_54 rfl ?_
        refine C_tI (D := mdX4_markNodes) (pc' := 56) (p := marks8) dX4_markNodes_55 rfl ?_
        exact C_sub [0, 1, 2, 3] rfl (p_X4_markNodes_J56 C l0 l2 l3 l4 k12 hk12)
set_option maxHeartbeats 2000000 in
set_option maxRecDepth 20000 in
theorem i_X4_markNodes (C : KX) (l0 : Nat) (l1 : Int32) (l2 : Int32) : Imp C yX4_markNodes cX4_markNodes 5 none 1 22 rvV [.ref (kB C + l0), .int l1, .int l2] (m_X4_markNodes l0 l1 l2) := by
  refine Imp.of (by decide) (Nat.le_of_ble_eq_true rfl) [(0, .ref (kB C + l0)), (1, .int l1), (2, .int l2)] rfl ?_
  show Cmp C mdX4_markNodes (QM rvV) 0 [(0, .ref (kB C + l0)), (1, .int l1), (2, .int l2)] [] (m_X4_markNodes l0 l1 l2)
  unfold m_X4_markNodes
  refine C_aload_n (D := mdX4_markNodes) (pc' := 1) (x := kB C + l0) dX4_markNodes_0 rfl 0 rfl ?_
  refine C_getR (D := mdX4_markNodes) (pc' := 4) (p := l0) f_X4_16 rfl dX4_markNodes_1 rfl (fun words1 => ?_)
  refine C_iload_n (D := mdX4_markNodes) (pc' := 5) (x := l1) dX4_markNodes_4 rfl 1 rfl ?_
  refine C_callV (D := mdX4_markNodes) (pc' := 8) (p := words1) (st := []) [.int l1] v_X4_106 (i_X6_find C words1 l1) dX4_markNodes_5 rfl rfl rfl (Nat.le_of_ble_eq_true rfl) (by decide) (by decide) (fun c2 => ?_)
  refine C_istore_n (D := mdX4_markNodes) (pc' := 9) (ls' := [(3, .int c2), (0, .ref (kB C + l0)), (1, .int l1), (2, .int l2)]) dX4_markNodes_8 rfl rfl (by decide) rfl ?_
  refine C_iconst (D := mdX4_markNodes) (pc' := 10) (v := 0) dX4_markNodes_9 rfl (by decide) ?_
  refine C_istore (D := mdX4_markNodes) (pc' := 12) (ls' := [(4, .int 0), (3, .int c2), (0, .ref (kB C + l0)), (1, .int l1), (2, .int l2)]) dX4_markNodes_10 rfl (by decide) rfl ?_
  exact C_sub [2, 4, 1, 0] rfl (C_loop (fun s => [(0, .ref (kB C + l0)), (2, .int l2), (3, .int c2), (4, .int s)]) (fun k hk s => p_X4_markNodes_B12 C l0 l2 c2  k hk s) FU 0)

-- StandingQueries$Search.prepare(LStandingQueries$Held;I)V
theorem dX4_prepare_0 : decode cX4_prepare 0 = .ok (.aload_n 0, 1) := by decide +kernel
theorem dX4_prepare_1 : decode cX4_prepare 1 = .ok (.getfield 16, 3) := by decide +kernel
theorem dX4_prepare_4 : decode cX4_prepare 4 = .ok (.aload_n 1, 1) := by decide +kernel
theorem dX4_prepare_5 : decode cX4_prepare 5 = .ok (.iload_n 2, 1) := by decide +kernel
theorem dX4_prepare_6 : decode cX4_prepare 6 = .ok (.invokevirtual 44, 3) := by decide +kernel
theorem dX4_prepare_9 : decode cX4_prepare 9 = .ok (.aload_n 0, 1) := by decide +kernel
theorem dX4_prepare_10 : decode cX4_prepare 10 = .ok (.getfield 23, 3) := by decide +kernel
theorem dX4_prepare_13 : decode cX4_prepare 13 = .ok (.aload_n 0, 1) := by decide +kernel
theorem dX4_prepare_14 : decode cX4_prepare 14 = .ok (.getfield 16, 3) := by decide +kernel
theorem dX4_prepare_17 : decode cX4_prepare 17 = .ok (.invokevirtual 48, 3) := by decide +kernel
theorem dX4_prepare_20 : decode cX4_prepare 20 = .ok (.aload_n 0, 1) := by decide +kernel
theorem dX4_prepare_21 : decode cX4_prepare 21 = .ok (.getfield 27, 3) := by decide +kernel
theorem dX4_prepare_24 : decode cX4_prepare 24 = .ok (.iconst 0, 1) := by decide +kernel
theorem dX4_prepare_25 : decode cX4_prepare 25 = .ok (.invokestatic 52, 3) := by decide +kernel
theorem dX4_prepare_28 : decode cX4_prepare 28 = .ok (.aload_n 0, 1) := by decide +kernel
theorem dX4_prepare_29 : decode cX4_prepare 29 = .ok (.iconst 0, 1) := by decide +kernel
theorem dX4_prepare_30 : decode cX4_prepare 30 = .ok (.putfield 58, 3) := by decide +kernel
theorem dX4_prepare_33 : decode cX4_prepare 33 = .ok (.aload_n 0, 1) := by decide +kernel
theorem dX4_prepare_34 : decode cX4_prepare 34 = .ok (.iconst 0, 1) := by decide +kernel
theorem dX4_prepare_35 : decode cX4_prepare 35 = .ok (.putfield 62, 3) := by decide +kernel
theorem dX4_prepare_38 : decode cX4_prepare 38 = .ok (.iconst 0, 1) := by decide +kernel
theorem dX4_prepare_39 : decode cX4_prepare 39 = .ok (.istore_n 3, 1) := by decide +kernel
theorem dX4_prepare_40 : decode cX4_prepare 40 = .ok (.iconst 0, 1) := by decide +kernel
theorem dX4_prepare_41 : decode cX4_prepare 41 = .ok (.istore 4, 2) := by decide +kernel
theorem dX4_prepare_43 : decode cX4_prepare 43 = .ok (.iload 4, 2) := by decide +kernel
theorem dX4_prepare_45 : decode cX4_prepare 45 = .ok (.aload_n 1, 1) := by decide +kernel
theorem dX4_prepare_46 : decode cX4_prepare 46 = .ok (.getfield 65, 3) := by decide +kernel
theorem dX4_prepare_49 : decode cX4_prepare 49 = .ok (.iload_n 2, 1) := by decide +kernel
theorem dX4_prepare_50 : decode cX4_prepare 50 = .ok (.iaload, 1) := by decide +kernel
theorem dX4_prepare_51 : decode cX4_prepare 51 = .ok (.if_icmp .ge 117, 3) := by decide +kernel
theorem dX4_prepare_54 : decode cX4_prepare 54 = .ok (.aload_n 1, 1) := by decide +kernel
theorem dX4_prepare_55 : decode cX4_prepare 55 = .ok (.iload_n 2, 1) := by decide +kernel
theorem dX4_prepare_56 : decode cX4_prepare 56 = .ok (.iload 4, 2) := by decide +kernel
theorem dX4_prepare_58 : decode cX4_prepare 58 = .ok (.invokevirtual 70, 3) := by decide +kernel
theorem dX4_prepare_61 : decode cX4_prepare 61 = .ok (.istore 5, 2) := by decide +kernel
theorem dX4_prepare_63 : decode cX4_prepare 63 = .ok (.aload_n 1, 1) := by decide +kernel
theorem dX4_prepare_64 : decode cX4_prepare 64 = .ok (.getfield 74, 3) := by decide +kernel
theorem dX4_prepare_67 : decode cX4_prepare 67 = .ok (.iload 5, 2) := by decide +kernel
theorem dX4_prepare_69 : decode cX4_prepare 69 = .ok (.iaload, 1) := by decide +kernel
theorem dX4_prepare_70 : decode cX4_prepare 70 = .ok (.ifCond .ne 23, 3) := by decide +kernel
theorem dX4_prepare_73 : decode cX4_prepare 73 = .ok (.aload_n 0, 1) := by decide +kernel
theorem dX4_prepare_74 : decode cX4_prepare 74 = .ok (.aload_n 1, 1) := by decide +kernel
theorem dX4_prepare_75 : decode cX4_prepare 75 = .ok (.getfield 77, 3) := by decide +kernel
theorem dX4_prepare_78 : decode cX4_prepare 78 = .ok (.iload 5, 2) := by decide +kernel
theorem dX4_prepare_80 : decode cX4_prepare 80 = .ok (.iaload, 1) := by decide +kernel
theorem dX4_prepare_81 : decode cX4_prepare 81 = .ok (.iconst 1, 1) := by decide +kernel
theorem dX4_prepare_82 : decode cX4_prepare 82 = .ok (.iload_n 3, 1) := by decide +kernel
theorem dX4_prepare_83 : decode cX4_prepare 83 = .ok (.ishl, 1) := by decide +kernel
theorem dX4_prepare_84 : decode cX4_prepare 84 = .ok (.invokevirtual 80, 3) := by decide +kernel
theorem dX4_prepare_87 : decode cX4_prepare 87 = .ok (.iinc 3 1, 3) := by decide +kernel
theorem dX4_prepare_90 : decode cX4_prepare 90 = .ok (.goto 72, 3) := by decide +kernel
theorem dX4_prepare_93 : decode cX4_prepare 93 = .ok (.aload_n 1, 1) := by decide +kernel
theorem dX4_prepare_94 : decode cX4_prepare 94 = .ok (.getfield 74, 3) := by decide +kernel
theorem dX4_prepare_97 : decode cX4_prepare 97 = .ok (.iload 5, 2) := by decide +kernel
theorem dX4_prepare_99 : decode cX4_prepare 99 = .ok (.iaload, 1) := by decide +kernel
theorem dX4_prepare_100 : decode cX4_prepare 100 = .ok (.iconst 1, 1) := by decide +kernel
theorem dX4_prepare_101 : decode cX4_prepare 101 = .ok (.if_icmp .ne 19, 3) := by decide +kernel
theorem dX4_prepare_104 : decode cX4_prepare 104 = .ok (.aload_n 0, 1) := by decide +kernel
theorem dX4_prepare_105 : decode cX4_prepare 105 = .ok (.aload_n 1, 1) := by decide +kernel
theorem dX4_prepare_106 : decode cX4_prepare 106 = .ok (.getfield 77, 3) := by decide +kernel
theorem dX4_prepare_109 : decode cX4_prepare 109 = .ok (.iload 5, 2) := by decide +kernel
theorem dX4_prepare_111 : decode cX4_prepare 111 = .ok (.iaload, 1) := by decide +kernel
theorem dX4_prepare_112 : decode cX4_prepare 112 = .ok (.bipush 16, 2) := by decide +kernel
theorem dX4_prepare_114 : decode cX4_prepare 114 = .ok (.invokevirtual 80, 3) := by decide +kernel
theorem dX4_prepare_117 : decode cX4_prepare 117 = .ok (.goto 45, 3) := by decide +kernel
theorem dX4_prepare_120 : decode cX4_prepare 120 = .ok (.aload_n 0, 1) := by decide +kernel
theorem dX4_prepare_121 : decode cX4_prepare 121 = .ok (.aload_n 1, 1) := by decide +kernel
theorem dX4_prepare_122 : decode cX4_prepare 122 = .ok (.getfield 77, 3) := by decide +kernel
theorem dX4_prepare_125 : decode cX4_prepare 125 = .ok (.iload 5, 2) := by decide +kernel
theorem dX4_prepare_127 : decode cX4_prepare 127 = .ok (.iaload, 1) := by decide +kernel
theorem dX4_prepare_128 : decode cX4_prepare 128 = .ok (.bipush 64, 2) := by decide +kernel
theorem dX4_prepare_130 : decode cX4_prepare 130 = .ok (.invokevirtual 80, 3) := by decide +kernel
theorem dX4_prepare_133 : decode cX4_prepare 133 = .ok (.aload_n 0, 1) := by decide +kernel
theorem dX4_prepare_134 : decode cX4_prepare 134 = .ok (.aload_n 1, 1) := by decide +kernel
theorem dX4_prepare_135 : decode cX4_prepare 135 = .ok (.getfield 84, 3) := by decide +kernel
theorem dX4_prepare_138 : decode cX4_prepare 138 = .ok (.iload 5, 2) := by decide +kernel
theorem dX4_prepare_140 : decode cX4_prepare 140 = .ok (.iaload, 1) := by decide +kernel
theorem dX4_prepare_141 : decode cX4_prepare 141 = .ok (.bipush 32, 2) := by decide +kernel
theorem dX4_prepare_143 : decode cX4_prepare 143 = .ok (.invokevirtual 80, 3) := by decide +kernel
theorem dX4_prepare_146 : decode cX4_prepare 146 = .ok (.aload_n 0, 1) := by decide +kernel
theorem dX4_prepare_147 : decode cX4_prepare 147 = .ok (.iconst 4, 1) := by decide +kernel
theorem dX4_prepare_148 : decode cX4_prepare 148 = .ok (.putfield 58, 3) := by decide +kernel
theorem dX4_prepare_151 : decode cX4_prepare 151 = .ok (.aload_n 0, 1) := by decide +kernel
theorem dX4_prepare_152 : decode cX4_prepare 152 = .ok (.aload_n 1, 1) := by decide +kernel
theorem dX4_prepare_153 : decode cX4_prepare 153 = .ok (.getfield 87, 3) := by decide +kernel
theorem dX4_prepare_156 : decode cX4_prepare 156 = .ok (.iload 5, 2) := by decide +kernel
theorem dX4_prepare_158 : decode cX4_prepare 158 = .ok (.iaload, 1) := by decide +kernel
theorem dX4_prepare_159 : decode cX4_prepare 159 = .ok (.putfield 62, 3) := by decide +kernel
theorem dX4_prepare_162 : decode cX4_prepare 162 = .ok (.iinc 4 1, 3) := by decide +kernel
theorem dX4_prepare_165 : decode cX4_prepare 165 = .ok (.goto (-122), 3) := by decide +kernel
theorem dX4_prepare_168 : decode cX4_prepare 168 = .ok (.aload_n 0, 1) := by decide +kernel
theorem dX4_prepare_169 : decode cX4_prepare 169 = .ok (.aload_n 0, 1) := by decide +kernel
theorem dX4_prepare_170 : decode cX4_prepare 170 = .ok (.getfield 58, 3) := by decide +kernel
theorem dX4_prepare_173 : decode cX4_prepare 173 = .ok (.iload_n 3, 1) := by decide +kernel
theorem dX4_prepare_174 : decode cX4_prepare 174 = .ok (.iadd, 1) := by decide +kernel
theorem dX4_prepare_175 : decode cX4_prepare 175 = .ok (.putfield 89, 3) := by decide +kernel
theorem dX4_prepare_178 : decode cX4_prepare 178 = .ok (.aload_n 0, 1) := by decide +kernel
theorem dX4_prepare_179 : decode cX4_prepare 179 = .ok (.iconst 1, 1) := by decide +kernel
theorem dX4_prepare_180 : decode cX4_prepare 180 = .ok (.iload_n 3, 1) := by decide +kernel
theorem dX4_prepare_181 : decode cX4_prepare 181 = .ok (.ishl, 1) := by decide +kernel
theorem dX4_prepare_182 : decode cX4_prepare 182 = .ok (.iconst 1, 1) := by decide +kernel
theorem dX4_prepare_183 : decode cX4_prepare 183 = .ok (.isub, 1) := by decide +kernel
theorem dX4_prepare_184 : decode cX4_prepare 184 = .ok (.aload_n 0, 1) := by decide +kernel
theorem dX4_prepare_185 : decode cX4_prepare 185 = .ok (.getfield 58, 3) := by decide +kernel
theorem dX4_prepare_188 : decode cX4_prepare 188 = .ok (.ishl, 1) := by decide +kernel
theorem dX4_prepare_189 : decode cX4_prepare 189 = .ok (.aload_n 0, 1) := by decide +kernel
theorem dX4_prepare_190 : decode cX4_prepare 190 = .ok (.getfield 58, 3) := by decide +kernel
theorem dX4_prepare_193 : decode cX4_prepare 193 = .ok (.ifCond .le 8, 3) := by decide +kernel
theorem dX4_prepare_196 : decode cX4_prepare 196 = .ok (.bipush 10, 2) := by decide +kernel
theorem dX4_prepare_198 : decode cX4_prepare 198 = .ok (.goto 4, 3) := by decide +kernel
theorem dX4_prepare_201 : decode cX4_prepare 201 = .ok (.iconst 0, 1) := by decide +kernel
theorem dX4_prepare_202 : decode cX4_prepare 202 = .ok (.ior, 1) := by decide +kernel
theorem dX4_prepare_203 : decode cX4_prepare 203 = .ok (.putfield 92, 3) := by decide +kernel
theorem dX4_prepare_206 : decode cX4_prepare 206 = .ok (.aload_n 0, 1) := by decide +kernel
theorem dX4_prepare_207 : decode cX4_prepare 207 = .ok (.aload_n 0, 1) := by decide +kernel
theorem dX4_prepare_208 : decode cX4_prepare 208 = .ok (.getfield 23, 3) := by decide +kernel
theorem dX4_prepare_211 : decode cX4_prepare 211 = .ok (.getfield 95, 3) := by decide +kernel
theorem dX4_prepare_214 : decode cX4_prepare 214 = .ok (.aload_n 0, 1) := by decide +kernel
theorem dX4_prepare_215 : decode cX4_prepare 215 = .ok (.getfield 89, 3) := by decide +kernel
theorem dX4_prepare_218 : decode cX4_prepare 218 = .ok (.ishl, 1) := by decide +kernel
theorem dX4_prepare_219 : decode cX4_prepare 219 = .ok (.sipush 3968, 3) := by decide +kernel
theorem dX4_prepare_222 : decode cX4_prepare 222 = .ok (.invokestatic 98, 3) := by decide +kernel
theorem dX4_prepare_225 : decode cX4_prepare 225 = .ok (.putfield 103, 3) := by decide +kernel
theorem dX4_prepare_228 : decode cX4_prepare 228 = .ok (.return_, 1) := by decide +kernel
abbrev mdX4_prepare : MD := (cX4_prepare, RX4, 6, none, yX4_prepare.name, 4, 90, eT)
set_option maxHeartbeats 2000000 in
set_option maxRecDepth 20000 in
theorem p_X4_prepare_J202 (C : KX) (l0 : Nat) (s0 : Int32) (s1 : Int32) (s2 : Nat)  : Cmp C mdX4_prepare (QM rvV) 202 [(0, .ref (kB C + l0))] [.int s0, .int s1, .ref (kB C + s2)] (m_X4_prepare_J202 l0 s0 s1 s2) := by
  unfold m_X4_prepare_J202
  refine C_ior (D := mdX4_prepare) (pc' := 203) dX4_prepare_202 rfl ?_
  refine C_putI (D := mdX4_prepare) (pc' := 206) (p := s2) f_X4_92 rfl dX4_prepare_203 rfl ?_
  refine C_aload_n (D := mdX4_prepare) (pc' := 207) (x := kB C + l0) dX4_prepare_206 rfl 0 rfl ?_
  refine C_aload_n (D := mdX4_prepare) (pc' := 208) (x := kB C + l0) dX4_prepare_207 rfl 0 rfl ?_
  refine C_getR (D := mdX4_prepare) (pc' := 211) (p := l0) f_X4_23 rfl dX4_prepare_208 rfl (fun automaton10 => ?_)
  refine C_getI (D := mdX4_prepare) (pc' := 214) (p := automaton10) f_X4_95 rfl dX4_prepare_211 rfl (fun nodes11 => ?_)
  refine C_aload_n (D := mdX4_prepare) (pc' := 215) (x := kB C + l0) dX4_prepare_214 rfl 0 rfl ?_
  refine C_getI (D := mdX4_prepare) (pc' := 218) (p := l0) f_X4_89 rfl dX4_prepare_215 rfl (fun width12 => ?_)
  refine C_ishl (D := mdX4_prepare) (pc' := 219) dX4_prepare_218 rfl ?_
  refine C_sipush (D := mdX4_prepare) (pc' := 222) (v := 3968) dX4_prepare_219 rfl (by decide) ?_
  refine C_min (D := mdX4_prepare) (pc' := 225) mm_X4_98 mm_min_s mm_i mm_min_c dX4_prepare_222 rfl (by decide) (Nat.le_of_ble_eq_true rfl) ?_
  refine C_putI (D := mdX4_prepare) (pc' := 228) (p := l0) f_X4_103 rfl dX4_prepare_225 rfl ?_
  exact C_vret rfl dX4_prepare_228
set_option maxHeartbeats 2000000 in
set_option maxRecDepth 20000 in
theorem p_X4_prepare_J162 (C : KX) (l0 : Nat) (l1 : Nat) (l2 : Int32) (l3 : Int32) (l4 : Int32) (k43 : Int32 × Int32 → Mo Unit) (hk43 : ∀ s, Cmp C mdX4_prepare (QM rvV) 43 [(0, .ref (kB C + l0)), (1, .ref (kB C + l1)), (2, .int l2), (3, .int s.1), (4, .int s.2)] [] (k43 s)) : Cmp C mdX4_prepare (QM rvV) 162 [(0, .ref (kB C + l0)), (1, .ref (kB C + l1)), (2, .int l2), (3, .int l3), (4, .int l4)] [] (m_X4_prepare_J162 l0 l1 l2 l3 l4 k43) := by
  unfold m_X4_prepare_J162
  refine C_iinc (D := mdX4_prepare) (pc' := 165) (j := 4) (v := (l4 + 1)) (ls' := [(4, .int (l4 + 1)), (0, .ref (kB C + l0)), (1, .ref (kB C + l1)), (2, .int l2), (3, .int l3)]) dX4_prepare_162 rfl rfl rfl (by decide) rfl ?_
  refine C_goto (D := mdX4_prepare) (pc' := 43) dX4_prepare_165 (by decide) ?_
  exact C_sub [1, 2, 3, 4, 0] rfl (hk43 (l3, (l4 + 1)))
set_option maxHeartbeats 2000000 in
set_option maxRecDepth 20000 in
theorem p_X4_prepare_B43 (C : KX) (l0 : Nat) (l1 : Nat) (l2 : Int32)  (k43 : Int32 × Int32 → Mo Unit) (hk43 : ∀ s, Cmp C mdX4_prepare (QM rvV) 43 [(0, .ref (kB C + l0)), (1, .ref (kB C + l1)), (2, .int l2), (3, .int s.1), (4, .int s.2)] [] (k43 s)) (l3 : Int32) (l4 : Int32) : Cmp C mdX4_prepare (QM rvV) 43 [(0, .ref (kB C + l0)), (1, .ref (kB C + l1)), (2, .int l2), (3, .int l3), (4, .int l4)] [] (m_X4_prepare_B43 l0 l1 l2 k43 l3 l4) := by
  unfold m_X4_prepare_B43
  refine C_iload (D := mdX4_prepare) (pc' := 45) (x := l4) dX4_prepare_43 rfl 4 rfl ?_
  refine C_aload_n (D := mdX4_prepare) (pc' := 46) (x := kB C + l1) dX4_prepare_45 rfl 1 rfl ?_
  refine C_getR (D := mdX4_prepare) (pc' := 49) (p := l1) f_X4_65 rfl dX4_prepare_46 rfl (fun parts5 => ?_)
  refine C_iload_n (D := mdX4_prepare) (pc' := 50) (x := l2) dX4_prepare_49 rfl 2 rfl ?_
  refine C_aI (D := mdX4_prepare) (pc' := 51) (p := parts5) dX4_prepare_50 rfl (fun x6 => ?_)
  refine C_icmp_ge (D := mdX4_prepare) (pc' := 54) (tgt := 168) dX4_prepare_51 (by decide) rfl ?_ ?_
  · refine C_aload_n (D := mdX4_prepare) (pc' := 169) (x := kB C + l0) dX4_prepare_168 rfl 0 rfl ?_
    refine C_aload_n (D := mdX4_prepare) (pc' := 170) (x := kB C + l0) dX4_prepare_169 rfl 0 rfl ?_
    refine C_getI (D := mdX4_prepare) (pc' := 173) (p := l0) f_X4_58 rfl dX4_prepare_170 rfl (fun nearBits7 => ?_)
    refine C_iload_n (D := mdX4_prepare) (pc' := 174) (x := l3) dX4_prepare_173 rfl 3 rfl ?_
    refine C_iadd (D := mdX4_prepare) (pc' := 175) dX4_prepare_174 rfl ?_
    refine C_putI (D := mdX4_prepare) (pc' := 178) (p := l0) f_X4_89 rfl dX4_prepare_175 rfl ?_
    refine C_aload_n (D := mdX4_prepare) (pc' := 179) (x := kB C + l0) dX4_prepare_178 rfl 0 rfl ?_
    refine C_iconst (D := mdX4_prepare) (pc' := 180) (v := 1) dX4_prepare_179 rfl (by decide) ?_
    refine C_iload_n (D := mdX4_prepare) (pc' := 181) (x := l3) dX4_prepare_180 rfl 3 rfl ?_
    refine C_ishl (D := mdX4_prepare) (pc' := 182) dX4_prepare_181 rfl ?_
    refine C_iconst (D := mdX4_prepare) (pc' := 183) (v := 1) dX4_prepare_182 rfl (by decide) ?_
    refine C_isub (D := mdX4_prepare) (pc' := 184) dX4_prepare_183 rfl ?_
    refine C_aload_n (D := mdX4_prepare) (pc' := 185) (x := kB C + l0) dX4_prepare_184 rfl 0 rfl ?_
    refine C_getI (D := mdX4_prepare) (pc' := 188) (p := l0) f_X4_58 rfl dX4_prepare_185 rfl (fun nearBits8 => ?_)
    refine C_ishl (D := mdX4_prepare) (pc' := 189) dX4_prepare_188 rfl ?_
    refine C_aload_n (D := mdX4_prepare) (pc' := 190) (x := kB C + l0) dX4_prepare_189 rfl 0 rfl ?_
    refine C_getI (D := mdX4_prepare) (pc' := 193) (p := l0) f_X4_58 rfl dX4_prepare_190 rfl (fun nearBits9 => ?_)
    refine C_if_le (D := mdX4_prepare) (pc' := 196) (tgt := 201) dX4_prepare_193 (by decide) rfl ?_ ?_
    · refine C_iconst (D := mdX4_prepare) (pc' := 202) (v := 0) dX4_prepare_201 rfl (by decide) ?_
      exact C_sub [0] rfl (p_X4_prepare_J202 C l0 0 (((((((1 : Int32) <<< (l3 &&& 31))) - 1)) <<< (nearBits8 &&& 31))) l0)
    · refine C_bipush (D := mdX4_prepare) (pc' := 198) (v := 10) dX4_prepare_196 rfl (by decide) ?_
      refine C_goto (D := mdX4_prepare) (pc' := 202) dX4_prepare_198 (by decide) ?_
      exact C_sub [0] rfl (p_X4_prepare_J202 C l0 10 (((((((1 : Int32) <<< (l3 &&& 31))) - 1)) <<< (nearBits8 &&& 31))) l0)
  · refine C_aload_n (D := mdX4_prepare) (pc' := 55) (x := kB C + l1) dX4_prepare_54 rfl 1 rfl ?_
    refine C_iload_n (D := mdX4_prepare) (pc' := 56) (x := l2) dX4_prepare_55 rfl 2 rfl ?_
    refine C_iload (D := mdX4_prepare) (pc' := 58) (x := l4) dX4_prepare_56 rfl 4 rfl ?_
    refine C_callV (D := mdX4_prepare) (pc' := 61) (p := l1) (st := []) [.int l2, .int l4] v_X4_70 (i_X1_place C l1 l2 l4) dX4_prepare_58 rfl rfl rfl (Nat.le_of_ble_eq_true rfl) (by decide) (by decide) (fun c13 => ?_)
    refine C_istore (D := mdX4_prepare) (pc' := 63) (ls' := [(5, .int c13), (0, .ref (kB C + l0)), (1, .ref (kB C + l1)), (2, .int l2), (3, .int l3), (4, .int l4)]) dX4_prepare_61 rfl (by decide) rfl ?_
    refine C_aload_n (D := mdX4_prepare) (pc' := 64) (x := kB C + l1) dX4_prepare_63 rfl 2 rfl ?_
    refine C_getR (D := mdX4_prepare) (pc' := 67) (p := l1) f_X4_74 rfl dX4_prepare_64 rfl (fun sort14 => ?_)
    refine C_iload (D := mdX4_prepare) (pc' := 69) (x := c13) dX4_prepare_67 rfl 0 rfl ?_
    refine C_aI (D := mdX4_prepare) (pc' := 70) (p := sort14) dX4_prepare_69 rfl (fun x15 => ?_)
    refine C_if_ne (D := mdX4_prepare) (pc' := 73) (tgt := 93) dX4_prepare_70 (by decide) rfl ?_ ?_
    · refine C_aload_n (D := mdX4_prepare) (pc' := 94) (x := kB C + l1) dX4_prepare_93 rfl 2 rfl ?_
      refine C_getR (D := mdX4_prepare) (pc' := 97) (p := l1) f_X4_74 rfl dX4_prepare_94 rfl (fun sort16 => ?_)
      refine C_iload (D := mdX4_prepare) (pc' := 99) (x := c13) dX4_prepare_97 rfl 0 rfl ?_
      refine C_aI (D := mdX4_prepare) (pc' := 100) (p := sort16) dX4_prepare_99 rfl (fun x17 => ?_)
      refine C_iconst (D := mdX4_prepare) (pc' := 101) (v := 1) dX4_prepare_100 rfl (by decide) ?_
      refine C_icmp_ne (D := mdX4_prepare) (pc' := 104) (tgt := 120) dX4_prepare_101 (by decide) rfl ?_ ?_
      · refine C_aload_n (D := mdX4_prepare) (pc' := 121) (x := kB C + l0) dX4_prepare_120 rfl 1 rfl ?_
        refine C_aload_n (D := mdX4_prepare) (pc' := 122) (x := kB C + l1) dX4_prepare_121 rfl 2 rfl ?_
        refine C_getR (D := mdX4_prepare) (pc' := 125) (p := l1) f_X4_77 rfl dX4_prepare_122 rfl (fun word18 => ?_)
        refine C_iload (D := mdX4_prepare) (pc' := 127) (x := c13) dX4_prepare_125 rfl 0 rfl ?_
        refine C_aI (D := mdX4_prepare) (pc' := 128) (p := word18) dX4_prepare_127 rfl (fun x19 => ?_)
        refine C_bipush (D := mdX4_prepare) (pc' := 130) (v := 64) dX4_prepare_128 rfl (by decide) ?_
        refine C_callV (D := mdX4_prepare) (pc' := 133) (p := l0) (st := []) [.int x19, .int 64] v_X4_80 (i_X4_markNodes C l0 x19 64) dX4_prepare_130 rfl rfl rfl (Nat.le_of_ble_eq_true rfl) (by decide) (by decide) (fun _ => ?_)
        refine C_aload_n (D := mdX4_prepare) (pc' := 134) (x := kB C + l0) dX4_prepare_133 rfl 1 rfl ?_
        refine C_aload_n (D := mdX4_prepare) (pc' := 135) (x := kB C + l1) dX4_prepare_134 rfl 2 rfl ?_
        refine C_getR (D := mdX4_prepare) (pc' := 138) (p := l1) f_X4_84 rfl dX4_prepare_135 rfl (fun earlier20 => ?_)
        refine C_iload (D := mdX4_prepare) (pc' := 140) (x := c13) dX4_prepare_138 rfl 0 rfl ?_
        refine C_aI (D := mdX4_prepare) (pc' := 141) (p := earlier20) dX4_prepare_140 rfl (fun x21 => ?_)
        refine C_bipush (D := mdX4_prepare) (pc' := 143) (v := 32) dX4_prepare_141 rfl (by decide) ?_
        refine C_callV (D := mdX4_prepare) (pc' := 146) (p := l0) (st := []) [.int x21, .int 32] v_X4_80 (i_X4_markNodes C l0 x21 32) dX4_prepare_143 rfl rfl rfl (Nat.le_of_ble_eq_true rfl) (by decide) (by decide) (fun _ => ?_)
        refine C_aload_n (D := mdX4_prepare) (pc' := 147) (x := kB C + l0) dX4_prepare_146 rfl 1 rfl ?_
        refine C_iconst (D := mdX4_prepare) (pc' := 148) (v := 4) dX4_prepare_147 rfl (by decide) ?_
        refine C_putI (D := mdX4_prepare) (pc' := 151) (p := l0) f_X4_58 rfl dX4_prepare_148 rfl ?_
        refine C_aload_n (D := mdX4_prepare) (pc' := 152) (x := kB C + l0) dX4_prepare_151 rfl 1 rfl ?_
        refine C_aload_n (D := mdX4_prepare) (pc' := 153) (x := kB C + l1) dX4_prepare_152 rfl 2 rfl ?_
        refine C_getR (D := mdX4_prepare) (pc' := 156) (p := l1) f_X4_87 rfl dX4_prepare_153 rfl (fun reach22 => ?_)
        refine C_iload (D := mdX4_prepare) (pc' := 158) (x := c13) dX4_prepare_156 rfl 0 rfl ?_
        refine C_aI (D := mdX4_prepare) (pc' := 159) (p := reach22) dX4_prepare_158 rfl (fun x23 => ?_)
        refine C_putI (D := mdX4_prepare) (pc' := 162) (p := l0) f_X4_62 rfl dX4_prepare_159 rfl ?_
        exact C_sub [1, 2, 3, 4, 5] rfl (p_X4_prepare_J162 C l0 l1 l2 l3 l4 k43 hk43)
      · refine C_aload_n (D := mdX4_prepare) (pc' := 105) (x := kB C + l0) dX4_prepare_104 rfl 1 rfl ?_
        refine C_aload_n (D := mdX4_prepare) (pc' := 106) (x := kB C + l1) dX4_prepare_105 rfl 2 rfl ?_
        refine C_getR (D := mdX4_prepare) (pc' := 109) (p := l1) f_X4_77 rfl dX4_prepare_106 rfl (fun word24 => ?_)
        refine C_iload (D := mdX4_prepare) (pc' := 111) (x := c13) dX4_prepare_109 rfl 0 rfl ?_
        refine C_aI (D := mdX4_prepare) (pc' := 112) (p := word24) dX4_prepare_111 rfl (fun x25 => ?_)
        refine C_bipush (D := mdX4_prepare) (pc' := 114) (v := 16) dX4_prepare_112 rfl (by decide) ?_
        refine C_callV (D := mdX4_prepare) (pc' := 117) (p := l0) (st := []) [.int x25, .int 16] v_X4_80 (i_X4_markNodes C l0 x25 16) dX4_prepare_114 rfl rfl rfl (Nat.le_of_ble_eq_true rfl) (by decide) (by decide) (fun _ => ?_)
        refine C_goto (D := mdX4_prepare) (pc' := 162) dX4_prepare_117 (by decide) ?_
        exact C_sub [1, 2, 3, 4, 5] rfl (p_X4_prepare_J162 C l0 l1 l2 l3 l4 k43 hk43)
    · refine C_aload_n (D := mdX4_prepare) (pc' := 74) (x := kB C + l0) dX4_prepare_73 rfl 1 rfl ?_
      refine C_aload_n (D := mdX4_prepare) (pc' := 75) (x := kB C + l1) dX4_prepare_74 rfl 2 rfl ?_
      refine C_getR (D := mdX4_prepare) (pc' := 78) (p := l1) f_X4_77 rfl dX4_prepare_75 rfl (fun word26 => ?_)
      refine C_iload (D := mdX4_prepare) (pc' := 80) (x := c13) dX4_prepare_78 rfl 0 rfl ?_
      refine C_aI (D := mdX4_prepare) (pc' := 81) (p := word26) dX4_prepare_80 rfl (fun x27 => ?_)
      refine C_iconst (D := mdX4_prepare) (pc' := 82) (v := 1) dX4_prepare_81 rfl (by decide) ?_
      refine C_iload_n (D := mdX4_prepare) (pc' := 83) (x := l3) dX4_prepare_82 rfl 4 rfl ?_
      refine C_ishl (D := mdX4_prepare) (pc' := 84) dX4_prepare_83 rfl ?_
      refine C_callV (D := mdX4_prepare) (pc' := 87) (p := l0) (st := []) [.int x27, .int ((1 : Int32) <<< (l3 &&& 31))] v_X4_80 (i_X4_markNodes C l0 x27 (((1 : Int32) <<< (l3 &&& 31)))) dX4_prepare_84 rfl rfl rfl (Nat.le_of_ble_eq_true rfl) (by decide) (by decide) (fun _ => ?_)
      refine C_iinc (D := mdX4_prepare) (pc' := 90) (j := 4) (v := (l3 + 1)) (ls' := [(3, .int (l3 + 1)), (5, .int c13), (0, .ref (kB C + l0)), (1, .ref (kB C + l1)), (2, .int l2), (4, .int l4)]) dX4_prepare_87 rfl rfl rfl (by decide) rfl ?_
      refine C_goto (D := mdX4_prepare) (pc' := 162) dX4_prepare_90 (by decide) ?_
      exact C_sub [2, 3, 4, 0, 5] rfl (p_X4_prepare_J162 C l0 l1 l2 ((l3 + 1)) l4 k43 hk43)
set_option maxHeartbeats 2000000 in
set_option maxRecDepth 20000 in
theorem i_X4_prepare (C : KX) (l0 : Nat) (l1 : Nat) (l2 : Int32) : Imp C yX4_prepare cX4_prepare 6 none 4 90 rvV [.ref (kB C + l0), .ref (kB C + l1), .int l2] (m_X4_prepare l0 l1 l2) := by
  refine Imp.of (by decide) (Nat.le_of_ble_eq_true rfl) [(0, .ref (kB C + l0)), (1, .ref (kB C + l1)), (2, .int l2)] rfl ?_
  show Cmp C mdX4_prepare (QM rvV) 0 [(0, .ref (kB C + l0)), (1, .ref (kB C + l1)), (2, .int l2)] [] (m_X4_prepare l0 l1 l2)
  unfold m_X4_prepare
  refine C_aload_n (D := mdX4_prepare) (pc' := 1) (x := kB C + l0) dX4_prepare_0 rfl 0 rfl ?_
  refine C_getR (D := mdX4_prepare) (pc' := 4) (p := l0) f_X4_16 rfl dX4_prepare_1 rfl (fun words1 => ?_)
  refine C_aload_n (D := mdX4_prepare) (pc' := 5) (x := kB C + l1) dX4_prepare_4 rfl 1 rfl ?_
  refine C_iload_n (D := mdX4_prepare) (pc' := 6) (x := l2) dX4_prepare_5 rfl 2 rfl ?_
  refine C_callV (D := mdX4_prepare) (pc' := 9) (p := words1) (st := []) [.ref (kB C + l1), .int l2] v_X4_44 (i_X6_gatherOne C words1 l1 l2) dX4_prepare_6 rfl rfl rfl (Nat.le_of_ble_eq_true rfl) (by decide) (by decide) (fun _ => ?_)
  refine C_aload_n (D := mdX4_prepare) (pc' := 10) (x := kB C + l0) dX4_prepare_9 rfl 0 rfl ?_
  refine C_getR (D := mdX4_prepare) (pc' := 13) (p := l0) f_X4_23 rfl dX4_prepare_10 rfl (fun automaton2 => ?_)
  refine C_aload_n (D := mdX4_prepare) (pc' := 14) (x := kB C + l0) dX4_prepare_13 rfl 0 rfl ?_
  refine C_getR (D := mdX4_prepare) (pc' := 17) (p := l0) f_X4_16 rfl dX4_prepare_14 rfl (fun words3 => ?_)
  refine C_callV (D := mdX4_prepare) (pc' := 20) (p := automaton2) (st := []) [.ref (kB C + words3)] v_X4_48 (i_X0_build C automaton2 words3) dX4_prepare_17 rfl rfl rfl (Nat.le_of_ble_eq_true rfl) (by decide) (by decide) (fun _ => ?_)
  refine C_aload_n (D := mdX4_prepare) (pc' := 21) (x := kB C + l0) dX4_prepare_20 rfl 0 rfl ?_
  refine C_getR (D := mdX4_prepare) (pc' := 24) (p := l0) f_X4_27 rfl dX4_prepare_21 rfl (fun marks4 => ?_)
  refine C_iconst (D := mdX4_prepare) (pc' := 25) (v := 0) dX4_prepare_24 rfl (by decide) ?_
  refine C_callS (D := mdX4_prepare) (pc' := 28) (st := []) [.ref (kB C + marks4), .int 0] s_X4_52 (i_J7_fill_53178 C marks4 0) dX4_prepare_25 rfl rfl rfl (Nat.le_of_ble_eq_true rfl) (by decide) (by decide) (fun _ => ?_)
  refine C_aload_n (D := mdX4_prepare) (pc' := 29) (x := kB C + l0) dX4_prepare_28 rfl 0 rfl ?_
  refine C_iconst (D := mdX4_prepare) (pc' := 30) (v := 0) dX4_prepare_29 rfl (by decide) ?_
  refine C_putI (D := mdX4_prepare) (pc' := 33) (p := l0) f_X4_58 rfl dX4_prepare_30 rfl ?_
  refine C_aload_n (D := mdX4_prepare) (pc' := 34) (x := kB C + l0) dX4_prepare_33 rfl 0 rfl ?_
  refine C_iconst (D := mdX4_prepare) (pc' := 35) (v := 0) dX4_prepare_34 rfl (by decide) ?_
  refine C_putI (D := mdX4_prepare) (pc' := 38) (p := l0) f_X4_62 rfl dX4_prepare_35 rfl ?_
  refine C_iconst (D := mdX4_prepare) (pc' := 39) (v := 0) dX4_prepare_38 rfl (by decide) ?_
  refine C_istore_n (D := mdX4_prepare) (pc' := 40) (ls' := [(3, .int 0), (0, .ref (kB C + l0)), (1, .ref (kB C + l1)), (2, .int l2)]) dX4_prepare_39 rfl rfl (by decide) rfl ?_
  refine C_iconst (D := mdX4_prepare) (pc' := 41) (v := 0) dX4_prepare_40 rfl (by decide) ?_
  refine C_istore (D := mdX4_prepare) (pc' := 43) (ls' := [(4, .int 0), (3, .int 0), (0, .ref (kB C + l0)), (1, .ref (kB C + l1)), (2, .int l2)]) dX4_prepare_41 rfl (by decide) rfl ?_
  exact C_sub [2, 3, 4, 1, 0] rfl (C_loop (fun s => [(0, .ref (kB C + l0)), (1, .ref (kB C + l1)), (2, .int l2), (3, .int s.1), (4, .int s.2)]) (fun k hk s => p_X4_prepare_B43 C l0 l1 l2  k hk s.1 s.2) FU (0, 0))

-- StandingQueries.searchFor(I)LStandingQueries$Search;
theorem dX7_searchFor_0 : decode cX7_searchFor 0 = .ok (.aload_n 0, 1) := by decide +kernel
theorem dX7_searchFor_1 : decode cX7_searchFor 1 = .ok (.getfield 265, 3) := by decide +kernel
theorem dX7_searchFor_4 : decode cX7_searchFor 4 = .ok (.astore_n 2, 1) := by decide +kernel
theorem dX7_searchFor_5 : decode cX7_searchFor 5 = .ok (.aload_n 2, 1) := by decide +kernel
theorem dX7_searchFor_6 : decode cX7_searchFor 6 = .ok (.ifnonnull 16, 3) := by decide +kernel
theorem dX7_searchFor_9 : decode cX7_searchFor 9 = .ok (.new 155, 3) := by decide +kernel
theorem dX7_searchFor_12 : decode cX7_searchFor 12 = .ok (.dup, 1) := by decide +kernel
theorem dX7_searchFor_13 : decode cX7_searchFor 13 = .ok (.invokespecial 269, 3) := by decide +kernel
theorem dX7_searchFor_16 : decode cX7_searchFor 16 = .ok (.astore_n 2, 1) := by decide +kernel
theorem dX7_searchFor_17 : decode cX7_searchFor 17 = .ok (.aload_n 0, 1) := by decide +kernel
theorem dX7_searchFor_18 : decode cX7_searchFor 18 = .ok (.aload_n 2, 1) := by decide +kernel
theorem dX7_searchFor_19 : decode cX7_searchFor 19 = .ok (.putfield 265, 3) := by decide +kernel
theorem dX7_searchFor_22 : decode cX7_searchFor 22 = .ok (.aload_n 2, 1) := by decide +kernel
theorem dX7_searchFor_23 : decode cX7_searchFor 23 = .ok (.aload_n 0, 1) := by decide +kernel
theorem dX7_searchFor_24 : decode cX7_searchFor 24 = .ok (.getfield 19, 3) := by decide +kernel
theorem dX7_searchFor_27 : decode cX7_searchFor 27 = .ok (.iload_n 1, 1) := by decide +kernel
theorem dX7_searchFor_28 : decode cX7_searchFor 28 = .ok (.invokevirtual 270, 3) := by decide +kernel
theorem dX7_searchFor_31 : decode cX7_searchFor 31 = .ok (.aload_n 2, 1) := by decide +kernel
theorem dX7_searchFor_32 : decode cX7_searchFor 32 = .ok (.areturn, 1) := by decide +kernel
abbrev mdX7_searchFor : MD := (cX7_searchFor, RX7, 3, (some (.object RX4)), yX7_searchFor.name, 5, 115, eT)
set_option maxHeartbeats 2000000 in
set_option maxRecDepth 20000 in
theorem p_X7_searchFor_J22 (C : KX) (l0 : Nat) (l1 : Int32) (l2 : Nat)  : Cmp C mdX7_searchFor (QM (rvR (kB C))) 22 [(0, .ref (kB C + l0)), (1, .int l1), (2, .ref (kB C + l2))] [] (m_X7_searchFor_J22 l0 l1 l2) := by
  unfold m_X7_searchFor_J22
  refine C_aload_n (D := mdX7_searchFor) (pc' := 23) (x := kB C + l2) dX7_searchFor_22 rfl 2 rfl ?_
  refine C_aload_n (D := mdX7_searchFor) (pc' := 24) (x := kB C + l0) dX7_searchFor_23 rfl 0 rfl ?_
  refine C_getR (D := mdX7_searchFor) (pc' := 27) (p := l0) f_X7_19 rfl dX7_searchFor_24 rfl (fun held3 => ?_)
  refine C_iload_n (D := mdX7_searchFor) (pc' := 28) (x := l1) dX7_searchFor_27 rfl 1 rfl ?_
  refine C_callV (D := mdX7_searchFor) (pc' := 31) (p := l2) (st := []) [.ref (kB C + held3), .int l1] v_X7_270 (i_X4_prepare C l2 held3 l1) dX7_searchFor_28 rfl rfl rfl (Nat.le_of_ble_eq_true rfl) (by decide) (by decide) (fun _ => ?_)
  refine C_aload_n (D := mdX7_searchFor) (pc' := 32) (x := kB C + l2) dX7_searchFor_31 rfl 2 rfl ?_
  exact C_aret rfl dX7_searchFor_32
set_option maxHeartbeats 2000000 in
set_option maxRecDepth 20000 in
theorem i_X7_searchFor (C : KX) (l0 : Nat) (l1 : Int32) : Imp C yX7_searchFor cX7_searchFor 3 (some (.object RX4)) 5 115 (rvR (kB C)) [.ref (kB C + l0), .int l1] (m_X7_searchFor l0 l1) := by
  refine Imp.of (by decide) (Nat.le_of_ble_eq_true rfl) [(0, .ref (kB C + l0)), (1, .int l1)] rfl ?_
  show Cmp C mdX7_searchFor (QM (rvR (kB C))) 0 [(0, .ref (kB C + l0)), (1, .int l1)] [] (m_X7_searchFor l0 l1)
  unfold m_X7_searchFor
  refine C_aload_n (D := mdX7_searchFor) (pc' := 1) (x := kB C + l0) dX7_searchFor_0 rfl 0 rfl ?_
  refine C_getQ (D := mdX7_searchFor) (pc' := 4) (p := l0) f_X7_265 rfl dX7_searchFor_1 rfl ?_ (fun search1 => ?_)
  · refine C_astore_nN (D := mdX7_searchFor) (pc' := 5) (ls' := [(2, .null), (0, .ref (kB C + l0)), (1, .int l1)]) dX7_searchFor_4 rfl rfl (by decide) rfl ?_
    refine C_aload_nN (D := mdX7_searchFor) (pc' := 6) dX7_searchFor_5 rfl 0 rfl ?_
    refine C_ifnonnullN (D := mdX7_searchFor) (pc' := 9) dX7_searchFor_6 rfl ?_
    refine C_new (D := mdX7_searchFor) (pc' := 12) n_X7_155 dX7_searchFor_9 rfl (fun p2 => ?_)
    refine C_dup (D := mdX7_searchFor) (pc' := 13) dX7_searchFor_12 rfl rfl ?_
    refine C_callIN (D := mdX7_searchFor) (pc' := 16) (p := p2) (st := [.ref (kB C + p2)]) [] i_X7_269 (i_X4_init C p2) dX7_searchFor_13 rfl rfl rfl (Nat.le_of_ble_eq_true rfl) (by decide) (by decide) (fun _ => ?_)
    refine C_astore_n (D := mdX7_searchFor) (pc' := 17) (ls' := [(2, .ref (kB C + p2)), (0, .ref (kB C + l0)), (1, .int l1)]) dX7_searchFor_16 rfl rfl (by decide) rfl ?_
    refine C_aload_n (D := mdX7_searchFor) (pc' := 18) (x := kB C + l0) dX7_searchFor_17 rfl 1 rfl ?_
    refine C_aload_n (D := mdX7_searchFor) (pc' := 19) (x := kB C + p2) dX7_searchFor_18 rfl 0 rfl ?_
    refine C_putR (D := mdX7_searchFor) (pc' := 22) (p := l0) (q := p2) f_X7_265 (by first | exact Or.inl rfl | exact Or.inr ⟨rfl, rfl⟩) rfl dX7_searchFor_19 rfl ?_
    exact C_sub [1, 2, 0] rfl (p_X7_searchFor_J22 C l0 l1 p2)
  · refine C_astore_n (D := mdX7_searchFor) (pc' := 5) (ls' := [(2, .ref (kB C + search1)), (0, .ref (kB C + l0)), (1, .int l1)]) dX7_searchFor_4 rfl rfl (by decide) rfl ?_
    refine C_aload_n (D := mdX7_searchFor) (pc' := 6) (x := kB C + search1) dX7_searchFor_5 rfl 0 rfl ?_
    refine C_ifnonnull (D := mdX7_searchFor) (pc' := 22) dX7_searchFor_6 (by decide) ?_
    exact C_sub [1, 2, 0] rfl (p_X7_searchFor_J22 C l0 l1 search1)

-- StandingQueries$Search.isMatch(I)Z
theorem dX4_isMatch_0 : decode cX4_isMatch 0 = .ok (.iload_n 1, 1) := by decide +kernel
theorem dX4_isMatch_1 : decode cX4_isMatch 1 = .ok (.iconst 1, 1) := by decide +kernel
theorem dX4_isMatch_2 : decode cX4_isMatch 2 = .ok (.aload_n 0, 1) := by decide +kernel
theorem dX4_isMatch_3 : decode cX4_isMatch 3 = .ok (.getfield 89, 3) := by decide +kernel
theorem dX4_isMatch_6 : decode cX4_isMatch 6 = .ok (.ishl, 1) := by decide +kernel
theorem dX4_isMatch_7 : decode cX4_isMatch 7 = .ok (.iconst 1, 1) := by decide +kernel
theorem dX4_isMatch_8 : decode cX4_isMatch 8 = .ok (.isub, 1) := by decide +kernel
theorem dX4_isMatch_9 : decode cX4_isMatch 9 = .ok (.iand, 1) := by decide +kernel
theorem dX4_isMatch_10 : decode cX4_isMatch 10 = .ok (.aload_n 0, 1) := by decide +kernel
theorem dX4_isMatch_11 : decode cX4_isMatch 11 = .ok (.getfield 92, 3) := by decide +kernel
theorem dX4_isMatch_14 : decode cX4_isMatch 14 = .ok (.if_icmp .ne 7, 3) := by decide +kernel
theorem dX4_isMatch_17 : decode cX4_isMatch 17 = .ok (.iconst 1, 1) := by decide +kernel
theorem dX4_isMatch_18 : decode cX4_isMatch 18 = .ok (.goto 4, 3) := by decide +kernel
theorem dX4_isMatch_21 : decode cX4_isMatch 21 = .ok (.iconst 0, 1) := by decide +kernel
theorem dX4_isMatch_22 : decode cX4_isMatch 22 = .ok (.ireturn, 1) := by decide +kernel
abbrev mdX4_isMatch : MD := (cX4_isMatch, RX4, 2, (some .boolean), yX4_isMatch.name, 0, 0, eT)
set_option maxHeartbeats 2000000 in
set_option maxRecDepth 20000 in
theorem i_X4_isMatch (C : KX) (l0 : Nat) (l1 : Int32) : Imp C yX4_isMatch cX4_isMatch 2 (some .boolean) 0 0 rvI [.ref (kB C + l0), .int l1] (m_X4_isMatch l0 l1) := by
  refine Imp.of (by decide) (Nat.le_of_ble_eq_true rfl) [(0, .ref (kB C + l0)), (1, .int l1)] rfl ?_
  show Cmp C mdX4_isMatch (QM rvI) 0 [(0, .ref (kB C + l0)), (1, .int l1)] [] (m_X4_isMatch l0 l1)
  unfold m_X4_isMatch
  refine C_iload_n (D := mdX4_isMatch) (pc' := 1) (x := l1) dX4_isMatch_0 rfl 1 rfl ?_
  refine C_iconst (D := mdX4_isMatch) (pc' := 2) (v := 1) dX4_isMatch_1 rfl (by decide) ?_
  refine C_aload_n (D := mdX4_isMatch) (pc' := 3) (x := kB C + l0) dX4_isMatch_2 rfl 0 rfl ?_
  refine C_getI (D := mdX4_isMatch) (pc' := 6) (p := l0) f_X4_89 rfl dX4_isMatch_3 rfl (fun width1 => ?_)
  refine C_ishl (D := mdX4_isMatch) (pc' := 7) dX4_isMatch_6 rfl ?_
  refine C_iconst (D := mdX4_isMatch) (pc' := 8) (v := 1) dX4_isMatch_7 rfl (by decide) ?_
  refine C_isub (D := mdX4_isMatch) (pc' := 9) dX4_isMatch_8 rfl ?_
  refine C_iand (D := mdX4_isMatch) (pc' := 10) dX4_isMatch_9 rfl ?_
  refine C_aload_n (D := mdX4_isMatch) (pc' := 11) (x := kB C + l0) dX4_isMatch_10 rfl 0 rfl ?_
  refine C_getI (D := mdX4_isMatch) (pc' := 14) (p := l0) f_X4_92 rfl dX4_isMatch_11 rfl (fun matched2 => ?_)
  refine C_icmp_ne (D := mdX4_isMatch) (pc' := 17) (tgt := 21) dX4_isMatch_14 (by decide) rfl ?_ ?_
  · refine C_iconst (D := mdX4_isMatch) (pc' := 22) (v := 0) dX4_isMatch_21 rfl (by decide) ?_
    exact C_zret rfl dX4_isMatch_22
  · refine C_iconst (D := mdX4_isMatch) (pc' := 18) (v := 1) dX4_isMatch_17 rfl (by decide) ?_
    refine C_goto (D := mdX4_isMatch) (pc' := 22) dX4_isMatch_18 (by decide) ?_
    exact C_zret rfl dX4_isMatch_22
