-- StandingQueries.matching(I)I
theorem dX7_matching_0 : decode cX7_matching 0 = .ok (.iconst 0, 1) := by decide +kernel
theorem dX7_matching_1 : decode cX7_matching 1 = .ok (.istore_n 2, 1) := by decide +kernel
theorem dX7_matching_2 : decode cX7_matching 2 = .ok (.iconst 0, 1) := by decide +kernel
theorem dX7_matching_3 : decode cX7_matching 3 = .ok (.istore_n 3, 1) := by decide +kernel
theorem dX7_matching_4 : decode cX7_matching 4 = .ok (.iload_n 3, 1) := by decide +kernel
theorem dX7_matching_5 : decode cX7_matching 5 = .ok (.aload_n 0, 1) := by decide +kernel
theorem dX7_matching_6 : decode cX7_matching 6 = .ok (.getfield 19, 3) := by decide +kernel
theorem dX7_matching_9 : decode cX7_matching 9 = .ok (.getfield 69, 3) := by decide +kernel
theorem dX7_matching_12 : decode cX7_matching 12 = .ok (.if_icmp .ge 24, 3) := by decide +kernel
theorem dX7_matching_15 : decode cX7_matching 15 = .ok (.aload_n 0, 1) := by decide +kernel
theorem dX7_matching_16 : decode cX7_matching 16 = .ok (.iload_n 3, 1) := by decide +kernel
theorem dX7_matching_17 : decode cX7_matching 17 = .ok (.iload_n 1, 1) := by decide +kernel
theorem dX7_matching_18 : decode cX7_matching 18 = .ok (.invokevirtual 114, 3) := by decide +kernel
theorem dX7_matching_21 : decode cX7_matching 21 = .ok (.ifCond .eq 9, 3) := by decide +kernel
theorem dX7_matching_24 : decode cX7_matching 24 = .ok (.iload_n 2, 1) := by decide +kernel
theorem dX7_matching_25 : decode cX7_matching 25 = .ok (.iconst 1, 1) := by decide +kernel
theorem dX7_matching_26 : decode cX7_matching 26 = .ok (.iload_n 3, 1) := by decide +kernel
theorem dX7_matching_27 : decode cX7_matching 27 = .ok (.ishl, 1) := by decide +kernel
theorem dX7_matching_28 : decode cX7_matching 28 = .ok (.ior, 1) := by decide +kernel
theorem dX7_matching_29 : decode cX7_matching 29 = .ok (.istore_n 2, 1) := by decide +kernel
theorem dX7_matching_30 : decode cX7_matching 30 = .ok (.iinc 3 1, 3) := by decide +kernel
theorem dX7_matching_33 : decode cX7_matching 33 = .ok (.goto (-29), 3) := by decide +kernel
theorem dX7_matching_36 : decode cX7_matching 36 = .ok (.iload_n 2, 1) := by decide +kernel
theorem dX7_matching_37 : decode cX7_matching 37 = .ok (.ireturn, 1) := by decide +kernel
abbrev mdX7_matching : MD := (cX7_matching, RX7, 4, (some .int), yX7_matching.name, 4, 91, eT)
set_option maxHeartbeats 2000000 in
set_option maxRecDepth 20000 in
theorem p_X7_matching_J30 (C : KX) (l0 : Nat) (l1 : Int32) (l2 : Int32) (l3 : Int32) (k4 : Int32 × Int32 → Mo Int32) (hk4 : ∀ s, Cmp C mdX7_matching (QM rvI) 4 [(0, .ref (kB C + l0)), (1, .int l1), (2, .int s.1), (3, .int s.2)] [] (k4 s)) : Cmp C mdX7_matching (QM rvI) 30 [(0, .ref (kB C + l0)), (1, .int l1), (2, .int l2), (3, .int l3)] [] (m_X7_matching_J30 l0 l1 l2 l3 k4) := by
  unfold m_X7_matching_J30
  refine C_iinc (D := mdX7_matching) (pc' := 33) (j := 3) (v := (l3 + 1)) (ls' := [(3, .int (l3 + 1)), (0, .ref (kB C + l0)), (1, .int l1), (2, .int l2)]) dX7_matching_30 rfl rfl rfl (by decide) rfl ?_
  refine C_goto (D := mdX7_matching) (pc' := 4) dX7_matching_33 (by decide) ?_
  exact C_sub [1, 2, 3, 0] rfl (hk4 (l2, (l3 + 1)))
set_option maxHeartbeats 2000000 in
set_option maxRecDepth 20000 in
theorem p_X7_matching_B4 (C : KX) (l0 : Nat) (l1 : Int32)  (k4 : Int32 × Int32 → Mo Int32) (hk4 : ∀ s, Cmp C mdX7_matching (QM rvI) 4 [(0, .ref (kB C + l0)), (1, .int l1), (2, .int s.1), (3, .int s.2)] [] (k4 s)) (l2 : Int32) (l3 : Int32) : Cmp C mdX7_matching (QM rvI) 4 [(0, .ref (kB C + l0)), (1, .int l1), (2, .int l2), (3, .int l3)] [] (m_X7_matching_B4 l0 l1 k4 l2 l3) := by
  unfold m_X7_matching_B4
  refine C_iload_n (D := mdX7_matching) (pc' := 5) (x := l3) dX7_matching_4 rfl 3 rfl ?_
  refine C_aload_n (D := mdX7_matching) (pc' := 6) (x := kB C + l0) dX7_matching_5 rfl 0 rfl ?_
  refine C_getR (D := mdX7_matching) (pc' := 9) (p := l0) f_X7_19 rfl dX7_matching_6 rfl (fun held1 => ?_)
  refine C_getI (D := mdX7_matching) (pc' := 12) (p := held1) f_X7_69 rfl dX7_matching_9 rfl (fun queries2 => ?_)
  refine C_icmp_ge (D := mdX7_matching) (pc' := 15) (tgt := 36) dX7_matching_12 (by decide) rfl ?_ ?_
  · refine C_iload_n (D := mdX7_matching) (pc' := 37) (x := l2) dX7_matching_36 rfl 2 rfl ?_
    exact C_iret rfl dX7_matching_37
  · refine C_aload_n (D := mdX7_matching) (pc' := 16) (x := kB C + l0) dX7_matching_15 rfl 0 rfl ?_
    refine C_iload_n (D := mdX7_matching) (pc' := 17) (x := l3) dX7_matching_16 rfl 3 rfl ?_
    refine C_iload_n (D := mdX7_matching) (pc' := 18) (x := l1) dX7_matching_17 rfl 1 rfl ?_
    refine C_callV (D := mdX7_matching) (pc' := 21) (p := l0) (st := []) [.int l3, .int l1] v_X7_114 (i_X7_matches C l0 l3 l1) dX7_matching_18 rfl rfl rfl (Nat.le_of_ble_eq_true rfl) (by decide) (by decide) (fun c3 => ?_)
    refine C_if_eq (D := mdX7_matching) (pc' := 24) (tgt := 30) dX7_matching_21 (by decide) rfl ?_ ?_
    · exact C_sub [0, 1, 2, 3] rfl (p_X7_matching_J30 C l0 l1 l2 l3 k4 hk4)
    · refine C_iload_n (D := mdX7_matching) (pc' := 25) (x := l2) dX7_matching_24 rfl 2 rfl ?_
      refine C_iconst (D := mdX7_matching) (pc' := 26) (v := 1) dX7_matching_25 rfl (by decide) ?_
      refine C_iload_n (D := mdX7_matching) (pc' := 27) (x := l3) dX7_matching_26 rfl 3 rfl ?_
      refine C_ishl (D := mdX7_matching) (pc' := 28) dX7_matching_27 rfl ?_
      refine C_ior (D := mdX7_matching) (pc' := 29) dX7_matching_28 rfl ?_
      refine C_letI (fun v4 => ?_)
      refine C_istore_n (D := mdX7_matching) (pc' := 30) (ls' := [(2, .int v4), (0, .ref (kB C + l0)), (1, .int l1), (3, .int l3)]) dX7_matching_29 rfl rfl (by decide) rfl ?_
      exact C_sub [1, 2, 0, 3] rfl (p_X7_matching_J30 C l0 l1 v4 l3 k4 hk4)
set_option maxHeartbeats 2000000 in
set_option maxRecDepth 20000 in
theorem i_X7_matching (C : KX) (l0 : Nat) (l1 : Int32) : Imp C yX7_matching cX7_matching 4 (some .int) 4 91 rvI [.ref (kB C + l0), .int l1] (m_X7_matching l0 l1) := by
  refine Imp.of (by decide) (Nat.le_of_ble_eq_true rfl) [(0, .ref (kB C + l0)), (1, .int l1)] rfl ?_
  show Cmp C mdX7_matching (QM rvI) 0 [(0, .ref (kB C + l0)), (1, .int l1)] [] (m_X7_matching l0 l1)
  unfold m_X7_matching
  refine C_iconst (D := mdX7_matching) (pc' := 1) (v := 0) dX7_matching_0 rfl (by decide) ?_
  refine C_istore_n (D := mdX7_matching) (pc' := 2) (ls' := [(2, .int 0), (0, .ref (kB C + l0)), (1, .int l1)]) dX7_matching_1 rfl rfl (by decide) rfl ?_
  refine C_iconst (D := mdX7_matching) (pc' := 3) (v := 0) dX7_matching_2 rfl (by decide) ?_
  refine C_istore_n (D := mdX7_matching) (pc' := 4) (ls' := [(3, .int 0), (2, .int 0), (0, .ref (kB C + l0)), (1, .int l1)]) dX7_matching_3 rfl rfl (by decide) rfl ?_
  exact C_sub [2, 3, 1, 0] rfl (C_loop (fun s => [(0, .ref (kB C + l0)), (1, .int l1), (2, .int s.1), (3, .int s.2)]) (fun k hk s => p_X7_matching_B4 C l0 l1  k hk s.1 s.2) FU (0, 0))

-- StandingQueries.withoutLast()I
theorem dX7_withoutLast_0 : decode cX7_withoutLast 0 = .ok (.iconst 0, 1) := by decide +kernel
theorem dX7_withoutLast_1 : decode cX7_withoutLast 1 = .ok (.aload_n 0, 1) := by decide +kernel
theorem dX7_withoutLast_2 : decode cX7_withoutLast 2 = .ok (.getfield 19, 3) := by decide +kernel
theorem dX7_withoutLast_5 : decode cX7_withoutLast 5 = .ok (.getfield 91, 3) := by decide +kernel
theorem dX7_withoutLast_8 : decode cX7_withoutLast 8 = .ok (.iconst 1, 1) := by decide +kernel
theorem dX7_withoutLast_9 : decode cX7_withoutLast 9 = .ok (.isub, 1) := by decide +kernel
theorem dX7_withoutLast_10 : decode cX7_withoutLast 10 = .ok (.invokestatic 257, 3) := by decide +kernel
theorem dX7_withoutLast_13 : decode cX7_withoutLast 13 = .ok (.ireturn, 1) := by decide +kernel
abbrev mdX7_withoutLast : MD := (cX7_withoutLast, RX7, 1, (some .int), yX7_withoutLast.name, 1, 13, eT)
set_option maxHeartbeats 2000000 in
set_option maxRecDepth 20000 in
theorem i_X7_withoutLast (C : KX) (l0 : Nat) : Imp C yX7_withoutLast cX7_withoutLast 1 (some .int) 1 13 rvI [.ref (kB C + l0)] (m_X7_withoutLast l0) := by
  refine Imp.of (by decide) (Nat.le_of_ble_eq_true rfl) [(0, .ref (kB C + l0))] rfl ?_
  show Cmp C mdX7_withoutLast (QM rvI) 0 [(0, .ref (kB C + l0))] [] (m_X7_withoutLast l0)
  unfold m_X7_withoutLast
  refine C_iconst (D := mdX7_withoutLast) (pc' := 1) (v := 0) dX7_withoutLast_0 rfl (by decide) ?_
  refine C_aload_n (D := mdX7_withoutLast) (pc' := 2) (x := kB C + l0) dX7_withoutLast_1 rfl 0 rfl ?_
  refine C_getR (D := mdX7_withoutLast) (pc' := 5) (p := l0) f_X7_19 rfl dX7_withoutLast_2 rfl (fun held1 => ?_)
  refine C_getI (D := mdX7_withoutLast) (pc' := 8) (p := held1) f_X7_91 rfl dX7_withoutLast_5 rfl (fun letters2 => ?_)
  refine C_iconst (D := mdX7_withoutLast) (pc' := 9) (v := 1) dX7_withoutLast_8 rfl (by decide) ?_
  refine C_isub (D := mdX7_withoutLast) (pc' := 10) dX7_withoutLast_9 rfl ?_
  refine C_max (D := mdX7_withoutLast) (pc' := 13) mm_X7_257 mm_max_s mm_i mm_max_c dX7_withoutLast_10 rfl (by decide) (Nat.le_of_ble_eq_true rfl) ?_
  exact C_iret rfl dX7_withoutLast_13

-- StandingQueries.asked()I
theorem dX7_asked_0 : decode cX7_asked 0 = .ok (.iconst 0, 1) := by decide +kernel
theorem dX7_asked_1 : decode cX7_asked 1 = .ok (.istore_n 1, 1) := by decide +kernel
theorem dX7_asked_2 : decode cX7_asked 2 = .ok (.iconst 0, 1) := by decide +kernel
theorem dX7_asked_3 : decode cX7_asked 3 = .ok (.istore_n 2, 1) := by decide +kernel
theorem dX7_asked_4 : decode cX7_asked 4 = .ok (.iload_n 2, 1) := by decide +kernel
theorem dX7_asked_5 : decode cX7_asked 5 = .ok (.aload_n 0, 1) := by decide +kernel
theorem dX7_asked_6 : decode cX7_asked 6 = .ok (.getfield 19, 3) := by decide +kernel
theorem dX7_asked_9 : decode cX7_asked 9 = .ok (.getfield 69, 3) := by decide +kernel
theorem dX7_asked_12 : decode cX7_asked 12 = .ok (.if_icmp .ge 23, 3) := by decide +kernel
theorem dX7_asked_15 : decode cX7_asked 15 = .ok (.aload_n 0, 1) := by decide +kernel
theorem dX7_asked_16 : decode cX7_asked 16 = .ok (.iload_n 2, 1) := by decide +kernel
theorem dX7_asked_17 : decode cX7_asked 17 = .ok (.invokevirtual 128, 3) := by decide +kernel
theorem dX7_asked_20 : decode cX7_asked 20 = .ok (.ifCond .eq 9, 3) := by decide +kernel
theorem dX7_asked_23 : decode cX7_asked 23 = .ok (.iload_n 1, 1) := by decide +kernel
theorem dX7_asked_24 : decode cX7_asked 24 = .ok (.iconst 1, 1) := by decide +kernel
theorem dX7_asked_25 : decode cX7_asked 25 = .ok (.iload_n 2, 1) := by decide +kernel
theorem dX7_asked_26 : decode cX7_asked 26 = .ok (.ishl, 1) := by decide +kernel
theorem dX7_asked_27 : decode cX7_asked 27 = .ok (.ior, 1) := by decide +kernel
theorem dX7_asked_28 : decode cX7_asked 28 = .ok (.istore_n 1, 1) := by decide +kernel
theorem dX7_asked_29 : decode cX7_asked 29 = .ok (.iinc 2 1, 3) := by decide +kernel
theorem dX7_asked_32 : decode cX7_asked 32 = .ok (.goto (-28), 3) := by decide +kernel
theorem dX7_asked_35 : decode cX7_asked 35 = .ok (.iload_n 1, 1) := by decide +kernel
theorem dX7_asked_36 : decode cX7_asked 36 = .ok (.ireturn, 1) := by decide +kernel
abbrev mdX7_asked : MD := (cX7_asked, RX7, 3, (some .int), yX7_asked.name, 5, 110, eT)
set_option maxHeartbeats 2000000 in
set_option maxRecDepth 20000 in
theorem p_X7_asked_J29 (C : KX) (l0 : Nat) (l1 : Int32) (l2 : Int32) (k4 : Int32 × Int32 → Mo Int32) (hk4 : ∀ s, Cmp C mdX7_asked (QM rvI) 4 [(0, .ref (kB C + l0)), (1, .int s.1), (2, .int s.2)] [] (k4 s)) : Cmp C mdX7_asked (QM rvI) 29 [(0, .ref (kB C + l0)), (1, .int l1), (2, .int l2)] [] (m_X7_asked_J29 l0 l1 l2 k4) := by
  unfold m_X7_asked_J29
  refine C_iinc (D := mdX7_asked) (pc' := 32) (j := 2) (v := (l2 + 1)) (ls' := [(2, .int (l2 + 1)), (0, .ref (kB C + l0)), (1, .int l1)]) dX7_asked_29 rfl rfl rfl (by decide) rfl ?_
  refine C_goto (D := mdX7_asked) (pc' := 4) dX7_asked_32 (by decide) ?_
  exact C_sub [1, 2, 0] rfl (hk4 (l1, (l2 + 1)))
set_option maxHeartbeats 2000000 in
set_option maxRecDepth 20000 in
theorem p_X7_asked_B4 (C : KX) (l0 : Nat)  (k4 : Int32 × Int32 → Mo Int32) (hk4 : ∀ s, Cmp C mdX7_asked (QM rvI) 4 [(0, .ref (kB C + l0)), (1, .int s.1), (2, .int s.2)] [] (k4 s)) (l1 : Int32) (l2 : Int32) : Cmp C mdX7_asked (QM rvI) 4 [(0, .ref (kB C + l0)), (1, .int l1), (2, .int l2)] [] (m_X7_asked_B4 l0 k4 l1 l2) := by
  unfold m_X7_asked_B4
  refine C_iload_n (D := mdX7_asked) (pc' := 5) (x := l2) dX7_asked_4 rfl 2 rfl ?_
  refine C_aload_n (D := mdX7_asked) (pc' := 6) (x := kB C + l0) dX7_asked_5 rfl 0 rfl ?_
  refine C_getR (D := mdX7_asked) (pc' := 9) (p := l0) f_X7_19 rfl dX7_asked_6 rfl (fun held1 => ?_)
  refine C_getI (D := mdX7_asked) (pc' := 12) (p := held1) f_X7_69 rfl dX7_asked_9 rfl (fun queries2 => ?_)
  refine C_icmp_ge (D := mdX7_asked) (pc' := 15) (tgt := 35) dX7_asked_12 (by decide) rfl ?_ ?_
  · refine C_iload_n (D := mdX7_asked) (pc' := 36) (x := l1) dX7_asked_35 rfl 1 rfl ?_
    exact C_iret rfl dX7_asked_36
  · refine C_aload_n (D := mdX7_asked) (pc' := 16) (x := kB C + l0) dX7_asked_15 rfl 0 rfl ?_
    refine C_iload_n (D := mdX7_asked) (pc' := 17) (x := l2) dX7_asked_16 rfl 2 rfl ?_
    refine C_callV (D := mdX7_asked) (pc' := 20) (p := l0) (st := []) [.int l2] v_X7_128 (i_X7_isAsked C l0 l2) dX7_asked_17 rfl rfl rfl (Nat.le_of_ble_eq_true rfl) (by decide) (by decide) (fun c3 => ?_)
    refine C_if_eq (D := mdX7_asked) (pc' := 23) (tgt := 29) dX7_asked_20 (by decide) rfl ?_ ?_
    · exact C_sub [0, 1, 2] rfl (p_X7_asked_J29 C l0 l1 l2 k4 hk4)
    · refine C_iload_n (D := mdX7_asked) (pc' := 24) (x := l1) dX7_asked_23 rfl 1 rfl ?_
      refine C_iconst (D := mdX7_asked) (pc' := 25) (v := 1) dX7_asked_24 rfl (by decide) ?_
      refine C_iload_n (D := mdX7_asked) (pc' := 26) (x := l2) dX7_asked_25 rfl 2 rfl ?_
      refine C_ishl (D := mdX7_asked) (pc' := 27) dX7_asked_26 rfl ?_
      refine C_ior (D := mdX7_asked) (pc' := 28) dX7_asked_27 rfl ?_
      refine C_letI (fun v4 => ?_)
      refine C_istore_n (D := mdX7_asked) (pc' := 29) (ls' := [(1, .int v4), (0, .ref (kB C + l0)), (2, .int l2)]) dX7_asked_28 rfl rfl (by decide) rfl ?_
      exact C_sub [1, 0, 2] rfl (p_X7_asked_J29 C l0 v4 l2 k4 hk4)
set_option maxHeartbeats 2000000 in
set_option maxRecDepth 20000 in
theorem i_X7_asked (C : KX) (l0 : Nat) : Imp C yX7_asked cX7_asked 3 (some .int) 5 110 rvI [.ref (kB C + l0)] (m_X7_asked l0) := by
  refine Imp.of (by decide) (Nat.le_of_ble_eq_true rfl) [(0, .ref (kB C + l0))] rfl ?_
  show Cmp C mdX7_asked (QM rvI) 0 [(0, .ref (kB C + l0))] [] (m_X7_asked l0)
  unfold m_X7_asked
  refine C_iconst (D := mdX7_asked) (pc' := 1) (v := 0) dX7_asked_0 rfl (by decide) ?_
  refine C_istore_n (D := mdX7_asked) (pc' := 2) (ls' := [(1, .int 0), (0, .ref (kB C + l0))]) dX7_asked_1 rfl rfl (by decide) rfl ?_
  refine C_iconst (D := mdX7_asked) (pc' := 3) (v := 0) dX7_asked_2 rfl (by decide) ?_
  refine C_istore_n (D := mdX7_asked) (pc' := 4) (ls' := [(2, .int 0), (1, .int 0), (0, .ref (kB C + l0))]) dX7_asked_3 rfl rfl (by decide) rfl ?_
  exact C_sub [2, 1, 0] rfl (C_loop (fun s => [(0, .ref (kB C + l0)), (1, .int s.1), (2, .int s.2)]) (fun k hk s => p_X7_asked_B4 C l0  k hk s.1 s.2) FU (0, 0))

-- StandingQueries.allHits()I
theorem dX7_allHits_0 : decode cX7_allHits 0 = .ok (.iconst 0, 1) := by decide +kernel
theorem dX7_allHits_1 : decode cX7_allHits 1 = .ok (.istore_n 1, 1) := by decide +kernel
theorem dX7_allHits_2 : decode cX7_allHits 2 = .ok (.iconst 0, 1) := by decide +kernel
theorem dX7_allHits_3 : decode cX7_allHits 3 = .ok (.istore_n 2, 1) := by decide +kernel
theorem dX7_allHits_4 : decode cX7_allHits 4 = .ok (.iload_n 2, 1) := by decide +kernel
theorem dX7_allHits_5 : decode cX7_allHits 5 = .ok (.aload_n 0, 1) := by decide +kernel
theorem dX7_allHits_6 : decode cX7_allHits 6 = .ok (.getfield 39, 3) := by decide +kernel
theorem dX7_allHits_9 : decode cX7_allHits 9 = .ok (.getfield 231, 3) := by decide +kernel
theorem dX7_allHits_12 : decode cX7_allHits 12 = .ok (.if_icmp .ge 21, 3) := by decide +kernel
theorem dX7_allHits_15 : decode cX7_allHits 15 = .ok (.iload_n 1, 1) := by decide +kernel
theorem dX7_allHits_16 : decode cX7_allHits 16 = .ok (.aload_n 0, 1) := by decide +kernel
theorem dX7_allHits_17 : decode cX7_allHits 17 = .ok (.getfield 50, 3) := by decide +kernel
theorem dX7_allHits_20 : decode cX7_allHits 20 = .ok (.iload_n 2, 1) := by decide +kernel
theorem dX7_allHits_21 : decode cX7_allHits 21 = .ok (.laload, 1) := by decide +kernel
theorem dX7_allHits_22 : decode cX7_allHits 22 = .ok (.invokestatic 185, 3) := by decide +kernel
theorem dX7_allHits_25 : decode cX7_allHits 25 = .ok (.iadd, 1) := by decide +kernel
theorem dX7_allHits_26 : decode cX7_allHits 26 = .ok (.istore_n 1, 1) := by decide +kernel
theorem dX7_allHits_27 : decode cX7_allHits 27 = .ok (.iinc 2 1, 3) := by decide +kernel
theorem dX7_allHits_30 : decode cX7_allHits 30 = .ok (.goto (-26), 3) := by decide +kernel
theorem dX7_allHits_33 : decode cX7_allHits 33 = .ok (.iload_n 1, 1) := by decide +kernel
theorem dX7_allHits_34 : decode cX7_allHits 34 = .ok (.ireturn, 1) := by decide +kernel
abbrev mdX7_allHits : MD := (cX7_allHits, RX7, 3, (some .int), yX7_allHits.name, 1, 21, eT)
set_option maxHeartbeats 2000000 in
set_option maxRecDepth 20000 in
theorem p_X7_allHits_B4 (C : KX) (l0 : Nat)  (k4 : Int32 × Int32 → Mo Int32) (hk4 : ∀ s, Cmp C mdX7_allHits (QM rvI) 4 [(0, .ref (kB C + l0)), (1, .int s.1), (2, .int s.2)] [] (k4 s)) (l1 : Int32) (l2 : Int32) : Cmp C mdX7_allHits (QM rvI) 4 [(0, .ref (kB C + l0)), (1, .int l1), (2, .int l2)] [] (m_X7_allHits_B4 l0 k4 l1 l2) := by
  unfold m_X7_allHits_B4
  refine C_iload_n (D := mdX7_allHits) (pc' := 5) (x := l2) dX7_allHits_4 rfl 2 rfl ?_
  refine C_aload_n (D := mdX7_allHits) (pc' := 6) (x := kB C + l0) dX7_allHits_5 rfl 0 rfl ?_
  refine C_getR (D := mdX7_allHits) (pc' := 9) (p := l0) f_X7_39 rfl dX7_allHits_6 rfl (fun words1 => ?_)
  refine C_getI (D := mdX7_allHits) (pc' := 12) (p := words1) f_X7_231 rfl dX7_allHits_9 rfl (fun count2 => ?_)
  refine C_icmp_ge (D := mdX7_allHits) (pc' := 15) (tgt := 33) dX7_allHits_12 (by decide) rfl ?_ ?_
  · refine C_iload_n (D := mdX7_allHits) (pc' := 34) (x := l1) dX7_allHits_33 rfl 1 rfl ?_
    exact C_iret rfl dX7_allHits_34
  · refine C_iload_n (D := mdX7_allHits) (pc' := 16) (x := l1) dX7_allHits_15 rfl 1 rfl ?_
    refine C_aload_n (D := mdX7_allHits) (pc' := 17) (x := kB C + l0) dX7_allHits_16 rfl 0 rfl ?_
    refine C_getR (D := mdX7_allHits) (pc' := 20) (p := l0) f_X7_50 rfl dX7_allHits_17 rfl (fun hits3 => ?_)
    refine C_iload_n (D := mdX7_allHits) (pc' := 21) (x := l2) dX7_allHits_20 rfl 2 rfl ?_
    refine C_aJ (D := mdX7_allHits) (pc' := 22) (p := hits3) dX7_allHits_21 rfl (fun x4 => ?_)
    refine C_callS (D := mdX7_allHits) (pc' := 25) (st := [.int l1]) [.long x4] s_X7_185 (i_J13_bitCount_95d88 C x4) dX7_allHits_22 rfl rfl rfl (Nat.le_of_ble_eq_true rfl) (by decide) (by decide) (fun c5 => ?_)
    refine C_iadd (D := mdX7_allHits) (pc' := 26) dX7_allHits_25 rfl ?_
    refine C_letI (fun v6 => ?_)
    refine C_istore_n (D := mdX7_allHits) (pc' := 27) (ls' := [(1, .int v6), (0, .ref (kB C + l0)), (2, .int l2)]) dX7_allHits_26 rfl rfl (by decide) rfl ?_
    refine C_iinc (D := mdX7_allHits) (pc' := 30) (j := 2) (v := (l2 + 1)) (ls' := [(2, .int (l2 + 1)), (1, .int v6), (0, .ref (kB C + l0))]) dX7_allHits_27 rfl rfl rfl (by decide) rfl ?_
    refine C_goto (D := mdX7_allHits) (pc' := 4) dX7_allHits_30 (by decide) ?_
    exact C_sub [2, 1, 0] rfl (hk4 (v6, (l2 + 1)))
set_option maxHeartbeats 2000000 in
set_option maxRecDepth 20000 in
theorem i_X7_allHits (C : KX) (l0 : Nat) : Imp C yX7_allHits cX7_allHits 3 (some .int) 1 21 rvI [.ref (kB C + l0)] (m_X7_allHits l0) := by
  refine Imp.of (by decide) (Nat.le_of_ble_eq_true rfl) [(0, .ref (kB C + l0))] rfl ?_
  show Cmp C mdX7_allHits (QM rvI) 0 [(0, .ref (kB C + l0))] [] (m_X7_allHits l0)
  unfold m_X7_allHits
  refine C_iconst (D := mdX7_allHits) (pc' := 1) (v := 0) dX7_allHits_0 rfl (by decide) ?_
  refine C_istore_n (D := mdX7_allHits) (pc' := 2) (ls' := [(1, .int 0), (0, .ref (kB C + l0))]) dX7_allHits_1 rfl rfl (by decide) rfl ?_
  refine C_iconst (D := mdX7_allHits) (pc' := 3) (v := 0) dX7_allHits_2 rfl (by decide) ?_
  refine C_istore_n (D := mdX7_allHits) (pc' := 4) (ls' := [(2, .int 0), (1, .int 0), (0, .ref (kB C + l0))]) dX7_allHits_3 rfl rfl (by decide) rfl ?_
  exact C_sub [2, 1, 0] rfl (C_loop (fun s => [(0, .ref (kB C + l0)), (1, .int s.1), (2, .int s.2)]) (fun k hk s => p_X7_allHits_B4 C l0  k hk s.1 s.2) FU (0, 0))

-- StandingQueries.now(I)I
theorem dX7_now_0 : decode cX7_now 0 = .ok (.iload_n 1, 1) := by decide +kernel
theorem dX7_now_1 : decode cX7_now 1 = .ok (.tableswitch 112 0 5 #[39, 44, 56, 79, 102, 107], 39) := by decide +kernel
theorem dX7_now_40 : decode cX7_now 40 = .ok (.aload_n 0, 1) := by decide +kernel
theorem dX7_now_41 : decode cX7_now 41 = .ok (.getfield 101, 3) := by decide +kernel
theorem dX7_now_44 : decode cX7_now 44 = .ok (.ireturn, 1) := by decide +kernel
theorem dX7_now_45 : decode cX7_now 45 = .ok (.aload_n 0, 1) := by decide +kernel
theorem dX7_now_46 : decode cX7_now 46 = .ok (.aload_n 0, 1) := by decide +kernel
theorem dX7_now_47 : decode cX7_now 47 = .ok (.getfield 19, 3) := by decide +kernel
theorem dX7_now_50 : decode cX7_now 50 = .ok (.getfield 91, 3) := by decide +kernel
theorem dX7_now_53 : decode cX7_now 53 = .ok (.invokevirtual 215, 3) := by decide +kernel
theorem dX7_now_56 : decode cX7_now 56 = .ok (.ireturn, 1) := by decide +kernel
theorem dX7_now_57 : decode cX7_now 57 = .ok (.aload_n 0, 1) := by decide +kernel
theorem dX7_now_58 : decode cX7_now 58 = .ok (.aload_n 0, 1) := by decide +kernel
theorem dX7_now_59 : decode cX7_now 59 = .ok (.getfield 19, 3) := by decide +kernel
theorem dX7_now_62 : decode cX7_now 62 = .ok (.getfield 91, 3) := by decide +kernel
theorem dX7_now_65 : decode cX7_now 65 = .ok (.invokevirtual 215, 3) := by decide +kernel
theorem dX7_now_68 : decode cX7_now 68 = .ok (.aload_n 0, 1) := by decide +kernel
theorem dX7_now_69 : decode cX7_now 69 = .ok (.aload_n 0, 1) := by decide +kernel
theorem dX7_now_70 : decode cX7_now 70 = .ok (.invokevirtual 218, 3) := by decide +kernel
theorem dX7_now_73 : decode cX7_now 73 = .ok (.invokevirtual 215, 3) := by decide +kernel
theorem dX7_now_76 : decode cX7_now 76 = .ok (.iconst (-1), 1) := by decide +kernel
theorem dX7_now_77 : decode cX7_now 77 = .ok (.ixor, 1) := by decide +kernel
theorem dX7_now_78 : decode cX7_now 78 = .ok (.iand, 1) := by decide +kernel
theorem dX7_now_79 : decode cX7_now 79 = .ok (.ireturn, 1) := by decide +kernel
theorem dX7_now_80 : decode cX7_now 80 = .ok (.aload_n 0, 1) := by decide +kernel
theorem dX7_now_81 : decode cX7_now 81 = .ok (.aload_n 0, 1) := by decide +kernel
theorem dX7_now_82 : decode cX7_now 82 = .ok (.invokevirtual 218, 3) := by decide +kernel
theorem dX7_now_85 : decode cX7_now 85 = .ok (.invokevirtual 215, 3) := by decide +kernel
theorem dX7_now_88 : decode cX7_now 88 = .ok (.aload_n 0, 1) := by decide +kernel
theorem dX7_now_89 : decode cX7_now 89 = .ok (.aload_n 0, 1) := by decide +kernel
theorem dX7_now_90 : decode cX7_now 90 = .ok (.getfield 19, 3) := by decide +kernel
theorem dX7_now_93 : decode cX7_now 93 = .ok (.getfield 91, 3) := by decide +kernel
theorem dX7_now_96 : decode cX7_now 96 = .ok (.invokevirtual 215, 3) := by decide +kernel
theorem dX7_now_99 : decode cX7_now 99 = .ok (.iconst (-1), 1) := by decide +kernel
theorem dX7_now_100 : decode cX7_now 100 = .ok (.ixor, 1) := by decide +kernel
theorem dX7_now_101 : decode cX7_now 101 = .ok (.iand, 1) := by decide +kernel
theorem dX7_now_102 : decode cX7_now 102 = .ok (.ireturn, 1) := by decide +kernel
theorem dX7_now_103 : decode cX7_now 103 = .ok (.aload_n 0, 1) := by decide +kernel
theorem dX7_now_104 : decode cX7_now 104 = .ok (.invokevirtual 222, 3) := by decide +kernel
theorem dX7_now_107 : decode cX7_now 107 = .ok (.ireturn, 1) := by decide +kernel
theorem dX7_now_108 : decode cX7_now 108 = .ok (.aload_n 0, 1) := by decide +kernel
theorem dX7_now_109 : decode cX7_now 109 = .ok (.invokevirtual 225, 3) := by decide +kernel
theorem dX7_now_112 : decode cX7_now 112 = .ok (.ireturn, 1) := by decide +kernel
theorem dX7_now_113 : decode cX7_now 113 = .ok (.iconst (-1), 1) := by decide +kernel
theorem dX7_now_114 : decode cX7_now 114 = .ok (.ireturn, 1) := by decide +kernel
abbrev mdX7_now : MD := (cX7_now, RX7, 2, (some .int), yX7_now.name, 6, 132, eT)
set_option maxHeartbeats 2000000 in
set_option maxRecDepth 20000 in
theorem i_X7_now (C : KX) (l0 : Nat) (l1 : Int32) : Imp C yX7_now cX7_now 2 (some .int) 6 132 rvI [.ref (kB C + l0), .int l1] (m_X7_now l0 l1) := by
  refine Imp.of (by decide) (Nat.le_of_ble_eq_true rfl) [(0, .ref (kB C + l0)), (1, .int l1)] rfl ?_
  show Cmp C mdX7_now (QM rvI) 0 [(0, .ref (kB C + l0)), (1, .int l1)] [] (m_X7_now l0 l1)
  unfold m_X7_now
  refine C_iload_n (D := mdX7_now) (pc' := 1) (x := l1) dX7_now_0 rfl 1 rfl ?_
  refine C_tcase (D := mdX7_now) (c := 0) 0 (by decide) (tgt := 40) dX7_now_1 (by decide) (by decide) rfl (by decide) ?_ (fun h0 => ?_)
  · refine C_aload_n (D := mdX7_now) (pc' := 41) (x := kB C + l0) dX7_now_40 rfl 0 rfl ?_
    refine C_getI (D := mdX7_now) (pc' := 44) (p := l0) f_X7_101 rfl dX7_now_41 rfl (fun at1 => ?_)
    exact C_iret rfl dX7_now_44
  refine C_tcase (D := mdX7_now) (c := 1) 1 (by decide) (tgt := 45) dX7_now_1 (by decide) (by decide) rfl (by decide) ?_ (fun h1 => ?_)
  · refine C_aload_n (D := mdX7_now) (pc' := 46) (x := kB C + l0) dX7_now_45 rfl 0 rfl ?_
    refine C_aload_n (D := mdX7_now) (pc' := 47) (x := kB C + l0) dX7_now_46 rfl 0 rfl ?_
    refine C_getR (D := mdX7_now) (pc' := 50) (p := l0) f_X7_19 rfl dX7_now_47 rfl (fun held2 => ?_)
    refine C_getI (D := mdX7_now) (pc' := 53) (p := held2) f_X7_91 rfl dX7_now_50 rfl (fun letters3 => ?_)
    refine C_callV (D := mdX7_now) (pc' := 56) (p := l0) (st := []) [.int letters3] v_X7_215 (i_X7_matching C l0 letters3) dX7_now_53 rfl rfl rfl (Nat.le_of_ble_eq_true rfl) (by decide) (by decide) (fun c4 => ?_)
    exact C_iret rfl dX7_now_56
  refine C_tcase (D := mdX7_now) (c := 2) 2 (by decide) (tgt := 57) dX7_now_1 (by decide) (by decide) rfl (by decide) ?_ (fun h2 => ?_)
  · refine C_aload_n (D := mdX7_now) (pc' := 58) (x := kB C + l0) dX7_now_57 rfl 0 rfl ?_
    refine C_aload_n (D := mdX7_now) (pc' := 59) (x := kB C + l0) dX7_now_58 rfl 0 rfl ?_
    refine C_getR (D := mdX7_now) (pc' := 62) (p := l0) f_X7_19 rfl dX7_now_59 rfl (fun held5 => ?_)
    refine C_getI (D := mdX7_now) (pc' := 65) (p := held5) f_X7_91 rfl dX7_now_62 rfl (fun letters6 => ?_)
    refine C_callV (D := mdX7_now) (pc' := 68) (p := l0) (st := []) [.int letters6] v_X7_215 (i_X7_matching C l0 letters6) dX7_now_65 rfl rfl rfl (Nat.le_of_ble_eq_true rfl) (by decide) (by decide) (fun c7 => ?_)
    refine C_aload_n (D := mdX7_now) (pc' := 69) (x := kB C + l0) dX7_now_68 rfl 0 rfl ?_
    refine C_aload_n (D := mdX7_now) (pc' := 70) (x := kB C + l0) dX7_now_69 rfl 0 rfl ?_
    refine C_callV (D := mdX7_now) (pc' := 73) (p := l0) (st := [.ref (kB C + l0), .int c7]) [] v_X7_218 (i_X7_withoutLast C l0) dX7_now_70 rfl rfl rfl (Nat.le_of_ble_eq_true rfl) (by decide) (by decide) (fun c8 => ?_)
    refine C_callV (D := mdX7_now) (pc' := 76) (p := l0) (st := [.int c7]) [.int c8] v_X7_215 (i_X7_matching C l0 c8) dX7_now_73 rfl rfl rfl (Nat.le_of_ble_eq_true rfl) (by decide) (by decide) (fun c9 => ?_)
    refine C_iconst (D := mdX7_now) (pc' := 77) (v := (-1)) dX7_now_76 rfl (by decide) ?_
    refine C_ixor (D := mdX7_now) (pc' := 78) dX7_now_77 rfl ?_
    refine C_iand (D := mdX7_now) (pc' := 79) dX7_now_78 rfl ?_
    exact C_iret rfl dX7_now_79
  refine C_tcase (D := mdX7_now) (c := 3) 3 (by decide) (tgt := 80) dX7_now_1 (by decide) (by decide) rfl (by decide) ?_ (fun h3 => ?_)
  · refine C_aload_n (D := mdX7_now) (pc' := 81) (x := kB C + l0) dX7_now_80 rfl 0 rfl ?_
    refine C_aload_n (D := mdX7_now) (pc' := 82) (x := kB C + l0) dX7_now_81 rfl 0 rfl ?_
    refine C_callV (D := mdX7_now) (pc' := 85) (p := l0) (st := [.ref (kB C + l0)]) [] v_X7_218 (i_X7_withoutLast C l0) dX7_now_82 rfl rfl rfl (Nat.le_of_ble_eq_true rfl) (by decide) (by decide) (fun c10 => ?_)
    refine C_callV (D := mdX7_now) (pc' := 88) (p := l0) (st := []) [.int c10] v_X7_215 (i_X7_matching C l0 c10) dX7_now_85 rfl rfl rfl (Nat.le_of_ble_eq_true rfl) (by decide) (by decide) (fun c11 => ?_)
    refine C_aload_n (D := mdX7_now) (pc' := 89) (x := kB C + l0) dX7_now_88 rfl 0 rfl ?_
    refine C_aload_n (D := mdX7_now) (pc' := 90) (x := kB C + l0) dX7_now_89 rfl 0 rfl ?_
    refine C_getR (D := mdX7_now) (pc' := 93) (p := l0) f_X7_19 rfl dX7_now_90 rfl (fun held12 => ?_)
    refine C_getI (D := mdX7_now) (pc' := 96) (p := held12) f_X7_91 rfl dX7_now_93 rfl (fun letters13 => ?_)
    refine C_callV (D := mdX7_now) (pc' := 99) (p := l0) (st := [.int c11]) [.int letters13] v_X7_215 (i_X7_matching C l0 letters13) dX7_now_96 rfl rfl rfl (Nat.le_of_ble_eq_true rfl) (by decide) (by decide) (fun c14 => ?_)
    refine C_iconst (D := mdX7_now) (pc' := 100) (v := (-1)) dX7_now_99 rfl (by decide) ?_
    refine C_ixor (D := mdX7_now) (pc' := 101) dX7_now_100 rfl ?_
    refine C_iand (D := mdX7_now) (pc' := 102) dX7_now_101 rfl ?_
    exact C_iret rfl dX7_now_102
  refine C_tcase (D := mdX7_now) (c := 4) 4 (by decide) (tgt := 103) dX7_now_1 (by decide) (by decide) rfl (by decide) ?_ (fun h4 => ?_)
  · refine C_aload_n (D := mdX7_now) (pc' := 104) (x := kB C + l0) dX7_now_103 rfl 0 rfl ?_
    refine C_callV (D := mdX7_now) (pc' := 107) (p := l0) (st := []) [] v_X7_222 (i_X7_asked C l0) dX7_now_104 rfl rfl rfl (Nat.le_of_ble_eq_true rfl) (by decide) (by decide) (fun c15 => ?_)
    exact C_iret rfl dX7_now_107
  refine C_tcase (D := mdX7_now) (c := 5) 5 (by decide) (tgt := 108) dX7_now_1 (by decide) (by decide) rfl (by decide) ?_ (fun h5 => ?_)
  · refine C_aload_n (D := mdX7_now) (pc' := 109) (x := kB C + l0) dX7_now_108 rfl 0 rfl ?_
    refine C_callV (D := mdX7_now) (pc' := 112) (p := l0) (st := []) [] v_X7_225 (i_X7_allHits C l0) dX7_now_109 rfl rfl rfl (Nat.le_of_ble_eq_true rfl) (by decide) (by decide) (fun c16 => ?_)
    exact C_iret rfl dX7_now_112
  refine C_tdef (D := mdX7_now) (tgt := 113) dX7_now_1 (by omega) (by decide) ?_
  refine C_iconst (D := mdX7_now) (pc' := 114) (v := (-1)) dX7_now_113 rfl (by decide) ?_
  exact C_iret rfl dX7_now_114

-- StandingQueries.keep(I)I
theorem dX7_keep_0 : decode cX7_keep 0 = .ok (.iload_n 1, 1) := by decide +kernel
theorem dX7_keep_1 : decode cX7_keep 1 = .ok (.ifCond .lt 8, 3) := by decide +kernel
theorem dX7_keep_4 : decode cX7_keep 4 = .ok (.iload_n 1, 1) := by decide +kernel
theorem dX7_keep_5 : decode cX7_keep 5 = .ok (.iconst 2, 1) := by decide +kernel
theorem dX7_keep_6 : decode cX7_keep 6 = .ok (.if_icmp .lt 5, 3) := by decide +kernel
theorem dX7_keep_9 : decode cX7_keep 9 = .ok (.iconst (-1), 1) := by decide +kernel
theorem dX7_keep_10 : decode cX7_keep 10 = .ok (.ireturn, 1) := by decide +kernel
theorem dX7_keep_11 : decode cX7_keep 11 = .ok (.aload_n 0, 1) := by decide +kernel
theorem dX7_keep_12 : decode cX7_keep 12 = .ok (.getfield 30, 3) := by decide +kernel
theorem dX7_keep_15 : decode cX7_keep 15 = .ok (.iload_n 1, 1) := by decide +kernel
theorem dX7_keep_16 : decode cX7_keep 16 = .ok (.aaload, 1) := by decide +kernel
theorem dX7_keep_17 : decode cX7_keep 17 = .ok (.astore_n 2, 1) := by decide +kernel
theorem dX7_keep_18 : decode cX7_keep 18 = .ok (.aload_n 2, 1) := by decide +kernel
theorem dX7_keep_19 : decode cX7_keep 19 = .ok (.ifnonnull 18, 3) := by decide +kernel
theorem dX7_keep_22 : decode cX7_keep 22 = .ok (.new 16, 3) := by decide +kernel
theorem dX7_keep_25 : decode cX7_keep 25 = .ok (.dup, 1) := by decide +kernel
theorem dX7_keep_26 : decode cX7_keep 26 = .ok (.invokespecial 18, 3) := by decide +kernel
theorem dX7_keep_29 : decode cX7_keep 29 = .ok (.astore_n 2, 1) := by decide +kernel
theorem dX7_keep_30 : decode cX7_keep 30 = .ok (.aload_n 0, 1) := by decide +kernel
theorem dX7_keep_31 : decode cX7_keep 31 = .ok (.getfield 30, 3) := by decide +kernel
theorem dX7_keep_34 : decode cX7_keep 34 = .ok (.iload_n 1, 1) := by decide +kernel
theorem dX7_keep_35 : decode cX7_keep 35 = .ok (.aload_n 2, 1) := by decide +kernel
theorem dX7_keep_36 : decode cX7_keep 36 = .ok (.aastore, 1) := by decide +kernel
theorem dX7_keep_37 : decode cX7_keep 37 = .ok (.aload_n 2, 1) := by decide +kernel
theorem dX7_keep_38 : decode cX7_keep 38 = .ok (.aload_n 0, 1) := by decide +kernel
theorem dX7_keep_39 : decode cX7_keep 39 = .ok (.getfield 19, 3) := by decide +kernel
theorem dX7_keep_42 : decode cX7_keep 42 = .ok (.invokevirtual 76, 3) := by decide +kernel
theorem dX7_keep_45 : decode cX7_keep 45 = .ok (.aload_n 0, 1) := by decide +kernel
theorem dX7_keep_46 : decode cX7_keep 46 = .ok (.getfield 19, 3) := by decide +kernel
theorem dX7_keep_49 : decode cX7_keep 49 = .ok (.getfield 69, 3) := by decide +kernel
theorem dX7_keep_52 : decode cX7_keep 52 = .ok (.ireturn, 1) := by decide +kernel
abbrev mdX7_keep : MD := (cX7_keep, RX7, 3, (some .int), yX7_keep.name, 2, 39, eT)
set_option maxHeartbeats 2000000 in
set_option maxRecDepth 20000 in
theorem p_X7_keep_J37 (C : KX) (l0 : Nat) (l2 : Nat)  : Cmp C mdX7_keep (QM rvI) 37 [(0, .ref (kB C + l0)), (2, .ref (kB C + l2))] [] (m_X7_keep_J37 l0 l2) := by
  unfold m_X7_keep_J37
  refine C_aload_n (D := mdX7_keep) (pc' := 38) (x := kB C + l2) dX7_keep_37 rfl 1 rfl ?_
  refine C_aload_n (D := mdX7_keep) (pc' := 39) (x := kB C + l0) dX7_keep_38 rfl 0 rfl ?_
  refine C_getR (D := mdX7_keep) (pc' := 42) (p := l0) f_X7_19 rfl dX7_keep_39 rfl (fun held6 => ?_)
  refine C_callV (D := mdX7_keep) (pc' := 45) (p := l2) (st := []) [.ref (kB C + held6)] v_X7_76 (i_X1_take C l2 held6) dX7_keep_42 rfl rfl rfl (Nat.le_of_ble_eq_true rfl) (by decide) (by decide) (fun _ => ?_)
  refine C_aload_n (D := mdX7_keep) (pc' := 46) (x := kB C + l0) dX7_keep_45 rfl 0 rfl ?_
  refine C_getR (D := mdX7_keep) (pc' := 49) (p := l0) f_X7_19 rfl dX7_keep_46 rfl (fun held7 => ?_)
  refine C_getI (D := mdX7_keep) (pc' := 52) (p := held7) f_X7_69 rfl dX7_keep_49 rfl (fun queries8 => ?_)
  exact C_iret rfl dX7_keep_52
set_option maxHeartbeats 2000000 in
set_option maxRecDepth 20000 in
theorem i_X7_keep (C : KX) (l0 : Nat) (l1 : Int32) : Imp C yX7_keep cX7_keep 3 (some .int) 2 39 rvI [.ref (kB C + l0), .int l1] (m_X7_keep l0 l1) := by
  refine Imp.of (by decide) (Nat.le_of_ble_eq_true rfl) [(0, .ref (kB C + l0)), (1, .int l1)] rfl ?_
  show Cmp C mdX7_keep (QM rvI) 0 [(0, .ref (kB C + l0)), (1, .int l1)] [] (m_X7_keep l0 l1)
  unfold m_X7_keep
  refine C_iload_n (D := mdX7_keep) (pc' := 1) (x := l1) dX7_keep_0 rfl 1 rfl ?_
  refine C_if_lt (D := mdX7_keep) (pc' := 4) (tgt := 9) dX7_keep_1 (by decide) rfl ?_ ?_
  · refine C_iconst (D := mdX7_keep) (pc' := 10) (v := (-1)) dX7_keep_9 rfl (by decide) ?_
    exact C_iret rfl dX7_keep_10
  · refine C_iload_n (D := mdX7_keep) (pc' := 5) (x := l1) dX7_keep_4 rfl 1 rfl ?_
    refine C_iconst (D := mdX7_keep) (pc' := 6) (v := 2) dX7_keep_5 rfl (by decide) ?_
    refine C_icmp_lt (D := mdX7_keep) (pc' := 9) (tgt := 11) dX7_keep_6 (by decide) rfl ?_ ?_
    · refine C_aload_n (D := mdX7_keep) (pc' := 12) (x := kB C + l0) dX7_keep_11 rfl 0 rfl ?_
      refine C_getR (D := mdX7_keep) (pc' := 15) (p := l0) f_X7_30 rfl dX7_keep_12 rfl (fun images1 => ?_)
      refine C_iload_n (D := mdX7_keep) (pc' := 16) (x := l1) dX7_keep_15 rfl 1 rfl ?_
      refine C_aQ (D := mdX7_keep) (pc' := 17) (p := images1) dX7_keep_16 rfl ?_ (fun r2 => ?_)
      · refine C_astore_nN (D := mdX7_keep) (pc' := 18) (ls' := [(2, .null), (0, .ref (kB C + l0)), (1, .int l1)]) dX7_keep_17 rfl rfl (by decide) rfl ?_
        refine C_aload_nN (D := mdX7_keep) (pc' := 19) dX7_keep_18 rfl 0 rfl ?_
        refine C_ifnonnullN (D := mdX7_keep) (pc' := 22) dX7_keep_19 rfl ?_
        refine C_new (D := mdX7_keep) (pc' := 25) n_X7_16 dX7_keep_22 rfl (fun p4 => ?_)
        refine C_dup (D := mdX7_keep) (pc' := 26) dX7_keep_25 rfl rfl ?_
        refine C_callIN (D := mdX7_keep) (pc' := 29) (p := p4) (st := [.ref (kB C + p4)]) [] i_X7_18 (i_X1_init C p4) dX7_keep_26 rfl rfl rfl (Nat.le_of_ble_eq_true rfl) (by decide) (by decide) (fun _ => ?_)
        refine C_astore_n (D := mdX7_keep) (pc' := 30) (ls' := [(2, .ref (kB C + p4)), (0, .ref (kB C + l0)), (1, .int l1)]) dX7_keep_29 rfl rfl (by decide) rfl ?_
        refine C_aload_n (D := mdX7_keep) (pc' := 31) (x := kB C + l0) dX7_keep_30 rfl 1 rfl ?_
        refine C_getR (D := mdX7_keep) (pc' := 34) (p := l0) f_X7_30 rfl dX7_keep_31 rfl (fun images5 => ?_)
        refine C_iload_n (D := mdX7_keep) (pc' := 35) (x := l1) dX7_keep_34 rfl 2 rfl ?_
        refine C_aload_n (D := mdX7_keep) (pc' := 36) (x := kB C + p4) dX7_keep_35 rfl 0 rfl ?_
        refine C_tQ (D := mdX7_keep) (pc' := 37) (p := images5) (q := p4) dX7_keep_36 rfl ?_
        exact C_sub [1, 0] rfl (p_X7_keep_J37 C l0 p4)
      · refine C_astore_n (D := mdX7_keep) (pc' := 18) (ls' := [(2, .ref (kB C + r2)), (0, .ref (kB C + l0)), (1, .int l1)]) dX7_keep_17 rfl rfl (by decide) rfl ?_
        refine C_aload_n (D := mdX7_keep) (pc' := 19) (x := kB C + r2) dX7_keep_18 rfl 0 rfl ?_
        refine C_ifnonnull (D := mdX7_keep) (pc' := 37) dX7_keep_19 (by decide) ?_
        exact C_sub [1, 0] rfl (p_X7_keep_J37 C l0 r2)
    · refine C_iconst (D := mdX7_keep) (pc' := 10) (v := (-1)) dX7_keep_9 rfl (by decide) ?_
      exact C_iret rfl dX7_keep_10

-- StandingQueries$History.forget()V
theorem dX2_forget_0 : decode cX2_forget 0 = .ok (.aload_n 0, 1) := by decide +kernel
theorem dX2_forget_1 : decode cX2_forget 1 = .ok (.iconst 0, 1) := by decide +kernel
theorem dX2_forget_2 : decode cX2_forget 2 = .ok (.putfield 26, 3) := by decide +kernel
theorem dX2_forget_5 : decode cX2_forget 5 = .ok (.return_, 1) := by decide +kernel
abbrev mdX2_forget : MD := (cX2_forget, RX2, 1, none, yX2_forget.name, 0, 0, eT)
set_option maxHeartbeats 2000000 in
set_option maxRecDepth 20000 in
theorem i_X2_forget (C : KX) (l0 : Nat) : Imp C yX2_forget cX2_forget 1 none 0 0 rvV [.ref (kB C + l0)] (m_X2_forget l0) := by
  refine Imp.of (by decide) (Nat.le_of_ble_eq_true rfl) [(0, .ref (kB C + l0))] rfl ?_
  show Cmp C mdX2_forget (QM rvV) 0 [(0, .ref (kB C + l0))] [] (m_X2_forget l0)
  unfold m_X2_forget
  refine C_aload_n (D := mdX2_forget) (pc' := 1) (x := kB C + l0) dX2_forget_0 rfl 0 rfl ?_
  refine C_iconst (D := mdX2_forget) (pc' := 2) (v := 0) dX2_forget_1 rfl (by decide) ?_
  refine C_putI (D := mdX2_forget) (pc' := 5) (p := l0) f_X2_26 rfl dX2_forget_2 rfl ?_
  exact C_vret rfl dX2_forget_5

-- StandingQueries.back(I)I
theorem dX7_back_0 : decode cX7_back 0 = .ok (.iload_n 1, 1) := by decide +kernel
theorem dX7_back_1 : decode cX7_back 1 = .ok (.ifCond .lt 8, 3) := by decide +kernel
theorem dX7_back_4 : decode cX7_back 4 = .ok (.iload_n 1, 1) := by decide +kernel
theorem dX7_back_5 : decode cX7_back 5 = .ok (.iconst 2, 1) := by decide +kernel
theorem dX7_back_6 : decode cX7_back 6 = .ok (.if_icmp .lt 5, 3) := by decide +kernel
theorem dX7_back_9 : decode cX7_back 9 = .ok (.iconst (-1), 1) := by decide +kernel
theorem dX7_back_10 : decode cX7_back 10 = .ok (.ireturn, 1) := by decide +kernel
theorem dX7_back_11 : decode cX7_back 11 = .ok (.aload_n 0, 1) := by decide +kernel
theorem dX7_back_12 : decode cX7_back 12 = .ok (.getfield 30, 3) := by decide +kernel
theorem dX7_back_15 : decode cX7_back 15 = .ok (.iload_n 1, 1) := by decide +kernel
theorem dX7_back_16 : decode cX7_back 16 = .ok (.aaload, 1) := by decide +kernel
theorem dX7_back_17 : decode cX7_back 17 = .ok (.astore_n 2, 1) := by decide +kernel
theorem dX7_back_18 : decode cX7_back 18 = .ok (.aload_n 2, 1) := by decide +kernel
theorem dX7_back_19 : decode cX7_back 19 = .ok (.ifnonnull 6, 3) := by decide +kernel
theorem dX7_back_22 : decode cX7_back 22 = .ok (.bipush (-2), 2) := by decide +kernel
theorem dX7_back_24 : decode cX7_back 24 = .ok (.ireturn, 1) := by decide +kernel
theorem dX7_back_25 : decode cX7_back 25 = .ok (.aload_n 0, 1) := by decide +kernel
theorem dX7_back_26 : decode cX7_back 26 = .ok (.getfield 19, 3) := by decide +kernel
theorem dX7_back_29 : decode cX7_back 29 = .ok (.aload_n 2, 1) := by decide +kernel
theorem dX7_back_30 : decode cX7_back 30 = .ok (.invokevirtual 76, 3) := by decide +kernel
theorem dX7_back_33 : decode cX7_back 33 = .ok (.aload_n 0, 1) := by decide +kernel
theorem dX7_back_34 : decode cX7_back 34 = .ok (.getfield 26, 3) := by decide +kernel
theorem dX7_back_37 : decode cX7_back 37 = .ok (.invokevirtual 228, 3) := by decide +kernel
theorem dX7_back_40 : decode cX7_back 40 = .ok (.aload_n 0, 1) := by decide +kernel
theorem dX7_back_41 : decode cX7_back 41 = .ok (.invokevirtual 79, 3) := by decide +kernel
theorem dX7_back_44 : decode cX7_back 44 = .ok (.aload_n 0, 1) := by decide +kernel
theorem dX7_back_45 : decode cX7_back 45 = .ok (.getfield 19, 3) := by decide +kernel
theorem dX7_back_48 : decode cX7_back 48 = .ok (.getfield 69, 3) := by decide +kernel
theorem dX7_back_51 : decode cX7_back 51 = .ok (.ireturn, 1) := by decide +kernel
abbrev mdX7_back : MD := (cX7_back, RX7, 3, (some .int), yX7_back.name, 5, 110, eT)
set_option maxHeartbeats 2000000 in
set_option maxRecDepth 20000 in
theorem i_X7_back (C : KX) (l0 : Nat) (l1 : Int32) : Imp C yX7_back cX7_back 3 (some .int) 5 110 rvI [.ref (kB C + l0), .int l1] (m_X7_back l0 l1) := by
  refine Imp.of (by decide) (Nat.le_of_ble_eq_true rfl) [(0, .ref (kB C + l0)), (1, .int l1)] rfl ?_
  show Cmp C mdX7_back (QM rvI) 0 [(0, .ref (kB C + l0)), (1, .int l1)] [] (m_X7_back l0 l1)
  unfold m_X7_back
  refine C_iload_n (D := mdX7_back) (pc' := 1) (x := l1) dX7_back_0 rfl 1 rfl ?_
  refine C_if_lt (D := mdX7_back) (pc' := 4) (tgt := 9) dX7_back_1 (by decide) rfl ?_ ?_
  · refine C_iconst (D := mdX7_back) (pc' := 10) (v := (-1)) dX7_back_9 rfl (by decide) ?_
    exact C_iret rfl dX7_back_10
  · refine C_iload_n (D := mdX7_back) (pc' := 5) (x := l1) dX7_back_4 rfl 1 rfl ?_
    refine C_iconst (D := mdX7_back) (pc' := 6) (v := 2) dX7_back_5 rfl (by decide) ?_
    refine C_icmp_lt (D := mdX7_back) (pc' := 9) (tgt := 11) dX7_back_6 (by decide) rfl ?_ ?_
    · refine C_aload_n (D := mdX7_back) (pc' := 12) (x := kB C + l0) dX7_back_11 rfl 0 rfl ?_
      refine C_getR (D := mdX7_back) (pc' := 15) (p := l0) f_X7_30 rfl dX7_back_12 rfl (fun images1 => ?_)
      refine C_iload_n (D := mdX7_back) (pc' := 16) (x := l1) dX7_back_15 rfl 1 rfl ?_
      refine C_aQ (D := mdX7_back) (pc' := 17) (p := images1) dX7_back_16 rfl ?_ (fun r2 => ?_)
      · refine C_astore_nN (D := mdX7_back) (pc' := 18) (ls' := [(2, .null), (0, .ref (kB C + l0)), (1, .int l1)]) dX7_back_17 rfl rfl (by decide) rfl ?_
        refine C_aload_nN (D := mdX7_back) (pc' := 19) dX7_back_18 rfl 0 rfl ?_
        refine C_ifnonnullN (D := mdX7_back) (pc' := 22) dX7_back_19 rfl ?_
        refine C_bipush (D := mdX7_back) (pc' := 24) (v := (-2)) dX7_back_22 rfl (by decide) ?_
        exact C_iret rfl dX7_back_24
      · refine C_astore_n (D := mdX7_back) (pc' := 18) (ls' := [(2, .ref (kB C + r2)), (0, .ref (kB C + l0)), (1, .int l1)]) dX7_back_17 rfl rfl (by decide) rfl ?_
        refine C_aload_n (D := mdX7_back) (pc' := 19) (x := kB C + r2) dX7_back_18 rfl 0 rfl ?_
        refine C_ifnonnull (D := mdX7_back) (pc' := 25) dX7_back_19 (by decide) ?_
        refine C_aload_n (D := mdX7_back) (pc' := 26) (x := kB C + l0) dX7_back_25 rfl 1 rfl ?_
        refine C_getR (D := mdX7_back) (pc' := 29) (p := l0) f_X7_19 rfl dX7_back_26 rfl (fun held4 => ?_)
        refine C_aload_n (D := mdX7_back) (pc' := 30) (x := kB C + r2) dX7_back_29 rfl 0 rfl ?_
        refine C_callV (D := mdX7_back) (pc' := 33) (p := held4) (st := []) [.ref (kB C + r2)] v_X7_76 (i_X1_take C held4 r2) dX7_back_30 rfl rfl rfl (Nat.le_of_ble_eq_true rfl) (by decide) (by decide) (fun _ => ?_)
        refine C_aload_n (D := mdX7_back) (pc' := 34) (x := kB C + l0) dX7_back_33 rfl 1 rfl ?_
        refine C_getR (D := mdX7_back) (pc' := 37) (p := l0) f_X7_26 rfl dX7_back_34 rfl (fun history5 => ?_)
        refine C_callV (D := mdX7_back) (pc' := 40) (p := history5) (st := []) [] v_X7_228 (i_X2_forget C history5) dX7_back_37 rfl rfl rfl (Nat.le_of_ble_eq_true rfl) (by decide) (by decide) (fun _ => ?_)
        refine C_aload_n (D := mdX7_back) (pc' := 41) (x := kB C + l0) dX7_back_40 rfl 1 rfl ?_
        refine C_callV (D := mdX7_back) (pc' := 44) (p := l0) (st := []) [] v_X7_79 (i_X7_rebuild C l0) dX7_back_41 rfl rfl rfl (Nat.le_of_ble_eq_true rfl) (by decide) (by decide) (fun _ => ?_)
        refine C_aload_n (D := mdX7_back) (pc' := 45) (x := kB C + l0) dX7_back_44 rfl 1 rfl ?_
        refine C_getR (D := mdX7_back) (pc' := 48) (p := l0) f_X7_19 rfl dX7_back_45 rfl (fun held6 => ?_)
        refine C_getI (D := mdX7_back) (pc' := 51) (p := held6) f_X7_69 rfl dX7_back_48 rfl (fun queries7 => ?_)
        exact C_iret rfl dX7_back_51
    · refine C_iconst (D := mdX7_back) (pc' := 10) (v := (-1)) dX7_back_9 rfl (by decide) ?_
      exact C_iret rfl dX7_back_10

-- StandingQueries.count(I)I
theorem dX7_count_0 : decode cX7_count 0 = .ok (.iload_n 1, 1) := by decide +kernel
theorem dX7_count_1 : decode cX7_count 1 = .ok (.tableswitch 87 0 5 #[39, 47, 55, 63, 71, 79], 39) := by decide +kernel
theorem dX7_count_40 : decode cX7_count 40 = .ok (.aload_n 0, 1) := by decide +kernel
theorem dX7_count_41 : decode cX7_count 41 = .ok (.getfield 19, 3) := by decide +kernel
theorem dX7_count_44 : decode cX7_count 44 = .ok (.getfield 69, 3) := by decide +kernel
theorem dX7_count_47 : decode cX7_count 47 = .ok (.ireturn, 1) := by decide +kernel
theorem dX7_count_48 : decode cX7_count 48 = .ok (.aload_n 0, 1) := by decide +kernel
theorem dX7_count_49 : decode cX7_count 49 = .ok (.getfield 39, 3) := by decide +kernel
theorem dX7_count_52 : decode cX7_count 52 = .ok (.getfield 231, 3) := by decide +kernel
theorem dX7_count_55 : decode cX7_count 55 = .ok (.ireturn, 1) := by decide +kernel
theorem dX7_count_56 : decode cX7_count 56 = .ok (.aload_n 0, 1) := by decide +kernel
theorem dX7_count_57 : decode cX7_count 57 = .ok (.getfield 46, 3) := by decide +kernel
theorem dX7_count_60 : decode cX7_count 60 = .ok (.getfield 234, 3) := by decide +kernel
theorem dX7_count_63 : decode cX7_count 63 = .ok (.ireturn, 1) := by decide +kernel
theorem dX7_count_64 : decode cX7_count 64 = .ok (.aload_n 0, 1) := by decide +kernel
theorem dX7_count_65 : decode cX7_count 65 = .ok (.getfield 19, 3) := by decide +kernel
theorem dX7_count_68 : decode cX7_count 68 = .ok (.getfield 91, 3) := by decide +kernel
theorem dX7_count_71 : decode cX7_count 71 = .ok (.ireturn, 1) := by decide +kernel
theorem dX7_count_72 : decode cX7_count 72 = .ok (.aload_n 0, 1) := by decide +kernel
theorem dX7_count_73 : decode cX7_count 73 = .ok (.getfield 26, 3) := by decide +kernel
theorem dX7_count_76 : decode cX7_count 76 = .ok (.getfield 108, 3) := by decide +kernel
theorem dX7_count_79 : decode cX7_count 79 = .ok (.ireturn, 1) := by decide +kernel
theorem dX7_count_80 : decode cX7_count 80 = .ok (.aload_n 0, 1) := by decide +kernel
theorem dX7_count_81 : decode cX7_count 81 = .ok (.getfield 10, 3) := by decide +kernel
theorem dX7_count_84 : decode cX7_count 84 = .ok (.getfield 58, 3) := by decide +kernel
theorem dX7_count_87 : decode cX7_count 87 = .ok (.ireturn, 1) := by decide +kernel
theorem dX7_count_88 : decode cX7_count 88 = .ok (.iconst (-1), 1) := by decide +kernel
theorem dX7_count_89 : decode cX7_count 89 = .ok (.ireturn, 1) := by decide +kernel
abbrev mdX7_count : MD := (cX7_count, RX7, 2, (some .int), yX7_count.name, 0, 0, eT)
set_option maxHeartbeats 2000000 in
set_option maxRecDepth 20000 in
theorem i_X7_count (C : KX) (l0 : Nat) (l1 : Int32) : Imp C yX7_count cX7_count 2 (some .int) 0 0 rvI [.ref (kB C + l0), .int l1] (m_X7_count l0 l1) := by
  refine Imp.of (by decide) (Nat.le_of_ble_eq_true rfl) [(0, .ref (kB C + l0)), (1, .int l1)] rfl ?_
  show Cmp C mdX7_count (QM rvI) 0 [(0, .ref (kB C + l0)), (1, .int l1)] [] (m_X7_count l0 l1)
  unfold m_X7_count
  refine C_iload_n (D := mdX7_count) (pc' := 1) (x := l1) dX7_count_0 rfl 1 rfl ?_
  refine C_tcase (D := mdX7_count) (c := 0) 0 (by decide) (tgt := 40) dX7_count_1 (by decide) (by decide) rfl (by decide) ?_ (fun h0 => ?_)
  · refine C_aload_n (D := mdX7_count) (pc' := 41) (x := kB C + l0) dX7_count_40 rfl 0 rfl ?_
    refine C_getR (D := mdX7_count) (pc' := 44) (p := l0) f_X7_19 rfl dX7_count_41 rfl (fun held1 => ?_)
    refine C_getI (D := mdX7_count) (pc' := 47) (p := held1) f_X7_69 rfl dX7_count_44 rfl (fun queries2 => ?_)
    exact C_iret rfl dX7_count_47
  refine C_tcase (D := mdX7_count) (c := 1) 1 (by decide) (tgt := 48) dX7_count_1 (by decide) (by decide) rfl (by decide) ?_ (fun h1 => ?_)
  · refine C_aload_n (D := mdX7_count) (pc' := 49) (x := kB C + l0) dX7_count_48 rfl 0 rfl ?_
    refine C_getR (D := mdX7_count) (pc' := 52) (p := l0) f_X7_39 rfl dX7_count_49 rfl (fun words3 => ?_)
    refine C_getI (D := mdX7_count) (pc' := 55) (p := words3) f_X7_231 rfl dX7_count_52 rfl (fun count4 => ?_)
    exact C_iret rfl dX7_count_55
  refine C_tcase (D := mdX7_count) (c := 2) 2 (by decide) (tgt := 56) dX7_count_1 (by decide) (by decide) rfl (by decide) ?_ (fun h2 => ?_)
  · refine C_aload_n (D := mdX7_count) (pc' := 57) (x := kB C + l0) dX7_count_56 rfl 0 rfl ?_
    refine C_getR (D := mdX7_count) (pc' := 60) (p := l0) f_X7_46 rfl dX7_count_57 rfl (fun automaton5 => ?_)
    refine C_getI (D := mdX7_count) (pc' := 63) (p := automaton5) f_X7_234 rfl dX7_count_60 rfl (fun nodes6 => ?_)
    exact C_iret rfl dX7_count_63
  refine C_tcase (D := mdX7_count) (c := 3) 3 (by decide) (tgt := 64) dX7_count_1 (by decide) (by decide) rfl (by decide) ?_ (fun h3 => ?_)
  · refine C_aload_n (D := mdX7_count) (pc' := 65) (x := kB C + l0) dX7_count_64 rfl 0 rfl ?_
    refine C_getR (D := mdX7_count) (pc' := 68) (p := l0) f_X7_19 rfl dX7_count_65 rfl (fun held7 => ?_)
    refine C_getI (D := mdX7_count) (pc' := 71) (p := held7) f_X7_91 rfl dX7_count_68 rfl (fun letters8 => ?_)
    exact C_iret rfl dX7_count_71
  refine C_tcase (D := mdX7_count) (c := 4) 4 (by decide) (tgt := 72) dX7_count_1 (by decide) (by decide) rfl (by decide) ?_ (fun h4 => ?_)
  · refine C_aload_n (D := mdX7_count) (pc' := 73) (x := kB C + l0) dX7_count_72 rfl 0 rfl ?_
    refine C_getR (D := mdX7_count) (pc' := 76) (p := l0) f_X7_26 rfl dX7_count_73 rfl (fun history9 => ?_)
    refine C_getI (D := mdX7_count) (pc' := 79) (p := history9) f_X7_108 rfl dX7_count_76 rfl (fun known10 => ?_)
    exact C_iret rfl dX7_count_79
  refine C_tcase (D := mdX7_count) (c := 5) 5 (by decide) (tgt := 80) dX7_count_1 (by decide) (by decide) rfl (by decide) ?_ (fun h5 => ?_)
  · refine C_aload_n (D := mdX7_count) (pc' := 81) (x := kB C + l0) dX7_count_80 rfl 0 rfl ?_
    refine C_getR (D := mdX7_count) (pc' := 84) (p := l0) f_X7_10 rfl dX7_count_81 rfl (fun text11 => ?_)
    refine C_getI (D := mdX7_count) (pc' := 87) (p := text11) f_X7_58 rfl dX7_count_84 rfl (fun size12 => ?_)
    exact C_iret rfl dX7_count_87
  refine C_tdef (D := mdX7_count) (tgt := 88) dX7_count_1 (by omega) (by decide) ?_
  refine C_iconst (D := mdX7_count) (pc' := 89) (v := (-1)) dX7_count_88 rfl (by decide) ?_
  exact C_iret rfl dX7_count_89

-- StandingQueriesModel.in(JJJ)Z
theorem dX8_in_0 : decode cX8_in 0 = .ok (.lload_n 0, 1) := by decide +kernel
theorem dX8_in_1 : decode cX8_in 1 = .ok (.lload_n 2, 1) := by decide +kernel
theorem dX8_in_2 : decode cX8_in 2 = .ok (.lcmp, 1) := by decide +kernel
theorem dX8_in_3 : decode cX8_in 3 = .ok (.ifCond .lt 14, 3) := by decide +kernel
theorem dX8_in_6 : decode cX8_in 6 = .ok (.lload_n 0, 1) := by decide +kernel
theorem dX8_in_7 : decode cX8_in 7 = .ok (.lload 4, 2) := by decide +kernel
theorem dX8_in_9 : decode cX8_in 9 = .ok (.lcmp, 1) := by decide +kernel
theorem dX8_in_10 : decode cX8_in 10 = .ok (.ifCond .gt 7, 3) := by decide +kernel
theorem dX8_in_13 : decode cX8_in 13 = .ok (.iconst 1, 1) := by decide +kernel
theorem dX8_in_14 : decode cX8_in 14 = .ok (.goto 4, 3) := by decide +kernel
theorem dX8_in_17 : decode cX8_in 17 = .ok (.iconst 0, 1) := by decide +kernel
theorem dX8_in_18 : decode cX8_in 18 = .ok (.ireturn, 1) := by decide +kernel
abbrev mdX8_in : MD := (cX8_in, RX8, 6, (some .boolean), yX8_in.name, 0, 0, eT)
set_option maxHeartbeats 2000000 in
set_option maxRecDepth 20000 in
theorem i_X8_in (C : KX) (l0 : Int64) (l2 : Int64) (l4 : Int64) : Imp C yX8_in cX8_in 6 (some .boolean) 0 0 rvI [.long l0, .long l2, .long l4] (m_X8_in l0 l2 l4) := by
  refine Imp.of (by decide) (Nat.le_of_ble_eq_true rfl) [(0, .long l0), (2, .long l2), (4, .long l4)] rfl ?_
  show Cmp C mdX8_in (QM rvI) 0 [(0, .long l0), (2, .long l2), (4, .long l4)] [] (m_X8_in l0 l2 l4)
  unfold m_X8_in
  refine C_lload_n (D := mdX8_in) (pc' := 1) (x := l0) dX8_in_0 rfl 0 rfl ?_
  refine C_lload_n (D := mdX8_in) (pc' := 2) (x := l2) dX8_in_1 rfl 1 rfl ?_
  refine C_lcmp (D := mdX8_in) (pc' := 3) dX8_in_2 rfl ?_
  refine C_if_lt (D := mdX8_in) (pc' := 6) (tgt := 17) dX8_in_3 (by decide) rfl ?_ ?_
  · refine C_iconst (D := mdX8_in) (pc' := 18) (v := 0) dX8_in_17 rfl (by decide) ?_
    exact C_zret rfl dX8_in_18
  · refine C_lload_n (D := mdX8_in) (pc' := 7) (x := l0) dX8_in_6 rfl 0 rfl ?_
    refine C_lload (D := mdX8_in) (pc' := 9) (x := l4) dX8_in_7 rfl 2 rfl ?_
    refine C_lcmp (D := mdX8_in) (pc' := 10) dX8_in_9 rfl ?_
    refine C_if_gt (D := mdX8_in) (pc' := 13) (tgt := 17) dX8_in_10 (by decide) rfl ?_ ?_
    · refine C_iconst (D := mdX8_in) (pc' := 18) (v := 0) dX8_in_17 rfl (by decide) ?_
      exact C_zret rfl dX8_in_18
    · refine C_iconst (D := mdX8_in) (pc' := 14) (v := 1) dX8_in_13 rfl (by decide) ?_
      refine C_goto (D := mdX8_in) (pc' := 18) dX8_in_14 (by decide) ?_
      exact C_zret rfl dX8_in_18

-- StandingQueriesModel.type(I)I
theorem dX8_type_0 : decode cX8_type 0 = .ok (.aload_n 0, 1) := by decide +kernel
theorem dX8_type_1 : decode cX8_type 1 = .ok (.iconst 0, 1) := by decide +kernel
theorem dX8_type_2 : decode cX8_type 2 = .ok (.putfield 1, 3) := by decide +kernel
theorem dX8_type_5 : decode cX8_type 5 = .ok (.iload_n 1, 1) := by decide +kernel
theorem dX8_type_6 : decode cX8_type 6 = .ok (.i2l, 1) := by decide +kernel
theorem dX8_type_7 : decode cX8_type 7 = .ok (.lconst 0, 1) := by decide +kernel
theorem dX8_type_8 : decode cX8_type 8 = .ok (.ldc2_w 7, 3) := by decide +kernel
theorem dX8_type_11 : decode cX8_type 11 = .ok (.invokestatic 9, 3) := by decide +kernel
theorem dX8_type_14 : decode cX8_type 14 = .ok (.ifCond .ne 5, 3) := by decide +kernel
theorem dX8_type_17 : decode cX8_type 17 = .ok (.iconst (-1), 1) := by decide +kernel
theorem dX8_type_18 : decode cX8_type 18 = .ok (.ireturn, 1) := by decide +kernel
theorem dX8_type_19 : decode cX8_type 19 = .ok (.aload_n 0, 1) := by decide +kernel
theorem dX8_type_20 : decode cX8_type 20 = .ok (.getfield 13, 3) := by decide +kernel
theorem dX8_type_23 : decode cX8_type 23 = .ok (.sipush 150, 3) := by decide +kernel
theorem dX8_type_26 : decode cX8_type 26 = .ok (.if_icmp .ne 6, 3) := by decide +kernel
theorem dX8_type_29 : decode cX8_type 29 = .ok (.bipush (-3), 2) := by decide +kernel
theorem dX8_type_31 : decode cX8_type 31 = .ok (.ireturn, 1) := by decide +kernel
theorem dX8_type_32 : decode cX8_type 32 = .ok (.aload_n 0, 1) := by decide +kernel
theorem dX8_type_33 : decode cX8_type 33 = .ok (.getfield 16, 3) := by decide +kernel
theorem dX8_type_36 : decode cX8_type 36 = .ok (.aload_n 0, 1) := by decide +kernel
theorem dX8_type_37 : decode cX8_type 37 = .ok (.getfield 13, 3) := by decide +kernel
theorem dX8_type_40 : decode cX8_type 40 = .ok (.iload_n 1, 1) := by decide +kernel
theorem dX8_type_41 : decode cX8_type 41 = .ok (.iastore, 1) := by decide +kernel
theorem dX8_type_42 : decode cX8_type 42 = .ok (.aload_n 0, 1) := by decide +kernel
theorem dX8_type_43 : decode cX8_type 43 = .ok (.dup, 1) := by decide +kernel
theorem dX8_type_44 : decode cX8_type 44 = .ok (.getfield 13, 3) := by decide +kernel
theorem dX8_type_47 : decode cX8_type 47 = .ok (.iconst 1, 1) := by decide +kernel
theorem dX8_type_48 : decode cX8_type 48 = .ok (.iadd, 1) := by decide +kernel
theorem dX8_type_49 : decode cX8_type 49 = .ok (.putfield 13, 3) := by decide +kernel
theorem dX8_type_52 : decode cX8_type 52 = .ok (.aload_n 0, 1) := by decide +kernel
theorem dX8_type_53 : decode cX8_type 53 = .ok (.getfield 13, 3) := by decide +kernel
theorem dX8_type_56 : decode cX8_type 56 = .ok (.ireturn, 1) := by decide +kernel
abbrev mdX8_type : MD := (cX8_type, RX8, 2, (some .int), yX8_type.name, 1, 25, eT)
set_option maxHeartbeats 2000000 in
set_option maxRecDepth 20000 in
theorem i_X8_type (C : KX) (l0 : Nat) (l1 : Int32) : Imp C yX8_type cX8_type 2 (some .int) 1 25 rvI [.ref (kB C + l0), .int l1] (m_X8_type l0 l1) := by
  refine Imp.of (by decide) (Nat.le_of_ble_eq_true rfl) [(0, .ref (kB C + l0)), (1, .int l1)] rfl ?_
  show Cmp C mdX8_type (QM rvI) 0 [(0, .ref (kB C + l0)), (1, .int l1)] [] (m_X8_type l0 l1)
  unfold m_X8_type
  refine C_aload_n (D := mdX8_type) (pc' := 1) (x := kB C + l0) dX8_type_0 rfl 0 rfl ?_
  refine C_iconst (D := mdX8_type) (pc' := 2) (v := 0) dX8_type_1 rfl (by decide) ?_
  refine C_putI (D := mdX8_type) (pc' := 5) (p := l0) f_X8_1 rfl dX8_type_2 rfl ?_
  refine C_iload_n (D := mdX8_type) (pc' := 6) (x := l1) dX8_type_5 rfl 1 rfl ?_
  refine C_i2l (D := mdX8_type) (pc' := 7) dX8_type_6 rfl ?_
  refine C_lconst (D := mdX8_type) (pc' := 8) (v := 0) dX8_type_7 rfl (by decide) ?_
  refine C_ldc2 (D := mdX8_type) (pc' := 11) (v := 255) c_X8_7 dX8_type_8 rfl ?_
  refine C_callS (D := mdX8_type) (pc' := 14) (st := []) [.long ((l1 : Int32).toInt64), .long 0, .long 255] s_X8_9 (i_X8_in C (((l1 : Int32).toInt64)) 0 255) dX8_type_11 rfl rfl rfl (Nat.le_of_ble_eq_true rfl) (by decide) (by decide) (fun c1 => ?_)
  refine C_if_ne (D := mdX8_type) (pc' := 17) (tgt := 19) dX8_type_14 (by decide) rfl ?_ ?_
  · refine C_aload_n (D := mdX8_type) (pc' := 20) (x := kB C + l0) dX8_type_19 rfl 0 rfl ?_
    refine C_getI (D := mdX8_type) (pc' := 23) (p := l0) f_X8_13 rfl dX8_type_20 rfl (fun typed2 => ?_)
    refine C_sipush (D := mdX8_type) (pc' := 26) (v := 150) dX8_type_23 rfl (by decide) ?_
    refine C_icmp_ne (D := mdX8_type) (pc' := 29) (tgt := 32) dX8_type_26 (by decide) rfl ?_ ?_
    · refine C_aload_n (D := mdX8_type) (pc' := 33) (x := kB C + l0) dX8_type_32 rfl 0 rfl ?_
      refine C_getR (D := mdX8_type) (pc' := 36) (p := l0) f_X8_16 rfl dX8_type_33 rfl (fun text3 => ?_)
      refine C_aload_n (D := mdX8_type) (pc' := 37) (x := kB C + l0) dX8_type_36 rfl 0 rfl ?_
      refine C_getI (D := mdX8_type) (pc' := 40) (p := l0) f_X8_13 rfl dX8_type_37 rfl (fun typed4 => ?_)
      refine C_iload_n (D := mdX8_type) (pc' := 41) (x := l1) dX8_type_40 rfl 1 rfl ?_
      refine C_tI (D := mdX8_type) (pc' := 42) (p := text3) dX8_type_41 rfl ?_
      refine C_aload_n (D := mdX8_type) (pc' := 43) (x := kB C + l0) dX8_type_42 rfl 0 rfl ?_
      refine C_dup (D := mdX8_type) (pc' := 44) dX8_type_43 rfl rfl ?_
      refine C_getI (D := mdX8_type) (pc' := 47) (p := l0) f_X8_13 rfl dX8_type_44 rfl (fun typed5 => ?_)
      refine C_iconst (D := mdX8_type) (pc' := 48) (v := 1) dX8_type_47 rfl (by decide) ?_
      refine C_iadd (D := mdX8_type) (pc' := 49) dX8_type_48 rfl ?_
      refine C_putI (D := mdX8_type) (pc' := 52) (p := l0) f_X8_13 rfl dX8_type_49 rfl ?_
      refine C_aload_n (D := mdX8_type) (pc' := 53) (x := kB C + l0) dX8_type_52 rfl 0 rfl ?_
      refine C_getI (D := mdX8_type) (pc' := 56) (p := l0) f_X8_13 rfl dX8_type_53 rfl (fun typed6 => ?_)
      exact C_iret rfl dX8_type_56
    · refine C_bipush (D := mdX8_type) (pc' := 31) (v := (-3)) dX8_type_29 rfl (by decide) ?_
      exact C_iret rfl dX8_type_31
  · refine C_iconst (D := mdX8_type) (pc' := 18) (v := (-1)) dX8_type_17 rfl (by decide) ?_
    exact C_iret rfl dX8_type_18

-- StandingQueriesModel.clear()I
theorem dX8_clear_0 : decode cX8_clear 0 = .ok (.aload_n 0, 1) := by decide +kernel
theorem dX8_clear_1 : decode cX8_clear 1 = .ok (.iconst 0, 1) := by decide +kernel
theorem dX8_clear_2 : decode cX8_clear 2 = .ok (.putfield 1, 3) := by decide +kernel
theorem dX8_clear_5 : decode cX8_clear 5 = .ok (.aload_n 0, 1) := by decide +kernel
theorem dX8_clear_6 : decode cX8_clear 6 = .ok (.getfield 13, 3) := by decide +kernel
theorem dX8_clear_9 : decode cX8_clear 9 = .ok (.istore_n 1, 1) := by decide +kernel
theorem dX8_clear_10 : decode cX8_clear 10 = .ok (.aload_n 0, 1) := by decide +kernel
theorem dX8_clear_11 : decode cX8_clear 11 = .ok (.iconst 0, 1) := by decide +kernel
theorem dX8_clear_12 : decode cX8_clear 12 = .ok (.putfield 13, 3) := by decide +kernel
theorem dX8_clear_15 : decode cX8_clear 15 = .ok (.iload_n 1, 1) := by decide +kernel
theorem dX8_clear_16 : decode cX8_clear 16 = .ok (.ireturn, 1) := by decide +kernel
abbrev mdX8_clear : MD := (cX8_clear, RX8, 2, (some .int), yX8_clear.name, 0, 0, eT)
set_option maxHeartbeats 2000000 in
set_option maxRecDepth 20000 in
theorem i_X8_clear (C : KX) (l0 : Nat) : Imp C yX8_clear cX8_clear 2 (some .int) 0 0 rvI [.ref (kB C + l0)] (m_X8_clear l0) := by
  refine Imp.of (by decide) (Nat.le_of_ble_eq_true rfl) [(0, .ref (kB C + l0))] rfl ?_
  show Cmp C mdX8_clear (QM rvI) 0 [(0, .ref (kB C + l0))] [] (m_X8_clear l0)
  unfold m_X8_clear
  refine C_aload_n (D := mdX8_clear) (pc' := 1) (x := kB C + l0) dX8_clear_0 rfl 0 rfl ?_
  refine C_iconst (D := mdX8_clear) (pc' := 2) (v := 0) dX8_clear_1 rfl (by decide) ?_
  refine C_putI (D := mdX8_clear) (pc' := 5) (p := l0) f_X8_1 rfl dX8_clear_2 rfl ?_
  refine C_aload_n (D := mdX8_clear) (pc' := 6) (x := kB C + l0) dX8_clear_5 rfl 0 rfl ?_
  refine C_getI (D := mdX8_clear) (pc' := 9) (p := l0) f_X8_13 rfl dX8_clear_6 rfl (fun typed1 => ?_)
  refine C_istore_n (D := mdX8_clear) (pc' := 10) (ls' := [(1, .int typed1), (0, .ref (kB C + l0))]) dX8_clear_9 rfl rfl (by decide) rfl ?_
  refine C_aload_n (D := mdX8_clear) (pc' := 11) (x := kB C + l0) dX8_clear_10 rfl 1 rfl ?_
  refine C_iconst (D := mdX8_clear) (pc' := 12) (v := 0) dX8_clear_11 rfl (by decide) ?_
  refine C_putI (D := mdX8_clear) (pc' := 15) (p := l0) f_X8_13 rfl dX8_clear_12 rfl ?_
  refine C_iload_n (D := mdX8_clear) (pc' := 16) (x := typed1) dX8_clear_15 rfl 0 rfl ?_
  exact C_iret rfl dX8_clear_16

-- StandingQueriesModel.byteAt(I)I
theorem dX8_byteAt_0 : decode cX8_byteAt 0 = .ok (.iload_n 1, 1) := by decide +kernel
theorem dX8_byteAt_1 : decode cX8_byteAt 1 = .ok (.aload_n 0, 1) := by decide +kernel
theorem dX8_byteAt_2 : decode cX8_byteAt 2 = .ok (.getfield 13, 3) := by decide +kernel
theorem dX8_byteAt_5 : decode cX8_byteAt 5 = .ok (.if_icmp .ge 12, 3) := by decide +kernel
theorem dX8_byteAt_8 : decode cX8_byteAt 8 = .ok (.aload_n 0, 1) := by decide +kernel
theorem dX8_byteAt_9 : decode cX8_byteAt 9 = .ok (.getfield 16, 3) := by decide +kernel
theorem dX8_byteAt_12 : decode cX8_byteAt 12 = .ok (.iload_n 1, 1) := by decide +kernel
theorem dX8_byteAt_13 : decode cX8_byteAt 13 = .ok (.iaload, 1) := by decide +kernel
theorem dX8_byteAt_14 : decode cX8_byteAt 14 = .ok (.goto 4, 3) := by decide +kernel
theorem dX8_byteAt_17 : decode cX8_byteAt 17 = .ok (.iconst (-1), 1) := by decide +kernel
theorem dX8_byteAt_18 : decode cX8_byteAt 18 = .ok (.ireturn, 1) := by decide +kernel
abbrev mdX8_byteAt : MD := (cX8_byteAt, RX8, 2, (some .int), yX8_byteAt.name, 0, 0, eT)
set_option maxHeartbeats 2000000 in
set_option maxRecDepth 20000 in
theorem i_X8_byteAt (C : KX) (l0 : Nat) (l1 : Int32) : Imp C yX8_byteAt cX8_byteAt 2 (some .int) 0 0 rvI [.ref (kB C + l0), .int l1] (m_X8_byteAt l0 l1) := by
  refine Imp.of (by decide) (Nat.le_of_ble_eq_true rfl) [(0, .ref (kB C + l0)), (1, .int l1)] rfl ?_
  show Cmp C mdX8_byteAt (QM rvI) 0 [(0, .ref (kB C + l0)), (1, .int l1)] [] (m_X8_byteAt l0 l1)
  unfold m_X8_byteAt
  refine C_iload_n (D := mdX8_byteAt) (pc' := 1) (x := l1) dX8_byteAt_0 rfl 1 rfl ?_
  refine C_aload_n (D := mdX8_byteAt) (pc' := 2) (x := kB C + l0) dX8_byteAt_1 rfl 0 rfl ?_
  refine C_getI (D := mdX8_byteAt) (pc' := 5) (p := l0) f_X8_13 rfl dX8_byteAt_2 rfl (fun typed1 => ?_)
  refine C_icmp_ge (D := mdX8_byteAt) (pc' := 8) (tgt := 17) dX8_byteAt_5 (by decide) rfl ?_ ?_
  · refine C_iconst (D := mdX8_byteAt) (pc' := 18) (v := (-1)) dX8_byteAt_17 rfl (by decide) ?_
    exact C_iret rfl dX8_byteAt_18
  · refine C_aload_n (D := mdX8_byteAt) (pc' := 9) (x := kB C + l0) dX8_byteAt_8 rfl 0 rfl ?_
    refine C_getR (D := mdX8_byteAt) (pc' := 12) (p := l0) f_X8_16 rfl dX8_byteAt_9 rfl (fun text2 => ?_)
    refine C_iload_n (D := mdX8_byteAt) (pc' := 13) (x := l1) dX8_byteAt_12 rfl 1 rfl ?_
    refine C_aI (D := mdX8_byteAt) (pc' := 14) (p := text2) dX8_byteAt_13 rfl (fun x3 => ?_)
    refine C_goto (D := mdX8_byteAt) (pc' := 18) dX8_byteAt_14 (by decide) ?_
    exact C_iret rfl dX8_byteAt_18

-- StandingQueriesModel.step()V
theorem dX8_step_0 : decode cX8_step 0 = .ok (.aload_n 0, 1) := by decide +kernel
theorem dX8_step_1 : decode cX8_step 1 = .ok (.aload_n 0, 1) := by decide +kernel
theorem dX8_step_2 : decode cX8_step 2 = .ok (.getfield 20, 3) := by decide +kernel
theorem dX8_step_5 : decode cX8_step 5 = .ok (.invokevirtual 23, 3) := by decide +kernel
theorem dX8_step_8 : decode cX8_step 8 = .ok (.bipush 32, 2) := by decide +kernel
theorem dX8_step_10 : decode cX8_step 10 = .ok (.if_icmp .ne 16, 3) := by decide +kernel
theorem dX8_step_13 : decode cX8_step 13 = .ok (.aload_n 0, 1) := by decide +kernel
theorem dX8_step_14 : decode cX8_step 14 = .ok (.dup, 1) := by decide +kernel
theorem dX8_step_15 : decode cX8_step 15 = .ok (.getfield 20, 3) := by decide +kernel
theorem dX8_step_18 : decode cX8_step 18 = .ok (.iconst 1, 1) := by decide +kernel
theorem dX8_step_19 : decode cX8_step 19 = .ok (.iadd, 1) := by decide +kernel
theorem dX8_step_20 : decode cX8_step 20 = .ok (.putfield 20, 3) := by decide +kernel
theorem dX8_step_23 : decode cX8_step 23 = .ok (.goto (-23), 3) := by decide +kernel
theorem dX8_step_26 : decode cX8_step 26 = .ok (.aload_n 0, 1) := by decide +kernel
theorem dX8_step_27 : decode cX8_step 27 = .ok (.aload_n 0, 1) := by decide +kernel
theorem dX8_step_28 : decode cX8_step 28 = .ok (.getfield 20, 3) := by decide +kernel
theorem dX8_step_31 : decode cX8_step 31 = .ok (.putfield 27, 3) := by decide +kernel
theorem dX8_step_34 : decode cX8_step 34 = .ok (.aload_n 0, 1) := by decide +kernel
theorem dX8_step_35 : decode cX8_step 35 = .ok (.aload_n 0, 1) := by decide +kernel
theorem dX8_step_36 : decode cX8_step 36 = .ok (.getfield 20, 3) := by decide +kernel
theorem dX8_step_39 : decode cX8_step 39 = .ok (.invokevirtual 23, 3) := by decide +kernel
theorem dX8_step_42 : decode cX8_step 42 = .ok (.istore_n 1, 1) := by decide +kernel
theorem dX8_step_43 : decode cX8_step 43 = .ok (.aload_n 0, 1) := by decide +kernel
theorem dX8_step_44 : decode cX8_step 44 = .ok (.iload_n 1, 1) := by decide +kernel
theorem dX8_step_45 : decode cX8_step 45 = .ok (.putfield 30, 3) := by decide +kernel
theorem dX8_step_48 : decode cX8_step 48 = .ok (.iload_n 1, 1) := by decide +kernel
theorem dX8_step_49 : decode cX8_step 49 = .ok (.i2l, 1) := by decide +kernel
theorem dX8_step_50 : decode cX8_step 50 = .ok (.ldc2_w 33, 3) := by decide +kernel
theorem dX8_step_53 : decode cX8_step 53 = .ok (.ldc2_w 35, 3) := by decide +kernel
theorem dX8_step_56 : decode cX8_step 56 = .ok (.invokestatic 9, 3) := by decide +kernel
theorem dX8_step_59 : decode cX8_step 59 = .ok (.ifCond .eq 42, 3) := by decide +kernel
theorem dX8_step_62 : decode cX8_step 62 = .ok (.aload_n 0, 1) := by decide +kernel
theorem dX8_step_63 : decode cX8_step 63 = .ok (.iconst 1, 1) := by decide +kernel
theorem dX8_step_64 : decode cX8_step 64 = .ok (.putfield 37, 3) := by decide +kernel
theorem dX8_step_67 : decode cX8_step 67 = .ok (.aload_n 0, 1) := by decide +kernel
theorem dX8_step_68 : decode cX8_step 68 = .ok (.aload_n 0, 1) := by decide +kernel
theorem dX8_step_69 : decode cX8_step 69 = .ok (.getfield 20, 3) := by decide +kernel
theorem dX8_step_72 : decode cX8_step 72 = .ok (.invokevirtual 23, 3) := by decide +kernel
theorem dX8_step_75 : decode cX8_step 75 = .ok (.i2l, 1) := by decide +kernel
theorem dX8_step_76 : decode cX8_step 76 = .ok (.ldc2_w 33, 3) := by decide +kernel
theorem dX8_step_79 : decode cX8_step 79 = .ok (.ldc2_w 35, 3) := by decide +kernel
theorem dX8_step_82 : decode cX8_step 82 = .ok (.invokestatic 9, 3) := by decide +kernel
theorem dX8_step_85 : decode cX8_step 85 = .ok (.ifCond .eq 190, 3) := by decide +kernel
theorem dX8_step_88 : decode cX8_step 88 = .ok (.aload_n 0, 1) := by decide +kernel
theorem dX8_step_89 : decode cX8_step 89 = .ok (.dup, 1) := by decide +kernel
theorem dX8_step_90 : decode cX8_step 90 = .ok (.getfield 20, 3) := by decide +kernel
theorem dX8_step_93 : decode cX8_step 93 = .ok (.iconst 1, 1) := by decide +kernel
theorem dX8_step_94 : decode cX8_step 94 = .ok (.iadd, 1) := by decide +kernel
theorem dX8_step_95 : decode cX8_step 95 = .ok (.putfield 20, 3) := by decide +kernel
theorem dX8_step_98 : decode cX8_step 98 = .ok (.goto (-31), 3) := by decide +kernel
theorem dX8_step_101 : decode cX8_step 101 = .ok (.iload_n 1, 1) := by decide +kernel
theorem dX8_step_102 : decode cX8_step 102 = .ok (.i2l, 1) := by decide +kernel
theorem dX8_step_103 : decode cX8_step 103 = .ok (.ldc2_w 40, 3) := by decide +kernel
theorem dX8_step_106 : decode cX8_step 106 = .ok (.ldc2_w 42, 3) := by decide +kernel
theorem dX8_step_109 : decode cX8_step 109 = .ok (.invokestatic 9, 3) := by decide +kernel
theorem dX8_step_112 : decode cX8_step 112 = .ok (.ifCond .eq 122, 3) := by decide +kernel
theorem dX8_step_115 : decode cX8_step 115 = .ok (.aload_n 0, 1) := by decide +kernel
theorem dX8_step_116 : decode cX8_step 116 = .ok (.iconst 2, 1) := by decide +kernel
theorem dX8_step_117 : decode cX8_step 117 = .ok (.putfield 37, 3) := by decide +kernel
theorem dX8_step_120 : decode cX8_step 120 = .ok (.aload_n 0, 1) := by decide +kernel
theorem dX8_step_121 : decode cX8_step 121 = .ok (.iconst 0, 1) := by decide +kernel
theorem dX8_step_122 : decode cX8_step 122 = .ok (.putfield 30, 3) := by decide +kernel
theorem dX8_step_125 : decode cX8_step 125 = .ok (.aload_n 0, 1) := by decide +kernel
theorem dX8_step_126 : decode cX8_step 126 = .ok (.aload_n 0, 1) := by decide +kernel
theorem dX8_step_127 : decode cX8_step 127 = .ok (.getfield 20, 3) := by decide +kernel
theorem dX8_step_130 : decode cX8_step 130 = .ok (.invokevirtual 23, 3) := by decide +kernel
theorem dX8_step_133 : decode cX8_step 133 = .ok (.i2l, 1) := by decide +kernel
theorem dX8_step_134 : decode cX8_step 134 = .ok (.ldc2_w 40, 3) := by decide +kernel
theorem dX8_step_137 : decode cX8_step 137 = .ok (.ldc2_w 42, 3) := by decide +kernel
theorem dX8_step_140 : decode cX8_step 140 = .ok (.invokestatic 9, 3) := by decide +kernel
theorem dX8_step_143 : decode cX8_step 143 = .ok (.ifCond .eq 55, 3) := by decide +kernel
theorem dX8_step_146 : decode cX8_step 146 = .ok (.aload_n 0, 1) := by decide +kernel
theorem dX8_step_147 : decode cX8_step 147 = .ok (.aload_n 0, 1) := by decide +kernel
theorem dX8_step_148 : decode cX8_step 148 = .ok (.getfield 30, 3) := by decide +kernel
theorem dX8_step_151 : decode cX8_step 151 = .ok (.bipush 99, 2) := by decide +kernel
theorem dX8_step_153 : decode cX8_step 153 = .ok (.if_icmp .le 10, 3) := by decide +kernel
theorem dX8_step_156 : decode cX8_step 156 = .ok (.aload_n 0, 1) := by decide +kernel
theorem dX8_step_157 : decode cX8_step 157 = .ok (.getfield 30, 3) := by decide +kernel
theorem dX8_step_160 : decode cX8_step 160 = .ok (.goto 22, 3) := by decide +kernel
theorem dX8_step_163 : decode cX8_step 163 = .ok (.bipush 10, 2) := by decide +kernel
theorem dX8_step_165 : decode cX8_step 165 = .ok (.aload_n 0, 1) := by decide +kernel
theorem dX8_step_166 : decode cX8_step 166 = .ok (.getfield 30, 3) := by decide +kernel
theorem dX8_step_169 : decode cX8_step 169 = .ok (.imul, 1) := by decide +kernel
theorem dX8_step_170 : decode cX8_step 170 = .ok (.aload_n 0, 1) := by decide +kernel
theorem dX8_step_171 : decode cX8_step 171 = .ok (.aload_n 0, 1) := by decide +kernel
theorem dX8_step_172 : decode cX8_step 172 = .ok (.getfield 20, 3) := by decide +kernel
theorem dX8_step_175 : decode cX8_step 175 = .ok (.invokevirtual 23, 3) := by decide +kernel
theorem dX8_step_178 : decode cX8_step 178 = .ok (.iadd, 1) := by decide +kernel
theorem dX8_step_179 : decode cX8_step 179 = .ok (.bipush 48, 2) := by decide +kernel
theorem dX8_step_181 : decode cX8_step 181 = .ok (.isub, 1) := by decide +kernel
theorem dX8_step_182 : decode cX8_step 182 = .ok (.putfield 30, 3) := by decide +kernel
theorem dX8_step_185 : decode cX8_step 185 = .ok (.aload_n 0, 1) := by decide +kernel
theorem dX8_step_186 : decode cX8_step 186 = .ok (.dup, 1) := by decide +kernel
theorem dX8_step_187 : decode cX8_step 187 = .ok (.getfield 20, 3) := by decide +kernel
theorem dX8_step_190 : decode cX8_step 190 = .ok (.iconst 1, 1) := by decide +kernel
theorem dX8_step_191 : decode cX8_step 191 = .ok (.iadd, 1) := by decide +kernel
theorem dX8_step_192 : decode cX8_step 192 = .ok (.putfield 20, 3) := by decide +kernel
theorem dX8_step_195 : decode cX8_step 195 = .ok (.goto (-70), 3) := by decide +kernel
theorem dX8_step_198 : decode cX8_step 198 = .ok (.aload_n 0, 1) := by decide +kernel
theorem dX8_step_199 : decode cX8_step 199 = .ok (.getfield 30, 3) := by decide +kernel
theorem dX8_step_202 : decode cX8_step 202 = .ok (.bipush 99, 2) := by decide +kernel
theorem dX8_step_204 : decode cX8_step 204 = .ok (.if_icmp .gt 22, 3) := by decide +kernel
theorem dX8_step_207 : decode cX8_step 207 = .ok (.iload_n 1, 1) := by decide +kernel
theorem dX8_step_208 : decode cX8_step 208 = .ok (.bipush 48, 2) := by decide +kernel
theorem dX8_step_210 : decode cX8_step 210 = .ok (.if_icmp .ne 65, 3) := by decide +kernel
theorem dX8_step_213 : decode cX8_step 213 = .ok (.aload_n 0, 1) := by decide +kernel
theorem dX8_step_214 : decode cX8_step 214 = .ok (.getfield 20, 3) := by decide +kernel
theorem dX8_step_217 : decode cX8_step 217 = .ok (.aload_n 0, 1) := by decide +kernel
theorem dX8_step_218 : decode cX8_step 218 = .ok (.getfield 27, 3) := by decide +kernel
theorem dX8_step_221 : decode cX8_step 221 = .ok (.iconst 1, 1) := by decide +kernel
theorem dX8_step_222 : decode cX8_step 222 = .ok (.iadd, 1) := by decide +kernel
theorem dX8_step_223 : decode cX8_step 223 = .ok (.if_icmp .le 52, 3) := by decide +kernel
theorem dX8_step_226 : decode cX8_step 226 = .ok (.aload_n 0, 1) := by decide +kernel
theorem dX8_step_227 : decode cX8_step 227 = .ok (.iconst 4, 1) := by decide +kernel
theorem dX8_step_228 : decode cX8_step 228 = .ok (.putfield 37, 3) := by decide +kernel
theorem dX8_step_231 : decode cX8_step 231 = .ok (.goto 44, 3) := by decide +kernel
theorem dX8_step_234 : decode cX8_step 234 = .ok (.aload_n 0, 1) := by decide +kernel
theorem dX8_step_235 : decode cX8_step 235 = .ok (.iload_n 1, 1) := by decide +kernel
theorem dX8_step_236 : decode cX8_step 236 = .ok (.ifCond .ge 7, 3) := by decide +kernel
theorem dX8_step_239 : decode cX8_step 239 = .ok (.iconst 0, 1) := by decide +kernel
theorem dX8_step_240 : decode cX8_step 240 = .ok (.goto 14, 3) := by decide +kernel
theorem dX8_step_243 : decode cX8_step 243 = .ok (.iload_n 1, 1) := by decide +kernel
theorem dX8_step_244 : decode cX8_step 244 = .ok (.bipush 59, 2) := by decide +kernel
theorem dX8_step_246 : decode cX8_step 246 = .ok (.if_icmp .ne 7, 3) := by decide +kernel
theorem dX8_step_249 : decode cX8_step 249 = .ok (.iconst 3, 1) := by decide +kernel
theorem dX8_step_250 : decode cX8_step 250 = .ok (.goto 4, 3) := by decide +kernel
theorem dX8_step_253 : decode cX8_step 253 = .ok (.iconst 4, 1) := by decide +kernel
theorem dX8_step_254 : decode cX8_step 254 = .ok (.putfield 37, 3) := by decide +kernel
theorem dX8_step_257 : decode cX8_step 257 = .ok (.aload_n 0, 1) := by decide +kernel
theorem dX8_step_258 : decode cX8_step 258 = .ok (.dup, 1) := by decide +kernel
theorem dX8_step_259 : decode cX8_step 259 = .ok (.getfield 20, 3) := by decide +kernel
theorem dX8_step_262 : decode cX8_step 262 = .ok (.iload_n 1, 1) := by decide +kernel
theorem dX8_step_263 : decode cX8_step 263 = .ok (.ifCond .ge 7, 3) := by decide +kernel
theorem dX8_step_266 : decode cX8_step 266 = .ok (.iconst 0, 1) := by decide +kernel
theorem dX8_step_267 : decode cX8_step 267 = .ok (.goto 4, 3) := by decide +kernel
theorem dX8_step_270 : decode cX8_step 270 = .ok (.iconst 1, 1) := by decide +kernel
theorem dX8_step_271 : decode cX8_step 271 = .ok (.iadd, 1) := by decide +kernel
theorem dX8_step_272 : decode cX8_step 272 = .ok (.putfield 20, 3) := by decide +kernel
theorem dX8_step_275 : decode cX8_step 275 = .ok (.aload_n 0, 1) := by decide +kernel
theorem dX8_step_276 : decode cX8_step 276 = .ok (.aload_n 0, 1) := by decide +kernel
theorem dX8_step_277 : decode cX8_step 277 = .ok (.getfield 20, 3) := by decide +kernel
theorem dX8_step_280 : decode cX8_step 280 = .ok (.aload_n 0, 1) := by decide +kernel
theorem dX8_step_281 : decode cX8_step 281 = .ok (.getfield 27, 3) := by decide +kernel
theorem dX8_step_284 : decode cX8_step 284 = .ok (.isub, 1) := by decide +kernel
theorem dX8_step_285 : decode cX8_step 285 = .ok (.putfield 44, 3) := by decide +kernel
theorem dX8_step_288 : decode cX8_step 288 = .ok (.return_, 1) := by decide +kernel
abbrev mdX8_step : MD := (cX8_step, RX8, 2, none, yX8_step.name, 1, 25, eT)
set_option maxHeartbeats 2000000 in
set_option maxRecDepth 20000 in
theorem p_X8_step_J275 (C : KX) (l0 : Nat)  : Cmp C mdX8_step (QM rvV) 275 [(0, .ref (kB C + l0))] [] (m_X8_step_J275 l0) := by
  unfold m_X8_step_J275
  refine C_aload_n (D := mdX8_step) (pc' := 276) (x := kB C + l0) dX8_step_275 rfl 0 rfl ?_
  refine C_aload_n (D := mdX8_step) (pc' := 277) (x := kB C + l0) dX8_step_276 rfl 0 rfl ?_
  refine C_getI (D := mdX8_step) (pc' := 280) (p := l0) f_X8_20 rfl dX8_step_277 rfl (fun cursor9 => ?_)
  refine C_aload_n (D := mdX8_step) (pc' := 281) (x := kB C + l0) dX8_step_280 rfl 0 rfl ?_
  refine C_getI (D := mdX8_step) (pc' := 284) (p := l0) f_X8_27 rfl dX8_step_281 rfl (fun start10 => ?_)
  refine C_isub (D := mdX8_step) (pc' := 285) dX8_step_284 rfl ?_
  refine C_putI (D := mdX8_step) (pc' := 288) (p := l0) f_X8_44 rfl dX8_step_285 rfl ?_
  exact C_vret rfl dX8_step_288
set_option maxHeartbeats 2000000 in
set_option maxRecDepth 20000 in
theorem p_X8_step_J271 (C : KX) (l0 : Nat) (s0 : Int32) (s1 : Int32) (s2 : Nat)  : Cmp C mdX8_step (QM rvV) 271 [(0, .ref (kB C + l0))] [.int s0, .int s1, .ref (kB C + s2)] (m_X8_step_J271 l0 s0 s1 s2) := by
  unfold m_X8_step_J271
  refine C_iadd (D := mdX8_step) (pc' := 272) dX8_step_271 rfl ?_
  refine C_putI (D := mdX8_step) (pc' := 275) (p := s2) f_X8_20 rfl dX8_step_272 rfl ?_
  exact C_sub [0] rfl (p_X8_step_J275 C l0)
set_option maxHeartbeats 2000000 in
set_option maxRecDepth 20000 in
theorem p_X8_step_J254 (C : KX) (l0 : Nat) (l1 : Int32) (s0 : Int32) (s1 : Nat)  : Cmp C mdX8_step (QM rvV) 254 [(0, .ref (kB C + l0)), (1, .int l1)] [.int s0, .ref (kB C + s1)] (m_X8_step_J254 l0 l1 s0 s1) := by
  unfold m_X8_step_J254
  refine C_putI (D := mdX8_step) (pc' := 257) (p := s1) f_X8_37 rfl dX8_step_254 rfl ?_
  refine C_aload_n (D := mdX8_step) (pc' := 258) (x := kB C + l0) dX8_step_257 rfl 0 rfl ?_
  refine C_dup (D := mdX8_step) (pc' := 259) dX8_step_258 rfl rfl ?_
  refine C_getI (D := mdX8_step) (pc' := 262) (p := l0) f_X8_20 rfl dX8_step_259 rfl (fun cursor8 => ?_)
  refine C_iload_n (D := mdX8_step) (pc' := 263) (x := l1) dX8_step_262 rfl 1 rfl ?_
  refine C_if_ge (D := mdX8_step) (pc' := 266) (tgt := 270) dX8_step_263 (by decide) rfl ?_ ?_
  · refine C_iconst (D := mdX8_step) (pc' := 271) (v := 1) dX8_step_270 rfl (by decide) ?_
    exact C_sub [0] rfl (p_X8_step_J271 C l0 1 cursor8 l0)
  · refine C_iconst (D := mdX8_step) (pc' := 267) (v := 0) dX8_step_266 rfl (by decide) ?_
    refine C_goto (D := mdX8_step) (pc' := 271) dX8_step_267 (by decide) ?_
    exact C_sub [0] rfl (p_X8_step_J271 C l0 0 cursor8 l0)
set_option maxHeartbeats 2000000 in
set_option maxRecDepth 20000 in
theorem p_X8_step_J226 (C : KX) (l0 : Nat)  : Cmp C mdX8_step (QM rvV) 226 [(0, .ref (kB C + l0))] [] (m_X8_step_J226 l0) := by
  unfold m_X8_step_J226
  refine C_aload_n (D := mdX8_step) (pc' := 227) (x := kB C + l0) dX8_step_226 rfl 0 rfl ?_
  refine C_iconst (D := mdX8_step) (pc' := 228) (v := 4) dX8_step_227 rfl (by decide) ?_
  refine C_putI (D := mdX8_step) (pc' := 231) (p := l0) f_X8_37 rfl dX8_step_228 rfl ?_
  refine C_goto (D := mdX8_step) (pc' := 275) dX8_step_231 (by decide) ?_
  exact C_sub [0] rfl (p_X8_step_J275 C l0)
set_option maxHeartbeats 2000000 in
set_option maxRecDepth 20000 in
theorem p_X8_step_J182 (C : KX) (l0 : Nat) (l1 : Int32) (s0 : Int32) (s1 : Nat) (k125 : Unit → Mo Unit) (hk125 : ∀ s, Cmp C mdX8_step (QM rvV) 125 [(0, .ref (kB C + l0)), (1, .int l1)] [] (k125 s)) : Cmp C mdX8_step (QM rvV) 182 [(0, .ref (kB C + l0)), (1, .int l1)] [.int s0, .ref (kB C + s1)] (m_X8_step_J182 l0 l1 s0 s1 k125) := by
  unfold m_X8_step_J182
  refine C_putI (D := mdX8_step) (pc' := 185) (p := s1) f_X8_30 rfl dX8_step_182 rfl ?_
  refine C_aload_n (D := mdX8_step) (pc' := 186) (x := kB C + l0) dX8_step_185 rfl 0 rfl ?_
  refine C_dup (D := mdX8_step) (pc' := 187) dX8_step_186 rfl rfl ?_
  refine C_getI (D := mdX8_step) (pc' := 190) (p := l0) f_X8_20 rfl dX8_step_187 rfl (fun cursor21 => ?_)
  refine C_iconst (D := mdX8_step) (pc' := 191) (v := 1) dX8_step_190 rfl (by decide) ?_
  refine C_iadd (D := mdX8_step) (pc' := 192) dX8_step_191 rfl ?_
  refine C_putI (D := mdX8_step) (pc' := 195) (p := l0) f_X8_20 rfl dX8_step_192 rfl ?_
  refine C_goto (D := mdX8_step) (pc' := 125) dX8_step_195 (by decide) ?_
  exact C_sub [0, 1] rfl (hk125 ())
set_option maxHeartbeats 2000000 in
set_option maxRecDepth 20000 in
theorem p_X8_step_B125 (C : KX) (l0 : Nat) (l1 : Int32)  (k125 : Unit → Mo Unit) (hk125 : ∀ s, Cmp C mdX8_step (QM rvV) 125 [(0, .ref (kB C + l0)), (1, .int l1)] [] (k125 s))  : Cmp C mdX8_step (QM rvV) 125 [(0, .ref (kB C + l0)), (1, .int l1)] [] (m_X8_step_B125 l0 l1 k125) := by
  unfold m_X8_step_B125
  refine C_aload_n (D := mdX8_step) (pc' := 126) (x := kB C + l0) dX8_step_125 rfl 0 rfl ?_
  refine C_aload_n (D := mdX8_step) (pc' := 127) (x := kB C + l0) dX8_step_126 rfl 0 rfl ?_
  refine C_getI (D := mdX8_step) (pc' := 130) (p := l0) f_X8_20 rfl dX8_step_127 rfl (fun cursor11 => ?_)
  refine C_callV (D := mdX8_step) (pc' := 133) (p := l0) (st := []) [.int cursor11] v_X8_23 (i_X8_byteAt C l0 cursor11) dX8_step_130 rfl rfl rfl (Nat.le_of_ble_eq_true rfl) (by decide) (by decide) (fun c12 => ?_)
  refine C_i2l (D := mdX8_step) (pc' := 134) dX8_step_133 rfl ?_
  refine C_ldc2 (D := mdX8_step) (pc' := 137) (v := 48) c_X8_40 dX8_step_134 rfl ?_
  refine C_ldc2 (D := mdX8_step) (pc' := 140) (v := 57) c_X8_42 dX8_step_137 rfl ?_
  refine C_callS (D := mdX8_step) (pc' := 143) (st := []) [.long ((c12 : Int32).toInt64), .long 48, .long 57] s_X8_9 (i_X8_in C (((c12 : Int32).toInt64)) 48 57) dX8_step_140 rfl rfl rfl (Nat.le_of_ble_eq_true rfl) (by decide) (by decide) (fun c13 => ?_)
  refine C_if_eq (D := mdX8_step) (pc' := 146) (tgt := 198) dX8_step_143 (by decide) rfl ?_ ?_
  · refine C_aload_n (D := mdX8_step) (pc' := 199) (x := kB C + l0) dX8_step_198 rfl 0 rfl ?_
    refine C_getI (D := mdX8_step) (pc' := 202) (p := l0) f_X8_30 rfl dX8_step_199 rfl (fun value14 => ?_)
    refine C_bipush (D := mdX8_step) (pc' := 204) (v := 99) dX8_step_202 rfl (by decide) ?_
    refine C_icmp_gt (D := mdX8_step) (pc' := 207) (tgt := 226) dX8_step_204 (by decide) rfl ?_ ?_
    · exact C_sub [0] rfl (p_X8_step_J226 C l0)
    · refine C_iload_n (D := mdX8_step) (pc' := 208) (x := l1) dX8_step_207 rfl 1 rfl ?_
      refine C_bipush (D := mdX8_step) (pc' := 210) (v := 48) dX8_step_208 rfl (by decide) ?_
      refine C_icmp_ne (D := mdX8_step) (pc' := 213) (tgt := 275) dX8_step_210 (by decide) rfl ?_ ?_
      · exact C_sub [0] rfl (p_X8_step_J275 C l0)
      · refine C_aload_n (D := mdX8_step) (pc' := 214) (x := kB C + l0) dX8_step_213 rfl 0 rfl ?_
        refine C_getI (D := mdX8_step) (pc' := 217) (p := l0) f_X8_20 rfl dX8_step_214 rfl (fun cursor15 => ?_)
        refine C_aload_n (D := mdX8_step) (pc' := 218) (x := kB C + l0) dX8_step_217 rfl 0 rfl ?_
        refine C_getI (D := mdX8_step) (pc' := 221) (p := l0) f_X8_27 rfl dX8_step_218 rfl (fun start16 => ?_)
        refine C_iconst (D := mdX8_step) (pc' := 222) (v := 1) dX8_step_221 rfl (by decide) ?_
        refine C_iadd (D := mdX8_step) (pc' := 223) dX8_step_222 rfl ?_
        refine C_icmp_le (D := mdX8_step) (pc' := 226) (tgt := 275) dX8_step_223 (by decide) rfl ?_ ?_
        · exact C_sub [0] rfl (p_X8_step_J275 C l0)
        · exact C_sub [0] rfl (p_X8_step_J226 C l0)
  · refine C_aload_n (D := mdX8_step) (pc' := 147) (x := kB C + l0) dX8_step_146 rfl 0 rfl ?_
    refine C_aload_n (D := mdX8_step) (pc' := 148) (x := kB C + l0) dX8_step_147 rfl 0 rfl ?_
    refine C_getI (D := mdX8_step) (pc' := 151) (p := l0) f_X8_30 rfl dX8_step_148 rfl (fun value17 => ?_)
    refine C_bipush (D := mdX8_step) (pc' := 153) (v := 99) dX8_step_151 rfl (by decide) ?_
    refine C_icmp_le (D := mdX8_step) (pc' := 156) (tgt := 163) dX8_step_153 (by decide) rfl ?_ ?_
    · refine C_bipush (D := mdX8_step) (pc' := 165) (v := 10) dX8_step_163 rfl (by decide) ?_
      refine C_aload_n (D := mdX8_step) (pc' := 166) (x := kB C + l0) dX8_step_165 rfl 0 rfl ?_
      refine C_getI (D := mdX8_step) (pc' := 169) (p := l0) f_X8_30 rfl dX8_step_166 rfl (fun value18 => ?_)
      refine C_imul (D := mdX8_step) (pc' := 170) dX8_step_169 rfl ?_
      refine C_aload_n (D := mdX8_step) (pc' := 171) (x := kB C + l0) dX8_step_170 rfl 0 rfl ?_
      refine C_aload_n (D := mdX8_step) (pc' := 172) (x := kB C + l0) dX8_step_171 rfl 0 rfl ?_
      refine C_getI (D := mdX8_step) (pc' := 175) (p := l0) f_X8_20 rfl dX8_step_172 rfl (fun cursor19 => ?_)
      refine C_callV (D := mdX8_step) (pc' := 178) (p := l0) (st := [.int (10 * value18), .ref (kB C + l0)]) [.int cursor19] v_X8_23 (i_X8_byteAt C l0 cursor19) dX8_step_175 rfl rfl rfl (Nat.le_of_ble_eq_true rfl) (by decide) (by decide) (fun c20 => ?_)
      refine C_iadd (D := mdX8_step) (pc' := 179) dX8_step_178 rfl ?_
      refine C_bipush (D := mdX8_step) (pc' := 181) (v := 48) dX8_step_179 rfl (by decide) ?_
      refine C_isub (D := mdX8_step) (pc' := 182) dX8_step_181 rfl ?_
      exact C_sub [0, 1] rfl (p_X8_step_J182 C l0 l1 ((((((10 * value18)) + c20)) - 48)) l0 k125 hk125)
    · refine C_aload_n (D := mdX8_step) (pc' := 157) (x := kB C + l0) dX8_step_156 rfl 0 rfl ?_
      refine C_getI (D := mdX8_step) (pc' := 160) (p := l0) f_X8_30 rfl dX8_step_157 rfl (fun value22 => ?_)
      refine C_goto (D := mdX8_step) (pc' := 182) dX8_step_160 (by decide) ?_
      exact C_sub [0, 1] rfl (p_X8_step_J182 C l0 l1 value22 l0 k125 hk125)
set_option maxHeartbeats 2000000 in
set_option maxRecDepth 20000 in
theorem p_X8_step_B67 (C : KX) (l0 : Nat)  (k67 : Unit → Mo Unit) (hk67 : ∀ s, Cmp C mdX8_step (QM rvV) 67 [(0, .ref (kB C + l0))] [] (k67 s))  : Cmp C mdX8_step (QM rvV) 67 [(0, .ref (kB C + l0))] [] (m_X8_step_B67 l0 k67) := by
  unfold m_X8_step_B67
  refine C_aload_n (D := mdX8_step) (pc' := 68) (x := kB C + l0) dX8_step_67 rfl 0 rfl ?_
  refine C_aload_n (D := mdX8_step) (pc' := 69) (x := kB C + l0) dX8_step_68 rfl 0 rfl ?_
  refine C_getI (D := mdX8_step) (pc' := 72) (p := l0) f_X8_20 rfl dX8_step_69 rfl (fun cursor23 => ?_)
  refine C_callV (D := mdX8_step) (pc' := 75) (p := l0) (st := []) [.int cursor23] v_X8_23 (i_X8_byteAt C l0 cursor23) dX8_step_72 rfl rfl rfl (Nat.le_of_ble_eq_true rfl) (by decide) (by decide) (fun c24 => ?_)
  refine C_i2l (D := mdX8_step) (pc' := 76) dX8_step_75 rfl ?_
  refine C_ldc2 (D := mdX8_step) (pc' := 79) (v := 97) c_X8_33 dX8_step_76 rfl ?_
  refine C_ldc2 (D := mdX8_step) (pc' := 82) (v := 122) c_X8_35 dX8_step_79 rfl ?_
  refine C_callS (D := mdX8_step) (pc' := 85) (st := []) [.long ((c24 : Int32).toInt64), .long 97, .long 122] s_X8_9 (i_X8_in C (((c24 : Int32).toInt64)) 97 122) dX8_step_82 rfl rfl rfl (Nat.le_of_ble_eq_true rfl) (by decide) (by decide) (fun c25 => ?_)
  refine C_if_eq (D := mdX8_step) (pc' := 88) (tgt := 275) dX8_step_85 (by decide) rfl ?_ ?_
  · exact C_sub [0] rfl (p_X8_step_J275 C l0)
  · refine C_aload_n (D := mdX8_step) (pc' := 89) (x := kB C + l0) dX8_step_88 rfl 0 rfl ?_
    refine C_dup (D := mdX8_step) (pc' := 90) dX8_step_89 rfl rfl ?_
    refine C_getI (D := mdX8_step) (pc' := 93) (p := l0) f_X8_20 rfl dX8_step_90 rfl (fun cursor26 => ?_)
    refine C_iconst (D := mdX8_step) (pc' := 94) (v := 1) dX8_step_93 rfl (by decide) ?_
    refine C_iadd (D := mdX8_step) (pc' := 95) dX8_step_94 rfl ?_
    refine C_putI (D := mdX8_step) (pc' := 98) (p := l0) f_X8_20 rfl dX8_step_95 rfl ?_
    refine C_goto (D := mdX8_step) (pc' := 67) dX8_step_98 (by decide) ?_
    exact C_sub [0] rfl (hk67 ())
set_option maxHeartbeats 2000000 in
set_option maxRecDepth 20000 in
theorem p_X8_step_B0 (C : KX) (l0 : Nat)  (k0 : Unit → Mo Unit) (hk0 : ∀ s, Cmp C mdX8_step (QM rvV) 0 [(0, .ref (kB C + l0))] [] (k0 s))  : Cmp C mdX8_step (QM rvV) 0 [(0, .ref (kB C + l0))] [] (m_X8_step_B0 l0 k0) := by
  unfold m_X8_step_B0
  refine C_aload_n (D := mdX8_step) (pc' := 1) (x := kB C + l0) dX8_step_0 rfl 0 rfl ?_
  refine C_aload_n (D := mdX8_step) (pc' := 2) (x := kB C + l0) dX8_step_1 rfl 0 rfl ?_
  refine C_getI (D := mdX8_step) (pc' := 5) (p := l0) f_X8_20 rfl dX8_step_2 rfl (fun cursor1 => ?_)
  refine C_callV (D := mdX8_step) (pc' := 8) (p := l0) (st := []) [.int cursor1] v_X8_23 (i_X8_byteAt C l0 cursor1) dX8_step_5 rfl rfl rfl (Nat.le_of_ble_eq_true rfl) (by decide) (by decide) (fun c2 => ?_)
  refine C_bipush (D := mdX8_step) (pc' := 10) (v := 32) dX8_step_8 rfl (by decide) ?_
  refine C_icmp_ne (D := mdX8_step) (pc' := 13) (tgt := 26) dX8_step_10 (by decide) rfl ?_ ?_
  · refine C_aload_n (D := mdX8_step) (pc' := 27) (x := kB C + l0) dX8_step_26 rfl 0 rfl ?_
    refine C_aload_n (D := mdX8_step) (pc' := 28) (x := kB C + l0) dX8_step_27 rfl 0 rfl ?_
    refine C_getI (D := mdX8_step) (pc' := 31) (p := l0) f_X8_20 rfl dX8_step_28 rfl (fun cursor3 => ?_)
    refine C_putI (D := mdX8_step) (pc' := 34) (p := l0) f_X8_27 rfl dX8_step_31 rfl ?_
    refine C_aload_n (D := mdX8_step) (pc' := 35) (x := kB C + l0) dX8_step_34 rfl 0 rfl ?_
    refine C_aload_n (D := mdX8_step) (pc' := 36) (x := kB C + l0) dX8_step_35 rfl 0 rfl ?_
    refine C_getI (D := mdX8_step) (pc' := 39) (p := l0) f_X8_20 rfl dX8_step_36 rfl (fun cursor4 => ?_)
    refine C_callV (D := mdX8_step) (pc' := 42) (p := l0) (st := []) [.int cursor4] v_X8_23 (i_X8_byteAt C l0 cursor4) dX8_step_39 rfl rfl rfl (Nat.le_of_ble_eq_true rfl) (by decide) (by decide) (fun c5 => ?_)
    refine C_istore_n (D := mdX8_step) (pc' := 43) (ls' := [(1, .int c5), (0, .ref (kB C + l0))]) dX8_step_42 rfl rfl (by decide) rfl ?_
    refine C_aload_n (D := mdX8_step) (pc' := 44) (x := kB C + l0) dX8_step_43 rfl 1 rfl ?_
    refine C_iload_n (D := mdX8_step) (pc' := 45) (x := c5) dX8_step_44 rfl 0 rfl ?_
    refine C_putI (D := mdX8_step) (pc' := 48) (p := l0) f_X8_30 rfl dX8_step_45 rfl ?_
    refine C_iload_n (D := mdX8_step) (pc' := 49) (x := c5) dX8_step_48 rfl 0 rfl ?_
    refine C_i2l (D := mdX8_step) (pc' := 50) dX8_step_49 rfl ?_
    refine C_ldc2 (D := mdX8_step) (pc' := 53) (v := 97) c_X8_33 dX8_step_50 rfl ?_
    refine C_ldc2 (D := mdX8_step) (pc' := 56) (v := 122) c_X8_35 dX8_step_53 rfl ?_
    refine C_callS (D := mdX8_step) (pc' := 59) (st := []) [.long ((c5 : Int32).toInt64), .long 97, .long 122] s_X8_9 (i_X8_in C (((c5 : Int32).toInt64)) 97 122) dX8_step_56 rfl rfl rfl (Nat.le_of_ble_eq_true rfl) (by decide) (by decide) (fun c6 => ?_)
    refine C_if_eq (D := mdX8_step) (pc' := 62) (tgt := 101) dX8_step_59 (by decide) rfl ?_ ?_
    · refine C_iload_n (D := mdX8_step) (pc' := 102) (x := c5) dX8_step_101 rfl 0 rfl ?_
      refine C_i2l (D := mdX8_step) (pc' := 103) dX8_step_102 rfl ?_
      refine C_ldc2 (D := mdX8_step) (pc' := 106) (v := 48) c_X8_40 dX8_step_103 rfl ?_
      refine C_ldc2 (D := mdX8_step) (pc' := 109) (v := 57) c_X8_42 dX8_step_106 rfl ?_
      refine C_callS (D := mdX8_step) (pc' := 112) (st := []) [.long ((c5 : Int32).toInt64), .long 48, .long 57] s_X8_9 (i_X8_in C (((c5 : Int32).toInt64)) 48 57) dX8_step_109 rfl rfl rfl (Nat.le_of_ble_eq_true rfl) (by decide) (by decide) (fun c7 => ?_)
      refine C_if_eq (D := mdX8_step) (pc' := 115) (tgt := 234) dX8_step_112 (by decide) rfl ?_ ?_
      · refine C_aload_n (D := mdX8_step) (pc' := 235) (x := kB C + l0) dX8_step_234 rfl 1 rfl ?_
        refine C_iload_n (D := mdX8_step) (pc' := 236) (x := c5) dX8_step_235 rfl 0 rfl ?_
        refine C_if_ge (D := mdX8_step) (pc' := 239) (tgt := 243) dX8_step_236 (by decide) rfl ?_ ?_
        · refine C_iload_n (D := mdX8_step) (pc' := 244) (x := c5) dX8_step_243 rfl 0 rfl ?_
          refine C_bipush (D := mdX8_step) (pc' := 246) (v := 59) dX8_step_244 rfl (by decide) ?_
          refine C_icmp_ne (D := mdX8_step) (pc' := 249) (tgt := 253) dX8_step_246 (by decide) rfl ?_ ?_
          · refine C_iconst (D := mdX8_step) (pc' := 254) (v := 4) dX8_step_253 rfl (by decide) ?_
            exact C_sub [1, 0] rfl (p_X8_step_J254 C l0 c5 4 l0)
          · refine C_iconst (D := mdX8_step) (pc' := 250) (v := 3) dX8_step_249 rfl (by decide) ?_
            refine C_goto (D := mdX8_step) (pc' := 254) dX8_step_250 (by decide) ?_
            exact C_sub [1, 0] rfl (p_X8_step_J254 C l0 c5 3 l0)
        · refine C_iconst (D := mdX8_step) (pc' := 240) (v := 0) dX8_step_239 rfl (by decide) ?_
          refine C_goto (D := mdX8_step) (pc' := 254) dX8_step_240 (by decide) ?_
          exact C_sub [1, 0] rfl (p_X8_step_J254 C l0 c5 0 l0)
      · refine C_aload_n (D := mdX8_step) (pc' := 116) (x := kB C + l0) dX8_step_115 rfl 1 rfl ?_
        refine C_iconst (D := mdX8_step) (pc' := 117) (v := 2) dX8_step_116 rfl (by decide) ?_
        refine C_putI (D := mdX8_step) (pc' := 120) (p := l0) f_X8_37 rfl dX8_step_117 rfl ?_
        refine C_aload_n (D := mdX8_step) (pc' := 121) (x := kB C + l0) dX8_step_120 rfl 1 rfl ?_
        refine C_iconst (D := mdX8_step) (pc' := 122) (v := 0) dX8_step_121 rfl (by decide) ?_
        refine C_putI (D := mdX8_step) (pc' := 125) (p := l0) f_X8_30 rfl dX8_step_122 rfl ?_
        exact C_sub [1, 0] rfl (C_loop (fun s => [(0, .ref (kB C + l0)), (1, .int c5)]) (fun k hk s => p_X8_step_B125 C l0 c5  k hk ) FU ())
    · refine C_aload_n (D := mdX8_step) (pc' := 63) (x := kB C + l0) dX8_step_62 rfl 1 rfl ?_
      refine C_iconst (D := mdX8_step) (pc' := 64) (v := 1) dX8_step_63 rfl (by decide) ?_
      refine C_putI (D := mdX8_step) (pc' := 67) (p := l0) f_X8_37 rfl dX8_step_64 rfl ?_
      exact C_sub [1] rfl (C_loop (fun s => [(0, .ref (kB C + l0))]) (fun k hk s => p_X8_step_B67 C l0  k hk ) FU ())
  · refine C_aload_n (D := mdX8_step) (pc' := 14) (x := kB C + l0) dX8_step_13 rfl 0 rfl ?_
    refine C_dup (D := mdX8_step) (pc' := 15) dX8_step_14 rfl rfl ?_
    refine C_getI (D := mdX8_step) (pc' := 18) (p := l0) f_X8_20 rfl dX8_step_15 rfl (fun cursor27 => ?_)
    refine C_iconst (D := mdX8_step) (pc' := 19) (v := 1) dX8_step_18 rfl (by decide) ?_
    refine C_iadd (D := mdX8_step) (pc' := 20) dX8_step_19 rfl ?_
    refine C_putI (D := mdX8_step) (pc' := 23) (p := l0) f_X8_20 rfl dX8_step_20 rfl ?_
    refine C_goto (D := mdX8_step) (pc' := 0) dX8_step_23 (by decide) ?_
    exact C_sub [0] rfl (hk0 ())
set_option maxHeartbeats 2000000 in
set_option maxRecDepth 20000 in
theorem i_X8_step (C : KX) (l0 : Nat) : Imp C yX8_step cX8_step 2 none 1 25 rvV [.ref (kB C + l0)] (m_X8_step l0) := by
  refine Imp.of (by decide) (Nat.le_of_ble_eq_true rfl) [(0, .ref (kB C + l0))] rfl ?_
  show Cmp C mdX8_step (QM rvV) 0 [(0, .ref (kB C + l0))] [] (m_X8_step l0)
  unfold m_X8_step
  exact C_sub [0] rfl (C_loop (fun s => [(0, .ref (kB C + l0))]) (fun k hk s => p_X8_step_B0 C l0  k hk ) FU ())

-- StandingQueriesModel.isName(I)Z
theorem dX8_isName_0 : decode cX8_isName 0 = .ok (.aload_n 0, 1) := by decide +kernel
theorem dX8_isName_1 : decode cX8_isName 1 = .ok (.getfield 37, 3) := by decide +kernel
theorem dX8_isName_4 : decode cX8_isName 4 = .ok (.iconst 1, 1) := by decide +kernel
theorem dX8_isName_5 : decode cX8_isName 5 = .ok (.if_icmp .ne 23, 3) := by decide +kernel
theorem dX8_isName_8 : decode cX8_isName 8 = .ok (.aload_n 0, 1) := by decide +kernel
theorem dX8_isName_9 : decode cX8_isName 9 = .ok (.getfield 44, 3) := by decide +kernel
theorem dX8_isName_12 : decode cX8_isName 12 = .ok (.iconst 1, 1) := by decide +kernel
theorem dX8_isName_13 : decode cX8_isName 13 = .ok (.if_icmp .ne 15, 3) := by decide +kernel
theorem dX8_isName_16 : decode cX8_isName 16 = .ok (.aload_n 0, 1) := by decide +kernel
theorem dX8_isName_17 : decode cX8_isName 17 = .ok (.getfield 30, 3) := by decide +kernel
theorem dX8_isName_20 : decode cX8_isName 20 = .ok (.iload_n 1, 1) := by decide +kernel
theorem dX8_isName_21 : decode cX8_isName 21 = .ok (.if_icmp .ne 7, 3) := by decide +kernel
theorem dX8_isName_24 : decode cX8_isName 24 = .ok (.iconst 1, 1) := by decide +kernel
theorem dX8_isName_25 : decode cX8_isName 25 = .ok (.goto 4, 3) := by decide +kernel
theorem dX8_isName_28 : decode cX8_isName 28 = .ok (.iconst 0, 1) := by decide +kernel
theorem dX8_isName_29 : decode cX8_isName 29 = .ok (.ireturn, 1) := by decide +kernel
abbrev mdX8_isName : MD := (cX8_isName, RX8, 2, (some .boolean), yX8_isName.name, 0, 0, eT)
set_option maxHeartbeats 2000000 in
set_option maxRecDepth 20000 in
theorem i_X8_isName (C : KX) (l0 : Nat) (l1 : Int32) : Imp C yX8_isName cX8_isName 2 (some .boolean) 0 0 rvI [.ref (kB C + l0), .int l1] (m_X8_isName l0 l1) := by
  refine Imp.of (by decide) (Nat.le_of_ble_eq_true rfl) [(0, .ref (kB C + l0)), (1, .int l1)] rfl ?_
  show Cmp C mdX8_isName (QM rvI) 0 [(0, .ref (kB C + l0)), (1, .int l1)] [] (m_X8_isName l0 l1)
  unfold m_X8_isName
  refine C_aload_n (D := mdX8_isName) (pc' := 1) (x := kB C + l0) dX8_isName_0 rfl 0 rfl ?_
  refine C_getI (D := mdX8_isName) (pc' := 4) (p := l0) f_X8_37 rfl dX8_isName_1 rfl (fun token1 => ?_)
  refine C_iconst (D := mdX8_isName) (pc' := 5) (v := 1) dX8_isName_4 rfl (by decide) ?_
  refine C_icmp_ne (D := mdX8_isName) (pc' := 8) (tgt := 28) dX8_isName_5 (by decide) rfl ?_ ?_
  · refine C_iconst (D := mdX8_isName) (pc' := 29) (v := 0) dX8_isName_28 rfl (by decide) ?_
    exact C_zret rfl dX8_isName_29
  · refine C_aload_n (D := mdX8_isName) (pc' := 9) (x := kB C + l0) dX8_isName_8 rfl 0 rfl ?_
    refine C_getI (D := mdX8_isName) (pc' := 12) (p := l0) f_X8_44 rfl dX8_isName_9 rfl (fun size2 => ?_)
    refine C_iconst (D := mdX8_isName) (pc' := 13) (v := 1) dX8_isName_12 rfl (by decide) ?_
    refine C_icmp_ne (D := mdX8_isName) (pc' := 16) (tgt := 28) dX8_isName_13 (by decide) rfl ?_ ?_
    · refine C_iconst (D := mdX8_isName) (pc' := 29) (v := 0) dX8_isName_28 rfl (by decide) ?_
      exact C_zret rfl dX8_isName_29
    · refine C_aload_n (D := mdX8_isName) (pc' := 17) (x := kB C + l0) dX8_isName_16 rfl 0 rfl ?_
      refine C_getI (D := mdX8_isName) (pc' := 20) (p := l0) f_X8_30 rfl dX8_isName_17 rfl (fun value3 => ?_)
      refine C_iload_n (D := mdX8_isName) (pc' := 21) (x := l1) dX8_isName_20 rfl 1 rfl ?_
      refine C_icmp_ne (D := mdX8_isName) (pc' := 24) (tgt := 28) dX8_isName_21 (by decide) rfl ?_ ?_
      · refine C_iconst (D := mdX8_isName) (pc' := 29) (v := 0) dX8_isName_28 rfl (by decide) ?_
        exact C_zret rfl dX8_isName_29
      · refine C_iconst (D := mdX8_isName) (pc' := 25) (v := 1) dX8_isName_24 rfl (by decide) ?_
        refine C_goto (D := mdX8_isName) (pc' := 29) dX8_isName_25 (by decide) ?_
        exact C_zret rfl dX8_isName_29

-- StandingQueriesModel.parts([II)I
theorem dX8_parts_0 : decode cX8_parts 0 = .ok (.aload_n 0, 1) := by decide +kernel
theorem dX8_parts_1 : decode cX8_parts 1 = .ok (.bipush 42, 2) := by decide +kernel
theorem dX8_parts_3 : decode cX8_parts 3 = .ok (.bipush 17, 2) := by decide +kernel
theorem dX8_parts_5 : decode cX8_parts 5 = .ok (.iload_n 1, 1) := by decide +kernel
theorem dX8_parts_6 : decode cX8_parts 6 = .ok (.imul, 1) := by decide +kernel
theorem dX8_parts_7 : decode cX8_parts 7 = .ok (.iadd, 1) := by decide +kernel
theorem dX8_parts_8 : decode cX8_parts 8 = .ok (.iaload, 1) := by decide +kernel
theorem dX8_parts_9 : decode cX8_parts 9 = .ok (.ireturn, 1) := by decide +kernel
abbrev mdX8_parts : MD := (cX8_parts, RX8, 2, (some .int), yX8_parts.name, 0, 0, eT)
set_option maxHeartbeats 2000000 in
set_option maxRecDepth 20000 in
theorem i_X8_parts (C : KX) (l0 : Nat) (l1 : Int32) : Imp C yX8_parts cX8_parts 2 (some .int) 0 0 rvI [.ref (kB C + l0), .int l1] (m_X8_parts l0 l1) := by
  refine Imp.of (by decide) (Nat.le_of_ble_eq_true rfl) [(0, .ref (kB C + l0)), (1, .int l1)] rfl ?_
  show Cmp C mdX8_parts (QM rvI) 0 [(0, .ref (kB C + l0)), (1, .int l1)] [] (m_X8_parts l0 l1)
  unfold m_X8_parts
  refine C_aload_n (D := mdX8_parts) (pc' := 1) (x := kB C + l0) dX8_parts_0 rfl 0 rfl ?_
  refine C_bipush (D := mdX8_parts) (pc' := 3) (v := 42) dX8_parts_1 rfl (by decide) ?_
  refine C_bipush (D := mdX8_parts) (pc' := 5) (v := 17) dX8_parts_3 rfl (by decide) ?_
  refine C_iload_n (D := mdX8_parts) (pc' := 6) (x := l1) dX8_parts_5 rfl 1 rfl ?_
  refine C_imul (D := mdX8_parts) (pc' := 7) dX8_parts_6 rfl ?_
  refine C_iadd (D := mdX8_parts) (pc' := 8) dX8_parts_7 rfl ?_
  refine C_aI (D := mdX8_parts) (pc' := 9) (p := l0) dX8_parts_8 rfl (fun x1 => ?_)
  exact C_iret rfl dX8_parts_9

-- StandingQueriesModel.of([IIII)I
theorem dX8_of_0 : decode cX8_of 0 = .ok (.aload_n 0, 1) := by decide +kernel
theorem dX8_of_1 : decode cX8_of 1 = .ok (.bipush 42, 2) := by decide +kernel
theorem dX8_of_3 : decode cX8_of 3 = .ok (.bipush 17, 2) := by decide +kernel
theorem dX8_of_5 : decode cX8_of 5 = .ok (.iload_n 1, 1) := by decide +kernel
theorem dX8_of_6 : decode cX8_of 6 = .ok (.imul, 1) := by decide +kernel
theorem dX8_of_7 : decode cX8_of 7 = .ok (.iadd, 1) := by decide +kernel
theorem dX8_of_8 : decode cX8_of 8 = .ok (.iconst 1, 1) := by decide +kernel
theorem dX8_of_9 : decode cX8_of 9 = .ok (.iadd, 1) := by decide +kernel
theorem dX8_of_10 : decode cX8_of 10 = .ok (.iconst 4, 1) := by decide +kernel
theorem dX8_of_11 : decode cX8_of 11 = .ok (.iload_n 2, 1) := by decide +kernel
theorem dX8_of_12 : decode cX8_of 12 = .ok (.imul, 1) := by decide +kernel
theorem dX8_of_13 : decode cX8_of 13 = .ok (.iadd, 1) := by decide +kernel
theorem dX8_of_14 : decode cX8_of 14 = .ok (.iload_n 3, 1) := by decide +kernel
theorem dX8_of_15 : decode cX8_of 15 = .ok (.iadd, 1) := by decide +kernel
theorem dX8_of_16 : decode cX8_of 16 = .ok (.iaload, 1) := by decide +kernel
theorem dX8_of_17 : decode cX8_of 17 = .ok (.ireturn, 1) := by decide +kernel
abbrev mdX8_of : MD := (cX8_of, RX8, 4, (some .int), yX8_of.name, 0, 0, eT)
set_option maxHeartbeats 2000000 in
set_option maxRecDepth 20000 in
theorem i_X8_of (C : KX) (l0 : Nat) (l1 : Int32) (l2 : Int32) (l3 : Int32) : Imp C yX8_of cX8_of 4 (some .int) 0 0 rvI [.ref (kB C + l0), .int l1, .int l2, .int l3] (m_X8_of l0 l1 l2 l3) := by
  refine Imp.of (by decide) (Nat.le_of_ble_eq_true rfl) [(0, .ref (kB C + l0)), (1, .int l1), (2, .int l2), (3, .int l3)] rfl ?_
  show Cmp C mdX8_of (QM rvI) 0 [(0, .ref (kB C + l0)), (1, .int l1), (2, .int l2), (3, .int l3)] [] (m_X8_of l0 l1 l2 l3)
  unfold m_X8_of
  refine C_aload_n (D := mdX8_of) (pc' := 1) (x := kB C + l0) dX8_of_0 rfl 0 rfl ?_
  refine C_bipush (D := mdX8_of) (pc' := 3) (v := 42) dX8_of_1 rfl (by decide) ?_
  refine C_bipush (D := mdX8_of) (pc' := 5) (v := 17) dX8_of_3 rfl (by decide) ?_
  refine C_iload_n (D := mdX8_of) (pc' := 6) (x := l1) dX8_of_5 rfl 1 rfl ?_
  refine C_imul (D := mdX8_of) (pc' := 7) dX8_of_6 rfl ?_
  refine C_iadd (D := mdX8_of) (pc' := 8) dX8_of_7 rfl ?_
  refine C_iconst (D := mdX8_of) (pc' := 9) (v := 1) dX8_of_8 rfl (by decide) ?_
  refine C_iadd (D := mdX8_of) (pc' := 10) dX8_of_9 rfl ?_
  refine C_iconst (D := mdX8_of) (pc' := 11) (v := 4) dX8_of_10 rfl (by decide) ?_
  refine C_iload_n (D := mdX8_of) (pc' := 12) (x := l2) dX8_of_11 rfl 2 rfl ?_
  refine C_imul (D := mdX8_of) (pc' := 13) dX8_of_12 rfl ?_
  refine C_iadd (D := mdX8_of) (pc' := 14) dX8_of_13 rfl ?_
  refine C_iload_n (D := mdX8_of) (pc' := 15) (x := l3) dX8_of_14 rfl 3 rfl ?_
  refine C_iadd (D := mdX8_of) (pc' := 16) dX8_of_15 rfl ?_
  refine C_aI (D := mdX8_of) (pc' := 17) (p := l0) dX8_of_16 rfl (fun x1 => ?_)
  exact C_iret rfl dX8_of_17

-- StandingQueriesModel.copyAll([I[I)V
theorem dX8_copyAll_0 : decode cX8_copyAll 0 = .ok (.iconst 0, 1) := by decide +kernel
theorem dX8_copyAll_1 : decode cX8_copyAll 1 = .ok (.istore_n 2, 1) := by decide +kernel
theorem dX8_copyAll_2 : decode cX8_copyAll 2 = .ok (.iload_n 2, 1) := by decide +kernel
theorem dX8_copyAll_3 : decode cX8_copyAll 3 = .ok (.sipush 178, 3) := by decide +kernel
theorem dX8_copyAll_6 : decode cX8_copyAll 6 = .ok (.if_icmp .ge 15, 3) := by decide +kernel
theorem dX8_copyAll_9 : decode cX8_copyAll 9 = .ok (.aload_n 1, 1) := by decide +kernel
theorem dX8_copyAll_10 : decode cX8_copyAll 10 = .ok (.iload_n 2, 1) := by decide +kernel
theorem dX8_copyAll_11 : decode cX8_copyAll 11 = .ok (.aload_n 0, 1) := by decide +kernel
theorem dX8_copyAll_12 : decode cX8_copyAll 12 = .ok (.iload_n 2, 1) := by decide +kernel
theorem dX8_copyAll_13 : decode cX8_copyAll 13 = .ok (.iaload, 1) := by decide +kernel
theorem dX8_copyAll_14 : decode cX8_copyAll 14 = .ok (.iastore, 1) := by decide +kernel
theorem dX8_copyAll_15 : decode cX8_copyAll 15 = .ok (.iinc 2 1, 3) := by decide +kernel
theorem dX8_copyAll_18 : decode cX8_copyAll 18 = .ok (.goto (-16), 3) := by decide +kernel
theorem dX8_copyAll_21 : decode cX8_copyAll 21 = .ok (.return_, 1) := by decide +kernel
abbrev mdX8_copyAll : MD := (cX8_copyAll, RX8, 3, none, yX8_copyAll.name, 0, 0, eT)
set_option maxHeartbeats 2000000 in
set_option maxRecDepth 20000 in
theorem p_X8_copyAll_B2 (C : KX) (l0 : Nat) (l1 : Nat)  (k2 : Int32 → Mo Unit) (hk2 : ∀ s, Cmp C mdX8_copyAll (QM rvV) 2 [(0, .ref (kB C + l0)), (1, .ref (kB C + l1)), (2, .int s)] [] (k2 s)) (l2 : Int32) : Cmp C mdX8_copyAll (QM rvV) 2 [(0, .ref (kB C + l0)), (1, .ref (kB C + l1)), (2, .int l2)] [] (m_X8_copyAll_B2 l0 l1 k2 l2) := by
  unfold m_X8_copyAll_B2
  refine C_iload_n (D := mdX8_copyAll) (pc' := 3) (x := l2) dX8_copyAll_2 rfl 2 rfl ?_
  refine C_sipush (D := mdX8_copyAll) (pc' := 6) (v := 178) dX8_copyAll_3 rfl (by decide) ?_
  refine C_icmp_ge (D := mdX8_copyAll) (pc' := 9) (tgt := 21) dX8_copyAll_6 (by decide) rfl ?_ ?_
  · exact C_vret rfl dX8_copyAll_21
  · refine C_aload_n (D := mdX8_copyAll) (pc' := 10) (x := kB C + l1) dX8_copyAll_9 rfl 1 rfl ?_
    refine C_iload_n (D := mdX8_copyAll) (pc' := 11) (x := l2) dX8_copyAll_10 rfl 2 rfl ?_
    refine C_aload_n (D := mdX8_copyAll) (pc' := 12) (x := kB C + l0) dX8_copyAll_11 rfl 0 rfl ?_
    refine C_iload_n (D := mdX8_copyAll) (pc' := 13) (x := l2) dX8_copyAll_12 rfl 2 rfl ?_
    refine C_aI (D := mdX8_copyAll) (pc' := 14) (p := l0) dX8_copyAll_13 rfl (fun x1 => ?_)
    refine C_tI (D := mdX8_copyAll) (pc' := 15) (p := l1) dX8_copyAll_14 rfl ?_
    refine C_iinc (D := mdX8_copyAll) (pc' := 18) (j := 2) (v := (l2 + 1)) (ls' := [(2, .int (l2 + 1)), (0, .ref (kB C + l0)), (1, .ref (kB C + l1))]) dX8_copyAll_15 rfl rfl rfl (by decide) rfl ?_
    refine C_goto (D := mdX8_copyAll) (pc' := 2) dX8_copyAll_18 (by decide) ?_
    exact C_sub [1, 2, 0] rfl (hk2 ((l2 + 1)))
set_option maxHeartbeats 2000000 in
set_option maxRecDepth 20000 in
theorem i_X8_copyAll (C : KX) (l0 : Nat) (l1 : Nat) : Imp C yX8_copyAll cX8_copyAll 3 none 0 0 rvV [.ref (kB C + l0), .ref (kB C + l1)] (m_X8_copyAll l0 l1) := by
  refine Imp.of (by decide) (Nat.le_of_ble_eq_true rfl) [(0, .ref (kB C + l0)), (1, .ref (kB C + l1))] rfl ?_
  show Cmp C mdX8_copyAll (QM rvV) 0 [(0, .ref (kB C + l0)), (1, .ref (kB C + l1))] [] (m_X8_copyAll l0 l1)
  unfold m_X8_copyAll
  refine C_iconst (D := mdX8_copyAll) (pc' := 1) (v := 0) dX8_copyAll_0 rfl (by decide) ?_
  refine C_istore_n (D := mdX8_copyAll) (pc' := 2) (ls' := [(2, .int 0), (0, .ref (kB C + l0)), (1, .ref (kB C + l1))]) dX8_copyAll_1 rfl rfl (by decide) rfl ?_
  exact C_sub [1, 2, 0] rfl (C_loop (fun s => [(0, .ref (kB C + l0)), (1, .ref (kB C + l1)), (2, .int s)]) (fun k hk s => p_X8_copyAll_B2 C l0 l1  k hk s) FU 0)

-- StandingQueriesModel.letterOf(II)I
theorem dX8_letterOf_0 : decode cX8_letterOf 0 = .ok (.iload_n 0, 1) := by decide +kernel
theorem dX8_letterOf_1 : decode cX8_letterOf 1 = .ok (.iconst 3, 1) := by decide +kernel
theorem dX8_letterOf_2 : decode cX8_letterOf 2 = .ok (.iload_n 0, 1) := by decide +kernel
theorem dX8_letterOf_3 : decode cX8_letterOf 3 = .ok (.ldc 47, 2) := by decide +kernel
theorem dX8_letterOf_5 : decode cX8_letterOf 5 = .ok (.idiv, 1) := by decide +kernel
theorem dX8_letterOf_6 : decode cX8_letterOf 6 = .ok (.iconst 1, 1) := by decide +kernel
theorem dX8_letterOf_7 : decode cX8_letterOf 7 = .ok (.isub, 1) := by decide +kernel
theorem dX8_letterOf_8 : decode cX8_letterOf 8 = .ok (.iload_n 1, 1) := by decide +kernel
theorem dX8_letterOf_9 : decode cX8_letterOf 9 = .ok (.isub, 1) := by decide +kernel
theorem dX8_letterOf_10 : decode cX8_letterOf 10 = .ok (.imul, 1) := by decide +kernel
theorem dX8_letterOf_11 : decode cX8_letterOf 11 = .ok (.ishr, 1) := by decide +kernel
theorem dX8_letterOf_12 : decode cX8_letterOf 12 = .ok (.bipush 7, 2) := by decide +kernel
theorem dX8_letterOf_14 : decode cX8_letterOf 14 = .ok (.iand, 1) := by decide +kernel
theorem dX8_letterOf_15 : decode cX8_letterOf 15 = .ok (.ireturn, 1) := by decide +kernel
abbrev mdX8_letterOf : MD := (cX8_letterOf, RX8, 2, (some .int), yX8_letterOf.name, 0, 0, eT)
set_option maxHeartbeats 2000000 in
set_option maxRecDepth 20000 in
theorem i_X8_letterOf (C : KX) (l0 : Int32) (l1 : Int32) : Imp C yX8_letterOf cX8_letterOf 2 (some .int) 0 0 rvI [.int l0, .int l1] (m_X8_letterOf l0 l1) := by
  refine Imp.of (by decide) (Nat.le_of_ble_eq_true rfl) [(0, .int l0), (1, .int l1)] rfl ?_
  show Cmp C mdX8_letterOf (QM rvI) 0 [(0, .int l0), (1, .int l1)] [] (m_X8_letterOf l0 l1)
  unfold m_X8_letterOf
  refine C_iload_n (D := mdX8_letterOf) (pc' := 1) (x := l0) dX8_letterOf_0 rfl 0 rfl ?_
  refine C_iconst (D := mdX8_letterOf) (pc' := 2) (v := 3) dX8_letterOf_1 rfl (by decide) ?_
  refine C_iload_n (D := mdX8_letterOf) (pc' := 3) (x := l0) dX8_letterOf_2 rfl 0 rfl ?_
  refine C_ldc (D := mdX8_letterOf) (pc' := 5) (v := 1048576) c_X8_47 dX8_letterOf_3 rfl ?_
  refine C_idiv (D := mdX8_letterOf) (pc' := 6) dX8_letterOf_5 rfl (by decide) ?_
  refine C_iconst (D := mdX8_letterOf) (pc' := 7) (v := 1) dX8_letterOf_6 rfl (by decide) ?_
  refine C_isub (D := mdX8_letterOf) (pc' := 8) dX8_letterOf_7 rfl ?_
  refine C_iload_n (D := mdX8_letterOf) (pc' := 9) (x := l1) dX8_letterOf_8 rfl 1 rfl ?_
  refine C_isub (D := mdX8_letterOf) (pc' := 10) dX8_letterOf_9 rfl ?_
  refine C_imul (D := mdX8_letterOf) (pc' := 11) dX8_letterOf_10 rfl ?_
  refine C_ishr (D := mdX8_letterOf) (pc' := 12) dX8_letterOf_11 rfl ?_
  refine C_bipush (D := mdX8_letterOf) (pc' := 14) (v := 7) dX8_letterOf_12 rfl (by decide) ?_
  refine C_iand (D := mdX8_letterOf) (pc' := 15) dX8_letterOf_14 rfl ?_
  exact C_iret rfl dX8_letterOf_15

-- StandingQueriesModel.order(II)I
theorem dX8_order_0 : decode cX8_order 0 = .ok (.iload_n 0, 1) := by decide +kernel
theorem dX8_order_1 : decode cX8_order 1 = .ok (.ldc 47, 2) := by decide +kernel
theorem dX8_order_3 : decode cX8_order 3 = .ok (.idiv, 1) := by decide +kernel
theorem dX8_order_4 : decode cX8_order 4 = .ok (.istore_n 2, 1) := by decide +kernel
theorem dX8_order_5 : decode cX8_order 5 = .ok (.iload_n 1, 1) := by decide +kernel
theorem dX8_order_6 : decode cX8_order 6 = .ok (.ldc 47, 2) := by decide +kernel
theorem dX8_order_8 : decode cX8_order 8 = .ok (.idiv, 1) := by decide +kernel
theorem dX8_order_9 : decode cX8_order 9 = .ok (.istore_n 3, 1) := by decide +kernel
theorem dX8_order_10 : decode cX8_order 10 = .ok (.iconst 0, 1) := by decide +kernel
theorem dX8_order_11 : decode cX8_order 11 = .ok (.istore 4, 2) := by decide +kernel
theorem dX8_order_13 : decode cX8_order 13 = .ok (.iload 4, 2) := by decide +kernel
theorem dX8_order_15 : decode cX8_order 15 = .ok (.iload_n 2, 1) := by decide +kernel
theorem dX8_order_16 : decode cX8_order 16 = .ok (.if_icmp .ge 38, 3) := by decide +kernel
theorem dX8_order_19 : decode cX8_order 19 = .ok (.iload 4, 2) := by decide +kernel
theorem dX8_order_21 : decode cX8_order 21 = .ok (.iload_n 3, 1) := by decide +kernel
theorem dX8_order_22 : decode cX8_order 22 = .ok (.if_icmp .ge 32, 3) := by decide +kernel
theorem dX8_order_25 : decode cX8_order 25 = .ok (.iload_n 0, 1) := by decide +kernel
theorem dX8_order_26 : decode cX8_order 26 = .ok (.iload 4, 2) := by decide +kernel
theorem dX8_order_28 : decode cX8_order 28 = .ok (.invokestatic 48, 3) := by decide +kernel
theorem dX8_order_31 : decode cX8_order 31 = .ok (.iload_n 1, 1) := by decide +kernel
theorem dX8_order_32 : decode cX8_order 32 = .ok (.iload 4, 2) := by decide +kernel
theorem dX8_order_34 : decode cX8_order 34 = .ok (.invokestatic 48, 3) := by decide +kernel
theorem dX8_order_37 : decode cX8_order 37 = .ok (.isub, 1) := by decide +kernel
theorem dX8_order_38 : decode cX8_order 38 = .ok (.istore 5, 2) := by decide +kernel
theorem dX8_order_40 : decode cX8_order 40 = .ok (.iload 5, 2) := by decide +kernel
theorem dX8_order_42 : decode cX8_order 42 = .ok (.ifCond .eq 6, 3) := by decide +kernel
theorem dX8_order_45 : decode cX8_order 45 = .ok (.iload 5, 2) := by decide +kernel
theorem dX8_order_47 : decode cX8_order 47 = .ok (.ireturn, 1) := by decide +kernel
theorem dX8_order_48 : decode cX8_order 48 = .ok (.iinc 4 1, 3) := by decide +kernel
theorem dX8_order_51 : decode cX8_order 51 = .ok (.goto (-38), 3) := by decide +kernel
theorem dX8_order_54 : decode cX8_order 54 = .ok (.iload_n 2, 1) := by decide +kernel
theorem dX8_order_55 : decode cX8_order 55 = .ok (.iload_n 3, 1) := by decide +kernel
theorem dX8_order_56 : decode cX8_order 56 = .ok (.isub, 1) := by decide +kernel
theorem dX8_order_57 : decode cX8_order 57 = .ok (.ireturn, 1) := by decide +kernel
abbrev mdX8_order : MD := (cX8_order, RX8, 6, (some .int), yX8_order.name, 1, 21, eT)
set_option maxHeartbeats 2000000 in
set_option maxRecDepth 20000 in
theorem p_X8_order_J54 (C : KX) (l2 : Int32) (l3 : Int32)  : Cmp C mdX8_order (QM rvI) 54 [(2, .int l2), (3, .int l3)] [] (m_X8_order_J54 l2 l3) := by
  unfold m_X8_order_J54
  refine C_iload_n (D := mdX8_order) (pc' := 55) (x := l2) dX8_order_54 rfl 0 rfl ?_
  refine C_iload_n (D := mdX8_order) (pc' := 56) (x := l3) dX8_order_55 rfl 1 rfl ?_
  refine C_isub (D := mdX8_order) (pc' := 57) dX8_order_56 rfl ?_
  exact C_iret rfl dX8_order_57
set_option maxHeartbeats 2000000 in
set_option maxRecDepth 20000 in
theorem p_X8_order_B13 (C : KX) (l0 : Int32) (l1 : Int32) (l2 : Int32) (l3 : Int32)  (k13 : Int32 → Mo Int32) (hk13 : ∀ s, Cmp C mdX8_order (QM rvI) 13 [(0, .int l0), (1, .int l1), (2, .int l2), (3, .int l3), (4, .int s)] [] (k13 s)) (l4 : Int32) : Cmp C mdX8_order (QM rvI) 13 [(0, .int l0), (1, .int l1), (2, .int l2), (3, .int l3), (4, .int l4)] [] (m_X8_order_B13 l0 l1 l2 l3 k13 l4) := by
  unfold m_X8_order_B13
  refine C_iload (D := mdX8_order) (pc' := 15) (x := l4) dX8_order_13 rfl 4 rfl ?_
  refine C_iload_n (D := mdX8_order) (pc' := 16) (x := l2) dX8_order_15 rfl 2 rfl ?_
  refine C_icmp_ge (D := mdX8_order) (pc' := 19) (tgt := 54) dX8_order_16 (by decide) rfl ?_ ?_
  · exact C_sub [2, 3] rfl (p_X8_order_J54 C l2 l3)
  · refine C_iload (D := mdX8_order) (pc' := 21) (x := l4) dX8_order_19 rfl 4 rfl ?_
    refine C_iload_n (D := mdX8_order) (pc' := 22) (x := l3) dX8_order_21 rfl 3 rfl ?_
    refine C_icmp_ge (D := mdX8_order) (pc' := 25) (tgt := 54) dX8_order_22 (by decide) rfl ?_ ?_
    · exact C_sub [2, 3] rfl (p_X8_order_J54 C l2 l3)
    · refine C_iload_n (D := mdX8_order) (pc' := 26) (x := l0) dX8_order_25 rfl 0 rfl ?_
      refine C_iload (D := mdX8_order) (pc' := 28) (x := l4) dX8_order_26 rfl 4 rfl ?_
      refine C_callS (D := mdX8_order) (pc' := 31) (st := []) [.int l0, .int l4] s_X8_48 (i_X8_letterOf C l0 l4) dX8_order_28 rfl rfl rfl (Nat.le_of_ble_eq_true rfl) (by decide) (by decide) (fun c3 => ?_)
      refine C_iload_n (D := mdX8_order) (pc' := 32) (x := l1) dX8_order_31 rfl 1 rfl ?_
      refine C_iload (D := mdX8_order) (pc' := 34) (x := l4) dX8_order_32 rfl 4 rfl ?_
      refine C_callS (D := mdX8_order) (pc' := 37) (st := [.int c3]) [.int l1, .int l4] s_X8_48 (i_X8_letterOf C l1 l4) dX8_order_34 rfl rfl rfl (Nat.le_of_ble_eq_true rfl) (by decide) (by decide) (fun c4 => ?_)
      refine C_isub (D := mdX8_order) (pc' := 38) dX8_order_37 rfl ?_
      refine C_letI (fun v5 => ?_)
      refine C_istore (D := mdX8_order) (pc' := 40) (ls' := [(5, .int v5), (0, .int l0), (1, .int l1), (2, .int l2), (3, .int l3), (4, .int l4)]) dX8_order_38 rfl (by decide) rfl ?_
      refine C_iload (D := mdX8_order) (pc' := 42) (x := v5) dX8_order_40 rfl 0 rfl ?_
      refine C_if_eq (D := mdX8_order) (pc' := 45) (tgt := 48) dX8_order_42 (by decide) rfl ?_ ?_
      · refine C_iinc (D := mdX8_order) (pc' := 51) (j := 5) (v := (l4 + 1)) (ls' := [(4, .int (l4 + 1)), (5, .int v5), (0, .int l0), (1, .int l1), (2, .int l2), (3, .int l3)]) dX8_order_48 rfl rfl rfl (by decide) rfl ?_
        refine C_goto (D := mdX8_order) (pc' := 13) dX8_order_51 (by decide) ?_
        exact C_sub [2, 3, 4, 5, 0] rfl (hk13 ((l4 + 1)))
      · refine C_iload (D := mdX8_order) (pc' := 47) (x := v5) dX8_order_45 rfl 0 rfl ?_
        exact C_iret rfl dX8_order_47
set_option maxHeartbeats 2000000 in
set_option maxRecDepth 20000 in
theorem i_X8_order (C : KX) (l0 : Int32) (l1 : Int32) : Imp C yX8_order cX8_order 6 (some .int) 1 21 rvI [.int l0, .int l1] (m_X8_order l0 l1) := by
  refine Imp.of (by decide) (Nat.le_of_ble_eq_true rfl) [(0, .int l0), (1, .int l1)] rfl ?_
  show Cmp C mdX8_order (QM rvI) 0 [(0, .int l0), (1, .int l1)] [] (m_X8_order l0 l1)
  unfold m_X8_order
  refine C_iload_n (D := mdX8_order) (pc' := 1) (x := l0) dX8_order_0 rfl 0 rfl ?_
  refine C_ldc (D := mdX8_order) (pc' := 3) (v := 1048576) c_X8_47 dX8_order_1 rfl ?_
  refine C_idiv (D := mdX8_order) (pc' := 4) dX8_order_3 rfl (by decide) ?_
  refine C_letI (fun v1 => ?_)
  refine C_istore_n (D := mdX8_order) (pc' := 5) (ls' := [(2, .int v1), (0, .int l0), (1, .int l1)]) dX8_order_4 rfl rfl (by decide) rfl ?_
  refine C_iload_n (D := mdX8_order) (pc' := 6) (x := l1) dX8_order_5 rfl 2 rfl ?_
  refine C_ldc (D := mdX8_order) (pc' := 8) (v := 1048576) c_X8_47 dX8_order_6 rfl ?_
  refine C_idiv (D := mdX8_order) (pc' := 9) dX8_order_8 rfl (by decide) ?_
  refine C_letI (fun v2 => ?_)
  refine C_istore_n (D := mdX8_order) (pc' := 10) (ls' := [(3, .int v2), (2, .int v1), (0, .int l0), (1, .int l1)]) dX8_order_9 rfl rfl (by decide) rfl ?_
  refine C_iconst (D := mdX8_order) (pc' := 11) (v := 0) dX8_order_10 rfl (by decide) ?_
  refine C_istore (D := mdX8_order) (pc' := 13) (ls' := [(4, .int 0), (3, .int v2), (2, .int v1), (0, .int l0), (1, .int l1)]) dX8_order_11 rfl (by decide) rfl ?_
  exact C_sub [3, 4, 2, 1, 0] rfl (C_loop (fun s => [(0, .int l0), (1, .int l1), (2, .int v1), (3, .int v2), (4, .int s)]) (fun k hk s => p_X8_order_B13 C l0 l1 v1 v2  k hk s) FU 0)

-- StandingQueriesModel.addWord(I)V
theorem dX8_addWord_0 : decode cX8_addWord 0 = .ok (.iconst 0, 1) := by decide +kernel
theorem dX8_addWord_1 : decode cX8_addWord 1 = .ok (.istore_n 2, 1) := by decide +kernel
theorem dX8_addWord_2 : decode cX8_addWord 2 = .ok (.iload_n 2, 1) := by decide +kernel
theorem dX8_addWord_3 : decode cX8_addWord 3 = .ok (.aload_n 0, 1) := by decide +kernel
theorem dX8_addWord_4 : decode cX8_addWord 4 = .ok (.getfield 52, 3) := by decide +kernel
theorem dX8_addWord_7 : decode cX8_addWord 7 = .ok (.if_icmp .ge 22, 3) := by decide +kernel
theorem dX8_addWord_10 : decode cX8_addWord 10 = .ok (.aload_n 0, 1) := by decide +kernel
theorem dX8_addWord_11 : decode cX8_addWord 11 = .ok (.getfield 55, 3) := by decide +kernel
theorem dX8_addWord_14 : decode cX8_addWord 14 = .ok (.iload_n 2, 1) := by decide +kernel
theorem dX8_addWord_15 : decode cX8_addWord 15 = .ok (.iaload, 1) := by decide +kernel
theorem dX8_addWord_16 : decode cX8_addWord 16 = .ok (.iload_n 1, 1) := by decide +kernel
theorem dX8_addWord_17 : decode cX8_addWord 17 = .ok (.invokestatic 58, 3) := by decide +kernel
theorem dX8_addWord_20 : decode cX8_addWord 20 = .ok (.ifCond .ge 9, 3) := by decide +kernel
theorem dX8_addWord_23 : decode cX8_addWord 23 = .ok (.iinc 2 1, 3) := by decide +kernel
theorem dX8_addWord_26 : decode cX8_addWord 26 = .ok (.goto (-24), 3) := by decide +kernel
theorem dX8_addWord_29 : decode cX8_addWord 29 = .ok (.iload_n 2, 1) := by decide +kernel
theorem dX8_addWord_30 : decode cX8_addWord 30 = .ok (.aload_n 0, 1) := by decide +kernel
theorem dX8_addWord_31 : decode cX8_addWord 31 = .ok (.getfield 52, 3) := by decide +kernel
theorem dX8_addWord_34 : decode cX8_addWord 34 = .ok (.if_icmp .ge 14, 3) := by decide +kernel
theorem dX8_addWord_37 : decode cX8_addWord 37 = .ok (.aload_n 0, 1) := by decide +kernel
theorem dX8_addWord_38 : decode cX8_addWord 38 = .ok (.getfield 55, 3) := by decide +kernel
theorem dX8_addWord_41 : decode cX8_addWord 41 = .ok (.iload_n 2, 1) := by decide +kernel
theorem dX8_addWord_42 : decode cX8_addWord 42 = .ok (.iaload, 1) := by decide +kernel
theorem dX8_addWord_43 : decode cX8_addWord 43 = .ok (.iload_n 1, 1) := by decide +kernel
theorem dX8_addWord_44 : decode cX8_addWord 44 = .ok (.if_icmp .ne 4, 3) := by decide +kernel
theorem dX8_addWord_47 : decode cX8_addWord 47 = .ok (.return_, 1) := by decide +kernel
theorem dX8_addWord_48 : decode cX8_addWord 48 = .ok (.aload_n 0, 1) := by decide +kernel
theorem dX8_addWord_49 : decode cX8_addWord 49 = .ok (.getfield 52, 3) := by decide +kernel
theorem dX8_addWord_52 : decode cX8_addWord 52 = .ok (.istore_n 3, 1) := by decide +kernel
theorem dX8_addWord_53 : decode cX8_addWord 53 = .ok (.iload_n 3, 1) := by decide +kernel
theorem dX8_addWord_54 : decode cX8_addWord 54 = .ok (.iload_n 2, 1) := by decide +kernel
theorem dX8_addWord_55 : decode cX8_addWord 55 = .ok (.if_icmp .le 23, 3) := by decide +kernel
theorem dX8_addWord_58 : decode cX8_addWord 58 = .ok (.aload_n 0, 1) := by decide +kernel
theorem dX8_addWord_59 : decode cX8_addWord 59 = .ok (.getfield 55, 3) := by decide +kernel
theorem dX8_addWord_62 : decode cX8_addWord 62 = .ok (.iload_n 3, 1) := by decide +kernel
theorem dX8_addWord_63 : decode cX8_addWord 63 = .ok (.aload_n 0, 1) := by decide +kernel
theorem dX8_addWord_64 : decode cX8_addWord 64 = .ok (.getfield 55, 3) := by decide +kernel
theorem dX8_addWord_67 : decode cX8_addWord 67 = .ok (.iload_n 3, 1) := by decide +kernel
theorem dX8_addWord_68 : decode cX8_addWord 68 = .ok (.iconst 1, 1) := by decide +kernel
theorem dX8_addWord_69 : decode cX8_addWord 69 = .ok (.isub, 1) := by decide +kernel
theorem dX8_addWord_70 : decode cX8_addWord 70 = .ok (.iaload, 1) := by decide +kernel
theorem dX8_addWord_71 : decode cX8_addWord 71 = .ok (.iastore, 1) := by decide +kernel
theorem dX8_addWord_72 : decode cX8_addWord 72 = .ok (.iinc 3 (-1), 3) := by decide +kernel
theorem dX8_addWord_75 : decode cX8_addWord 75 = .ok (.goto (-22), 3) := by decide +kernel
theorem dX8_addWord_78 : decode cX8_addWord 78 = .ok (.aload_n 0, 1) := by decide +kernel
theorem dX8_addWord_79 : decode cX8_addWord 79 = .ok (.getfield 55, 3) := by decide +kernel
theorem dX8_addWord_82 : decode cX8_addWord 82 = .ok (.iload_n 2, 1) := by decide +kernel
theorem dX8_addWord_83 : decode cX8_addWord 83 = .ok (.iload_n 1, 1) := by decide +kernel
theorem dX8_addWord_84 : decode cX8_addWord 84 = .ok (.iastore, 1) := by decide +kernel
theorem dX8_addWord_85 : decode cX8_addWord 85 = .ok (.aload_n 0, 1) := by decide +kernel
theorem dX8_addWord_86 : decode cX8_addWord 86 = .ok (.dup, 1) := by decide +kernel
theorem dX8_addWord_87 : decode cX8_addWord 87 = .ok (.getfield 52, 3) := by decide +kernel
theorem dX8_addWord_90 : decode cX8_addWord 90 = .ok (.iconst 1, 1) := by decide +kernel
theorem dX8_addWord_91 : decode cX8_addWord 91 = .ok (.iadd, 1) := by decide +kernel
theorem dX8_addWord_92 : decode cX8_addWord 92 = .ok (.putfield 52, 3) := by decide +kernel
theorem dX8_addWord_95 : decode cX8_addWord 95 = .ok (.return_, 1) := by decide +kernel
abbrev mdX8_addWord : MD := (cX8_addWord, RX8, 4, none, yX8_addWord.name, 2, 46, eT)
set_option maxHeartbeats 2000000 in
set_option maxRecDepth 20000 in
theorem p_X8_addWord_B53 (C : KX) (l0 : Nat) (l1 : Int32) (l2 : Int32)  (k53 : Int32 → Mo Unit) (hk53 : ∀ s, Cmp C mdX8_addWord (QM rvV) 53 [(0, .ref (kB C + l0)), (1, .int l1), (2, .int l2), (3, .int s)] [] (k53 s)) (l3 : Int32) : Cmp C mdX8_addWord (QM rvV) 53 [(0, .ref (kB C + l0)), (1, .int l1), (2, .int l2), (3, .int l3)] [] (m_X8_addWord_B53 l0 l1 l2 k53 l3) := by
  unfold m_X8_addWord_B53
  refine C_iload_n (D := mdX8_addWord) (pc' := 54) (x := l3) dX8_addWord_53 rfl 3 rfl ?_
  refine C_iload_n (D := mdX8_addWord) (pc' := 55) (x := l2) dX8_addWord_54 rfl 2 rfl ?_
  refine C_icmp_le (D := mdX8_addWord) (pc' := 58) (tgt := 78) dX8_addWord_55 (by decide) rfl ?_ ?_
  · refine C_aload_n (D := mdX8_addWord) (pc' := 79) (x := kB C + l0) dX8_addWord_78 rfl 0 rfl ?_
    refine C_getR (D := mdX8_addWord) (pc' := 82) (p := l0) f_X8_55 rfl dX8_addWord_79 rfl (fun words4 => ?_)
    refine C_iload_n (D := mdX8_addWord) (pc' := 83) (x := l2) dX8_addWord_82 rfl 2 rfl ?_
    refine C_iload_n (D := mdX8_addWord) (pc' := 84) (x := l1) dX8_addWord_83 rfl 1 rfl ?_
    refine C_tI (D := mdX8_addWord) (pc' := 85) (p := words4) dX8_addWord_84 rfl ?_
    refine C_aload_n (D := mdX8_addWord) (pc' := 86) (x := kB C + l0) dX8_addWord_85 rfl 0 rfl ?_
    refine C_dup (D := mdX8_addWord) (pc' := 87) dX8_addWord_86 rfl rfl ?_
    refine C_getI (D := mdX8_addWord) (pc' := 90) (p := l0) f_X8_52 rfl dX8_addWord_87 rfl (fun wordMany5 => ?_)
    refine C_iconst (D := mdX8_addWord) (pc' := 91) (v := 1) dX8_addWord_90 rfl (by decide) ?_
    refine C_iadd (D := mdX8_addWord) (pc' := 92) dX8_addWord_91 rfl ?_
    refine C_putI (D := mdX8_addWord) (pc' := 95) (p := l0) f_X8_52 rfl dX8_addWord_92 rfl ?_
    exact C_vret rfl dX8_addWord_95
  · refine C_aload_n (D := mdX8_addWord) (pc' := 59) (x := kB C + l0) dX8_addWord_58 rfl 0 rfl ?_
    refine C_getR (D := mdX8_addWord) (pc' := 62) (p := l0) f_X8_55 rfl dX8_addWord_59 rfl (fun words6 => ?_)
    refine C_iload_n (D := mdX8_addWord) (pc' := 63) (x := l3) dX8_addWord_62 rfl 3 rfl ?_
    refine C_aload_n (D := mdX8_addWord) (pc' := 64) (x := kB C + l0) dX8_addWord_63 rfl 0 rfl ?_
    refine C_getR (D := mdX8_addWord) (pc' := 67) (p := l0) f_X8_55 rfl dX8_addWord_64 rfl (fun words7 => ?_)
    refine C_iload_n (D := mdX8_addWord) (pc' := 68) (x := l3) dX8_addWord_67 rfl 3 rfl ?_
    refine C_iconst (D := mdX8_addWord) (pc' := 69) (v := 1) dX8_addWord_68 rfl (by decide) ?_
    refine C_isub (D := mdX8_addWord) (pc' := 70) dX8_addWord_69 rfl ?_
    refine C_aI (D := mdX8_addWord) (pc' := 71) (p := words7) dX8_addWord_70 rfl (fun x8 => ?_)
    refine C_tI (D := mdX8_addWord) (pc' := 72) (p := words6) dX8_addWord_71 rfl ?_
    refine C_iinc (D := mdX8_addWord) (pc' := 75) (j := 3) (v := (l3 + (-1))) (ls' := [(3, .int (l3 + (-1))), (0, .ref (kB C + l0)), (1, .int l1), (2, .int l2)]) dX8_addWord_72 rfl rfl rfl (by decide) rfl ?_
    refine C_goto (D := mdX8_addWord) (pc' := 53) dX8_addWord_75 (by decide) ?_
    exact C_sub [1, 2, 3, 0] rfl (hk53 ((l3 + (-1))))
set_option maxHeartbeats 2000000 in
set_option maxRecDepth 20000 in
theorem p_X8_addWord_J48 (C : KX) (l0 : Nat) (l1 : Int32) (l2 : Int32)  : Cmp C mdX8_addWord (QM rvV) 48 [(0, .ref (kB C + l0)), (1, .int l1), (2, .int l2)] [] (m_X8_addWord_J48 l0 l1 l2) := by
  unfold m_X8_addWord_J48
  refine C_aload_n (D := mdX8_addWord) (pc' := 49) (x := kB C + l0) dX8_addWord_48 rfl 0 rfl ?_
  refine C_getI (D := mdX8_addWord) (pc' := 52) (p := l0) f_X8_52 rfl dX8_addWord_49 rfl (fun wordMany3 => ?_)
  refine C_istore_n (D := mdX8_addWord) (pc' := 53) (ls' := [(3, .int wordMany3), (0, .ref (kB C + l0)), (1, .int l1), (2, .int l2)]) dX8_addWord_52 rfl rfl (by decide) rfl ?_
  exact C_sub [1, 2, 3, 0] rfl (C_loop (fun s => [(0, .ref (kB C + l0)), (1, .int l1), (2, .int l2), (3, .int s)]) (fun k hk s => p_X8_addWord_B53 C l0 l1 l2  k hk s) FU wordMany3)
set_option maxHeartbeats 2000000 in
set_option maxRecDepth 20000 in
theorem p_X8_addWord_J29 (C : KX) (l0 : Nat) (l1 : Int32) (l2 : Int32)  : Cmp C mdX8_addWord (QM rvV) 29 [(0, .ref (kB C + l0)), (1, .int l1), (2, .int l2)] [] (m_X8_addWord_J29 l0 l1 l2) := by
  unfold m_X8_addWord_J29
  refine C_iload_n (D := mdX8_addWord) (pc' := 30) (x := l2) dX8_addWord_29 rfl 2 rfl ?_
  refine C_aload_n (D := mdX8_addWord) (pc' := 31) (x := kB C + l0) dX8_addWord_30 rfl 0 rfl ?_
  refine C_getI (D := mdX8_addWord) (pc' := 34) (p := l0) f_X8_52 rfl dX8_addWord_31 rfl (fun wordMany2 => ?_)
  refine C_icmp_ge (D := mdX8_addWord) (pc' := 37) (tgt := 48) dX8_addWord_34 (by decide) rfl ?_ ?_
  · exact C_sub [0, 1, 2] rfl (p_X8_addWord_J48 C l0 l1 l2)
  · refine C_aload_n (D := mdX8_addWord) (pc' := 38) (x := kB C + l0) dX8_addWord_37 rfl 0 rfl ?_
    refine C_getR (D := mdX8_addWord) (pc' := 41) (p := l0) f_X8_55 rfl dX8_addWord_38 rfl (fun words9 => ?_)
    refine C_iload_n (D := mdX8_addWord) (pc' := 42) (x := l2) dX8_addWord_41 rfl 2 rfl ?_
    refine C_aI (D := mdX8_addWord) (pc' := 43) (p := words9) dX8_addWord_42 rfl (fun x10 => ?_)
    refine C_iload_n (D := mdX8_addWord) (pc' := 44) (x := l1) dX8_addWord_43 rfl 1 rfl ?_
    refine C_icmp_ne (D := mdX8_addWord) (pc' := 47) (tgt := 48) dX8_addWord_44 (by decide) rfl ?_ ?_
    · exact C_sub [0, 1, 2] rfl (p_X8_addWord_J48 C l0 l1 l2)
    · exact C_vret rfl dX8_addWord_47
set_option maxHeartbeats 2000000 in
set_option maxRecDepth 20000 in
theorem p_X8_addWord_B2 (C : KX) (l0 : Nat) (l1 : Int32)  (k2 : Int32 → Mo Unit) (hk2 : ∀ s, Cmp C mdX8_addWord (QM rvV) 2 [(0, .ref (kB C + l0)), (1, .int l1), (2, .int s)] [] (k2 s)) (l2 : Int32) : Cmp C mdX8_addWord (QM rvV) 2 [(0, .ref (kB C + l0)), (1, .int l1), (2, .int l2)] [] (m_X8_addWord_B2 l0 l1 k2 l2) := by
  unfold m_X8_addWord_B2
  refine C_iload_n (D := mdX8_addWord) (pc' := 3) (x := l2) dX8_addWord_2 rfl 2 rfl ?_
  refine C_aload_n (D := mdX8_addWord) (pc' := 4) (x := kB C + l0) dX8_addWord_3 rfl 0 rfl ?_
  refine C_getI (D := mdX8_addWord) (pc' := 7) (p := l0) f_X8_52 rfl dX8_addWord_4 rfl (fun wordMany1 => ?_)
  refine C_icmp_ge (D := mdX8_addWord) (pc' := 10) (tgt := 29) dX8_addWord_7 (by decide) rfl ?_ ?_
  · exact C_sub [0, 1, 2] rfl (p_X8_addWord_J29 C l0 l1 l2)
  · refine C_aload_n (D := mdX8_addWord) (pc' := 11) (x := kB C + l0) dX8_addWord_10 rfl 0 rfl ?_
    refine C_getR (D := mdX8_addWord) (pc' := 14) (p := l0) f_X8_55 rfl dX8_addWord_11 rfl (fun words11 => ?_)
    refine C_iload_n (D := mdX8_addWord) (pc' := 15) (x := l2) dX8_addWord_14 rfl 2 rfl ?_
    refine C_aI (D := mdX8_addWord) (pc' := 16) (p := words11) dX8_addWord_15 rfl (fun x12 => ?_)
    refine C_iload_n (D := mdX8_addWord) (pc' := 17) (x := l1) dX8_addWord_16 rfl 1 rfl ?_
    refine C_callS (D := mdX8_addWord) (pc' := 20) (st := []) [.int x12, .int l1] s_X8_58 (i_X8_order C x12 l1) dX8_addWord_17 rfl rfl rfl (Nat.le_of_ble_eq_true rfl) (by decide) (by decide) (fun c13 => ?_)
    refine C_if_ge (D := mdX8_addWord) (pc' := 23) (tgt := 29) dX8_addWord_20 (by decide) rfl ?_ ?_
    · exact C_sub [0, 1, 2] rfl (p_X8_addWord_J29 C l0 l1 l2)
    · refine C_iinc (D := mdX8_addWord) (pc' := 26) (j := 2) (v := (l2 + 1)) (ls' := [(2, .int (l2 + 1)), (0, .ref (kB C + l0)), (1, .int l1)]) dX8_addWord_23 rfl rfl rfl (by decide) rfl ?_
      refine C_goto (D := mdX8_addWord) (pc' := 2) dX8_addWord_26 (by decide) ?_
      exact C_sub [1, 2, 0] rfl (hk2 ((l2 + 1)))
set_option maxHeartbeats 2000000 in
set_option maxRecDepth 20000 in
theorem i_X8_addWord (C : KX) (l0 : Nat) (l1 : Int32) : Imp C yX8_addWord cX8_addWord 4 none 2 46 rvV [.ref (kB C + l0), .int l1] (m_X8_addWord l0 l1) := by
  refine Imp.of (by decide) (Nat.le_of_ble_eq_true rfl) [(0, .ref (kB C + l0)), (1, .int l1)] rfl ?_
  show Cmp C mdX8_addWord (QM rvV) 0 [(0, .ref (kB C + l0)), (1, .int l1)] [] (m_X8_addWord l0 l1)
  unfold m_X8_addWord
  refine C_iconst (D := mdX8_addWord) (pc' := 1) (v := 0) dX8_addWord_0 rfl (by decide) ?_
  refine C_istore_n (D := mdX8_addWord) (pc' := 2) (ls' := [(2, .int 0), (0, .ref (kB C + l0)), (1, .int l1)]) dX8_addWord_1 rfl rfl (by decide) rfl ?_
  exact C_sub [1, 2, 0] rfl (C_loop (fun s => [(0, .ref (kB C + l0)), (1, .int l1), (2, .int s)]) (fun k hk s => p_X8_addWord_B2 C l0 l1  k hk s) FU 0)

-- StandingQueriesModel.layWords([I)V
theorem dX8_layWords_0 : decode cX8_layWords 0 = .ok (.aload_n 0, 1) := by decide +kernel
theorem dX8_layWords_1 : decode cX8_layWords 1 = .ok (.iconst 0, 1) := by decide +kernel
theorem dX8_layWords_2 : decode cX8_layWords 2 = .ok (.putfield 52, 3) := by decide +kernel
theorem dX8_layWords_5 : decode cX8_layWords 5 = .ok (.iconst 0, 1) := by decide +kernel
theorem dX8_layWords_6 : decode cX8_layWords 6 = .ok (.istore_n 2, 1) := by decide +kernel
theorem dX8_layWords_7 : decode cX8_layWords 7 = .ok (.iload_n 2, 1) := by decide +kernel
theorem dX8_layWords_8 : decode cX8_layWords 8 = .ok (.aload_n 1, 1) := by decide +kernel
theorem dX8_layWords_9 : decode cX8_layWords 9 = .ok (.iconst 0, 1) := by decide +kernel
theorem dX8_layWords_10 : decode cX8_layWords 10 = .ok (.iaload, 1) := by decide +kernel
theorem dX8_layWords_11 : decode cX8_layWords 11 = .ok (.if_icmp .ge 59, 3) := by decide +kernel
theorem dX8_layWords_14 : decode cX8_layWords 14 = .ok (.iconst 0, 1) := by decide +kernel
theorem dX8_layWords_15 : decode cX8_layWords 15 = .ok (.istore_n 3, 1) := by decide +kernel
theorem dX8_layWords_16 : decode cX8_layWords 16 = .ok (.iload_n 3, 1) := by decide +kernel
theorem dX8_layWords_17 : decode cX8_layWords 17 = .ok (.aload_n 1, 1) := by decide +kernel
theorem dX8_layWords_18 : decode cX8_layWords 18 = .ok (.iload_n 2, 1) := by decide +kernel
theorem dX8_layWords_19 : decode cX8_layWords 19 = .ok (.invokestatic 61, 3) := by decide +kernel
theorem dX8_layWords_22 : decode cX8_layWords 22 = .ok (.if_icmp .ge 42, 3) := by decide +kernel
theorem dX8_layWords_25 : decode cX8_layWords 25 = .ok (.aload_n 0, 1) := by decide +kernel
theorem dX8_layWords_26 : decode cX8_layWords 26 = .ok (.aload_n 1, 1) := by decide +kernel
theorem dX8_layWords_27 : decode cX8_layWords 27 = .ok (.iload_n 2, 1) := by decide +kernel
theorem dX8_layWords_28 : decode cX8_layWords 28 = .ok (.iload_n 3, 1) := by decide +kernel
theorem dX8_layWords_29 : decode cX8_layWords 29 = .ok (.iconst 1, 1) := by decide +kernel
theorem dX8_layWords_30 : decode cX8_layWords 30 = .ok (.invokestatic 65, 3) := by decide +kernel
theorem dX8_layWords_33 : decode cX8_layWords 33 = .ok (.invokevirtual 69, 3) := by decide +kernel
theorem dX8_layWords_36 : decode cX8_layWords 36 = .ok (.aload_n 1, 1) := by decide +kernel
theorem dX8_layWords_37 : decode cX8_layWords 37 = .ok (.iload_n 2, 1) := by decide +kernel
theorem dX8_layWords_38 : decode cX8_layWords 38 = .ok (.iload_n 3, 1) := by decide +kernel
theorem dX8_layWords_39 : decode cX8_layWords 39 = .ok (.iconst 0, 1) := by decide +kernel
theorem dX8_layWords_40 : decode cX8_layWords 40 = .ok (.invokestatic 65, 3) := by decide +kernel
theorem dX8_layWords_43 : decode cX8_layWords 43 = .ok (.iconst 2, 1) := by decide +kernel
theorem dX8_layWords_44 : decode cX8_layWords 44 = .ok (.if_icmp .ne 14, 3) := by decide +kernel
theorem dX8_layWords_47 : decode cX8_layWords 47 = .ok (.aload_n 0, 1) := by decide +kernel
theorem dX8_layWords_48 : decode cX8_layWords 48 = .ok (.aload_n 1, 1) := by decide +kernel
theorem dX8_layWords_49 : decode cX8_layWords 49 = .ok (.iload_n 2, 1) := by decide +kernel
theorem dX8_layWords_50 : decode cX8_layWords 50 = .ok (.iload_n 3, 1) := by decide +kernel
theorem dX8_layWords_51 : decode cX8_layWords 51 = .ok (.iconst 2, 1) := by decide +kernel
theorem dX8_layWords_52 : decode cX8_layWords 52 = .ok (.invokestatic 65, 3) := by decide +kernel
theorem dX8_layWords_55 : decode cX8_layWords 55 = .ok (.invokevirtual 69, 3) := by decide +kernel
theorem dX8_layWords_58 : decode cX8_layWords 58 = .ok (.iinc 3 1, 3) := by decide +kernel
theorem dX8_layWords_61 : decode cX8_layWords 61 = .ok (.goto (-45), 3) := by decide +kernel
theorem dX8_layWords_64 : decode cX8_layWords 64 = .ok (.iinc 2 1, 3) := by decide +kernel
theorem dX8_layWords_67 : decode cX8_layWords 67 = .ok (.goto (-60), 3) := by decide +kernel
theorem dX8_layWords_70 : decode cX8_layWords 70 = .ok (.return_, 1) := by decide +kernel
abbrev mdX8_layWords : MD := (cX8_layWords, RX8, 4, none, yX8_layWords.name, 3, 69, eT)
set_option maxHeartbeats 2000000 in
set_option maxRecDepth 20000 in
theorem p_X8_layWords_J58 (C : KX) (l0 : Nat) (l1 : Nat) (l2 : Int32) (l3 : Int32) (k7 : Int32 → Mo Unit) (hk7 : ∀ s, Cmp C mdX8_layWords (QM rvV) 7 [(0, .ref (kB C + l0)), (1, .ref (kB C + l1)), (2, .int s)] [] (k7 s)) (k16 : Int32 → Mo Unit) (hk16 : ∀ s, Cmp C mdX8_layWords (QM rvV) 16 [(0, .ref (kB C + l0)), (1, .ref (kB C + l1)), (2, .int l2), (3, .int s)] [] (k16 s)) : Cmp C mdX8_layWords (QM rvV) 58 [(0, .ref (kB C + l0)), (1, .ref (kB C + l1)), (2, .int l2), (3, .int l3)] [] (m_X8_layWords_J58 l0 l1 l2 l3 k7 k16) := by
  unfold m_X8_layWords_J58
  refine C_iinc (D := mdX8_layWords) (pc' := 61) (j := 3) (v := (l3 + 1)) (ls' := [(3, .int (l3 + 1)), (0, .ref (kB C + l0)), (1, .ref (kB C + l1)), (2, .int l2)]) dX8_layWords_58 rfl rfl rfl (by decide) rfl ?_
  refine C_goto (D := mdX8_layWords) (pc' := 16) dX8_layWords_61 (by decide) ?_
  exact C_sub [1, 2, 3, 0] rfl (hk16 ((l3 + 1)))
set_option maxHeartbeats 2000000 in
set_option maxRecDepth 20000 in
theorem p_X8_layWords_B16 (C : KX) (l0 : Nat) (l1 : Nat) (l2 : Int32) (k7 : Int32 → Mo Unit) (hk7 : ∀ s, Cmp C mdX8_layWords (QM rvV) 7 [(0, .ref (kB C + l0)), (1, .ref (kB C + l1)), (2, .int s)] [] (k7 s)) (k16 : Int32 → Mo Unit) (hk16 : ∀ s, Cmp C mdX8_layWords (QM rvV) 16 [(0, .ref (kB C + l0)), (1, .ref (kB C + l1)), (2, .int l2), (3, .int s)] [] (k16 s)) (l3 : Int32) : Cmp C mdX8_layWords (QM rvV) 16 [(0, .ref (kB C + l0)), (1, .ref (kB C + l1)), (2, .int l2), (3, .int l3)] [] (m_X8_layWords_B16 l0 l1 l2 k7 k16 l3) := by
  unfold m_X8_layWords_B16
  refine C_iload_n (D := mdX8_layWords) (pc' := 17) (x := l3) dX8_layWords_16 rfl 3 rfl ?_
  refine C_aload_n (D := mdX8_layWords) (pc' := 18) (x := kB C + l1) dX8_layWords_17 rfl 1 rfl ?_
  refine C_iload_n (D := mdX8_layWords) (pc' := 19) (x := l2) dX8_layWords_18 rfl 2 rfl ?_
  refine C_callS (D := mdX8_layWords) (pc' := 22) (st := [.int l3]) [.ref (kB C + l1), .int l2] s_X8_61 (i_X8_parts C l1 l2) dX8_layWords_19 rfl rfl rfl (Nat.le_of_ble_eq_true rfl) (by decide) (by decide) (fun c2 => ?_)
  refine C_icmp_ge (D := mdX8_layWords) (pc' := 25) (tgt := 64) dX8_layWords_22 (by decide) rfl ?_ ?_
  · refine C_iinc (D := mdX8_layWords) (pc' := 67) (j := 2) (v := (l2 + 1)) (ls' := [(2, .int (l2 + 1)), (0, .ref (kB C + l0)), (1, .ref (kB C + l1)), (3, .int l3)]) dX8_layWords_64 rfl rfl rfl (by decide) rfl ?_
    refine C_goto (D := mdX8_layWords) (pc' := 7) dX8_layWords_67 (by decide) ?_
    exact C_sub [1, 2, 0] rfl (hk7 ((l2 + 1)))
  · refine C_aload_n (D := mdX8_layWords) (pc' := 26) (x := kB C + l0) dX8_layWords_25 rfl 0 rfl ?_
    refine C_aload_n (D := mdX8_layWords) (pc' := 27) (x := kB C + l1) dX8_layWords_26 rfl 1 rfl ?_
    refine C_iload_n (D := mdX8_layWords) (pc' := 28) (x := l2) dX8_layWords_27 rfl 2 rfl ?_
    refine C_iload_n (D := mdX8_layWords) (pc' := 29) (x := l3) dX8_layWords_28 rfl 3 rfl ?_
    refine C_iconst (D := mdX8_layWords) (pc' := 30) (v := 1) dX8_layWords_29 rfl (by decide) ?_
    refine C_callS (D := mdX8_layWords) (pc' := 33) (st := [.ref (kB C + l0)]) [.ref (kB C + l1), .int l2, .int l3, .int 1] s_X8_65 (i_X8_of C l1 l2 l3 1) dX8_layWords_30 rfl rfl rfl (Nat.le_of_ble_eq_true rfl) (by decide) (by decide) (fun c3 => ?_)
    refine C_callV (D := mdX8_layWords) (pc' := 36) (p := l0) (st := []) [.int c3] v_X8_69 (i_X8_addWord C l0 c3) dX8_layWords_33 rfl rfl rfl (Nat.le_of_ble_eq_true rfl) (by decide) (by decide) (fun _ => ?_)
    refine C_aload_n (D := mdX8_layWords) (pc' := 37) (x := kB C + l1) dX8_layWords_36 rfl 1 rfl ?_
    refine C_iload_n (D := mdX8_layWords) (pc' := 38) (x := l2) dX8_layWords_37 rfl 2 rfl ?_
    refine C_iload_n (D := mdX8_layWords) (pc' := 39) (x := l3) dX8_layWords_38 rfl 3 rfl ?_
    refine C_iconst (D := mdX8_layWords) (pc' := 40) (v := 0) dX8_layWords_39 rfl (by decide) ?_
    refine C_callS (D := mdX8_layWords) (pc' := 43) (st := []) [.ref (kB C + l1), .int l2, .int l3, .int 0] s_X8_65 (i_X8_of C l1 l2 l3 0) dX8_layWords_40 rfl rfl rfl (Nat.le_of_ble_eq_true rfl) (by decide) (by decide) (fun c4 => ?_)
    refine C_iconst (D := mdX8_layWords) (pc' := 44) (v := 2) dX8_layWords_43 rfl (by decide) ?_
    refine C_icmp_ne (D := mdX8_layWords) (pc' := 47) (tgt := 58) dX8_layWords_44 (by decide) rfl ?_ ?_
    · exact C_sub [0, 1, 2, 3] rfl (p_X8_layWords_J58 C l0 l1 l2 l3 k7 hk7 k16 hk16)
    · refine C_aload_n (D := mdX8_layWords) (pc' := 48) (x := kB C + l0) dX8_layWords_47 rfl 0 rfl ?_
      refine C_aload_n (D := mdX8_layWords) (pc' := 49) (x := kB C + l1) dX8_layWords_48 rfl 1 rfl ?_
      refine C_iload_n (D := mdX8_layWords) (pc' := 50) (x := l2) dX8_layWords_49 rfl 2 rfl ?_
      refine C_iload_n (D := mdX8_layWords) (pc' := 51) (x := l3) dX8_layWords_50 rfl 3 rfl ?_
      refine C_iconst (D := mdX8_layWords) (pc' := 52) (v := 2) dX8_layWords_51 rfl (by decide) ?_
      refine C_callS (D := mdX8_layWords) (pc' := 55) (st := [.ref (kB C + l0)]) [.ref (kB C + l1), .int l2, .int l3, .int 2] s_X8_65 (i_X8_of C l1 l2 l3 2) dX8_layWords_52 rfl rfl rfl (Nat.le_of_ble_eq_true rfl) (by decide) (by decide) (fun c5 => ?_)
      refine C_callV (D := mdX8_layWords) (pc' := 58) (p := l0) (st := []) [.int c5] v_X8_69 (i_X8_addWord C l0 c5) dX8_layWords_55 rfl rfl rfl (Nat.le_of_ble_eq_true rfl) (by decide) (by decide) (fun _ => ?_)
      exact C_sub [0, 1, 2, 3] rfl (p_X8_layWords_J58 C l0 l1 l2 l3 k7 hk7 k16 hk16)
set_option maxHeartbeats 2000000 in
set_option maxRecDepth 20000 in
theorem p_X8_layWords_B7 (C : KX) (l0 : Nat) (l1 : Nat)  (k7 : Int32 → Mo Unit) (hk7 : ∀ s, Cmp C mdX8_layWords (QM rvV) 7 [(0, .ref (kB C + l0)), (1, .ref (kB C + l1)), (2, .int s)] [] (k7 s)) (l2 : Int32) : Cmp C mdX8_layWords (QM rvV) 7 [(0, .ref (kB C + l0)), (1, .ref (kB C + l1)), (2, .int l2)] [] (m_X8_layWords_B7 l0 l1 k7 l2) := by
  unfold m_X8_layWords_B7
  refine C_iload_n (D := mdX8_layWords) (pc' := 8) (x := l2) dX8_layWords_7 rfl 2 rfl ?_
  refine C_aload_n (D := mdX8_layWords) (pc' := 9) (x := kB C + l1) dX8_layWords_8 rfl 1 rfl ?_
  refine C_iconst (D := mdX8_layWords) (pc' := 10) (v := 0) dX8_layWords_9 rfl (by decide) ?_
  refine C_aI (D := mdX8_layWords) (pc' := 11) (p := l1) dX8_layWords_10 rfl (fun x1 => ?_)
  refine C_icmp_ge (D := mdX8_layWords) (pc' := 14) (tgt := 70) dX8_layWords_11 (by decide) rfl ?_ ?_
  · exact C_vret rfl dX8_layWords_70
  · refine C_iconst (D := mdX8_layWords) (pc' := 15) (v := 0) dX8_layWords_14 rfl (by decide) ?_
    refine C_istore_n (D := mdX8_layWords) (pc' := 16) (ls' := [(3, .int 0), (0, .ref (kB C + l0)), (1, .ref (kB C + l1)), (2, .int l2)]) dX8_layWords_15 rfl rfl (by decide) rfl ?_
    exact C_sub [1, 2, 3, 0] rfl (C_loop (fun s => [(0, .ref (kB C + l0)), (1, .ref (kB C + l1)), (2, .int l2), (3, .int s)]) (fun k hk s => p_X8_layWords_B16 C l0 l1 l2 k7 hk7 k hk s) FU 0)
set_option maxHeartbeats 2000000 in
set_option maxRecDepth 20000 in
theorem i_X8_layWords (C : KX) (l0 : Nat) (l1 : Nat) : Imp C yX8_layWords cX8_layWords 4 none 3 69 rvV [.ref (kB C + l0), .ref (kB C + l1)] (m_X8_layWords l0 l1) := by
  refine Imp.of (by decide) (Nat.le_of_ble_eq_true rfl) [(0, .ref (kB C + l0)), (1, .ref (kB C + l1))] rfl ?_
  show Cmp C mdX8_layWords (QM rvV) 0 [(0, .ref (kB C + l0)), (1, .ref (kB C + l1))] [] (m_X8_layWords l0 l1)
  unfold m_X8_layWords
  refine C_aload_n (D := mdX8_layWords) (pc' := 1) (x := kB C + l0) dX8_layWords_0 rfl 0 rfl ?_
  refine C_iconst (D := mdX8_layWords) (pc' := 2) (v := 0) dX8_layWords_1 rfl (by decide) ?_
  refine C_putI (D := mdX8_layWords) (pc' := 5) (p := l0) f_X8_52 rfl dX8_layWords_2 rfl ?_
  refine C_iconst (D := mdX8_layWords) (pc' := 6) (v := 0) dX8_layWords_5 rfl (by decide) ?_
  refine C_istore_n (D := mdX8_layWords) (pc' := 7) (ls' := [(2, .int 0), (0, .ref (kB C + l0)), (1, .ref (kB C + l1))]) dX8_layWords_6 rfl rfl (by decide) rfl ?_
  exact C_sub [1, 2, 0] rfl (C_loop (fun s => [(0, .ref (kB C + l0)), (1, .ref (kB C + l1)), (2, .int s)]) (fun k hk s => p_X8_layWords_B7 C l0 l1  k hk s) FU 0)

-- StandingQueriesModel.numberOf(I)I
theorem dX8_numberOf_0 : decode cX8_numberOf 0 = .ok (.iconst 0, 1) := by decide +kernel
theorem dX8_numberOf_1 : decode cX8_numberOf 1 = .ok (.istore_n 2, 1) := by decide +kernel
theorem dX8_numberOf_2 : decode cX8_numberOf 2 = .ok (.aload_n 0, 1) := by decide +kernel
theorem dX8_numberOf_3 : decode cX8_numberOf 3 = .ok (.getfield 55, 3) := by decide +kernel
theorem dX8_numberOf_6 : decode cX8_numberOf 6 = .ok (.iload_n 2, 1) := by decide +kernel
theorem dX8_numberOf_7 : decode cX8_numberOf 7 = .ok (.iaload, 1) := by decide +kernel
theorem dX8_numberOf_8 : decode cX8_numberOf 8 = .ok (.iload_n 1, 1) := by decide +kernel
theorem dX8_numberOf_9 : decode cX8_numberOf 9 = .ok (.if_icmp .eq 9, 3) := by decide +kernel
theorem dX8_numberOf_12 : decode cX8_numberOf 12 = .ok (.iinc 2 1, 3) := by decide +kernel
theorem dX8_numberOf_15 : decode cX8_numberOf 15 = .ok (.goto (-13), 3) := by decide +kernel
theorem dX8_numberOf_18 : decode cX8_numberOf 18 = .ok (.iload_n 2, 1) := by decide +kernel
theorem dX8_numberOf_19 : decode cX8_numberOf 19 = .ok (.ireturn, 1) := by decide +kernel
abbrev mdX8_numberOf : MD := (cX8_numberOf, RX8, 3, (some .int), yX8_numberOf.name, 0, 0, eT)
set_option maxHeartbeats 2000000 in
set_option maxRecDepth 20000 in
theorem p_X8_numberOf_B2 (C : KX) (l0 : Nat) (l1 : Int32)  (k2 : Int32 → Mo Int32) (hk2 : ∀ s, Cmp C mdX8_numberOf (QM rvI) 2 [(0, .ref (kB C + l0)), (1, .int l1), (2, .int s)] [] (k2 s)) (l2 : Int32) : Cmp C mdX8_numberOf (QM rvI) 2 [(0, .ref (kB C + l0)), (1, .int l1), (2, .int l2)] [] (m_X8_numberOf_B2 l0 l1 k2 l2) := by
  unfold m_X8_numberOf_B2
  refine C_aload_n (D := mdX8_numberOf) (pc' := 3) (x := kB C + l0) dX8_numberOf_2 rfl 0 rfl ?_
  refine C_getR (D := mdX8_numberOf) (pc' := 6) (p := l0) f_X8_55 rfl dX8_numberOf_3 rfl (fun words1 => ?_)
  refine C_iload_n (D := mdX8_numberOf) (pc' := 7) (x := l2) dX8_numberOf_6 rfl 2 rfl ?_
  refine C_aI (D := mdX8_numberOf) (pc' := 8) (p := words1) dX8_numberOf_7 rfl (fun x2 => ?_)
  refine C_iload_n (D := mdX8_numberOf) (pc' := 9) (x := l1) dX8_numberOf_8 rfl 1 rfl ?_
  refine C_icmp_eq (D := mdX8_numberOf) (pc' := 12) (tgt := 18) dX8_numberOf_9 (by decide) rfl ?_ ?_
  · refine C_iload_n (D := mdX8_numberOf) (pc' := 19) (x := l2) dX8_numberOf_18 rfl 2 rfl ?_
    exact C_iret rfl dX8_numberOf_19
  · refine C_iinc (D := mdX8_numberOf) (pc' := 15) (j := 2) (v := (l2 + 1)) (ls' := [(2, .int (l2 + 1)), (0, .ref (kB C + l0)), (1, .int l1)]) dX8_numberOf_12 rfl rfl rfl (by decide) rfl ?_
    refine C_goto (D := mdX8_numberOf) (pc' := 2) dX8_numberOf_15 (by decide) ?_
    exact C_sub [1, 2, 0] rfl (hk2 ((l2 + 1)))
set_option maxHeartbeats 2000000 in
set_option maxRecDepth 20000 in
theorem i_X8_numberOf (C : KX) (l0 : Nat) (l1 : Int32) : Imp C yX8_numberOf cX8_numberOf 3 (some .int) 0 0 rvI [.ref (kB C + l0), .int l1] (m_X8_numberOf l0 l1) := by
  refine Imp.of (by decide) (Nat.le_of_ble_eq_true rfl) [(0, .ref (kB C + l0)), (1, .int l1)] rfl ?_
  show Cmp C mdX8_numberOf (QM rvI) 0 [(0, .ref (kB C + l0)), (1, .int l1)] [] (m_X8_numberOf l0 l1)
  unfold m_X8_numberOf
  refine C_iconst (D := mdX8_numberOf) (pc' := 1) (v := 0) dX8_numberOf_0 rfl (by decide) ?_
  refine C_istore_n (D := mdX8_numberOf) (pc' := 2) (ls' := [(2, .int 0), (0, .ref (kB C + l0)), (1, .int l1)]) dX8_numberOf_1 rfl rfl (by decide) rfl ?_
  exact C_sub [1, 2, 0] rfl (C_loop (fun s => [(0, .ref (kB C + l0)), (1, .int l1), (2, .int s)]) (fun k hk s => p_X8_numberOf_B2 C l0 l1  k hk s) FU 0)

-- StandingQueriesModel.nodeOf(I)I
theorem dX8_nodeOf_0 : decode cX8_nodeOf 0 = .ok (.iconst 0, 1) := by decide +kernel
theorem dX8_nodeOf_1 : decode cX8_nodeOf 1 = .ok (.istore_n 2, 1) := by decide +kernel
theorem dX8_nodeOf_2 : decode cX8_nodeOf 2 = .ok (.iload_n 2, 1) := by decide +kernel
theorem dX8_nodeOf_3 : decode cX8_nodeOf 3 = .ok (.aload_n 0, 1) := by decide +kernel
theorem dX8_nodeOf_4 : decode cX8_nodeOf 4 = .ok (.getfield 73, 3) := by decide +kernel
theorem dX8_nodeOf_7 : decode cX8_nodeOf 7 = .ok (.if_icmp .ge 21, 3) := by decide +kernel
theorem dX8_nodeOf_10 : decode cX8_nodeOf 10 = .ok (.aload_n 0, 1) := by decide +kernel
theorem dX8_nodeOf_11 : decode cX8_nodeOf 11 = .ok (.getfield 76, 3) := by decide +kernel
theorem dX8_nodeOf_14 : decode cX8_nodeOf 14 = .ok (.iload_n 2, 1) := by decide +kernel
theorem dX8_nodeOf_15 : decode cX8_nodeOf 15 = .ok (.iaload, 1) := by decide +kernel
theorem dX8_nodeOf_16 : decode cX8_nodeOf 16 = .ok (.iload_n 1, 1) := by decide +kernel
theorem dX8_nodeOf_17 : decode cX8_nodeOf 17 = .ok (.if_icmp .ne 5, 3) := by decide +kernel
theorem dX8_nodeOf_20 : decode cX8_nodeOf 20 = .ok (.iload_n 2, 1) := by decide +kernel
theorem dX8_nodeOf_21 : decode cX8_nodeOf 21 = .ok (.ireturn, 1) := by decide +kernel
theorem dX8_nodeOf_22 : decode cX8_nodeOf 22 = .ok (.iinc 2 1, 3) := by decide +kernel
theorem dX8_nodeOf_25 : decode cX8_nodeOf 25 = .ok (.goto (-23), 3) := by decide +kernel
theorem dX8_nodeOf_28 : decode cX8_nodeOf 28 = .ok (.bipush (-9), 2) := by decide +kernel
theorem dX8_nodeOf_30 : decode cX8_nodeOf 30 = .ok (.ireturn, 1) := by decide +kernel
abbrev mdX8_nodeOf : MD := (cX8_nodeOf, RX8, 3, (some .int), yX8_nodeOf.name, 0, 0, eT)
set_option maxHeartbeats 2000000 in
set_option maxRecDepth 20000 in
theorem p_X8_nodeOf_B2 (C : KX) (l0 : Nat) (l1 : Int32)  (k2 : Int32 → Mo Int32) (hk2 : ∀ s, Cmp C mdX8_nodeOf (QM rvI) 2 [(0, .ref (kB C + l0)), (1, .int l1), (2, .int s)] [] (k2 s)) (l2 : Int32) : Cmp C mdX8_nodeOf (QM rvI) 2 [(0, .ref (kB C + l0)), (1, .int l1), (2, .int l2)] [] (m_X8_nodeOf_B2 l0 l1 k2 l2) := by
  unfold m_X8_nodeOf_B2
  refine C_iload_n (D := mdX8_nodeOf) (pc' := 3) (x := l2) dX8_nodeOf_2 rfl 2 rfl ?_
  refine C_aload_n (D := mdX8_nodeOf) (pc' := 4) (x := kB C + l0) dX8_nodeOf_3 rfl 0 rfl ?_
  refine C_getI (D := mdX8_nodeOf) (pc' := 7) (p := l0) f_X8_73 rfl dX8_nodeOf_4 rfl (fun nodeMany1 => ?_)
  refine C_icmp_ge (D := mdX8_nodeOf) (pc' := 10) (tgt := 28) dX8_nodeOf_7 (by decide) rfl ?_ ?_
  · refine C_bipush (D := mdX8_nodeOf) (pc' := 30) (v := (-9)) dX8_nodeOf_28 rfl (by decide) ?_
    exact C_iret rfl dX8_nodeOf_30
  · refine C_aload_n (D := mdX8_nodeOf) (pc' := 11) (x := kB C + l0) dX8_nodeOf_10 rfl 0 rfl ?_
    refine C_getR (D := mdX8_nodeOf) (pc' := 14) (p := l0) f_X8_76 rfl dX8_nodeOf_11 rfl (fun nodes2 => ?_)
    refine C_iload_n (D := mdX8_nodeOf) (pc' := 15) (x := l2) dX8_nodeOf_14 rfl 2 rfl ?_
    refine C_aI (D := mdX8_nodeOf) (pc' := 16) (p := nodes2) dX8_nodeOf_15 rfl (fun x3 => ?_)
    refine C_iload_n (D := mdX8_nodeOf) (pc' := 17) (x := l1) dX8_nodeOf_16 rfl 1 rfl ?_
    refine C_icmp_ne (D := mdX8_nodeOf) (pc' := 20) (tgt := 22) dX8_nodeOf_17 (by decide) rfl ?_ ?_
    · refine C_iinc (D := mdX8_nodeOf) (pc' := 25) (j := 2) (v := (l2 + 1)) (ls' := [(2, .int (l2 + 1)), (0, .ref (kB C + l0)), (1, .int l1)]) dX8_nodeOf_22 rfl rfl rfl (by decide) rfl ?_
      refine C_goto (D := mdX8_nodeOf) (pc' := 2) dX8_nodeOf_25 (by decide) ?_
      exact C_sub [1, 2, 0] rfl (hk2 ((l2 + 1)))
    · refine C_iload_n (D := mdX8_nodeOf) (pc' := 21) (x := l2) dX8_nodeOf_20 rfl 2 rfl ?_
      exact C_iret rfl dX8_nodeOf_21
set_option maxHeartbeats 2000000 in
set_option maxRecDepth 20000 in
theorem i_X8_nodeOf (C : KX) (l0 : Nat) (l1 : Int32) : Imp C yX8_nodeOf cX8_nodeOf 3 (some .int) 0 0 rvI [.ref (kB C + l0), .int l1] (m_X8_nodeOf l0 l1) := by
  refine Imp.of (by decide) (Nat.le_of_ble_eq_true rfl) [(0, .ref (kB C + l0)), (1, .int l1)] rfl ?_
  show Cmp C mdX8_nodeOf (QM rvI) 0 [(0, .ref (kB C + l0)), (1, .int l1)] [] (m_X8_nodeOf l0 l1)
  unfold m_X8_nodeOf
  refine C_iconst (D := mdX8_nodeOf) (pc' := 1) (v := 0) dX8_nodeOf_0 rfl (by decide) ?_
  refine C_istore_n (D := mdX8_nodeOf) (pc' := 2) (ls' := [(2, .int 0), (0, .ref (kB C + l0)), (1, .int l1)]) dX8_nodeOf_1 rfl rfl (by decide) rfl ?_
  exact C_sub [1, 2, 0] rfl (C_loop (fun s => [(0, .ref (kB C + l0)), (1, .int l1), (2, .int s)]) (fun k hk s => p_X8_nodeOf_B2 C l0 l1  k hk s) FU 0)

-- StandingQueriesModel.firsts(II)I
theorem dX8_firsts_0 : decode cX8_firsts 0 = .ok (.iload_n 1, 1) := by decide +kernel
theorem dX8_firsts_1 : decode cX8_firsts 1 = .ok (.ldc 47, 2) := by decide +kernel
theorem dX8_firsts_3 : decode cX8_firsts 3 = .ok (.imul, 1) := by decide +kernel
theorem dX8_firsts_4 : decode cX8_firsts 4 = .ok (.iload_n 0, 1) := by decide +kernel
theorem dX8_firsts_5 : decode cX8_firsts 5 = .ok (.ldc 79, 2) := by decide +kernel
theorem dX8_firsts_7 : decode cX8_firsts 7 = .ok (.iand, 1) := by decide +kernel
theorem dX8_firsts_8 : decode cX8_firsts 8 = .ok (.iconst 3, 1) := by decide +kernel
theorem dX8_firsts_9 : decode cX8_firsts 9 = .ok (.iload_n 0, 1) := by decide +kernel
theorem dX8_firsts_10 : decode cX8_firsts 10 = .ok (.ldc 47, 2) := by decide +kernel
theorem dX8_firsts_12 : decode cX8_firsts 12 = .ok (.idiv, 1) := by decide +kernel
theorem dX8_firsts_13 : decode cX8_firsts 13 = .ok (.iload_n 1, 1) := by decide +kernel
theorem dX8_firsts_14 : decode cX8_firsts 14 = .ok (.isub, 1) := by decide +kernel
theorem dX8_firsts_15 : decode cX8_firsts 15 = .ok (.imul, 1) := by decide +kernel
theorem dX8_firsts_16 : decode cX8_firsts 16 = .ok (.ishr, 1) := by decide +kernel
theorem dX8_firsts_17 : decode cX8_firsts 17 = .ok (.iadd, 1) := by decide +kernel
theorem dX8_firsts_18 : decode cX8_firsts 18 = .ok (.ireturn, 1) := by decide +kernel
abbrev mdX8_firsts : MD := (cX8_firsts, RX8, 2, (some .int), yX8_firsts.name, 0, 0, eT)
set_option maxHeartbeats 2000000 in
set_option maxRecDepth 20000 in
theorem i_X8_firsts (C : KX) (l0 : Int32) (l1 : Int32) : Imp C yX8_firsts cX8_firsts 2 (some .int) 0 0 rvI [.int l0, .int l1] (m_X8_firsts l0 l1) := by
  refine Imp.of (by decide) (Nat.le_of_ble_eq_true rfl) [(0, .int l0), (1, .int l1)] rfl ?_
  show Cmp C mdX8_firsts (QM rvI) 0 [(0, .int l0), (1, .int l1)] [] (m_X8_firsts l0 l1)
  unfold m_X8_firsts
  refine C_iload_n (D := mdX8_firsts) (pc' := 1) (x := l1) dX8_firsts_0 rfl 1 rfl ?_
  refine C_ldc (D := mdX8_firsts) (pc' := 3) (v := 1048576) c_X8_47 dX8_firsts_1 rfl ?_
  refine C_imul (D := mdX8_firsts) (pc' := 4) dX8_firsts_3 rfl ?_
  refine C_iload_n (D := mdX8_firsts) (pc' := 5) (x := l0) dX8_firsts_4 rfl 0 rfl ?_
  refine C_ldc (D := mdX8_firsts) (pc' := 7) (v := 1048575) c_X8_79 dX8_firsts_5 rfl ?_
  refine C_iand (D := mdX8_firsts) (pc' := 8) dX8_firsts_7 rfl ?_
  refine C_iconst (D := mdX8_firsts) (pc' := 9) (v := 3) dX8_firsts_8 rfl (by decide) ?_
  refine C_iload_n (D := mdX8_firsts) (pc' := 10) (x := l0) dX8_firsts_9 rfl 0 rfl ?_
  refine C_ldc (D := mdX8_firsts) (pc' := 12) (v := 1048576) c_X8_47 dX8_firsts_10 rfl ?_
  refine C_idiv (D := mdX8_firsts) (pc' := 13) dX8_firsts_12 rfl (by decide) ?_
  refine C_iload_n (D := mdX8_firsts) (pc' := 14) (x := l1) dX8_firsts_13 rfl 1 rfl ?_
  refine C_isub (D := mdX8_firsts) (pc' := 15) dX8_firsts_14 rfl ?_
  refine C_imul (D := mdX8_firsts) (pc' := 16) dX8_firsts_15 rfl ?_
  refine C_ishr (D := mdX8_firsts) (pc' := 17) dX8_firsts_16 rfl ?_
  refine C_iadd (D := mdX8_firsts) (pc' := 18) dX8_firsts_17 rfl ?_
  exact C_iret rfl dX8_firsts_18

-- StandingQueriesModel.lasts(II)I
theorem dX8_lasts_0 : decode cX8_lasts 0 = .ok (.iload_n 1, 1) := by decide +kernel
theorem dX8_lasts_1 : decode cX8_lasts 1 = .ok (.ldc 47, 2) := by decide +kernel
theorem dX8_lasts_3 : decode cX8_lasts 3 = .ok (.imul, 1) := by decide +kernel
theorem dX8_lasts_4 : decode cX8_lasts 4 = .ok (.iload_n 0, 1) := by decide +kernel
theorem dX8_lasts_5 : decode cX8_lasts 5 = .ok (.iconst 1, 1) := by decide +kernel
theorem dX8_lasts_6 : decode cX8_lasts 6 = .ok (.iconst 3, 1) := by decide +kernel
theorem dX8_lasts_7 : decode cX8_lasts 7 = .ok (.iload_n 1, 1) := by decide +kernel
theorem dX8_lasts_8 : decode cX8_lasts 8 = .ok (.imul, 1) := by decide +kernel
theorem dX8_lasts_9 : decode cX8_lasts 9 = .ok (.ishl, 1) := by decide +kernel
theorem dX8_lasts_10 : decode cX8_lasts 10 = .ok (.iconst 1, 1) := by decide +kernel
theorem dX8_lasts_11 : decode cX8_lasts 11 = .ok (.isub, 1) := by decide +kernel
theorem dX8_lasts_12 : decode cX8_lasts 12 = .ok (.iand, 1) := by decide +kernel
theorem dX8_lasts_13 : decode cX8_lasts 13 = .ok (.iadd, 1) := by decide +kernel
theorem dX8_lasts_14 : decode cX8_lasts 14 = .ok (.ireturn, 1) := by decide +kernel
abbrev mdX8_lasts : MD := (cX8_lasts, RX8, 2, (some .int), yX8_lasts.name, 0, 0, eT)
set_option maxHeartbeats 2000000 in
set_option maxRecDepth 20000 in
theorem i_X8_lasts (C : KX) (l0 : Int32) (l1 : Int32) : Imp C yX8_lasts cX8_lasts 2 (some .int) 0 0 rvI [.int l0, .int l1] (m_X8_lasts l0 l1) := by
  refine Imp.of (by decide) (Nat.le_of_ble_eq_true rfl) [(0, .int l0), (1, .int l1)] rfl ?_
  show Cmp C mdX8_lasts (QM rvI) 0 [(0, .int l0), (1, .int l1)] [] (m_X8_lasts l0 l1)
  unfold m_X8_lasts
  refine C_iload_n (D := mdX8_lasts) (pc' := 1) (x := l1) dX8_lasts_0 rfl 1 rfl ?_
  refine C_ldc (D := mdX8_lasts) (pc' := 3) (v := 1048576) c_X8_47 dX8_lasts_1 rfl ?_
  refine C_imul (D := mdX8_lasts) (pc' := 4) dX8_lasts_3 rfl ?_
  refine C_iload_n (D := mdX8_lasts) (pc' := 5) (x := l0) dX8_lasts_4 rfl 0 rfl ?_
  refine C_iconst (D := mdX8_lasts) (pc' := 6) (v := 1) dX8_lasts_5 rfl (by decide) ?_
  refine C_iconst (D := mdX8_lasts) (pc' := 7) (v := 3) dX8_lasts_6 rfl (by decide) ?_
  refine C_iload_n (D := mdX8_lasts) (pc' := 8) (x := l1) dX8_lasts_7 rfl 1 rfl ?_
  refine C_imul (D := mdX8_lasts) (pc' := 9) dX8_lasts_8 rfl ?_
  refine C_ishl (D := mdX8_lasts) (pc' := 10) dX8_lasts_9 rfl ?_
  refine C_iconst (D := mdX8_lasts) (pc' := 11) (v := 1) dX8_lasts_10 rfl (by decide) ?_
  refine C_isub (D := mdX8_lasts) (pc' := 12) dX8_lasts_11 rfl ?_
  refine C_iand (D := mdX8_lasts) (pc' := 13) dX8_lasts_12 rfl ?_
  refine C_iadd (D := mdX8_lasts) (pc' := 14) dX8_lasts_13 rfl ?_
  exact C_iret rfl dX8_lasts_14

-- StandingQueriesModel.withLetter(II)I
theorem dX8_withLetter_0 : decode cX8_withLetter 0 = .ok (.iload_n 0, 1) := by decide +kernel
theorem dX8_withLetter_1 : decode cX8_withLetter 1 = .ok (.ldc 47, 2) := by decide +kernel
theorem dX8_withLetter_3 : decode cX8_withLetter 3 = .ok (.idiv, 1) := by decide +kernel
theorem dX8_withLetter_4 : decode cX8_withLetter 4 = .ok (.iconst 1, 1) := by decide +kernel
theorem dX8_withLetter_5 : decode cX8_withLetter 5 = .ok (.iadd, 1) := by decide +kernel
theorem dX8_withLetter_6 : decode cX8_withLetter 6 = .ok (.ldc 47, 2) := by decide +kernel
theorem dX8_withLetter_8 : decode cX8_withLetter 8 = .ok (.imul, 1) := by decide +kernel
theorem dX8_withLetter_9 : decode cX8_withLetter 9 = .ok (.iload_n 0, 1) := by decide +kernel
theorem dX8_withLetter_10 : decode cX8_withLetter 10 = .ok (.ldc 80, 2) := by decide +kernel
theorem dX8_withLetter_12 : decode cX8_withLetter 12 = .ok (.iand, 1) := by decide +kernel
theorem dX8_withLetter_13 : decode cX8_withLetter 13 = .ok (.bipush 8, 2) := by decide +kernel
theorem dX8_withLetter_15 : decode cX8_withLetter 15 = .ok (.imul, 1) := by decide +kernel
theorem dX8_withLetter_16 : decode cX8_withLetter 16 = .ok (.iadd, 1) := by decide +kernel
theorem dX8_withLetter_17 : decode cX8_withLetter 17 = .ok (.iload_n 1, 1) := by decide +kernel
theorem dX8_withLetter_18 : decode cX8_withLetter 18 = .ok (.iadd, 1) := by decide +kernel
theorem dX8_withLetter_19 : decode cX8_withLetter 19 = .ok (.ireturn, 1) := by decide +kernel
abbrev mdX8_withLetter : MD := (cX8_withLetter, RX8, 2, (some .int), yX8_withLetter.name, 0, 0, eT)
set_option maxHeartbeats 2000000 in
set_option maxRecDepth 20000 in
theorem i_X8_withLetter (C : KX) (l0 : Int32) (l1 : Int32) : Imp C yX8_withLetter cX8_withLetter 2 (some .int) 0 0 rvI [.int l0, .int l1] (m_X8_withLetter l0 l1) := by
  refine Imp.of (by decide) (Nat.le_of_ble_eq_true rfl) [(0, .int l0), (1, .int l1)] rfl ?_
  show Cmp C mdX8_withLetter (QM rvI) 0 [(0, .int l0), (1, .int l1)] [] (m_X8_withLetter l0 l1)
  unfold m_X8_withLetter
  refine C_iload_n (D := mdX8_withLetter) (pc' := 1) (x := l0) dX8_withLetter_0 rfl 0 rfl ?_
  refine C_ldc (D := mdX8_withLetter) (pc' := 3) (v := 1048576) c_X8_47 dX8_withLetter_1 rfl ?_
  refine C_idiv (D := mdX8_withLetter) (pc' := 4) dX8_withLetter_3 rfl (by decide) ?_
  refine C_iconst (D := mdX8_withLetter) (pc' := 5) (v := 1) dX8_withLetter_4 rfl (by decide) ?_
  refine C_iadd (D := mdX8_withLetter) (pc' := 6) dX8_withLetter_5 rfl ?_
  refine C_ldc (D := mdX8_withLetter) (pc' := 8) (v := 1048576) c_X8_47 dX8_withLetter_6 rfl ?_
  refine C_imul (D := mdX8_withLetter) (pc' := 9) dX8_withLetter_8 rfl ?_
  refine C_iload_n (D := mdX8_withLetter) (pc' := 10) (x := l0) dX8_withLetter_9 rfl 0 rfl ?_
  refine C_ldc (D := mdX8_withLetter) (pc' := 12) (v := 262143) c_X8_80 dX8_withLetter_10 rfl ?_
  refine C_iand (D := mdX8_withLetter) (pc' := 13) dX8_withLetter_12 rfl ?_
  refine C_bipush (D := mdX8_withLetter) (pc' := 15) (v := 8) dX8_withLetter_13 rfl (by decide) ?_
  refine C_imul (D := mdX8_withLetter) (pc' := 16) dX8_withLetter_15 rfl ?_
  refine C_iadd (D := mdX8_withLetter) (pc' := 17) dX8_withLetter_16 rfl ?_
  refine C_iload_n (D := mdX8_withLetter) (pc' := 18) (x := l1) dX8_withLetter_17 rfl 1 rfl ?_
  refine C_iadd (D := mdX8_withLetter) (pc' := 19) dX8_withLetter_18 rfl ?_
  exact C_iret rfl dX8_withLetter_19
