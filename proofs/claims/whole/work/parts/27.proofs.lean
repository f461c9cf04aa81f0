-- StandingQueriesModel.stateOf(III)I
theorem dX8_stateOf_0 : decode cX8_stateOf 0 = .ok (.iload_n 0, 1) := by decide +kernel
theorem dX8_stateOf_1 : decode cX8_stateOf 1 = .ok (.bipush 16, 2) := by decide +kernel
theorem dX8_stateOf_3 : decode cX8_stateOf 3 = .ok (.imul, 1) := by decide +kernel
theorem dX8_stateOf_4 : decode cX8_stateOf 4 = .ok (.iload_n 1, 1) := by decide +kernel
theorem dX8_stateOf_5 : decode cX8_stateOf 5 = .ok (.iadd, 1) := by decide +kernel
theorem dX8_stateOf_6 : decode cX8_stateOf 6 = .ok (.bipush 10, 2) := by decide +kernel
theorem dX8_stateOf_8 : decode cX8_stateOf 8 = .ok (.imul, 1) := by decide +kernel
theorem dX8_stateOf_9 : decode cX8_stateOf 9 = .ok (.iload_n 2, 1) := by decide +kernel
theorem dX8_stateOf_10 : decode cX8_stateOf 10 = .ok (.iadd, 1) := by decide +kernel
theorem dX8_stateOf_11 : decode cX8_stateOf 11 = .ok (.ireturn, 1) := by decide +kernel
abbrev mdX8_stateOf : MD := (cX8_stateOf, RX8, 3, (some .int), yX8_stateOf.name, 0, 0, eT)
set_option maxHeartbeats 2000000 in
set_option maxRecDepth 20000 in
theorem i_X8_stateOf (C : KX) (l0 : Int32) (l1 : Int32) (l2 : Int32) : Imp C yX8_stateOf cX8_stateOf 3 (some .int) 0 0 rvI [.int l0, .int l1, .int l2] (m_X8_stateOf l0 l1 l2) := by
  refine Imp.of (by decide) (Nat.le_of_ble_eq_true rfl) [(0, .int l0), (1, .int l1), (2, .int l2)] rfl ?_
  show Cmp C mdX8_stateOf (QM rvI) 0 [(0, .int l0), (1, .int l1), (2, .int l2)] [] (m_X8_stateOf l0 l1 l2)
  unfold m_X8_stateOf
  refine C_iload_n (D := mdX8_stateOf) (pc' := 1) (x := l0) dX8_stateOf_0 rfl 0 rfl ?_
  refine C_bipush (D := mdX8_stateOf) (pc' := 3) (v := 16) dX8_stateOf_1 rfl (by decide) ?_
  refine C_imul (D := mdX8_stateOf) (pc' := 4) dX8_stateOf_3 rfl ?_
  refine C_iload_n (D := mdX8_stateOf) (pc' := 5) (x := l1) dX8_stateOf_4 rfl 1 rfl ?_
  refine C_iadd (D := mdX8_stateOf) (pc' := 6) dX8_stateOf_5 rfl ?_
  refine C_bipush (D := mdX8_stateOf) (pc' := 8) (v := 10) dX8_stateOf_6 rfl (by decide) ?_
  refine C_imul (D := mdX8_stateOf) (pc' := 9) dX8_stateOf_8 rfl ?_
  refine C_iload_n (D := mdX8_stateOf) (pc' := 10) (x := l2) dX8_stateOf_9 rfl 2 rfl ?_
  refine C_iadd (D := mdX8_stateOf) (pc' := 11) dX8_stateOf_10 rfl ?_
  exact C_iret rfl dX8_stateOf_11

-- StandingQueriesModel.begins()I
theorem dX8_begins_0 : decode cX8_begins 0 = .ok (.iconst 0, 1) := by decide +kernel
theorem dX8_begins_1 : decode cX8_begins 1 = .ok (.iconst 0, 1) := by decide +kernel
theorem dX8_begins_2 : decode cX8_begins 2 = .ok (.bipush 9, 2) := by decide +kernel
theorem dX8_begins_4 : decode cX8_begins 4 = .ok (.invokestatic 238, 3) := by decide +kernel
theorem dX8_begins_7 : decode cX8_begins 7 = .ok (.ireturn, 1) := by decide +kernel
abbrev mdX8_begins : MD := (cX8_begins, RX8, 1, (some .int), yX8_begins.name, 1, 22, eT)
set_option maxHeartbeats 2000000 in
set_option maxRecDepth 20000 in
theorem i_X8_begins (C : KX) (l0 : Nat) : Imp C yX8_begins cX8_begins 1 (some .int) 1 22 rvI [.ref (kB C + l0)] (m_X8_begins l0) := by
  refine Imp.of (by decide) (Nat.le_of_ble_eq_true rfl) [(0, .ref (kB C + l0))] rfl ?_
  show Cmp C mdX8_begins (QM rvI) 0 [(0, .ref (kB C + l0))] [] (m_X8_begins l0)
  unfold m_X8_begins
  refine C_iconst (D := mdX8_begins) (pc' := 1) (v := 0) dX8_begins_0 rfl (by decide) ?_
  refine C_iconst (D := mdX8_begins) (pc' := 2) (v := 0) dX8_begins_1 rfl (by decide) ?_
  refine C_bipush (D := mdX8_begins) (pc' := 4) (v := 9) dX8_begins_2 rfl (by decide) ?_
  refine C_callS (D := mdX8_begins) (pc' := 7) (st := []) [.int 0, .int 0, .int 9] s_X8_238 (i_X8_stateOf C 0 0 9) dX8_begins_4 rfl rfl rfl (Nat.le_of_ble_eq_true rfl) (by decide) (by decide) (fun c1 => ?_)
  exact C_iret rfl dX8_begins_7

-- StandingQueriesModel.isDone(I)Z
theorem dX8_isDone_0 : decode cX8_isDone 0 = .ok (.iload_n 1, 1) := by decide +kernel
theorem dX8_isDone_1 : decode cX8_isDone 1 = .ok (.ifCond .lt 21, 3) := by decide +kernel
theorem dX8_isDone_4 : decode cX8_isDone 4 = .ok (.iload_n 1, 1) := by decide +kernel
theorem dX8_isDone_5 : decode cX8_isDone 5 = .ok (.bipush 10, 2) := by decide +kernel
theorem dX8_isDone_7 : decode cX8_isDone 7 = .ok (.idiv, 1) := by decide +kernel
theorem dX8_isDone_8 : decode cX8_isDone 8 = .ok (.bipush 15, 2) := by decide +kernel
theorem dX8_isDone_10 : decode cX8_isDone 10 = .ok (.iand, 1) := by decide +kernel
theorem dX8_isDone_11 : decode cX8_isDone 11 = .ok (.aload_n 0, 1) := by decide +kernel
theorem dX8_isDone_12 : decode cX8_isDone 12 = .ok (.getfield 223, 3) := by decide +kernel
theorem dX8_isDone_15 : decode cX8_isDone 15 = .ok (.if_icmp .ne 7, 3) := by decide +kernel
theorem dX8_isDone_18 : decode cX8_isDone 18 = .ok (.iconst 1, 1) := by decide +kernel
theorem dX8_isDone_19 : decode cX8_isDone 19 = .ok (.goto 4, 3) := by decide +kernel
theorem dX8_isDone_22 : decode cX8_isDone 22 = .ok (.iconst 0, 1) := by decide +kernel
theorem dX8_isDone_23 : decode cX8_isDone 23 = .ok (.ireturn, 1) := by decide +kernel
abbrev mdX8_isDone : MD := (cX8_isDone, RX8, 2, (some .boolean), yX8_isDone.name, 0, 0, eT)
set_option maxHeartbeats 2000000 in
set_option maxRecDepth 20000 in
theorem i_X8_isDone (C : KX) (l0 : Nat) (l1 : Int32) : Imp C yX8_isDone cX8_isDone 2 (some .boolean) 0 0 rvI [.ref (kB C + l0), .int l1] (m_X8_isDone l0 l1) := by
  refine Imp.of (by decide) (Nat.le_of_ble_eq_true rfl) [(0, .ref (kB C + l0)), (1, .int l1)] rfl ?_
  show Cmp C mdX8_isDone (QM rvI) 0 [(0, .ref (kB C + l0)), (1, .int l1)] [] (m_X8_isDone l0 l1)
  unfold m_X8_isDone
  refine C_iload_n (D := mdX8_isDone) (pc' := 1) (x := l1) dX8_isDone_0 rfl 1 rfl ?_
  refine C_if_lt (D := mdX8_isDone) (pc' := 4) (tgt := 22) dX8_isDone_1 (by decide) rfl ?_ ?_
  · refine C_iconst (D := mdX8_isDone) (pc' := 23) (v := 0) dX8_isDone_22 rfl (by decide) ?_
    exact C_zret rfl dX8_isDone_23
  · refine C_iload_n (D := mdX8_isDone) (pc' := 5) (x := l1) dX8_isDone_4 rfl 1 rfl ?_
    refine C_bipush (D := mdX8_isDone) (pc' := 7) (v := 10) dX8_isDone_5 rfl (by decide) ?_
    refine C_idiv (D := mdX8_isDone) (pc' := 8) dX8_isDone_7 rfl (by decide) ?_
    refine C_bipush (D := mdX8_isDone) (pc' := 10) (v := 15) dX8_isDone_8 rfl (by decide) ?_
    refine C_iand (D := mdX8_isDone) (pc' := 11) dX8_isDone_10 rfl ?_
    refine C_aload_n (D := mdX8_isDone) (pc' := 12) (x := kB C + l0) dX8_isDone_11 rfl 0 rfl ?_
    refine C_getI (D := mdX8_isDone) (pc' := 15) (p := l0) f_X8_223 rfl dX8_isDone_12 rfl (fun due1 => ?_)
    refine C_icmp_ne (D := mdX8_isDone) (pc' := 18) (tgt := 22) dX8_isDone_15 (by decide) rfl ?_ ?_
    · refine C_iconst (D := mdX8_isDone) (pc' := 23) (v := 0) dX8_isDone_22 rfl (by decide) ?_
      exact C_zret rfl dX8_isDone_23
    · refine C_iconst (D := mdX8_isDone) (pc' := 19) (v := 1) dX8_isDone_18 rfl (by decide) ?_
      refine C_goto (D := mdX8_isDone) (pc' := 23) dX8_isDone_19 (by decide) ?_
      exact C_zret rfl dX8_isDone_23

-- StandingQueriesModel.behind(III)I
theorem dX8_behind_0 : decode cX8_behind 0 = .ok (.aload_n 0, 1) := by decide +kernel
theorem dX8_behind_1 : decode cX8_behind 1 = .ok (.getfield 109, 3) := by decide +kernel
theorem dX8_behind_4 : decode cX8_behind 4 = .ok (.bipush 8, 2) := by decide +kernel
theorem dX8_behind_6 : decode cX8_behind 6 = .ok (.iload_n 2, 1) := by decide +kernel
theorem dX8_behind_7 : decode cX8_behind 7 = .ok (.sipush 160, 3) := by decide +kernel
theorem dX8_behind_10 : decode cX8_behind 10 = .ok (.idiv, 1) := by decide +kernel
theorem dX8_behind_11 : decode cX8_behind 11 = .ok (.imul, 1) := by decide +kernel
theorem dX8_behind_12 : decode cX8_behind 12 = .ok (.iload_n 3, 1) := by decide +kernel
theorem dX8_behind_13 : decode cX8_behind 13 = .ok (.iadd, 1) := by decide +kernel
theorem dX8_behind_14 : decode cX8_behind 14 = .ok (.iaload, 1) := by decide +kernel
theorem dX8_behind_15 : decode cX8_behind 15 = .ok (.istore 4, 2) := by decide +kernel
theorem dX8_behind_17 : decode cX8_behind 17 = .ok (.iload_n 2, 1) := by decide +kernel
theorem dX8_behind_18 : decode cX8_behind 18 = .ok (.bipush 10, 2) := by decide +kernel
theorem dX8_behind_20 : decode cX8_behind 20 = .ok (.idiv, 1) := by decide +kernel
theorem dX8_behind_21 : decode cX8_behind 21 = .ok (.bipush 15, 2) := by decide +kernel
theorem dX8_behind_23 : decode cX8_behind 23 = .ok (.iand, 1) := by decide +kernel
theorem dX8_behind_24 : decode cX8_behind 24 = .ok (.istore 5, 2) := by decide +kernel
theorem dX8_behind_26 : decode cX8_behind 26 = .ok (.iload_n 2, 1) := by decide +kernel
theorem dX8_behind_27 : decode cX8_behind 27 = .ok (.bipush 10, 2) := by decide +kernel
theorem dX8_behind_29 : decode cX8_behind 29 = .ok (.irem, 1) := by decide +kernel
theorem dX8_behind_30 : decode cX8_behind 30 = .ok (.istore 6, 2) := by decide +kernel
theorem dX8_behind_32 : decode cX8_behind 32 = .ok (.aload_n 0, 1) := by decide +kernel
theorem dX8_behind_33 : decode cX8_behind 33 = .ok (.getfield 106, 3) := by decide +kernel
theorem dX8_behind_36 : decode cX8_behind 36 = .ok (.iload 4, 2) := by decide +kernel
theorem dX8_behind_38 : decode cX8_behind 38 = .ok (.iaload, 1) := by decide +kernel
theorem dX8_behind_39 : decode cX8_behind 39 = .ok (.aload_n 0, 1) := by decide +kernel
theorem dX8_behind_40 : decode cX8_behind 40 = .ok (.getfield 220, 3) := by decide +kernel
theorem dX8_behind_43 : decode cX8_behind 43 = .ok (.iand, 1) := by decide +kernel
theorem dX8_behind_44 : decode cX8_behind 44 = .ok (.ifCond .eq 6, 3) := by decide +kernel
theorem dX8_behind_47 : decode cX8_behind 47 = .ok (.bipush (-9), 2) := by decide +kernel
theorem dX8_behind_49 : decode cX8_behind 49 = .ok (.ireturn, 1) := by decide +kernel
theorem dX8_behind_50 : decode cX8_behind 50 = .ok (.iconst 0, 1) := by decide +kernel
theorem dX8_behind_51 : decode cX8_behind 51 = .ok (.istore 7, 2) := by decide +kernel
theorem dX8_behind_53 : decode cX8_behind 53 = .ok (.iload 7, 2) := by decide +kernel
theorem dX8_behind_55 : decode cX8_behind 55 = .ok (.aload_n 0, 1) := by decide +kernel
theorem dX8_behind_56 : decode cX8_behind 56 = .ok (.getfield 87, 3) := by decide +kernel
theorem dX8_behind_59 : decode cX8_behind 59 = .ok (.iload_n 1, 1) := by decide +kernel
theorem dX8_behind_60 : decode cX8_behind 60 = .ok (.invokestatic 61, 3) := by decide +kernel
theorem dX8_behind_63 : decode cX8_behind 63 = .ok (.if_icmp .ge 64, 3) := by decide +kernel
theorem dX8_behind_66 : decode cX8_behind 66 = .ok (.iload 5, 2) := by decide +kernel
theorem dX8_behind_68 : decode cX8_behind 68 = .ok (.aload_n 0, 1) := by decide +kernel
theorem dX8_behind_69 : decode cX8_behind 69 = .ok (.getfield 87, 3) := by decide +kernel
theorem dX8_behind_72 : decode cX8_behind 72 = .ok (.iload_n 1, 1) := by decide +kernel
theorem dX8_behind_73 : decode cX8_behind 73 = .ok (.iload 7, 2) := by decide +kernel
theorem dX8_behind_75 : decode cX8_behind 75 = .ok (.iconst 0, 1) := by decide +kernel
theorem dX8_behind_76 : decode cX8_behind 76 = .ok (.invokestatic 65, 3) := by decide +kernel
theorem dX8_behind_79 : decode cX8_behind 79 = .ok (.ifCond .ne 38, 3) := by decide +kernel
theorem dX8_behind_82 : decode cX8_behind 82 = .ok (.aload_n 0, 1) := by decide +kernel
theorem dX8_behind_83 : decode cX8_behind 83 = .ok (.getfield 106, 3) := by decide +kernel
theorem dX8_behind_86 : decode cX8_behind 86 = .ok (.iload 4, 2) := by decide +kernel
theorem dX8_behind_88 : decode cX8_behind 88 = .ok (.iaload, 1) := by decide +kernel
theorem dX8_behind_89 : decode cX8_behind 89 = .ok (.aload_n 0, 1) := by decide +kernel
theorem dX8_behind_90 : decode cX8_behind 90 = .ok (.aload_n 0, 1) := by decide +kernel
theorem dX8_behind_91 : decode cX8_behind 91 = .ok (.getfield 87, 3) := by decide +kernel
theorem dX8_behind_94 : decode cX8_behind 94 = .ok (.iload_n 1, 1) := by decide +kernel
theorem dX8_behind_95 : decode cX8_behind 95 = .ok (.iload 7, 2) := by decide +kernel
theorem dX8_behind_97 : decode cX8_behind 97 = .ok (.iconst 1, 1) := by decide +kernel
theorem dX8_behind_98 : decode cX8_behind 98 = .ok (.invokestatic 65, 3) := by decide +kernel
theorem dX8_behind_101 : decode cX8_behind 101 = .ok (.invokevirtual 195, 3) := by decide +kernel
theorem dX8_behind_104 : decode cX8_behind 104 = .ok (.invokestatic 191, 3) := by decide +kernel
theorem dX8_behind_107 : decode cX8_behind 107 = .ok (.ifCond .eq 10, 3) := by decide +kernel
theorem dX8_behind_110 : decode cX8_behind 110 = .ok (.iconst 1, 1) := by decide +kernel
theorem dX8_behind_111 : decode cX8_behind 111 = .ok (.iload 7, 2) := by decide +kernel
theorem dX8_behind_113 : decode cX8_behind 113 = .ok (.ishl, 1) := by decide +kernel
theorem dX8_behind_114 : decode cX8_behind 114 = .ok (.goto 4, 3) := by decide +kernel
theorem dX8_behind_117 : decode cX8_behind 117 = .ok (.iconst 0, 1) := by decide +kernel
theorem dX8_behind_118 : decode cX8_behind 118 = .ok (.ior, 1) := by decide +kernel
theorem dX8_behind_119 : decode cX8_behind 119 = .ok (.istore 5, 2) := by decide +kernel
theorem dX8_behind_121 : decode cX8_behind 121 = .ok (.iinc 7 1, 3) := by decide +kernel
theorem dX8_behind_124 : decode cX8_behind 124 = .ok (.goto (-71), 3) := by decide +kernel
theorem dX8_behind_127 : decode cX8_behind 127 = .ok (.aload_n 0, 1) := by decide +kernel
theorem dX8_behind_128 : decode cX8_behind 128 = .ok (.getfield 226, 3) := by decide +kernel
theorem dX8_behind_131 : decode cX8_behind 131 = .ok (.bipush (-9), 2) := by decide +kernel
theorem dX8_behind_133 : decode cX8_behind 133 = .ok (.if_icmp .ne 13, 3) := by decide +kernel
theorem dX8_behind_136 : decode cX8_behind 136 = .ok (.iload 4, 2) := by decide +kernel
theorem dX8_behind_138 : decode cX8_behind 138 = .ok (.iload 5, 2) := by decide +kernel
theorem dX8_behind_140 : decode cX8_behind 140 = .ok (.bipush 9, 2) := by decide +kernel
theorem dX8_behind_142 : decode cX8_behind 142 = .ok (.invokestatic 238, 3) := by decide +kernel
theorem dX8_behind_145 : decode cX8_behind 145 = .ok (.ireturn, 1) := by decide +kernel
theorem dX8_behind_146 : decode cX8_behind 146 = .ok (.iload 6, 2) := by decide +kernel
theorem dX8_behind_148 : decode cX8_behind 148 = .ok (.bipush 9, 2) := by decide +kernel
theorem dX8_behind_150 : decode cX8_behind 150 = .ok (.if_icmp .ge 10, 3) := by decide +kernel
theorem dX8_behind_153 : decode cX8_behind 153 = .ok (.iload 6, 2) := by decide +kernel
theorem dX8_behind_155 : decode cX8_behind 155 = .ok (.iconst 1, 1) := by decide +kernel
theorem dX8_behind_156 : decode cX8_behind 156 = .ok (.iadd, 1) := by decide +kernel
theorem dX8_behind_157 : decode cX8_behind 157 = .ok (.goto 5, 3) := by decide +kernel
theorem dX8_behind_160 : decode cX8_behind 160 = .ok (.bipush 9, 2) := by decide +kernel
theorem dX8_behind_162 : decode cX8_behind 162 = .ok (.istore 6, 2) := by decide +kernel
theorem dX8_behind_164 : decode cX8_behind 164 = .ok (.iload 6, 2) := by decide +kernel
theorem dX8_behind_166 : decode cX8_behind 166 = .ok (.aload_n 0, 1) := by decide +kernel
theorem dX8_behind_167 : decode cX8_behind 167 = .ok (.getfield 235, 3) := by decide +kernel
theorem dX8_behind_170 : decode cX8_behind 170 = .ok (.if_icmp .gt 47, 3) := by decide +kernel
theorem dX8_behind_173 : decode cX8_behind 173 = .ok (.iload 6, 2) := by decide +kernel
theorem dX8_behind_175 : decode cX8_behind 175 = .ok (.bipush 9, 2) := by decide +kernel
theorem dX8_behind_177 : decode cX8_behind 177 = .ok (.if_icmp .gt 40, 3) := by decide +kernel
theorem dX8_behind_180 : decode cX8_behind 180 = .ok (.iload_n 2, 1) := by decide +kernel
theorem dX8_behind_181 : decode cX8_behind 181 = .ok (.bipush 10, 2) := by decide +kernel
theorem dX8_behind_183 : decode cX8_behind 183 = .ok (.irem, 1) := by decide +kernel
theorem dX8_behind_184 : decode cX8_behind 184 = .ok (.bipush 9, 2) := by decide +kernel
theorem dX8_behind_186 : decode cX8_behind 186 = .ok (.if_icmp .eq 31, 3) := by decide +kernel
theorem dX8_behind_189 : decode cX8_behind 189 = .ok (.aload_n 0, 1) := by decide +kernel
theorem dX8_behind_190 : decode cX8_behind 190 = .ok (.getfield 106, 3) := by decide +kernel
theorem dX8_behind_193 : decode cX8_behind 193 = .ok (.iload 4, 2) := by decide +kernel
theorem dX8_behind_195 : decode cX8_behind 195 = .ok (.iaload, 1) := by decide +kernel
theorem dX8_behind_196 : decode cX8_behind 196 = .ok (.aload_n 0, 1) := by decide +kernel
theorem dX8_behind_197 : decode cX8_behind 197 = .ok (.getfield 229, 3) := by decide +kernel
theorem dX8_behind_200 : decode cX8_behind 200 = .ok (.invokestatic 191, 3) := by decide +kernel
theorem dX8_behind_203 : decode cX8_behind 203 = .ok (.ifCond .eq 14, 3) := by decide +kernel
theorem dX8_behind_206 : decode cX8_behind 206 = .ok (.iload 5, 2) := by decide +kernel
theorem dX8_behind_208 : decode cX8_behind 208 = .ok (.iconst 1, 1) := by decide +kernel
theorem dX8_behind_209 : decode cX8_behind 209 = .ok (.aload_n 0, 1) := by decide +kernel
theorem dX8_behind_210 : decode cX8_behind 210 = .ok (.getfield 226, 3) := by decide +kernel
theorem dX8_behind_213 : decode cX8_behind 213 = .ok (.ishl, 1) := by decide +kernel
theorem dX8_behind_214 : decode cX8_behind 214 = .ok (.ior, 1) := by decide +kernel
theorem dX8_behind_215 : decode cX8_behind 215 = .ok (.istore 5, 2) := by decide +kernel
theorem dX8_behind_217 : decode cX8_behind 217 = .ok (.iload 5, 2) := by decide +kernel
theorem dX8_behind_219 : decode cX8_behind 219 = .ok (.aload_n 0, 1) := by decide +kernel
theorem dX8_behind_220 : decode cX8_behind 220 = .ok (.getfield 226, 3) := by decide +kernel
theorem dX8_behind_223 : decode cX8_behind 223 = .ok (.invokestatic 191, 3) := by decide +kernel
theorem dX8_behind_226 : decode cX8_behind 226 = .ok (.ifCond .eq 13, 3) := by decide +kernel
theorem dX8_behind_229 : decode cX8_behind 229 = .ok (.iload 4, 2) := by decide +kernel
theorem dX8_behind_231 : decode cX8_behind 231 = .ok (.iload 5, 2) := by decide +kernel
theorem dX8_behind_233 : decode cX8_behind 233 = .ok (.bipush 9, 2) := by decide +kernel
theorem dX8_behind_235 : decode cX8_behind 235 = .ok (.invokestatic 238, 3) := by decide +kernel
theorem dX8_behind_238 : decode cX8_behind 238 = .ok (.ireturn, 1) := by decide +kernel
theorem dX8_behind_239 : decode cX8_behind 239 = .ok (.aload_n 0, 1) := by decide +kernel
theorem dX8_behind_240 : decode cX8_behind 240 = .ok (.getfield 106, 3) := by decide +kernel
theorem dX8_behind_243 : decode cX8_behind 243 = .ok (.iload 4, 2) := by decide +kernel
theorem dX8_behind_245 : decode cX8_behind 245 = .ok (.iaload, 1) := by decide +kernel
theorem dX8_behind_246 : decode cX8_behind 246 = .ok (.aload_n 0, 1) := by decide +kernel
theorem dX8_behind_247 : decode cX8_behind 247 = .ok (.getfield 232, 3) := by decide +kernel
theorem dX8_behind_250 : decode cX8_behind 250 = .ok (.invokestatic 191, 3) := by decide +kernel
theorem dX8_behind_253 : decode cX8_behind 253 = .ok (.ifCond .eq 7, 3) := by decide +kernel
theorem dX8_behind_256 : decode cX8_behind 256 = .ok (.iconst 0, 1) := by decide +kernel
theorem dX8_behind_257 : decode cX8_behind 257 = .ok (.goto 28, 3) := by decide +kernel
theorem dX8_behind_260 : decode cX8_behind 260 = .ok (.iload 6, 2) := by decide +kernel
theorem dX8_behind_262 : decode cX8_behind 262 = .ok (.aload_n 0, 1) := by decide +kernel
theorem dX8_behind_263 : decode cX8_behind 263 = .ok (.getfield 235, 3) := by decide +kernel
theorem dX8_behind_266 : decode cX8_behind 266 = .ok (.if_icmp .ge 17, 3) := by decide +kernel
theorem dX8_behind_269 : decode cX8_behind 269 = .ok (.iload_n 2, 1) := by decide +kernel
theorem dX8_behind_270 : decode cX8_behind 270 = .ok (.bipush 10, 2) := by decide +kernel
theorem dX8_behind_272 : decode cX8_behind 272 = .ok (.irem, 1) := by decide +kernel
theorem dX8_behind_273 : decode cX8_behind 273 = .ok (.bipush 9, 2) := by decide +kernel
theorem dX8_behind_275 : decode cX8_behind 275 = .ok (.if_icmp .eq 8, 3) := by decide +kernel
theorem dX8_behind_278 : decode cX8_behind 278 = .ok (.iload 6, 2) := by decide +kernel
theorem dX8_behind_280 : decode cX8_behind 280 = .ok (.goto 5, 3) := by decide +kernel
theorem dX8_behind_283 : decode cX8_behind 283 = .ok (.bipush 9, 2) := by decide +kernel
theorem dX8_behind_285 : decode cX8_behind 285 = .ok (.istore 6, 2) := by decide +kernel
theorem dX8_behind_287 : decode cX8_behind 287 = .ok (.iload 4, 2) := by decide +kernel
theorem dX8_behind_289 : decode cX8_behind 289 = .ok (.iload 5, 2) := by decide +kernel
theorem dX8_behind_291 : decode cX8_behind 291 = .ok (.iload 6, 2) := by decide +kernel
theorem dX8_behind_293 : decode cX8_behind 293 = .ok (.invokestatic 238, 3) := by decide +kernel
theorem dX8_behind_296 : decode cX8_behind 296 = .ok (.ireturn, 1) := by decide +kernel
abbrev mdX8_behind : MD := (cX8_behind, RX8, 8, (some .int), yX8_behind.name, 1, 23, eT)
set_option maxHeartbeats 2000000 in
set_option maxRecDepth 20000 in
theorem p_X8_behind_J285 (C : KX) (l4 : Int32) (l5 : Int32) (s0 : Int32)  : Cmp C mdX8_behind (QM rvI) 285 [(4, .int l4), (5, .int l5)] [.int s0] (m_X8_behind_J285 l4 l5 s0) := by
  unfold m_X8_behind_J285
  refine C_istore (D := mdX8_behind) (pc' := 287) (ls' := [(6, .int s0), (4, .int l4), (5, .int l5)]) dX8_behind_285 rfl (by decide) rfl ?_
  refine C_iload (D := mdX8_behind) (pc' := 289) (x := l4) dX8_behind_287 rfl 1 rfl ?_
  refine C_iload (D := mdX8_behind) (pc' := 291) (x := l5) dX8_behind_289 rfl 2 rfl ?_
  refine C_iload (D := mdX8_behind) (pc' := 293) (x := s0) dX8_behind_291 rfl 0 rfl ?_
  refine C_callS (D := mdX8_behind) (pc' := 296) (st := []) [.int l4, .int l5, .int s0] s_X8_238 (i_X8_stateOf C l4 l5 s0) dX8_behind_293 rfl rfl rfl (Nat.le_of_ble_eq_true rfl) (by decide) (by decide) (fun c19 => ?_)
  exact C_iret rfl dX8_behind_296
set_option maxHeartbeats 2000000 in
set_option maxRecDepth 20000 in
theorem p_X8_behind_J283 (C : KX) (l4 : Int32) (l5 : Int32)  : Cmp C mdX8_behind (QM rvI) 283 [(4, .int l4), (5, .int l5)] [] (m_X8_behind_J283 l4 l5) := by
  unfold m_X8_behind_J283
  refine C_bipush (D := mdX8_behind) (pc' := 285) (v := 9) dX8_behind_283 rfl (by decide) ?_
  exact C_sub [0, 1] rfl (p_X8_behind_J285 C l4 l5 9)
set_option maxHeartbeats 2000000 in
set_option maxRecDepth 20000 in
theorem p_X8_behind_J217 (C : KX) (l0 : Nat) (l2 : Int32) (l4 : Int32) (l5 : Int32) (l6 : Int32)  : Cmp C mdX8_behind (QM rvI) 217 [(0, .ref (kB C + l0)), (2, .int l2), (4, .int l4), (5, .int l5), (6, .int l6)] [] (m_X8_behind_J217 l0 l2 l4 l5 l6) := by
  unfold m_X8_behind_J217
  refine C_iload (D := mdX8_behind) (pc' := 219) (x := l5) dX8_behind_217 rfl 3 rfl ?_
  refine C_aload_n (D := mdX8_behind) (pc' := 220) (x := kB C + l0) dX8_behind_219 rfl 0 rfl ?_
  refine C_getI (D := mdX8_behind) (pc' := 223) (p := l0) f_X8_226 rfl dX8_behind_220 rfl (fun nearPart12 => ?_)
  refine C_callS (D := mdX8_behind) (pc' := 226) (st := []) [.int l5, .int nearPart12] s_X8_191 (i_X8_has C l5 nearPart12) dX8_behind_223 rfl rfl rfl (Nat.le_of_ble_eq_true rfl) (by decide) (by decide) (fun c13 => ?_)
  refine C_if_eq (D := mdX8_behind) (pc' := 229) (tgt := 239) dX8_behind_226 (by decide) rfl ?_ ?_
  · refine C_aload_n (D := mdX8_behind) (pc' := 240) (x := kB C + l0) dX8_behind_239 rfl 0 rfl ?_
    refine C_getR (D := mdX8_behind) (pc' := 243) (p := l0) f_X8_106 rfl dX8_behind_240 rfl (fun ends14 => ?_)
    refine C_iload (D := mdX8_behind) (pc' := 245) (x := l4) dX8_behind_243 rfl 2 rfl ?_
    refine C_aI (D := mdX8_behind) (pc' := 246) (p := ends14) dX8_behind_245 rfl (fun x15 => ?_)
    refine C_aload_n (D := mdX8_behind) (pc' := 247) (x := kB C + l0) dX8_behind_246 rfl 0 rfl ?_
    refine C_getI (D := mdX8_behind) (pc' := 250) (p := l0) f_X8_232 rfl dX8_behind_247 rfl (fun nearOther16 => ?_)
    refine C_callS (D := mdX8_behind) (pc' := 253) (st := []) [.int x15, .int nearOther16] s_X8_191 (i_X8_has C x15 nearOther16) dX8_behind_250 rfl rfl rfl (Nat.le_of_ble_eq_true rfl) (by decide) (by decide) (fun c17 => ?_)
    refine C_if_eq (D := mdX8_behind) (pc' := 256) (tgt := 260) dX8_behind_253 (by decide) rfl ?_ ?_
    · refine C_iload (D := mdX8_behind) (pc' := 262) (x := l6) dX8_behind_260 rfl 4 rfl ?_
      refine C_aload_n (D := mdX8_behind) (pc' := 263) (x := kB C + l0) dX8_behind_262 rfl 0 rfl ?_
      refine C_getI (D := mdX8_behind) (pc' := 266) (p := l0) f_X8_235 rfl dX8_behind_263 rfl (fun nearBy18 => ?_)
      refine C_icmp_ge (D := mdX8_behind) (pc' := 269) (tgt := 283) dX8_behind_266 (by decide) rfl ?_ ?_
      · exact C_sub [2, 3] rfl (p_X8_behind_J283 C l4 l5)
      · refine C_iload_n (D := mdX8_behind) (pc' := 270) (x := l2) dX8_behind_269 rfl 1 rfl ?_
        refine C_bipush (D := mdX8_behind) (pc' := 272) (v := 10) dX8_behind_270 rfl (by decide) ?_
        refine C_irem (D := mdX8_behind) (pc' := 273) dX8_behind_272 rfl (by decide) ?_
        refine C_bipush (D := mdX8_behind) (pc' := 275) (v := 9) dX8_behind_273 rfl (by decide) ?_
        refine C_icmp_eq (D := mdX8_behind) (pc' := 278) (tgt := 283) dX8_behind_275 (by decide) rfl ?_ ?_
        · exact C_sub [2, 3] rfl (p_X8_behind_J283 C l4 l5)
        · refine C_iload (D := mdX8_behind) (pc' := 280) (x := l6) dX8_behind_278 rfl 4 rfl ?_
          refine C_goto (D := mdX8_behind) (pc' := 285) dX8_behind_280 (by decide) ?_
          exact C_sub [2, 3] rfl (p_X8_behind_J285 C l4 l5 l6)
    · refine C_iconst (D := mdX8_behind) (pc' := 257) (v := 0) dX8_behind_256 rfl (by decide) ?_
      refine C_goto (D := mdX8_behind) (pc' := 285) dX8_behind_257 (by decide) ?_
      exact C_sub [2, 3] rfl (p_X8_behind_J285 C l4 l5 0)
  · refine C_iload (D := mdX8_behind) (pc' := 231) (x := l4) dX8_behind_229 rfl 2 rfl ?_
    refine C_iload (D := mdX8_behind) (pc' := 233) (x := l5) dX8_behind_231 rfl 3 rfl ?_
    refine C_bipush (D := mdX8_behind) (pc' := 235) (v := 9) dX8_behind_233 rfl (by decide) ?_
    refine C_callS (D := mdX8_behind) (pc' := 238) (st := []) [.int l4, .int l5, .int 9] s_X8_238 (i_X8_stateOf C l4 l5 9) dX8_behind_235 rfl rfl rfl (Nat.le_of_ble_eq_true rfl) (by decide) (by decide) (fun c20 => ?_)
    exact C_iret rfl dX8_behind_238
set_option maxHeartbeats 2000000 in
set_option maxRecDepth 20000 in
theorem p_X8_behind_J162 (C : KX) (l0 : Nat) (l2 : Int32) (l4 : Int32) (l5 : Int32) (s0 : Int32)  : Cmp C mdX8_behind (QM rvI) 162 [(0, .ref (kB C + l0)), (2, .int l2), (4, .int l4), (5, .int l5)] [.int s0] (m_X8_behind_J162 l0 l2 l4 l5 s0) := by
  unfold m_X8_behind_J162
  refine C_istore (D := mdX8_behind) (pc' := 164) (ls' := [(6, .int s0), (0, .ref (kB C + l0)), (2, .int l2), (4, .int l4), (5, .int l5)]) dX8_behind_162 rfl (by decide) rfl ?_
  refine C_iload (D := mdX8_behind) (pc' := 166) (x := s0) dX8_behind_164 rfl 0 rfl ?_
  refine C_aload_n (D := mdX8_behind) (pc' := 167) (x := kB C + l0) dX8_behind_166 rfl 1 rfl ?_
  refine C_getI (D := mdX8_behind) (pc' := 170) (p := l0) f_X8_235 rfl dX8_behind_167 rfl (fun nearBy11 => ?_)
  refine C_icmp_gt (D := mdX8_behind) (pc' := 173) (tgt := 217) dX8_behind_170 (by decide) rfl ?_ ?_
  · exact C_sub [1, 2, 3, 4, 0] rfl (p_X8_behind_J217 C l0 l2 l4 l5 s0)
  · refine C_iload (D := mdX8_behind) (pc' := 175) (x := s0) dX8_behind_173 rfl 0 rfl ?_
    refine C_bipush (D := mdX8_behind) (pc' := 177) (v := 9) dX8_behind_175 rfl (by decide) ?_
    refine C_icmp_gt (D := mdX8_behind) (pc' := 180) (tgt := 217) dX8_behind_177 (by decide) rfl ?_ ?_
    · exact C_sub [1, 2, 3, 4, 0] rfl (p_X8_behind_J217 C l0 l2 l4 l5 s0)
    · refine C_iload_n (D := mdX8_behind) (pc' := 181) (x := l2) dX8_behind_180 rfl 2 rfl ?_
      refine C_bipush (D := mdX8_behind) (pc' := 183) (v := 10) dX8_behind_181 rfl (by decide) ?_
      refine C_irem (D := mdX8_behind) (pc' := 184) dX8_behind_183 rfl (by decide) ?_
      refine C_bipush (D := mdX8_behind) (pc' := 186) (v := 9) dX8_behind_184 rfl (by decide) ?_
      refine C_icmp_eq (D := mdX8_behind) (pc' := 189) (tgt := 217) dX8_behind_186 (by decide) rfl ?_ ?_
      · exact C_sub [1, 2, 3, 4, 0] rfl (p_X8_behind_J217 C l0 l2 l4 l5 s0)
      · refine C_aload_n (D := mdX8_behind) (pc' := 190) (x := kB C + l0) dX8_behind_189 rfl 1 rfl ?_
        refine C_getR (D := mdX8_behind) (pc' := 193) (p := l0) f_X8_106 rfl dX8_behind_190 rfl (fun ends21 => ?_)
        refine C_iload (D := mdX8_behind) (pc' := 195) (x := l4) dX8_behind_193 rfl 3 rfl ?_
        refine C_aI (D := mdX8_behind) (pc' := 196) (p := ends21) dX8_behind_195 rfl (fun x22 => ?_)
        refine C_aload_n (D := mdX8_behind) (pc' := 197) (x := kB C + l0) dX8_behind_196 rfl 1 rfl ?_
        refine C_getI (D := mdX8_behind) (pc' := 200) (p := l0) f_X8_229 rfl dX8_behind_197 rfl (fun nearWord23 => ?_)
        refine C_callS (D := mdX8_behind) (pc' := 203) (st := []) [.int x22, .int nearWord23] s_X8_191 (i_X8_has C x22 nearWord23) dX8_behind_200 rfl rfl rfl (Nat.le_of_ble_eq_true rfl) (by decide) (by decide) (fun c24 => ?_)
        refine C_if_eq (D := mdX8_behind) (pc' := 206) (tgt := 217) dX8_behind_203 (by decide) rfl ?_ ?_
        · exact C_sub [1, 2, 3, 4, 0] rfl (p_X8_behind_J217 C l0 l2 l4 l5 s0)
        · refine C_iload (D := mdX8_behind) (pc' := 208) (x := l5) dX8_behind_206 rfl 4 rfl ?_
          refine C_iconst (D := mdX8_behind) (pc' := 209) (v := 1) dX8_behind_208 rfl (by decide) ?_
          refine C_aload_n (D := mdX8_behind) (pc' := 210) (x := kB C + l0) dX8_behind_209 rfl 1 rfl ?_
          refine C_getI (D := mdX8_behind) (pc' := 213) (p := l0) f_X8_226 rfl dX8_behind_210 rfl (fun nearPart25 => ?_)
          refine C_ishl (D := mdX8_behind) (pc' := 214) dX8_behind_213 rfl ?_
          refine C_ior (D := mdX8_behind) (pc' := 215) dX8_behind_214 rfl ?_
          refine C_letI (fun v26 => ?_)
          refine C_istore (D := mdX8_behind) (pc' := 217) (ls' := [(5, .int v26), (6, .int s0), (0, .ref (kB C + l0)), (2, .int l2), (4, .int l4)]) dX8_behind_215 rfl (by decide) rfl ?_
          exact C_sub [2, 3, 4, 0, 1] rfl (p_X8_behind_J217 C l0 l2 l4 v26 s0)
set_option maxHeartbeats 2000000 in
set_option maxRecDepth 20000 in
theorem p_X8_behind_J118 (C : KX) (l0 : Nat) (l1 : Int32) (l2 : Int32) (l4 : Int32) (l6 : Int32) (l7 : Int32) (s0 : Int32) (s1 : Int32) (k53 : Int32 × Int32 → Mo Int32) (hk53 : ∀ s, Cmp C mdX8_behind (QM rvI) 53 [(0, .ref (kB C + l0)), (1, .int l1), (2, .int l2), (4, .int l4), (5, .int s.1), (6, .int l6), (7, .int s.2)] [] (k53 s)) : Cmp C mdX8_behind (QM rvI) 118 [(0, .ref (kB C + l0)), (1, .int l1), (2, .int l2), (4, .int l4), (6, .int l6), (7, .int l7)] [.int s0, .int s1] (m_X8_behind_J118 l0 l1 l2 l4 l6 l7 s0 s1 k53) := by
  unfold m_X8_behind_J118
  refine C_ior (D := mdX8_behind) (pc' := 119) dX8_behind_118 rfl ?_
  refine C_letI (fun v30 => ?_)
  refine C_istore (D := mdX8_behind) (pc' := 121) (ls' := [(5, .int v30), (0, .ref (kB C + l0)), (1, .int l1), (2, .int l2), (4, .int l4), (6, .int l6), (7, .int l7)]) dX8_behind_119 rfl (by decide) rfl ?_
  refine C_iinc (D := mdX8_behind) (pc' := 124) (j := 6) (v := (l7 + 1)) (ls' := [(7, .int (l7 + 1)), (5, .int v30), (0, .ref (kB C + l0)), (1, .int l1), (2, .int l2), (4, .int l4), (6, .int l6)]) dX8_behind_121 rfl rfl rfl (by decide) rfl ?_
  refine C_goto (D := mdX8_behind) (pc' := 53) dX8_behind_124 (by decide) ?_
  exact C_sub [2, 3, 4, 5, 1, 6, 0] rfl (hk53 (v30, (l7 + 1)))
set_option maxHeartbeats 2000000 in
set_option maxRecDepth 20000 in
theorem p_X8_behind_J117 (C : KX) (l0 : Nat) (l1 : Int32) (l2 : Int32) (l4 : Int32) (l6 : Int32) (l7 : Int32) (s0 : Int32) (k53 : Int32 × Int32 → Mo Int32) (hk53 : ∀ s, Cmp C mdX8_behind (QM rvI) 53 [(0, .ref (kB C + l0)), (1, .int l1), (2, .int l2), (4, .int l4), (5, .int s.1), (6, .int l6), (7, .int s.2)] [] (k53 s)) : Cmp C mdX8_behind (QM rvI) 117 [(0, .ref (kB C + l0)), (1, .int l1), (2, .int l2), (4, .int l4), (6, .int l6), (7, .int l7)] [.int s0] (m_X8_behind_J117 l0 l1 l2 l4 l6 l7 s0 k53) := by
  unfold m_X8_behind_J117
  refine C_iconst (D := mdX8_behind) (pc' := 118) (v := 0) dX8_behind_117 rfl (by decide) ?_
  exact C_sub [0, 1, 2, 3, 4, 5] rfl (p_X8_behind_J118 C l0 l1 l2 l4 l6 l7 0 s0 k53 hk53)
set_option maxHeartbeats 2000000 in
set_option maxRecDepth 20000 in
theorem p_X8_behind_B53 (C : KX) (l0 : Nat) (l1 : Int32) (l2 : Int32) (l4 : Int32) (l6 : Int32)  (k53 : Int32 × Int32 → Mo Int32) (hk53 : ∀ s, Cmp C mdX8_behind (QM rvI) 53 [(0, .ref (kB C + l0)), (1, .int l1), (2, .int l2), (4, .int l4), (5, .int s.1), (6, .int l6), (7, .int s.2)] [] (k53 s)) (l5 : Int32) (l7 : Int32) : Cmp C mdX8_behind (QM rvI) 53 [(0, .ref (kB C + l0)), (1, .int l1), (2, .int l2), (4, .int l4), (5, .int l5), (6, .int l6), (7, .int l7)] [] (m_X8_behind_B53 l0 l1 l2 l4 l6 k53 l5 l7) := by
  unfold m_X8_behind_B53
  refine C_iload (D := mdX8_behind) (pc' := 55) (x := l7) dX8_behind_53 rfl 6 rfl ?_
  refine C_aload_n (D := mdX8_behind) (pc' := 56) (x := kB C + l0) dX8_behind_55 rfl 0 rfl ?_
  refine C_getR (D := mdX8_behind) (pc' := 59) (p := l0) f_X8_87 rfl dX8_behind_56 rfl (fun now8 => ?_)
  refine C_iload_n (D := mdX8_behind) (pc' := 60) (x := l1) dX8_behind_59 rfl 1 rfl ?_
  refine C_callS (D := mdX8_behind) (pc' := 63) (st := [.int l7]) [.ref (kB C + now8), .int l1] s_X8_61 (i_X8_parts C now8 l1) dX8_behind_60 rfl rfl rfl (Nat.le_of_ble_eq_true rfl) (by decide) (by decide) (fun c9 => ?_)
  refine C_icmp_ge (D := mdX8_behind) (pc' := 66) (tgt := 127) dX8_behind_63 (by decide) rfl ?_ ?_
  · refine C_aload_n (D := mdX8_behind) (pc' := 128) (x := kB C + l0) dX8_behind_127 rfl 0 rfl ?_
    refine C_getI (D := mdX8_behind) (pc' := 131) (p := l0) f_X8_226 rfl dX8_behind_128 rfl (fun nearPart10 => ?_)
    refine C_bipush (D := mdX8_behind) (pc' := 133) (v := (-9)) dX8_behind_131 rfl (by decide) ?_
    refine C_icmp_ne (D := mdX8_behind) (pc' := 136) (tgt := 146) dX8_behind_133 (by decide) rfl ?_ ?_
    · refine C_iload (D := mdX8_behind) (pc' := 148) (x := l6) dX8_behind_146 rfl 5 rfl ?_
      refine C_bipush (D := mdX8_behind) (pc' := 150) (v := 9) dX8_behind_148 rfl (by decide) ?_
      refine C_icmp_ge (D := mdX8_behind) (pc' := 153) (tgt := 160) dX8_behind_150 (by decide) rfl ?_ ?_
      · refine C_bipush (D := mdX8_behind) (pc' := 162) (v := 9) dX8_behind_160 rfl (by decide) ?_
        exact C_sub [0, 2, 3, 4] rfl (p_X8_behind_J162 C l0 l2 l4 l5 9)
      · refine C_iload (D := mdX8_behind) (pc' := 155) (x := l6) dX8_behind_153 rfl 5 rfl ?_
        refine C_iconst (D := mdX8_behind) (pc' := 156) (v := 1) dX8_behind_155 rfl (by decide) ?_
        refine C_iadd (D := mdX8_behind) (pc' := 157) dX8_behind_156 rfl ?_
        refine C_goto (D := mdX8_behind) (pc' := 162) dX8_behind_157 (by decide) ?_
        exact C_sub [0, 2, 3, 4] rfl (p_X8_behind_J162 C l0 l2 l4 l5 ((l6 + 1)))
    · refine C_iload (D := mdX8_behind) (pc' := 138) (x := l4) dX8_behind_136 rfl 3 rfl ?_
      refine C_iload (D := mdX8_behind) (pc' := 140) (x := l5) dX8_behind_138 rfl 4 rfl ?_
      refine C_bipush (D := mdX8_behind) (pc' := 142) (v := 9) dX8_behind_140 rfl (by decide) ?_
      refine C_callS (D := mdX8_behind) (pc' := 145) (st := []) [.int l4, .int l5, .int 9] s_X8_238 (i_X8_stateOf C l4 l5 9) dX8_behind_142 rfl rfl rfl (Nat.le_of_ble_eq_true rfl) (by decide) (by decide) (fun c27 => ?_)
      exact C_iret rfl dX8_behind_145
  · refine C_iload (D := mdX8_behind) (pc' := 68) (x := l5) dX8_behind_66 rfl 4 rfl ?_
    refine C_aload_n (D := mdX8_behind) (pc' := 69) (x := kB C + l0) dX8_behind_68 rfl 0 rfl ?_
    refine C_getR (D := mdX8_behind) (pc' := 72) (p := l0) f_X8_87 rfl dX8_behind_69 rfl (fun now28 => ?_)
    refine C_iload_n (D := mdX8_behind) (pc' := 73) (x := l1) dX8_behind_72 rfl 1 rfl ?_
    refine C_iload (D := mdX8_behind) (pc' := 75) (x := l7) dX8_behind_73 rfl 6 rfl ?_
    refine C_iconst (D := mdX8_behind) (pc' := 76) (v := 0) dX8_behind_75 rfl (by decide) ?_
    refine C_callS (D := mdX8_behind) (pc' := 79) (st := [.int l5]) [.ref (kB C + now28), .int l1, .int l7, .int 0] s_X8_65 (i_X8_of C now28 l1 l7 0) dX8_behind_76 rfl rfl rfl (Nat.le_of_ble_eq_true rfl) (by decide) (by decide) (fun c29 => ?_)
    refine C_if_ne (D := mdX8_behind) (pc' := 82) (tgt := 117) dX8_behind_79 (by decide) rfl ?_ ?_
    · exact C_sub [0, 1, 2, 3, 5, 6] rfl (p_X8_behind_J117 C l0 l1 l2 l4 l6 l7 l5 k53 hk53)
    · refine C_aload_n (D := mdX8_behind) (pc' := 83) (x := kB C + l0) dX8_behind_82 rfl 0 rfl ?_
      refine C_getR (D := mdX8_behind) (pc' := 86) (p := l0) f_X8_106 rfl dX8_behind_83 rfl (fun ends31 => ?_)
      refine C_iload (D := mdX8_behind) (pc' := 88) (x := l4) dX8_behind_86 rfl 3 rfl ?_
      refine C_aI (D := mdX8_behind) (pc' := 89) (p := ends31) dX8_behind_88 rfl (fun x32 => ?_)
      refine C_aload_n (D := mdX8_behind) (pc' := 90) (x := kB C + l0) dX8_behind_89 rfl 0 rfl ?_
      refine C_aload_n (D := mdX8_behind) (pc' := 91) (x := kB C + l0) dX8_behind_90 rfl 0 rfl ?_
      refine C_getR (D := mdX8_behind) (pc' := 94) (p := l0) f_X8_87 rfl dX8_behind_91 rfl (fun now33 => ?_)
      refine C_iload_n (D := mdX8_behind) (pc' := 95) (x := l1) dX8_behind_94 rfl 1 rfl ?_
      refine C_iload (D := mdX8_behind) (pc' := 97) (x := l7) dX8_behind_95 rfl 6 rfl ?_
      refine C_iconst (D := mdX8_behind) (pc' := 98) (v := 1) dX8_behind_97 rfl (by decide) ?_
      refine C_callS (D := mdX8_behind) (pc' := 101) (st := [.ref (kB C + l0), .int x32, .int l5]) [.ref (kB C + now33), .int l1, .int l7, .int 1] s_X8_65 (i_X8_of C now33 l1 l7 1) dX8_behind_98 rfl rfl rfl (Nat.le_of_ble_eq_true rfl) (by decide) (by decide) (fun c34 => ?_)
      refine C_callV (D := mdX8_behind) (pc' := 104) (p := l0) (st := [.int x32, .int l5]) [.int c34] v_X8_195 (i_X8_numberOf C l0 c34) dX8_behind_101 rfl rfl rfl (Nat.le_of_ble_eq_true rfl) (by decide) (by decide) (fun c35 => ?_)
      refine C_callS (D := mdX8_behind) (pc' := 107) (st := [.int l5]) [.int x32, .int c35] s_X8_191 (i_X8_has C x32 c35) dX8_behind_104 rfl rfl rfl (Nat.le_of_ble_eq_true rfl) (by decide) (by decide) (fun c36 => ?_)
      refine C_if_eq (D := mdX8_behind) (pc' := 110) (tgt := 117) dX8_behind_107 (by decide) rfl ?_ ?_
      · exact C_sub [0, 1, 2, 3, 5, 6] rfl (p_X8_behind_J117 C l0 l1 l2 l4 l6 l7 l5 k53 hk53)
      · refine C_iconst (D := mdX8_behind) (pc' := 111) (v := 1) dX8_behind_110 rfl (by decide) ?_
        refine C_iload (D := mdX8_behind) (pc' := 113) (x := l7) dX8_behind_111 rfl 6 rfl ?_
        refine C_ishl (D := mdX8_behind) (pc' := 114) dX8_behind_113 rfl ?_
        refine C_goto (D := mdX8_behind) (pc' := 118) dX8_behind_114 (by decide) ?_
        exact C_sub [0, 1, 2, 3, 5, 6] rfl (p_X8_behind_J118 C l0 l1 l2 l4 l6 l7 (((1 : Int32) <<< (l7 &&& 31))) l5 k53 hk53)
set_option maxHeartbeats 2000000 in
set_option maxRecDepth 20000 in
theorem i_X8_behind (C : KX) (l0 : Nat) (l1 : Int32) (l2 : Int32) (l3 : Int32) : Imp C yX8_behind cX8_behind 8 (some .int) 1 23 rvI [.ref (kB C + l0), .int l1, .int l2, .int l3] (m_X8_behind l0 l1 l2 l3) := by
  refine Imp.of (by decide) (Nat.le_of_ble_eq_true rfl) [(0, .ref (kB C + l0)), (1, .int l1), (2, .int l2), (3, .int l3)] rfl ?_
  show Cmp C mdX8_behind (QM rvI) 0 [(0, .ref (kB C + l0)), (1, .int l1), (2, .int l2), (3, .int l3)] [] (m_X8_behind l0 l1 l2 l3)
  unfold m_X8_behind
  refine C_aload_n (D := mdX8_behind) (pc' := 1) (x := kB C + l0) dX8_behind_0 rfl 0 rfl ?_
  refine C_getR (D := mdX8_behind) (pc' := 4) (p := l0) f_X8_109 rfl dX8_behind_1 rfl (fun nexts1 => ?_)
  refine C_bipush (D := mdX8_behind) (pc' := 6) (v := 8) dX8_behind_4 rfl (by decide) ?_
  refine C_iload_n (D := mdX8_behind) (pc' := 7) (x := l2) dX8_behind_6 rfl 2 rfl ?_
  refine C_sipush (D := mdX8_behind) (pc' := 10) (v := 160) dX8_behind_7 rfl (by decide) ?_
  refine C_idiv (D := mdX8_behind) (pc' := 11) dX8_behind_10 rfl (by decide) ?_
  refine C_imul (D := mdX8_behind) (pc' := 12) dX8_behind_11 rfl ?_
  refine C_iload_n (D := mdX8_behind) (pc' := 13) (x := l3) dX8_behind_12 rfl 3 rfl ?_
  refine C_iadd (D := mdX8_behind) (pc' := 14) dX8_behind_13 rfl ?_
  refine C_aI (D := mdX8_behind) (pc' := 15) (p := nexts1) dX8_behind_14 rfl (fun x2 => ?_)
  refine C_istore (D := mdX8_behind) (pc' := 17) (ls' := [(4, .int x2), (0, .ref (kB C + l0)), (1, .int l1), (2, .int l2), (3, .int l3)]) dX8_behind_15 rfl (by decide) rfl ?_
  refine C_iload_n (D := mdX8_behind) (pc' := 18) (x := l2) dX8_behind_17 rfl 3 rfl ?_
  refine C_bipush (D := mdX8_behind) (pc' := 20) (v := 10) dX8_behind_18 rfl (by decide) ?_
  refine C_idiv (D := mdX8_behind) (pc' := 21) dX8_behind_20 rfl (by decide) ?_
  refine C_bipush (D := mdX8_behind) (pc' := 23) (v := 15) dX8_behind_21 rfl (by decide) ?_
  refine C_iand (D := mdX8_behind) (pc' := 24) dX8_behind_23 rfl ?_
  refine C_letI (fun v3 => ?_)
  refine C_istore (D := mdX8_behind) (pc' := 26) (ls' := [(5, .int v3), (4, .int x2), (0, .ref (kB C + l0)), (1, .int l1), (2, .int l2), (3, .int l3)]) dX8_behind_24 rfl (by decide) rfl ?_
  refine C_iload_n (D := mdX8_behind) (pc' := 27) (x := l2) dX8_behind_26 rfl 4 rfl ?_
  refine C_bipush (D := mdX8_behind) (pc' := 29) (v := 10) dX8_behind_27 rfl (by decide) ?_
  refine C_irem (D := mdX8_behind) (pc' := 30) dX8_behind_29 rfl (by decide) ?_
  refine C_letI (fun v4 => ?_)
  refine C_istore (D := mdX8_behind) (pc' := 32) (ls' := [(6, .int v4), (5, .int v3), (4, .int x2), (0, .ref (kB C + l0)), (1, .int l1), (2, .int l2), (3, .int l3)]) dX8_behind_30 rfl (by decide) rfl ?_
  refine C_aload_n (D := mdX8_behind) (pc' := 33) (x := kB C + l0) dX8_behind_32 rfl 3 rfl ?_
  refine C_getR (D := mdX8_behind) (pc' := 36) (p := l0) f_X8_106 rfl dX8_behind_33 rfl (fun ends5 => ?_)
  refine C_iload (D := mdX8_behind) (pc' := 38) (x := x2) dX8_behind_36 rfl 2 rfl ?_
  refine C_aI (D := mdX8_behind) (pc' := 39) (p := ends5) dX8_behind_38 rfl (fun x6 => ?_)
  refine C_aload_n (D := mdX8_behind) (pc' := 40) (x := kB C + l0) dX8_behind_39 rfl 3 rfl ?_
  refine C_getI (D := mdX8_behind) (pc' := 43) (p := l0) f_X8_220 rfl dX8_behind_40 rfl (fun lacks7 => ?_)
  refine C_iand (D := mdX8_behind) (pc' := 44) dX8_behind_43 rfl ?_
  refine C_if_eq (D := mdX8_behind) (pc' := 47) (tgt := 50) dX8_behind_44 (by decide) rfl ?_ ?_
  · refine C_iconst (D := mdX8_behind) (pc' := 51) (v := 0) dX8_behind_50 rfl (by decide) ?_
    refine C_istore (D := mdX8_behind) (pc' := 53) (ls' := [(7, .int 0), (6, .int v4), (5, .int v3), (4, .int x2), (0, .ref (kB C + l0)), (1, .int l1), (2, .int l2), (3, .int l3)]) dX8_behind_51 rfl (by decide) rfl ?_
    exact C_sub [4, 5, 6, 3, 2, 1, 0] rfl (C_loop (fun s => [(0, .ref (kB C + l0)), (1, .int l1), (2, .int l2), (4, .int x2), (5, .int s.1), (6, .int v4), (7, .int s.2)]) (fun k hk s => p_X8_behind_B53 C l0 l1 l2 x2 v4  k hk s.1 s.2) FU (v3, 0))
  · refine C_bipush (D := mdX8_behind) (pc' := 49) (v := (-9)) dX8_behind_47 rfl (by decide) ?_
    exact C_iret rfl dX8_behind_49

-- StandingQueriesModel.nearest(II)I
theorem dX8_nearest_0 : decode cX8_nearest 0 = .ok (.aload_n 0, 1) := by decide +kernel
theorem dX8_nearest_1 : decode cX8_nearest 1 = .ok (.iconst 0, 1) := by decide +kernel
theorem dX8_nearest_2 : decode cX8_nearest 2 = .ok (.putfield 242, 3) := by decide +kernel
theorem dX8_nearest_5 : decode cX8_nearest 5 = .ok (.aload_n 0, 1) := by decide +kernel
theorem dX8_nearest_6 : decode cX8_nearest 6 = .ok (.iload_n 2, 1) := by decide +kernel
theorem dX8_nearest_7 : decode cX8_nearest 7 = .ok (.invokevirtual 245, 3) := by decide +kernel
theorem dX8_nearest_10 : decode cX8_nearest 10 = .ok (.ifCond .eq 5, 3) := by decide +kernel
theorem dX8_nearest_13 : decode cX8_nearest 13 = .ok (.iload_n 2, 1) := by decide +kernel
theorem dX8_nearest_14 : decode cX8_nearest 14 = .ok (.ireturn, 1) := by decide +kernel
theorem dX8_nearest_15 : decode cX8_nearest 15 = .ok (.iconst 0, 1) := by decide +kernel
theorem dX8_nearest_16 : decode cX8_nearest 16 = .ok (.istore_n 3, 1) := by decide +kernel
theorem dX8_nearest_17 : decode cX8_nearest 17 = .ok (.iload_n 3, 1) := by decide +kernel
theorem dX8_nearest_18 : decode cX8_nearest 18 = .ok (.sipush 15520, 3) := by decide +kernel
theorem dX8_nearest_21 : decode cX8_nearest 21 = .ok (.if_icmp .ge 18, 3) := by decide +kernel
theorem dX8_nearest_24 : decode cX8_nearest 24 = .ok (.aload_n 0, 1) := by decide +kernel
theorem dX8_nearest_25 : decode cX8_nearest 25 = .ok (.getfield 141, 3) := by decide +kernel
theorem dX8_nearest_28 : decode cX8_nearest 28 = .ok (.iload_n 3, 1) := by decide +kernel
theorem dX8_nearest_29 : decode cX8_nearest 29 = .ok (.ldc2_w 248, 3) := by decide +kernel
theorem dX8_nearest_32 : decode cX8_nearest 32 = .ok (.lastore, 1) := by decide +kernel
theorem dX8_nearest_33 : decode cX8_nearest 33 = .ok (.iinc 3 1, 3) := by decide +kernel
theorem dX8_nearest_36 : decode cX8_nearest 36 = .ok (.goto (-19), 3) := by decide +kernel
theorem dX8_nearest_39 : decode cX8_nearest 39 = .ok (.iconst 0, 1) := by decide +kernel
theorem dX8_nearest_40 : decode cX8_nearest 40 = .ok (.istore_n 3, 1) := by decide +kernel
theorem dX8_nearest_41 : decode cX8_nearest 41 = .ok (.iconst 1, 1) := by decide +kernel
theorem dX8_nearest_42 : decode cX8_nearest 42 = .ok (.istore 4, 2) := by decide +kernel
theorem dX8_nearest_44 : decode cX8_nearest 44 = .ok (.aload_n 0, 1) := by decide +kernel
theorem dX8_nearest_45 : decode cX8_nearest 45 = .ok (.getfield 137, 3) := by decide +kernel
theorem dX8_nearest_48 : decode cX8_nearest 48 = .ok (.iconst 0, 1) := by decide +kernel
theorem dX8_nearest_49 : decode cX8_nearest 49 = .ok (.iload_n 2, 1) := by decide +kernel
theorem dX8_nearest_50 : decode cX8_nearest 50 = .ok (.i2l, 1) := by decide +kernel
theorem dX8_nearest_51 : decode cX8_nearest 51 = .ok (.lastore, 1) := by decide +kernel
theorem dX8_nearest_52 : decode cX8_nearest 52 = .ok (.aload_n 0, 1) := by decide +kernel
theorem dX8_nearest_53 : decode cX8_nearest 53 = .ok (.getfield 141, 3) := by decide +kernel
theorem dX8_nearest_56 : decode cX8_nearest 56 = .ok (.iload_n 2, 1) := by decide +kernel
theorem dX8_nearest_57 : decode cX8_nearest 57 = .ok (.lconst 0, 1) := by decide +kernel
theorem dX8_nearest_58 : decode cX8_nearest 58 = .ok (.lastore, 1) := by decide +kernel
theorem dX8_nearest_59 : decode cX8_nearest 59 = .ok (.iload_n 3, 1) := by decide +kernel
theorem dX8_nearest_60 : decode cX8_nearest 60 = .ok (.iload 4, 2) := by decide +kernel
theorem dX8_nearest_62 : decode cX8_nearest 62 = .ok (.if_icmp .ge 139, 3) := by decide +kernel
theorem dX8_nearest_65 : decode cX8_nearest 65 = .ok (.aload_n 0, 1) := by decide +kernel
theorem dX8_nearest_66 : decode cX8_nearest 66 = .ok (.getfield 242, 3) := by decide +kernel
theorem dX8_nearest_69 : decode cX8_nearest 69 = .ok (.bipush 60, 2) := by decide +kernel
theorem dX8_nearest_71 : decode cX8_nearest 71 = .ok (.if_icmp .ge 130, 3) := by decide +kernel
theorem dX8_nearest_74 : decode cX8_nearest 74 = .ok (.iload 4, 2) := by decide +kernel
theorem dX8_nearest_76 : decode cX8_nearest 76 = .ok (.istore 5, 2) := by decide +kernel
theorem dX8_nearest_78 : decode cX8_nearest 78 = .ok (.aload_n 0, 1) := by decide +kernel
theorem dX8_nearest_79 : decode cX8_nearest 79 = .ok (.dup, 1) := by decide +kernel
theorem dX8_nearest_80 : decode cX8_nearest 80 = .ok (.getfield 242, 3) := by decide +kernel
theorem dX8_nearest_83 : decode cX8_nearest 83 = .ok (.iconst 1, 1) := by decide +kernel
theorem dX8_nearest_84 : decode cX8_nearest 84 = .ok (.iadd, 1) := by decide +kernel
theorem dX8_nearest_85 : decode cX8_nearest 85 = .ok (.putfield 242, 3) := by decide +kernel
theorem dX8_nearest_88 : decode cX8_nearest 88 = .ok (.iload_n 3, 1) := by decide +kernel
theorem dX8_nearest_89 : decode cX8_nearest 89 = .ok (.iload 5, 2) := by decide +kernel
theorem dX8_nearest_91 : decode cX8_nearest 91 = .ok (.if_icmp .ge 107, 3) := by decide +kernel
theorem dX8_nearest_94 : decode cX8_nearest 94 = .ok (.aload_n 0, 1) := by decide +kernel
theorem dX8_nearest_95 : decode cX8_nearest 95 = .ok (.getfield 137, 3) := by decide +kernel
theorem dX8_nearest_98 : decode cX8_nearest 98 = .ok (.iload_n 3, 1) := by decide +kernel
theorem dX8_nearest_99 : decode cX8_nearest 99 = .ok (.laload, 1) := by decide +kernel
theorem dX8_nearest_100 : decode cX8_nearest 100 = .ok (.l2i, 1) := by decide +kernel
theorem dX8_nearest_101 : decode cX8_nearest 101 = .ok (.istore 6, 2) := by decide +kernel
theorem dX8_nearest_103 : decode cX8_nearest 103 = .ok (.iinc 3 1, 3) := by decide +kernel
theorem dX8_nearest_106 : decode cX8_nearest 106 = .ok (.iconst 0, 1) := by decide +kernel
theorem dX8_nearest_107 : decode cX8_nearest 107 = .ok (.istore 7, 2) := by decide +kernel
theorem dX8_nearest_109 : decode cX8_nearest 109 = .ok (.iload 7, 2) := by decide +kernel
theorem dX8_nearest_111 : decode cX8_nearest 111 = .ok (.bipush 8, 2) := by decide +kernel
theorem dX8_nearest_113 : decode cX8_nearest 113 = .ok (.if_icmp .ge 82, 3) := by decide +kernel
theorem dX8_nearest_116 : decode cX8_nearest 116 = .ok (.aload_n 0, 1) := by decide +kernel
theorem dX8_nearest_117 : decode cX8_nearest 117 = .ok (.iload_n 1, 1) := by decide +kernel
theorem dX8_nearest_118 : decode cX8_nearest 118 = .ok (.iload 6, 2) := by decide +kernel
theorem dX8_nearest_120 : decode cX8_nearest 120 = .ok (.iload 7, 2) := by decide +kernel
theorem dX8_nearest_122 : decode cX8_nearest 122 = .ok (.invokevirtual 250, 3) := by decide +kernel
theorem dX8_nearest_125 : decode cX8_nearest 125 = .ok (.istore 8, 2) := by decide +kernel
theorem dX8_nearest_127 : decode cX8_nearest 127 = .ok (.iload 8, 2) := by decide +kernel
theorem dX8_nearest_129 : decode cX8_nearest 129 = .ok (.bipush (-9), 2) := by decide +kernel
theorem dX8_nearest_131 : decode cX8_nearest 131 = .ok (.if_icmp .eq 58, 3) := by decide +kernel
theorem dX8_nearest_134 : decode cX8_nearest 134 = .ok (.aload_n 0, 1) := by decide +kernel
theorem dX8_nearest_135 : decode cX8_nearest 135 = .ok (.getfield 141, 3) := by decide +kernel
theorem dX8_nearest_138 : decode cX8_nearest 138 = .ok (.iload 8, 2) := by decide +kernel
theorem dX8_nearest_140 : decode cX8_nearest 140 = .ok (.laload, 1) := by decide +kernel
theorem dX8_nearest_141 : decode cX8_nearest 141 = .ok (.lconst 0, 1) := by decide +kernel
theorem dX8_nearest_142 : decode cX8_nearest 142 = .ok (.lcmp, 1) := by decide +kernel
theorem dX8_nearest_143 : decode cX8_nearest 143 = .ok (.ifCond .ge 46, 3) := by decide +kernel
theorem dX8_nearest_146 : decode cX8_nearest 146 = .ok (.aload_n 0, 1) := by decide +kernel
theorem dX8_nearest_147 : decode cX8_nearest 147 = .ok (.getfield 141, 3) := by decide +kernel
theorem dX8_nearest_150 : decode cX8_nearest 150 = .ok (.iload 8, 2) := by decide +kernel
theorem dX8_nearest_152 : decode cX8_nearest 152 = .ok (.ldc2_w 253, 3) := by decide +kernel
theorem dX8_nearest_155 : decode cX8_nearest 155 = .ok (.iload 6, 2) := by decide +kernel
theorem dX8_nearest_157 : decode cX8_nearest 157 = .ok (.i2l, 1) := by decide +kernel
theorem dX8_nearest_158 : decode cX8_nearest 158 = .ok (.lmul, 1) := by decide +kernel
theorem dX8_nearest_159 : decode cX8_nearest 159 = .ok (.iload 7, 2) := by decide +kernel
theorem dX8_nearest_161 : decode cX8_nearest 161 = .ok (.i2l, 1) := by decide +kernel
theorem dX8_nearest_162 : decode cX8_nearest 162 = .ok (.ladd, 1) := by decide +kernel
theorem dX8_nearest_163 : decode cX8_nearest 163 = .ok (.lastore, 1) := by decide +kernel
theorem dX8_nearest_164 : decode cX8_nearest 164 = .ok (.aload_n 0, 1) := by decide +kernel
theorem dX8_nearest_165 : decode cX8_nearest 165 = .ok (.getfield 137, 3) := by decide +kernel
theorem dX8_nearest_168 : decode cX8_nearest 168 = .ok (.iload 4, 2) := by decide +kernel
theorem dX8_nearest_170 : decode cX8_nearest 170 = .ok (.iload 8, 2) := by decide +kernel
theorem dX8_nearest_172 : decode cX8_nearest 172 = .ok (.i2l, 1) := by decide +kernel
theorem dX8_nearest_173 : decode cX8_nearest 173 = .ok (.lastore, 1) := by decide +kernel
theorem dX8_nearest_174 : decode cX8_nearest 174 = .ok (.iinc 4 1, 3) := by decide +kernel
theorem dX8_nearest_177 : decode cX8_nearest 177 = .ok (.aload_n 0, 1) := by decide +kernel
theorem dX8_nearest_178 : decode cX8_nearest 178 = .ok (.iload 8, 2) := by decide +kernel
theorem dX8_nearest_180 : decode cX8_nearest 180 = .ok (.invokevirtual 245, 3) := by decide +kernel
theorem dX8_nearest_183 : decode cX8_nearest 183 = .ok (.ifCond .eq 6, 3) := by decide +kernel
theorem dX8_nearest_186 : decode cX8_nearest 186 = .ok (.iload 8, 2) := by decide +kernel
theorem dX8_nearest_188 : decode cX8_nearest 188 = .ok (.ireturn, 1) := by decide +kernel
theorem dX8_nearest_189 : decode cX8_nearest 189 = .ok (.iinc 7 1, 3) := by decide +kernel
theorem dX8_nearest_192 : decode cX8_nearest 192 = .ok (.goto (-83), 3) := by decide +kernel
theorem dX8_nearest_195 : decode cX8_nearest 195 = .ok (.goto (-107), 3) := by decide +kernel
theorem dX8_nearest_198 : decode cX8_nearest 198 = .ok (.goto (-139), 3) := by decide +kernel
theorem dX8_nearest_201 : decode cX8_nearest 201 = .ok (.bipush (-9), 2) := by decide +kernel
theorem dX8_nearest_203 : decode cX8_nearest 203 = .ok (.ireturn, 1) := by decide +kernel
abbrev mdX8_nearest : MD := (cX8_nearest, RX8, 9, (some .int), yX8_nearest.name, 2, 50, eT)
set_option maxHeartbeats 2000000 in
set_option maxRecDepth 20000 in
theorem p_X8_nearest_J189 (C : KX) (l0 : Nat) (l1 : Int32) (l3 : Int32) (l4 : Int32) (l5 : Int32) (l6 : Int32) (l7 : Int32) (k59 : Int32 × Int32 → Mo Int32) (hk59 : ∀ s, Cmp C mdX8_nearest (QM rvI) 59 [(0, .ref (kB C + l0)), (1, .int l1), (3, .int s.1), (4, .int s.2)] [] (k59 s)) (k88 : Int32 × Int32 → Mo Int32) (hk88 : ∀ s, Cmp C mdX8_nearest (QM rvI) 88 [(0, .ref (kB C + l0)), (1, .int l1), (3, .int s.1), (4, .int s.2), (5, .int l5)] [] (k88 s)) (k109 : Int32 × Int32 → Mo Int32) (hk109 : ∀ s, Cmp C mdX8_nearest (QM rvI) 109 [(0, .ref (kB C + l0)), (1, .int l1), (3, .int l3), (4, .int s.1), (5, .int l5), (6, .int l6), (7, .int s.2)] [] (k109 s)) : Cmp C mdX8_nearest (QM rvI) 189 [(0, .ref (kB C + l0)), (1, .int l1), (3, .int l3), (4, .int l4), (5, .int l5), (6, .int l6), (7, .int l7)] [] (m_X8_nearest_J189 l0 l1 l3 l4 l5 l6 l7 k59 k88 k109) := by
  unfold m_X8_nearest_J189
  refine C_iinc (D := mdX8_nearest) (pc' := 192) (j := 6) (v := (l7 + 1)) (ls' := [(7, .int (l7 + 1)), (0, .ref (kB C + l0)), (1, .int l1), (3, .int l3), (4, .int l4), (5, .int l5), (6, .int l6)]) dX8_nearest_189 rfl rfl rfl (by decide) rfl ?_
  refine C_goto (D := mdX8_nearest) (pc' := 109) dX8_nearest_192 (by decide) ?_
  exact C_sub [1, 2, 3, 4, 5, 6, 0] rfl (hk109 (l4, (l7 + 1)))
set_option maxHeartbeats 2000000 in
set_option maxRecDepth 20000 in
theorem p_X8_nearest_B109 (C : KX) (l0 : Nat) (l1 : Int32) (l3 : Int32) (l5 : Int32) (l6 : Int32) (k59 : Int32 × Int32 → Mo Int32) (hk59 : ∀ s, Cmp C mdX8_nearest (QM rvI) 59 [(0, .ref (kB C + l0)), (1, .int l1), (3, .int s.1), (4, .int s.2)] [] (k59 s)) (k88 : Int32 × Int32 → Mo Int32) (hk88 : ∀ s, Cmp C mdX8_nearest (QM rvI) 88 [(0, .ref (kB C + l0)), (1, .int l1), (3, .int s.1), (4, .int s.2), (5, .int l5)] [] (k88 s)) (k109 : Int32 × Int32 → Mo Int32) (hk109 : ∀ s, Cmp C mdX8_nearest (QM rvI) 109 [(0, .ref (kB C + l0)), (1, .int l1), (3, .int l3), (4, .int s.1), (5, .int l5), (6, .int l6), (7, .int s.2)] [] (k109 s)) (l4 : Int32) (l7 : Int32) : Cmp C mdX8_nearest (QM rvI) 109 [(0, .ref (kB C + l0)), (1, .int l1), (3, .int l3), (4, .int l4), (5, .int l5), (6, .int l6), (7, .int l7)] [] (m_X8_nearest_B109 l0 l1 l3 l5 l6 k59 k88 k109 l4 l7) := by
  unfold m_X8_nearest_B109
  refine C_iload (D := mdX8_nearest) (pc' := 111) (x := l7) dX8_nearest_109 rfl 6 rfl ?_
  refine C_bipush (D := mdX8_nearest) (pc' := 113) (v := 8) dX8_nearest_111 rfl (by decide) ?_
  refine C_icmp_ge (D := mdX8_nearest) (pc' := 116) (tgt := 195) dX8_nearest_113 (by decide) rfl ?_ ?_
  · refine C_goto (D := mdX8_nearest) (pc' := 88) dX8_nearest_195 (by decide) ?_
    exact C_sub [0, 1, 2, 3, 4] rfl (hk88 (l3, l4))
  · refine C_aload_n (D := mdX8_nearest) (pc' := 117) (x := kB C + l0) dX8_nearest_116 rfl 0 rfl ?_
    refine C_iload_n (D := mdX8_nearest) (pc' := 118) (x := l1) dX8_nearest_117 rfl 1 rfl ?_
    refine C_iload (D := mdX8_nearest) (pc' := 120) (x := l6) dX8_nearest_118 rfl 5 rfl ?_
    refine C_iload (D := mdX8_nearest) (pc' := 122) (x := l7) dX8_nearest_120 rfl 6 rfl ?_
    refine C_callV (D := mdX8_nearest) (pc' := 125) (p := l0) (st := []) [.int l1, .int l6, .int l7] v_X8_250 (i_X8_behind C l0 l1 l6 l7) dX8_nearest_122 rfl rfl rfl (Nat.le_of_ble_eq_true rfl) (by decide) (by decide) (fun c9 => ?_)
    refine C_istore (D := mdX8_nearest) (pc' := 127) (ls' := [(8, .int c9), (0, .ref (kB C + l0)), (1, .int l1), (3, .int l3), (4, .int l4), (5, .int l5), (6, .int l6), (7, .int l7)]) dX8_nearest_125 rfl (by decide) rfl ?_
    refine C_iload (D := mdX8_nearest) (pc' := 129) (x := c9) dX8_nearest_127 rfl 0 rfl ?_
    refine C_bipush (D := mdX8_nearest) (pc' := 131) (v := (-9)) dX8_nearest_129 rfl (by decide) ?_
    refine C_icmp_eq (D := mdX8_nearest) (pc' := 134) (tgt := 189) dX8_nearest_131 (by decide) rfl ?_ ?_
    · exact C_sub [1, 2, 3, 4, 5, 6, 7] rfl (p_X8_nearest_J189 C l0 l1 l3 l4 l5 l6 l7 k59 hk59 k88 hk88 k109 hk109)
    · refine C_aload_n (D := mdX8_nearest) (pc' := 135) (x := kB C + l0) dX8_nearest_134 rfl 1 rfl ?_
      refine C_getR (D := mdX8_nearest) (pc' := 138) (p := l0) f_X8_141 rfl dX8_nearest_135 rfl (fun came10 => ?_)
      refine C_iload (D := mdX8_nearest) (pc' := 140) (x := c9) dX8_nearest_138 rfl 0 rfl ?_
      refine C_aJ (D := mdX8_nearest) (pc' := 141) (p := came10) dX8_nearest_140 rfl (fun x11 => ?_)
      refine C_lconst (D := mdX8_nearest) (pc' := 142) (v := 0) dX8_nearest_141 rfl (by decide) ?_
      refine C_lcmp (D := mdX8_nearest) (pc' := 143) dX8_nearest_142 rfl ?_
      refine C_if_ge (D := mdX8_nearest) (pc' := 146) (tgt := 189) dX8_nearest_143 (by decide) rfl ?_ ?_
      · exact C_sub [1, 2, 3, 4, 5, 6, 7] rfl (p_X8_nearest_J189 C l0 l1 l3 l4 l5 l6 l7 k59 hk59 k88 hk88 k109 hk109)
      · refine C_aload_n (D := mdX8_nearest) (pc' := 147) (x := kB C + l0) dX8_nearest_146 rfl 1 rfl ?_
        refine C_getR (D := mdX8_nearest) (pc' := 150) (p := l0) f_X8_141 rfl dX8_nearest_147 rfl (fun came12 => ?_)
        refine C_iload (D := mdX8_nearest) (pc' := 152) (x := c9) dX8_nearest_150 rfl 0 rfl ?_
        refine C_ldc2 (D := mdX8_nearest) (pc' := 155) (v := 10) c_X8_253 dX8_nearest_152 rfl ?_
        refine C_iload (D := mdX8_nearest) (pc' := 157) (x := l6) dX8_nearest_155 rfl 6 rfl ?_
        refine C_i2l (D := mdX8_nearest) (pc' := 158) dX8_nearest_157 rfl ?_
        refine C_lmul (D := mdX8_nearest) (pc' := 159) dX8_nearest_158 rfl ?_
        refine C_iload (D := mdX8_nearest) (pc' := 161) (x := l7) dX8_nearest_159 rfl 7 rfl ?_
        refine C_i2l (D := mdX8_nearest) (pc' := 162) dX8_nearest_161 rfl ?_
        refine C_ladd (D := mdX8_nearest) (pc' := 163) dX8_nearest_162 rfl ?_
        refine C_tJ (D := mdX8_nearest) (pc' := 164) (p := came12) dX8_nearest_163 rfl ?_
        refine C_aload_n (D := mdX8_nearest) (pc' := 165) (x := kB C + l0) dX8_nearest_164 rfl 1 rfl ?_
        refine C_getR (D := mdX8_nearest) (pc' := 168) (p := l0) f_X8_137 rfl dX8_nearest_165 rfl (fun queue13 => ?_)
        refine C_iload (D := mdX8_nearest) (pc' := 170) (x := l4) dX8_nearest_168 rfl 4 rfl ?_
        refine C_iload (D := mdX8_nearest) (pc' := 172) (x := c9) dX8_nearest_170 rfl 0 rfl ?_
        refine C_i2l (D := mdX8_nearest) (pc' := 173) dX8_nearest_172 rfl ?_
        refine C_tJ (D := mdX8_nearest) (pc' := 174) (p := queue13) dX8_nearest_173 rfl ?_
        refine C_iinc (D := mdX8_nearest) (pc' := 177) (j := 4) (v := (l4 + 1)) (ls' := [(4, .int (l4 + 1)), (8, .int c9), (0, .ref (kB C + l0)), (1, .int l1), (3, .int l3), (5, .int l5), (6, .int l6), (7, .int l7)]) dX8_nearest_174 rfl rfl rfl (by decide) rfl ?_
        refine C_aload_n (D := mdX8_nearest) (pc' := 178) (x := kB C + l0) dX8_nearest_177 rfl 2 rfl ?_
        refine C_iload (D := mdX8_nearest) (pc' := 180) (x := c9) dX8_nearest_178 rfl 1 rfl ?_
        refine C_callV (D := mdX8_nearest) (pc' := 183) (p := l0) (st := []) [.int c9] v_X8_245 (i_X8_isDone C l0 c9) dX8_nearest_180 rfl rfl rfl (Nat.le_of_ble_eq_true rfl) (by decide) (by decide) (fun c14 => ?_)
        refine C_if_eq (D := mdX8_nearest) (pc' := 186) (tgt := 189) dX8_nearest_183 (by decide) rfl ?_ ?_
        · exact C_sub [2, 3, 4, 0, 5, 6, 7] rfl (p_X8_nearest_J189 C l0 l1 l3 ((l4 + 1)) l5 l6 l7 k59 hk59 k88 hk88 k109 hk109)
        · refine C_iload (D := mdX8_nearest) (pc' := 188) (x := c9) dX8_nearest_186 rfl 1 rfl ?_
          exact C_iret rfl dX8_nearest_188
set_option maxHeartbeats 2000000 in
set_option maxRecDepth 20000 in
theorem p_X8_nearest_B88 (C : KX) (l0 : Nat) (l1 : Int32) (l5 : Int32) (k59 : Int32 × Int32 → Mo Int32) (hk59 : ∀ s, Cmp C mdX8_nearest (QM rvI) 59 [(0, .ref (kB C + l0)), (1, .int l1), (3, .int s.1), (4, .int s.2)] [] (k59 s)) (k88 : Int32 × Int32 → Mo Int32) (hk88 : ∀ s, Cmp C mdX8_nearest (QM rvI) 88 [(0, .ref (kB C + l0)), (1, .int l1), (3, .int s.1), (4, .int s.2), (5, .int l5)] [] (k88 s)) (l3 : Int32) (l4 : Int32) : Cmp C mdX8_nearest (QM rvI) 88 [(0, .ref (kB C + l0)), (1, .int l1), (3, .int l3), (4, .int l4), (5, .int l5)] [] (m_X8_nearest_B88 l0 l1 l5 k59 k88 l3 l4) := by
  unfold m_X8_nearest_B88
  refine C_iload_n (D := mdX8_nearest) (pc' := 89) (x := l3) dX8_nearest_88 rfl 2 rfl ?_
  refine C_iload (D := mdX8_nearest) (pc' := 91) (x := l5) dX8_nearest_89 rfl 4 rfl ?_
  refine C_icmp_ge (D := mdX8_nearest) (pc' := 94) (tgt := 198) dX8_nearest_91 (by decide) rfl ?_ ?_
  · refine C_goto (D := mdX8_nearest) (pc' := 59) dX8_nearest_198 (by decide) ?_
    exact C_sub [0, 1, 2, 3] rfl (hk59 (l3, l4))
  · refine C_aload_n (D := mdX8_nearest) (pc' := 95) (x := kB C + l0) dX8_nearest_94 rfl 0 rfl ?_
    refine C_getR (D := mdX8_nearest) (pc' := 98) (p := l0) f_X8_137 rfl dX8_nearest_95 rfl (fun queue6 => ?_)
    refine C_iload_n (D := mdX8_nearest) (pc' := 99) (x := l3) dX8_nearest_98 rfl 2 rfl ?_
    refine C_aJ (D := mdX8_nearest) (pc' := 100) (p := queue6) dX8_nearest_99 rfl (fun x7 => ?_)
    refine C_l2i (D := mdX8_nearest) (pc' := 101) dX8_nearest_100 rfl ?_
    refine C_letI (fun v8 => ?_)
    refine C_istore (D := mdX8_nearest) (pc' := 103) (ls' := [(6, .int v8), (0, .ref (kB C + l0)), (1, .int l1), (3, .int l3), (4, .int l4), (5, .int l5)]) dX8_nearest_101 rfl (by decide) rfl ?_
    refine C_iinc (D := mdX8_nearest) (pc' := 106) (j := 3) (v := (l3 + 1)) (ls' := [(3, .int (l3 + 1)), (6, .int v8), (0, .ref (kB C + l0)), (1, .int l1), (4, .int l4), (5, .int l5)]) dX8_nearest_103 rfl rfl rfl (by decide) rfl ?_
    refine C_iconst (D := mdX8_nearest) (pc' := 107) (v := 0) dX8_nearest_106 rfl (by decide) ?_
    refine C_istore (D := mdX8_nearest) (pc' := 109) (ls' := [(7, .int 0), (3, .int (l3 + 1)), (6, .int v8), (0, .ref (kB C + l0)), (1, .int l1), (4, .int l4), (5, .int l5)]) dX8_nearest_107 rfl (by decide) rfl ?_
    exact C_sub [3, 4, 1, 5, 6, 2, 0] rfl (C_loop (fun s => [(0, .ref (kB C + l0)), (1, .int l1), (3, .int (l3 + 1)), (4, .int s.1), (5, .int l5), (6, .int v8), (7, .int s.2)]) (fun k hk s => p_X8_nearest_B109 C l0 l1 ((l3 + 1)) l5 v8 k59 hk59 k88 hk88 k hk s.1 s.2) FU (l4, 0))
set_option maxHeartbeats 2000000 in
set_option maxRecDepth 20000 in
theorem p_X8_nearest_B59 (C : KX) (l0 : Nat) (l1 : Int32)  (k59 : Int32 × Int32 → Mo Int32) (hk59 : ∀ s, Cmp C mdX8_nearest (QM rvI) 59 [(0, .ref (kB C + l0)), (1, .int l1), (3, .int s.1), (4, .int s.2)] [] (k59 s)) (l3 : Int32) (l4 : Int32) : Cmp C mdX8_nearest (QM rvI) 59 [(0, .ref (kB C + l0)), (1, .int l1), (3, .int l3), (4, .int l4)] [] (m_X8_nearest_B59 l0 l1 k59 l3 l4) := by
  unfold m_X8_nearest_B59
  refine C_iload_n (D := mdX8_nearest) (pc' := 60) (x := l3) dX8_nearest_59 rfl 2 rfl ?_
  refine C_iload (D := mdX8_nearest) (pc' := 62) (x := l4) dX8_nearest_60 rfl 3 rfl ?_
  refine C_icmp_ge (D := mdX8_nearest) (pc' := 65) (tgt := 201) dX8_nearest_62 (by decide) rfl ?_ ?_
  · refine C_bipush (D := mdX8_nearest) (pc' := 203) (v := (-9)) dX8_nearest_201 rfl (by decide) ?_
    exact C_iret rfl dX8_nearest_203
  · refine C_aload_n (D := mdX8_nearest) (pc' := 66) (x := kB C + l0) dX8_nearest_65 rfl 0 rfl ?_
    refine C_getI (D := mdX8_nearest) (pc' := 69) (p := l0) f_X8_242 rfl dX8_nearest_66 rfl (fun depth4 => ?_)
    refine C_bipush (D := mdX8_nearest) (pc' := 71) (v := 60) dX8_nearest_69 rfl (by decide) ?_
    refine C_icmp_ge (D := mdX8_nearest) (pc' := 74) (tgt := 201) dX8_nearest_71 (by decide) rfl ?_ ?_
    · refine C_bipush (D := mdX8_nearest) (pc' := 203) (v := (-9)) dX8_nearest_201 rfl (by decide) ?_
      exact C_iret rfl dX8_nearest_203
    · refine C_iload (D := mdX8_nearest) (pc' := 76) (x := l4) dX8_nearest_74 rfl 3 rfl ?_
      refine C_istore (D := mdX8_nearest) (pc' := 78) (ls' := [(5, .int l4), (0, .ref (kB C + l0)), (1, .int l1), (3, .int l3), (4, .int l4)]) dX8_nearest_76 rfl (by decide) rfl ?_
      refine C_aload_n (D := mdX8_nearest) (pc' := 79) (x := kB C + l0) dX8_nearest_78 rfl 1 rfl ?_
      refine C_dup (D := mdX8_nearest) (pc' := 80) dX8_nearest_79 rfl rfl ?_
      refine C_getI (D := mdX8_nearest) (pc' := 83) (p := l0) f_X8_242 rfl dX8_nearest_80 rfl (fun depth5 => ?_)
      refine C_iconst (D := mdX8_nearest) (pc' := 84) (v := 1) dX8_nearest_83 rfl (by decide) ?_
      refine C_iadd (D := mdX8_nearest) (pc' := 85) dX8_nearest_84 rfl ?_
      refine C_putI (D := mdX8_nearest) (pc' := 88) (p := l0) f_X8_242 rfl dX8_nearest_85 rfl ?_
      exact C_sub [1, 2, 3, 4, 0] rfl (C_loop (fun s => [(0, .ref (kB C + l0)), (1, .int l1), (3, .int s.1), (4, .int s.2), (5, .int l4)]) (fun k hk s => p_X8_nearest_B88 C l0 l1 l4 k59 hk59 k hk s.1 s.2) FU (l3, l4))
set_option maxHeartbeats 2000000 in
set_option maxRecDepth 20000 in
theorem p_X8_nearest_B17 (C : KX) (l0 : Nat) (l1 : Int32) (l2 : Int32)  (k17 : Int32 → Mo Int32) (hk17 : ∀ s, Cmp C mdX8_nearest (QM rvI) 17 [(0, .ref (kB C + l0)), (1, .int l1), (2, .int l2), (3, .int s)] [] (k17 s)) (l3 : Int32) : Cmp C mdX8_nearest (QM rvI) 17 [(0, .ref (kB C + l0)), (1, .int l1), (2, .int l2), (3, .int l3)] [] (m_X8_nearest_B17 l0 l1 l2 k17 l3) := by
  unfold m_X8_nearest_B17
  refine C_iload_n (D := mdX8_nearest) (pc' := 18) (x := l3) dX8_nearest_17 rfl 3 rfl ?_
  refine C_sipush (D := mdX8_nearest) (pc' := 21) (v := 15520) dX8_nearest_18 rfl (by decide) ?_
  refine C_icmp_ge (D := mdX8_nearest) (pc' := 24) (tgt := 39) dX8_nearest_21 (by decide) rfl ?_ ?_
  · refine C_iconst (D := mdX8_nearest) (pc' := 40) (v := 0) dX8_nearest_39 rfl (by decide) ?_
    refine C_istore_n (D := mdX8_nearest) (pc' := 41) (ls' := [(3, .int 0), (0, .ref (kB C + l0)), (1, .int l1), (2, .int l2)]) dX8_nearest_40 rfl rfl (by decide) rfl ?_
    refine C_iconst (D := mdX8_nearest) (pc' := 42) (v := 1) dX8_nearest_41 rfl (by decide) ?_
    refine C_istore (D := mdX8_nearest) (pc' := 44) (ls' := [(4, .int 1), (3, .int 0), (0, .ref (kB C + l0)), (1, .int l1), (2, .int l2)]) dX8_nearest_42 rfl (by decide) rfl ?_
    refine C_aload_n (D := mdX8_nearest) (pc' := 45) (x := kB C + l0) dX8_nearest_44 rfl 2 rfl ?_
    refine C_getR (D := mdX8_nearest) (pc' := 48) (p := l0) f_X8_137 rfl dX8_nearest_45 rfl (fun queue2 => ?_)
    refine C_iconst (D := mdX8_nearest) (pc' := 49) (v := 0) dX8_nearest_48 rfl (by decide) ?_
    refine C_iload_n (D := mdX8_nearest) (pc' := 50) (x := l2) dX8_nearest_49 rfl 4 rfl ?_
    refine C_i2l (D := mdX8_nearest) (pc' := 51) dX8_nearest_50 rfl ?_
    refine C_tJ (D := mdX8_nearest) (pc' := 52) (p := queue2) dX8_nearest_51 rfl ?_
    refine C_aload_n (D := mdX8_nearest) (pc' := 53) (x := kB C + l0) dX8_nearest_52 rfl 2 rfl ?_
    refine C_getR (D := mdX8_nearest) (pc' := 56) (p := l0) f_X8_141 rfl dX8_nearest_53 rfl (fun came3 => ?_)
    refine C_iload_n (D := mdX8_nearest) (pc' := 57) (x := l2) dX8_nearest_56 rfl 4 rfl ?_
    refine C_lconst (D := mdX8_nearest) (pc' := 58) (v := 0) dX8_nearest_57 rfl (by decide) ?_
    refine C_tJ (D := mdX8_nearest) (pc' := 59) (p := came3) dX8_nearest_58 rfl ?_
    exact C_sub [2, 3, 1, 0] rfl (C_loop (fun s => [(0, .ref (kB C + l0)), (1, .int l1), (3, .int s.1), (4, .int s.2)]) (fun k hk s => p_X8_nearest_B59 C l0 l1  k hk s.1 s.2) FU (0, 1))
  · refine C_aload_n (D := mdX8_nearest) (pc' := 25) (x := kB C + l0) dX8_nearest_24 rfl 0 rfl ?_
    refine C_getR (D := mdX8_nearest) (pc' := 28) (p := l0) f_X8_141 rfl dX8_nearest_25 rfl (fun came15 => ?_)
    refine C_iload_n (D := mdX8_nearest) (pc' := 29) (x := l3) dX8_nearest_28 rfl 3 rfl ?_
    refine C_ldc2 (D := mdX8_nearest) (pc' := 32) (v := (-9)) c_X8_248 dX8_nearest_29 rfl ?_
    refine C_tJ (D := mdX8_nearest) (pc' := 33) (p := came15) dX8_nearest_32 rfl ?_
    refine C_iinc (D := mdX8_nearest) (pc' := 36) (j := 3) (v := (l3 + 1)) (ls' := [(3, .int (l3 + 1)), (0, .ref (kB C + l0)), (1, .int l1), (2, .int l2)]) dX8_nearest_33 rfl rfl rfl (by decide) rfl ?_
    refine C_goto (D := mdX8_nearest) (pc' := 17) dX8_nearest_36 (by decide) ?_
    exact C_sub [1, 2, 3, 0] rfl (hk17 ((l3 + 1)))
set_option maxHeartbeats 2000000 in
set_option maxRecDepth 20000 in
theorem i_X8_nearest (C : KX) (l0 : Nat) (l1 : Int32) (l2 : Int32) : Imp C yX8_nearest cX8_nearest 9 (some .int) 2 50 rvI [.ref (kB C + l0), .int l1, .int l2] (m_X8_nearest l0 l1 l2) := by
  refine Imp.of (by decide) (Nat.le_of_ble_eq_true rfl) [(0, .ref (kB C + l0)), (1, .int l1), (2, .int l2)] rfl ?_
  show Cmp C mdX8_nearest (QM rvI) 0 [(0, .ref (kB C + l0)), (1, .int l1), (2, .int l2)] [] (m_X8_nearest l0 l1 l2)
  unfold m_X8_nearest
  refine C_aload_n (D := mdX8_nearest) (pc' := 1) (x := kB C + l0) dX8_nearest_0 rfl 0 rfl ?_
  refine C_iconst (D := mdX8_nearest) (pc' := 2) (v := 0) dX8_nearest_1 rfl (by decide) ?_
  refine C_putI (D := mdX8_nearest) (pc' := 5) (p := l0) f_X8_242 rfl dX8_nearest_2 rfl ?_
  refine C_aload_n (D := mdX8_nearest) (pc' := 6) (x := kB C + l0) dX8_nearest_5 rfl 0 rfl ?_
  refine C_iload_n (D := mdX8_nearest) (pc' := 7) (x := l2) dX8_nearest_6 rfl 2 rfl ?_
  refine C_callV (D := mdX8_nearest) (pc' := 10) (p := l0) (st := []) [.int l2] v_X8_245 (i_X8_isDone C l0 l2) dX8_nearest_7 rfl rfl rfl (Nat.le_of_ble_eq_true rfl) (by decide) (by decide) (fun c1 => ?_)
  refine C_if_eq (D := mdX8_nearest) (pc' := 13) (tgt := 15) dX8_nearest_10 (by decide) rfl ?_ ?_
  · refine C_iconst (D := mdX8_nearest) (pc' := 16) (v := 0) dX8_nearest_15 rfl (by decide) ?_
    refine C_istore_n (D := mdX8_nearest) (pc' := 17) (ls' := [(3, .int 0), (0, .ref (kB C + l0)), (1, .int l1), (2, .int l2)]) dX8_nearest_16 rfl rfl (by decide) rfl ?_
    exact C_sub [1, 2, 3, 0] rfl (C_loop (fun s => [(0, .ref (kB C + l0)), (1, .int l1), (2, .int l2), (3, .int s)]) (fun k hk s => p_X8_nearest_B17 C l0 l1 l2  k hk s) FU 0)
  · refine C_iload_n (D := mdX8_nearest) (pc' := 14) (x := l2) dX8_nearest_13 rfl 2 rfl ?_
    exact C_iret rfl dX8_nearest_14

-- StandingQueriesModel.shortest(II)I
theorem dX8_shortest_0 : decode cX8_shortest 0 = .ok (.aload_n 0, 1) := by decide +kernel
theorem dX8_shortest_1 : decode cX8_shortest 1 = .ok (.iconst 0, 1) := by decide +kernel
theorem dX8_shortest_2 : decode cX8_shortest 2 = .ok (.putfield 1, 3) := by decide +kernel
theorem dX8_shortest_5 : decode cX8_shortest 5 = .ok (.aload_n 0, 1) := by decide +kernel
theorem dX8_shortest_6 : decode cX8_shortest 6 = .ok (.iload_n 1, 1) := by decide +kernel
theorem dX8_shortest_7 : decode cX8_shortest 7 = .ok (.invokevirtual 183, 3) := by decide +kernel
theorem dX8_shortest_10 : decode cX8_shortest 10 = .ok (.ifCond .eq 8, 3) := by decide +kernel
theorem dX8_shortest_13 : decode cX8_shortest 13 = .ok (.iload_n 2, 1) := by decide +kernel
theorem dX8_shortest_14 : decode cX8_shortest 14 = .ok (.iconst (-1), 1) := by decide +kernel
theorem dX8_shortest_15 : decode cX8_shortest 15 = .ok (.if_icmp .ge 5, 3) := by decide +kernel
theorem dX8_shortest_18 : decode cX8_shortest 18 = .ok (.iconst (-1), 1) := by decide +kernel
theorem dX8_shortest_19 : decode cX8_shortest 19 = .ok (.ireturn, 1) := by decide +kernel
theorem dX8_shortest_20 : decode cX8_shortest 20 = .ok (.aload_n 0, 1) := by decide +kernel
theorem dX8_shortest_21 : decode cX8_shortest 21 = .ok (.iload_n 1, 1) := by decide +kernel
theorem dX8_shortest_22 : decode cX8_shortest 22 = .ok (.invokevirtual 255, 3) := by decide +kernel
theorem dX8_shortest_25 : decode cX8_shortest 25 = .ok (.aload_n 0, 1) := by decide +kernel
theorem dX8_shortest_26 : decode cX8_shortest 26 = .ok (.iload_n 1, 1) := by decide +kernel
theorem dX8_shortest_27 : decode cX8_shortest 27 = .ok (.aload_n 0, 1) := by decide +kernel
theorem dX8_shortest_28 : decode cX8_shortest 28 = .ok (.invokevirtual 258, 3) := by decide +kernel
theorem dX8_shortest_31 : decode cX8_shortest 31 = .ok (.invokevirtual 261, 3) := by decide +kernel
theorem dX8_shortest_34 : decode cX8_shortest 34 = .ok (.istore_n 3, 1) := by decide +kernel
theorem dX8_shortest_35 : decode cX8_shortest 35 = .ok (.iload_n 3, 1) := by decide +kernel
theorem dX8_shortest_36 : decode cX8_shortest 36 = .ok (.bipush (-9), 2) := by decide +kernel
theorem dX8_shortest_38 : decode cX8_shortest 38 = .ok (.if_icmp .ne 6, 3) := by decide +kernel
theorem dX8_shortest_41 : decode cX8_shortest 41 = .ok (.bipush (-9), 2) := by decide +kernel
theorem dX8_shortest_43 : decode cX8_shortest 43 = .ok (.ireturn, 1) := by decide +kernel
theorem dX8_shortest_44 : decode cX8_shortest 44 = .ok (.iload_n 2, 1) := by decide +kernel
theorem dX8_shortest_45 : decode cX8_shortest 45 = .ok (.iconst (-1), 1) := by decide +kernel
theorem dX8_shortest_46 : decode cX8_shortest 46 = .ok (.if_icmp .eq 11, 3) := by decide +kernel
theorem dX8_shortest_49 : decode cX8_shortest 49 = .ok (.iload_n 2, 1) := by decide +kernel
theorem dX8_shortest_50 : decode cX8_shortest 50 = .ok (.aload_n 0, 1) := by decide +kernel
theorem dX8_shortest_51 : decode cX8_shortest 51 = .ok (.getfield 242, 3) := by decide +kernel
theorem dX8_shortest_54 : decode cX8_shortest 54 = .ok (.if_icmp .lt 18, 3) := by decide +kernel
theorem dX8_shortest_57 : decode cX8_shortest 57 = .ok (.iload_n 2, 1) := by decide +kernel
theorem dX8_shortest_58 : decode cX8_shortest 58 = .ok (.iconst (-1), 1) := by decide +kernel
theorem dX8_shortest_59 : decode cX8_shortest 59 = .ok (.if_icmp .ne 10, 3) := by decide +kernel
theorem dX8_shortest_62 : decode cX8_shortest 62 = .ok (.aload_n 0, 1) := by decide +kernel
theorem dX8_shortest_63 : decode cX8_shortest 63 = .ok (.getfield 242, 3) := by decide +kernel
theorem dX8_shortest_66 : decode cX8_shortest 66 = .ok (.goto 5, 3) := by decide +kernel
theorem dX8_shortest_69 : decode cX8_shortest 69 = .ok (.bipush (-9), 2) := by decide +kernel
theorem dX8_shortest_71 : decode cX8_shortest 71 = .ok (.ireturn, 1) := by decide +kernel
theorem dX8_shortest_72 : decode cX8_shortest 72 = .ok (.aload_n 0, 1) := by decide +kernel
theorem dX8_shortest_73 : decode cX8_shortest 73 = .ok (.getfield 242, 3) := by decide +kernel
theorem dX8_shortest_76 : decode cX8_shortest 76 = .ok (.iconst 1, 1) := by decide +kernel
theorem dX8_shortest_77 : decode cX8_shortest 77 = .ok (.isub, 1) := by decide +kernel
theorem dX8_shortest_78 : decode cX8_shortest 78 = .ok (.istore 4, 2) := by decide +kernel
theorem dX8_shortest_80 : decode cX8_shortest 80 = .ok (.iload 4, 2) := by decide +kernel
theorem dX8_shortest_82 : decode cX8_shortest 82 = .ok (.iload_n 2, 1) := by decide +kernel
theorem dX8_shortest_83 : decode cX8_shortest 83 = .ok (.if_icmp .le 21, 3) := by decide +kernel
theorem dX8_shortest_86 : decode cX8_shortest 86 = .ok (.aload_n 0, 1) := by decide +kernel
theorem dX8_shortest_87 : decode cX8_shortest 87 = .ok (.getfield 141, 3) := by decide +kernel
theorem dX8_shortest_90 : decode cX8_shortest 90 = .ok (.iload_n 3, 1) := by decide +kernel
theorem dX8_shortest_91 : decode cX8_shortest 91 = .ok (.laload, 1) := by decide +kernel
theorem dX8_shortest_92 : decode cX8_shortest 92 = .ok (.ldc2_w 253, 3) := by decide +kernel
theorem dX8_shortest_95 : decode cX8_shortest 95 = .ok (.ldiv, 1) := by decide +kernel
theorem dX8_shortest_96 : decode cX8_shortest 96 = .ok (.l2i, 1) := by decide +kernel
theorem dX8_shortest_97 : decode cX8_shortest 97 = .ok (.istore_n 3, 1) := by decide +kernel
theorem dX8_shortest_98 : decode cX8_shortest 98 = .ok (.iinc 4 (-1), 3) := by decide +kernel
theorem dX8_shortest_101 : decode cX8_shortest 101 = .ok (.goto (-21), 3) := by decide +kernel
theorem dX8_shortest_104 : decode cX8_shortest 104 = .ok (.bipush 97, 2) := by decide +kernel
theorem dX8_shortest_106 : decode cX8_shortest 106 = .ok (.aload_n 0, 1) := by decide +kernel
theorem dX8_shortest_107 : decode cX8_shortest 107 = .ok (.getfield 141, 3) := by decide +kernel
theorem dX8_shortest_110 : decode cX8_shortest 110 = .ok (.iload_n 3, 1) := by decide +kernel
theorem dX8_shortest_111 : decode cX8_shortest 111 = .ok (.laload, 1) := by decide +kernel
theorem dX8_shortest_112 : decode cX8_shortest 112 = .ok (.ldc2_w 253, 3) := by decide +kernel
theorem dX8_shortest_115 : decode cX8_shortest 115 = .ok (.lrem, 1) := by decide +kernel
theorem dX8_shortest_116 : decode cX8_shortest 116 = .ok (.l2i, 1) := by decide +kernel
theorem dX8_shortest_117 : decode cX8_shortest 117 = .ok (.iadd, 1) := by decide +kernel
theorem dX8_shortest_118 : decode cX8_shortest 118 = .ok (.ireturn, 1) := by decide +kernel
abbrev mdX8_shortest : MD := (cX8_shortest, RX8, 5, (some .int), yX8_shortest.name, 3, 78, eT)
set_option maxHeartbeats 2000000 in
set_option maxRecDepth 20000 in
theorem p_X8_shortest_J57 (C : KX) (l0 : Nat) (l2 : Int32)  : Cmp C mdX8_shortest (QM rvI) 57 [(0, .ref (kB C + l0)), (2, .int l2)] [] (m_X8_shortest_J57 l0 l2) := by
  unfold m_X8_shortest_J57
  refine C_iload_n (D := mdX8_shortest) (pc' := 58) (x := l2) dX8_shortest_57 rfl 1 rfl ?_
  refine C_iconst (D := mdX8_shortest) (pc' := 59) (v := (-1)) dX8_shortest_58 rfl (by decide) ?_
  refine C_icmp_ne (D := mdX8_shortest) (pc' := 62) (tgt := 69) dX8_shortest_59 (by decide) rfl ?_ ?_
  · refine C_bipush (D := mdX8_shortest) (pc' := 71) (v := (-9)) dX8_shortest_69 rfl (by decide) ?_
    exact C_iret rfl dX8_shortest_71
  · refine C_aload_n (D := mdX8_shortest) (pc' := 63) (x := kB C + l0) dX8_shortest_62 rfl 0 rfl ?_
    refine C_getI (D := mdX8_shortest) (pc' := 66) (p := l0) f_X8_242 rfl dX8_shortest_63 rfl (fun depth4 => ?_)
    refine C_goto (D := mdX8_shortest) (pc' := 71) dX8_shortest_66 (by decide) ?_
    exact C_iret rfl dX8_shortest_71
set_option maxHeartbeats 2000000 in
set_option maxRecDepth 20000 in
theorem p_X8_shortest_B80 (C : KX) (l0 : Nat) (l2 : Int32)  (k80 : Int32 × Int32 → Mo Int32) (hk80 : ∀ s, Cmp C mdX8_shortest (QM rvI) 80 [(0, .ref (kB C + l0)), (2, .int l2), (3, .int s.1), (4, .int s.2)] [] (k80 s)) (l3 : Int32) (l4 : Int32) : Cmp C mdX8_shortest (QM rvI) 80 [(0, .ref (kB C + l0)), (2, .int l2), (3, .int l3), (4, .int l4)] [] (m_X8_shortest_B80 l0 l2 k80 l3 l4) := by
  unfold m_X8_shortest_B80
  refine C_iload (D := mdX8_shortest) (pc' := 82) (x := l4) dX8_shortest_80 rfl 3 rfl ?_
  refine C_iload_n (D := mdX8_shortest) (pc' := 83) (x := l2) dX8_shortest_82 rfl 1 rfl ?_
  refine C_icmp_le (D := mdX8_shortest) (pc' := 86) (tgt := 104) dX8_shortest_83 (by decide) rfl ?_ ?_
  · refine C_bipush (D := mdX8_shortest) (pc' := 106) (v := 97) dX8_shortest_104 rfl (by decide) ?_
    refine C_aload_n (D := mdX8_shortest) (pc' := 107) (x := kB C + l0) dX8_shortest_106 rfl 0 rfl ?_
    refine C_getR (D := mdX8_shortest) (pc' := 110) (p := l0) f_X8_141 rfl dX8_shortest_107 rfl (fun came8 => ?_)
    refine C_iload_n (D := mdX8_shortest) (pc' := 111) (x := l3) dX8_shortest_110 rfl 2 rfl ?_
    refine C_aJ (D := mdX8_shortest) (pc' := 112) (p := came8) dX8_shortest_111 rfl (fun x9 => ?_)
    refine C_ldc2 (D := mdX8_shortest) (pc' := 115) (v := 10) c_X8_253 dX8_shortest_112 rfl ?_
    refine C_lrem (D := mdX8_shortest) (pc' := 116) dX8_shortest_115 rfl (by decide) ?_
    refine C_l2i (D := mdX8_shortest) (pc' := 117) dX8_shortest_116 rfl ?_
    refine C_iadd (D := mdX8_shortest) (pc' := 118) dX8_shortest_117 rfl ?_
    exact C_iret rfl dX8_shortest_118
  · refine C_aload_n (D := mdX8_shortest) (pc' := 87) (x := kB C + l0) dX8_shortest_86 rfl 0 rfl ?_
    refine C_getR (D := mdX8_shortest) (pc' := 90) (p := l0) f_X8_141 rfl dX8_shortest_87 rfl (fun came10 => ?_)
    refine C_iload_n (D := mdX8_shortest) (pc' := 91) (x := l3) dX8_shortest_90 rfl 2 rfl ?_
    refine C_aJ (D := mdX8_shortest) (pc' := 92) (p := came10) dX8_shortest_91 rfl (fun x11 => ?_)
    refine C_ldc2 (D := mdX8_shortest) (pc' := 95) (v := 10) c_X8_253 dX8_shortest_92 rfl ?_
    refine C_ldiv (D := mdX8_shortest) (pc' := 96) dX8_shortest_95 rfl (by decide) ?_
    refine C_l2i (D := mdX8_shortest) (pc' := 97) dX8_shortest_96 rfl ?_
    refine C_letI (fun v12 => ?_)
    refine C_istore_n (D := mdX8_shortest) (pc' := 98) (ls' := [(3, .int v12), (0, .ref (kB C + l0)), (2, .int l2), (4, .int l4)]) dX8_shortest_97 rfl rfl (by decide) rfl ?_
    refine C_iinc (D := mdX8_shortest) (pc' := 101) (j := 3) (v := (l4 + (-1))) (ls' := [(4, .int (l4 + (-1))), (3, .int v12), (0, .ref (kB C + l0)), (2, .int l2)]) dX8_shortest_98 rfl rfl rfl (by decide) rfl ?_
    refine C_goto (D := mdX8_shortest) (pc' := 80) dX8_shortest_101 (by decide) ?_
    exact C_sub [2, 3, 1, 0] rfl (hk80 (v12, (l4 + (-1))))
set_option maxHeartbeats 2000000 in
set_option maxRecDepth 20000 in
theorem i_X8_shortest (C : KX) (l0 : Nat) (l1 : Int32) (l2 : Int32) : Imp C yX8_shortest cX8_shortest 5 (some .int) 3 78 rvI [.ref (kB C + l0), .int l1, .int l2] (m_X8_shortest l0 l1 l2) := by
  refine Imp.of (by decide) (Nat.le_of_ble_eq_true rfl) [(0, .ref (kB C + l0)), (1, .int l1), (2, .int l2)] rfl ?_
  show Cmp C mdX8_shortest (QM rvI) 0 [(0, .ref (kB C + l0)), (1, .int l1), (2, .int l2)] [] (m_X8_shortest l0 l1 l2)
  unfold m_X8_shortest
  refine C_aload_n (D := mdX8_shortest) (pc' := 1) (x := kB C + l0) dX8_shortest_0 rfl 0 rfl ?_
  refine C_iconst (D := mdX8_shortest) (pc' := 2) (v := 0) dX8_shortest_1 rfl (by decide) ?_
  refine C_putI (D := mdX8_shortest) (pc' := 5) (p := l0) f_X8_1 rfl dX8_shortest_2 rfl ?_
  refine C_aload_n (D := mdX8_shortest) (pc' := 6) (x := kB C + l0) dX8_shortest_5 rfl 0 rfl ?_
  refine C_iload_n (D := mdX8_shortest) (pc' := 7) (x := l1) dX8_shortest_6 rfl 1 rfl ?_
  refine C_callV (D := mdX8_shortest) (pc' := 10) (p := l0) (st := []) [.int l1] v_X8_183 (i_X8_isQuery C l0 l1) dX8_shortest_7 rfl rfl rfl (Nat.le_of_ble_eq_true rfl) (by decide) (by decide) (fun c1 => ?_)
  refine C_if_eq (D := mdX8_shortest) (pc' := 13) (tgt := 18) dX8_shortest_10 (by decide) rfl ?_ ?_
  · refine C_iconst (D := mdX8_shortest) (pc' := 19) (v := (-1)) dX8_shortest_18 rfl (by decide) ?_
    exact C_iret rfl dX8_shortest_19
  · refine C_iload_n (D := mdX8_shortest) (pc' := 14) (x := l2) dX8_shortest_13 rfl 2 rfl ?_
    refine C_iconst (D := mdX8_shortest) (pc' := 15) (v := (-1)) dX8_shortest_14 rfl (by decide) ?_
    refine C_icmp_ge (D := mdX8_shortest) (pc' := 18) (tgt := 20) dX8_shortest_15 (by decide) rfl ?_ ?_
    · refine C_aload_n (D := mdX8_shortest) (pc' := 21) (x := kB C + l0) dX8_shortest_20 rfl 0 rfl ?_
      refine C_iload_n (D := mdX8_shortest) (pc' := 22) (x := l1) dX8_shortest_21 rfl 1 rfl ?_
      refine C_callV (D := mdX8_shortest) (pc' := 25) (p := l0) (st := []) [.int l1] v_X8_255 (i_X8_takes C l0 l1) dX8_shortest_22 rfl rfl rfl (Nat.le_of_ble_eq_true rfl) (by decide) (by decide) (fun _ => ?_)
      refine C_aload_n (D := mdX8_shortest) (pc' := 26) (x := kB C + l0) dX8_shortest_25 rfl 0 rfl ?_
      refine C_iload_n (D := mdX8_shortest) (pc' := 27) (x := l1) dX8_shortest_26 rfl 1 rfl ?_
      refine C_aload_n (D := mdX8_shortest) (pc' := 28) (x := kB C + l0) dX8_shortest_27 rfl 0 rfl ?_
      refine C_callV (D := mdX8_shortest) (pc' := 31) (p := l0) (st := [.int l1, .ref (kB C + l0)]) [] v_X8_258 (i_X8_begins C l0) dX8_shortest_28 rfl rfl rfl (Nat.le_of_ble_eq_true rfl) (by decide) (by decide) (fun c2 => ?_)
      refine C_callV (D := mdX8_shortest) (pc' := 34) (p := l0) (st := []) [.int l1, .int c2] v_X8_261 (i_X8_nearest C l0 l1 c2) dX8_shortest_31 rfl rfl rfl (Nat.le_of_ble_eq_true rfl) (by decide) (by decide) (fun c3 => ?_)
      refine C_istore_n (D := mdX8_shortest) (pc' := 35) (ls' := [(3, .int c3), (0, .ref (kB C + l0)), (1, .int l1), (2, .int l2)]) dX8_shortest_34 rfl rfl (by decide) rfl ?_
      refine C_iload_n (D := mdX8_shortest) (pc' := 36) (x := c3) dX8_shortest_35 rfl 0 rfl ?_
      refine C_bipush (D := mdX8_shortest) (pc' := 38) (v := (-9)) dX8_shortest_36 rfl (by decide) ?_
      refine C_icmp_ne (D := mdX8_shortest) (pc' := 41) (tgt := 44) dX8_shortest_38 (by decide) rfl ?_ ?_
      · refine C_iload_n (D := mdX8_shortest) (pc' := 45) (x := l2) dX8_shortest_44 rfl 3 rfl ?_
        refine C_iconst (D := mdX8_shortest) (pc' := 46) (v := (-1)) dX8_shortest_45 rfl (by decide) ?_
        refine C_icmp_eq (D := mdX8_shortest) (pc' := 49) (tgt := 57) dX8_shortest_46 (by decide) rfl ?_ ?_
        · exact C_sub [1, 3] rfl (p_X8_shortest_J57 C l0 l2)
        · refine C_iload_n (D := mdX8_shortest) (pc' := 50) (x := l2) dX8_shortest_49 rfl 3 rfl ?_
          refine C_aload_n (D := mdX8_shortest) (pc' := 51) (x := kB C + l0) dX8_shortest_50 rfl 1 rfl ?_
          refine C_getI (D := mdX8_shortest) (pc' := 54) (p := l0) f_X8_242 rfl dX8_shortest_51 rfl (fun depth5 => ?_)
          refine C_icmp_lt (D := mdX8_shortest) (pc' := 57) (tgt := 72) dX8_shortest_54 (by decide) rfl ?_ ?_
          · refine C_aload_n (D := mdX8_shortest) (pc' := 73) (x := kB C + l0) dX8_shortest_72 rfl 1 rfl ?_
            refine C_getI (D := mdX8_shortest) (pc' := 76) (p := l0) f_X8_242 rfl dX8_shortest_73 rfl (fun depth6 => ?_)
            refine C_iconst (D := mdX8_shortest) (pc' := 77) (v := 1) dX8_shortest_76 rfl (by decide) ?_
            refine C_isub (D := mdX8_shortest) (pc' := 78) dX8_shortest_77 rfl ?_
            refine C_letI (fun v7 => ?_)
            refine C_istore (D := mdX8_shortest) (pc' := 80) (ls' := [(4, .int v7), (3, .int c3), (0, .ref (kB C + l0)), (1, .int l1), (2, .int l2)]) dX8_shortest_78 rfl (by decide) rfl ?_
            exact C_sub [2, 4, 1, 0] rfl (C_loop (fun s => [(0, .ref (kB C + l0)), (2, .int l2), (3, .int s.1), (4, .int s.2)]) (fun k hk s => p_X8_shortest_B80 C l0 l2  k hk s.1 s.2) FU (c3, v7))
          · exact C_sub [1, 3] rfl (p_X8_shortest_J57 C l0 l2)
      · refine C_bipush (D := mdX8_shortest) (pc' := 43) (v := (-9)) dX8_shortest_41 rfl (by decide) ?_
        exact C_iret rfl dX8_shortest_43
    · refine C_iconst (D := mdX8_shortest) (pc' := 19) (v := (-1)) dX8_shortest_18 rfl (by decide) ?_
      exact C_iret rfl dX8_shortest_19

-- StandingQueriesModel.more(I)I
theorem dX8_more_0 : decode cX8_more 0 = .ok (.aload_n 0, 1) := by decide +kernel
theorem dX8_more_1 : decode cX8_more 1 = .ok (.iconst 0, 1) := by decide +kernel
theorem dX8_more_2 : decode cX8_more 2 = .ok (.putfield 1, 3) := by decide +kernel
theorem dX8_more_5 : decode cX8_more 5 = .ok (.aload_n 0, 1) := by decide +kernel
theorem dX8_more_6 : decode cX8_more 6 = .ok (.iload_n 1, 1) := by decide +kernel
theorem dX8_more_7 : decode cX8_more 7 = .ok (.invokevirtual 183, 3) := by decide +kernel
theorem dX8_more_10 : decode cX8_more 10 = .ok (.ifCond .ne 5, 3) := by decide +kernel
theorem dX8_more_13 : decode cX8_more 13 = .ok (.iconst (-1), 1) := by decide +kernel
theorem dX8_more_14 : decode cX8_more 14 = .ok (.ireturn, 1) := by decide +kernel
theorem dX8_more_15 : decode cX8_more 15 = .ok (.aload_n 0, 1) := by decide +kernel
theorem dX8_more_16 : decode cX8_more 16 = .ok (.iload_n 1, 1) := by decide +kernel
theorem dX8_more_17 : decode cX8_more 17 = .ok (.invokevirtual 255, 3) := by decide +kernel
theorem dX8_more_20 : decode cX8_more 20 = .ok (.aload_n 0, 1) := by decide +kernel
theorem dX8_more_21 : decode cX8_more 21 = .ok (.invokevirtual 258, 3) := by decide +kernel
theorem dX8_more_24 : decode cX8_more 24 = .ok (.istore_n 2, 1) := by decide +kernel
theorem dX8_more_25 : decode cX8_more 25 = .ok (.iconst 0, 1) := by decide +kernel
theorem dX8_more_26 : decode cX8_more 26 = .ok (.istore_n 3, 1) := by decide +kernel
theorem dX8_more_27 : decode cX8_more 27 = .ok (.iload_n 3, 1) := by decide +kernel
theorem dX8_more_28 : decode cX8_more 28 = .ok (.aload_n 0, 1) := by decide +kernel
theorem dX8_more_29 : decode cX8_more 29 = .ok (.getfield 87, 3) := by decide +kernel
theorem dX8_more_32 : decode cX8_more 32 = .ok (.iconst 1, 1) := by decide +kernel
theorem dX8_more_33 : decode cX8_more 33 = .ok (.iaload, 1) := by decide +kernel
theorem dX8_more_34 : decode cX8_more 34 = .ok (.if_icmp .ge 30, 3) := by decide +kernel
theorem dX8_more_37 : decode cX8_more 37 = .ok (.iload_n 2, 1) := by decide +kernel
theorem dX8_more_38 : decode cX8_more 38 = .ok (.bipush (-9), 2) := by decide +kernel
theorem dX8_more_40 : decode cX8_more 40 = .ok (.if_icmp .eq 24, 3) := by decide +kernel
theorem dX8_more_43 : decode cX8_more 43 = .ok (.aload_n 0, 1) := by decide +kernel
theorem dX8_more_44 : decode cX8_more 44 = .ok (.iload_n 1, 1) := by decide +kernel
theorem dX8_more_45 : decode cX8_more 45 = .ok (.iload_n 2, 1) := by decide +kernel
theorem dX8_more_46 : decode cX8_more 46 = .ok (.aload_n 0, 1) := by decide +kernel
theorem dX8_more_47 : decode cX8_more 47 = .ok (.getfield 87, 3) := by decide +kernel
theorem dX8_more_50 : decode cX8_more 50 = .ok (.iconst 2, 1) := by decide +kernel
theorem dX8_more_51 : decode cX8_more 51 = .ok (.iload_n 3, 1) := by decide +kernel
theorem dX8_more_52 : decode cX8_more 52 = .ok (.iadd, 1) := by decide +kernel
theorem dX8_more_53 : decode cX8_more 53 = .ok (.iaload, 1) := by decide +kernel
theorem dX8_more_54 : decode cX8_more 54 = .ok (.invokevirtual 250, 3) := by decide +kernel
theorem dX8_more_57 : decode cX8_more 57 = .ok (.istore_n 2, 1) := by decide +kernel
theorem dX8_more_58 : decode cX8_more 58 = .ok (.iinc 3 1, 3) := by decide +kernel
theorem dX8_more_61 : decode cX8_more 61 = .ok (.goto (-34), 3) := by decide +kernel
theorem dX8_more_64 : decode cX8_more 64 = .ok (.iload_n 2, 1) := by decide +kernel
theorem dX8_more_65 : decode cX8_more 65 = .ok (.bipush (-9), 2) := by decide +kernel
theorem dX8_more_67 : decode cX8_more 67 = .ok (.if_icmp .eq 14, 3) := by decide +kernel
theorem dX8_more_70 : decode cX8_more 70 = .ok (.aload_n 0, 1) := by decide +kernel
theorem dX8_more_71 : decode cX8_more 71 = .ok (.iload_n 1, 1) := by decide +kernel
theorem dX8_more_72 : decode cX8_more 72 = .ok (.iload_n 2, 1) := by decide +kernel
theorem dX8_more_73 : decode cX8_more 73 = .ok (.invokevirtual 261, 3) := by decide +kernel
theorem dX8_more_76 : decode cX8_more 76 = .ok (.bipush (-9), 2) := by decide +kernel
theorem dX8_more_78 : decode cX8_more 78 = .ok (.if_icmp .ne 6, 3) := by decide +kernel
theorem dX8_more_81 : decode cX8_more 81 = .ok (.bipush (-9), 2) := by decide +kernel
theorem dX8_more_83 : decode cX8_more 83 = .ok (.ireturn, 1) := by decide +kernel
theorem dX8_more_84 : decode cX8_more 84 = .ok (.aload_n 0, 1) := by decide +kernel
theorem dX8_more_85 : decode cX8_more 85 = .ok (.getfield 242, 3) := by decide +kernel
theorem dX8_more_88 : decode cX8_more 88 = .ok (.ireturn, 1) := by decide +kernel
abbrev mdX8_more : MD := (cX8_more, RX8, 4, (some .int), yX8_more.name, 3, 78, eT)
set_option maxHeartbeats 2000000 in
set_option maxRecDepth 20000 in
theorem p_X8_more_J64 (C : KX) (l0 : Nat) (l1 : Int32) (l2 : Int32)  : Cmp C mdX8_more (QM rvI) 64 [(0, .ref (kB C + l0)), (1, .int l1), (2, .int l2)] [] (m_X8_more_J64 l0 l1 l2) := by
  unfold m_X8_more_J64
  refine C_iload_n (D := mdX8_more) (pc' := 65) (x := l2) dX8_more_64 rfl 2 rfl ?_
  refine C_bipush (D := mdX8_more) (pc' := 67) (v := (-9)) dX8_more_65 rfl (by decide) ?_
  refine C_icmp_eq (D := mdX8_more) (pc' := 70) (tgt := 81) dX8_more_67 (by decide) rfl ?_ ?_
  · refine C_bipush (D := mdX8_more) (pc' := 83) (v := (-9)) dX8_more_81 rfl (by decide) ?_
    exact C_iret rfl dX8_more_83
  · refine C_aload_n (D := mdX8_more) (pc' := 71) (x := kB C + l0) dX8_more_70 rfl 0 rfl ?_
    refine C_iload_n (D := mdX8_more) (pc' := 72) (x := l1) dX8_more_71 rfl 1 rfl ?_
    refine C_iload_n (D := mdX8_more) (pc' := 73) (x := l2) dX8_more_72 rfl 2 rfl ?_
    refine C_callV (D := mdX8_more) (pc' := 76) (p := l0) (st := []) [.int l1, .int l2] v_X8_261 (i_X8_nearest C l0 l1 l2) dX8_more_73 rfl rfl rfl (Nat.le_of_ble_eq_true rfl) (by decide) (by decide) (fun c5 => ?_)
    refine C_bipush (D := mdX8_more) (pc' := 78) (v := (-9)) dX8_more_76 rfl (by decide) ?_
    refine C_icmp_ne (D := mdX8_more) (pc' := 81) (tgt := 84) dX8_more_78 (by decide) rfl ?_ ?_
    · refine C_aload_n (D := mdX8_more) (pc' := 85) (x := kB C + l0) dX8_more_84 rfl 0 rfl ?_
      refine C_getI (D := mdX8_more) (pc' := 88) (p := l0) f_X8_242 rfl dX8_more_85 rfl (fun depth6 => ?_)
      exact C_iret rfl dX8_more_88
    · refine C_bipush (D := mdX8_more) (pc' := 83) (v := (-9)) dX8_more_81 rfl (by decide) ?_
      exact C_iret rfl dX8_more_83
set_option maxHeartbeats 2000000 in
set_option maxRecDepth 20000 in
theorem p_X8_more_B27 (C : KX) (l0 : Nat) (l1 : Int32)  (k27 : Int32 × Int32 → Mo Int32) (hk27 : ∀ s, Cmp C mdX8_more (QM rvI) 27 [(0, .ref (kB C + l0)), (1, .int l1), (2, .int s.1), (3, .int s.2)] [] (k27 s)) (l2 : Int32) (l3 : Int32) : Cmp C mdX8_more (QM rvI) 27 [(0, .ref (kB C + l0)), (1, .int l1), (2, .int l2), (3, .int l3)] [] (m_X8_more_B27 l0 l1 k27 l2 l3) := by
  unfold m_X8_more_B27
  refine C_iload_n (D := mdX8_more) (pc' := 28) (x := l3) dX8_more_27 rfl 3 rfl ?_
  refine C_aload_n (D := mdX8_more) (pc' := 29) (x := kB C + l0) dX8_more_28 rfl 0 rfl ?_
  refine C_getR (D := mdX8_more) (pc' := 32) (p := l0) f_X8_87 rfl dX8_more_29 rfl (fun now3 => ?_)
  refine C_iconst (D := mdX8_more) (pc' := 33) (v := 1) dX8_more_32 rfl (by decide) ?_
  refine C_aI (D := mdX8_more) (pc' := 34) (p := now3) dX8_more_33 rfl (fun x4 => ?_)
  refine C_icmp_ge (D := mdX8_more) (pc' := 37) (tgt := 64) dX8_more_34 (by decide) rfl ?_ ?_
  · exact C_sub [0, 1, 2] rfl (p_X8_more_J64 C l0 l1 l2)
  · refine C_iload_n (D := mdX8_more) (pc' := 38) (x := l2) dX8_more_37 rfl 2 rfl ?_
    refine C_bipush (D := mdX8_more) (pc' := 40) (v := (-9)) dX8_more_38 rfl (by decide) ?_
    refine C_icmp_eq (D := mdX8_more) (pc' := 43) (tgt := 64) dX8_more_40 (by decide) rfl ?_ ?_
    · exact C_sub [0, 1, 2] rfl (p_X8_more_J64 C l0 l1 l2)
    · refine C_aload_n (D := mdX8_more) (pc' := 44) (x := kB C + l0) dX8_more_43 rfl 0 rfl ?_
      refine C_iload_n (D := mdX8_more) (pc' := 45) (x := l1) dX8_more_44 rfl 1 rfl ?_
      refine C_iload_n (D := mdX8_more) (pc' := 46) (x := l2) dX8_more_45 rfl 2 rfl ?_
      refine C_aload_n (D := mdX8_more) (pc' := 47) (x := kB C + l0) dX8_more_46 rfl 0 rfl ?_
      refine C_getR (D := mdX8_more) (pc' := 50) (p := l0) f_X8_87 rfl dX8_more_47 rfl (fun now7 => ?_)
      refine C_iconst (D := mdX8_more) (pc' := 51) (v := 2) dX8_more_50 rfl (by decide) ?_
      refine C_iload_n (D := mdX8_more) (pc' := 52) (x := l3) dX8_more_51 rfl 3 rfl ?_
      refine C_iadd (D := mdX8_more) (pc' := 53) dX8_more_52 rfl ?_
      refine C_aI (D := mdX8_more) (pc' := 54) (p := now7) dX8_more_53 rfl (fun x8 => ?_)
      refine C_callV (D := mdX8_more) (pc' := 57) (p := l0) (st := []) [.int l1, .int l2, .int x8] v_X8_250 (i_X8_behind C l0 l1 l2 x8) dX8_more_54 rfl rfl rfl (Nat.le_of_ble_eq_true rfl) (by decide) (by decide) (fun c9 => ?_)
      refine C_istore_n (D := mdX8_more) (pc' := 58) (ls' := [(2, .int c9), (0, .ref (kB C + l0)), (1, .int l1), (3, .int l3)]) dX8_more_57 rfl rfl (by decide) rfl ?_
      refine C_iinc (D := mdX8_more) (pc' := 61) (j := 3) (v := (l3 + 1)) (ls' := [(3, .int (l3 + 1)), (2, .int c9), (0, .ref (kB C + l0)), (1, .int l1)]) dX8_more_58 rfl rfl rfl (by decide) rfl ?_
      refine C_goto (D := mdX8_more) (pc' := 27) dX8_more_61 (by decide) ?_
      exact C_sub [2, 3, 1, 0] rfl (hk27 (c9, (l3 + 1)))
set_option maxHeartbeats 2000000 in
set_option maxRecDepth 20000 in
theorem i_X8_more (C : KX) (l0 : Nat) (l1 : Int32) : Imp C yX8_more cX8_more 4 (some .int) 3 78 rvI [.ref (kB C + l0), .int l1] (m_X8_more l0 l1) := by
  refine Imp.of (by decide) (Nat.le_of_ble_eq_true rfl) [(0, .ref (kB C + l0)), (1, .int l1)] rfl ?_
  show Cmp C mdX8_more (QM rvI) 0 [(0, .ref (kB C + l0)), (1, .int l1)] [] (m_X8_more l0 l1)
  unfold m_X8_more
  refine C_aload_n (D := mdX8_more) (pc' := 1) (x := kB C + l0) dX8_more_0 rfl 0 rfl ?_
  refine C_iconst (D := mdX8_more) (pc' := 2) (v := 0) dX8_more_1 rfl (by decide) ?_
  refine C_putI (D := mdX8_more) (pc' := 5) (p := l0) f_X8_1 rfl dX8_more_2 rfl ?_
  refine C_aload_n (D := mdX8_more) (pc' := 6) (x := kB C + l0) dX8_more_5 rfl 0 rfl ?_
  refine C_iload_n (D := mdX8_more) (pc' := 7) (x := l1) dX8_more_6 rfl 1 rfl ?_
  refine C_callV (D := mdX8_more) (pc' := 10) (p := l0) (st := []) [.int l1] v_X8_183 (i_X8_isQuery C l0 l1) dX8_more_7 rfl rfl rfl (Nat.le_of_ble_eq_true rfl) (by decide) (by decide) (fun c1 => ?_)
  refine C_if_ne (D := mdX8_more) (pc' := 13) (tgt := 15) dX8_more_10 (by decide) rfl ?_ ?_
  · refine C_aload_n (D := mdX8_more) (pc' := 16) (x := kB C + l0) dX8_more_15 rfl 0 rfl ?_
    refine C_iload_n (D := mdX8_more) (pc' := 17) (x := l1) dX8_more_16 rfl 1 rfl ?_
    refine C_callV (D := mdX8_more) (pc' := 20) (p := l0) (st := []) [.int l1] v_X8_255 (i_X8_takes C l0 l1) dX8_more_17 rfl rfl rfl (Nat.le_of_ble_eq_true rfl) (by decide) (by decide) (fun _ => ?_)
    refine C_aload_n (D := mdX8_more) (pc' := 21) (x := kB C + l0) dX8_more_20 rfl 0 rfl ?_
    refine C_callV (D := mdX8_more) (pc' := 24) (p := l0) (st := []) [] v_X8_258 (i_X8_begins C l0) dX8_more_21 rfl rfl rfl (Nat.le_of_ble_eq_true rfl) (by decide) (by decide) (fun c2 => ?_)
    refine C_istore_n (D := mdX8_more) (pc' := 25) (ls' := [(2, .int c2), (0, .ref (kB C + l0)), (1, .int l1)]) dX8_more_24 rfl rfl (by decide) rfl ?_
    refine C_iconst (D := mdX8_more) (pc' := 26) (v := 0) dX8_more_25 rfl (by decide) ?_
    refine C_istore_n (D := mdX8_more) (pc' := 27) (ls' := [(3, .int 0), (2, .int c2), (0, .ref (kB C + l0)), (1, .int l1)]) dX8_more_26 rfl rfl (by decide) rfl ?_
    exact C_sub [2, 3, 1, 0] rfl (C_loop (fun s => [(0, .ref (kB C + l0)), (1, .int l1), (2, .int s.1), (3, .int s.2)]) (fun k hk s => p_X8_more_B27 C l0 l1  k hk s.1 s.2) FU (c2, 0))
  · refine C_iconst (D := mdX8_more) (pc' := 14) (v := (-1)) dX8_more_13 rfl (by decide) ?_
    exact C_iret rfl dX8_more_14

-- StandingQueriesModel.many(II)J
theorem dX8_many_0 : decode cX8_many 0 = .ok (.aload_n 0, 1) := by decide +kernel
theorem dX8_many_1 : decode cX8_many 1 = .ok (.iconst 0, 1) := by decide +kernel
theorem dX8_many_2 : decode cX8_many 2 = .ok (.putfield 1, 3) := by decide +kernel
theorem dX8_many_5 : decode cX8_many 5 = .ok (.aload_n 0, 1) := by decide +kernel
theorem dX8_many_6 : decode cX8_many 6 = .ok (.iload_n 1, 1) := by decide +kernel
theorem dX8_many_7 : decode cX8_many 7 = .ok (.invokevirtual 183, 3) := by decide +kernel
theorem dX8_many_10 : decode cX8_many 10 = .ok (.ifCond .eq 15, 3) := by decide +kernel
theorem dX8_many_13 : decode cX8_many 13 = .ok (.iload_n 2, 1) := by decide +kernel
theorem dX8_many_14 : decode cX8_many 14 = .ok (.i2l, 1) := by decide +kernel
theorem dX8_many_15 : decode cX8_many 15 = .ok (.lconst 0, 1) := by decide +kernel
theorem dX8_many_16 : decode cX8_many 16 = .ok (.ldc2_w 264, 3) := by decide +kernel
theorem dX8_many_19 : decode cX8_many 19 = .ok (.invokestatic 9, 3) := by decide +kernel
theorem dX8_many_22 : decode cX8_many 22 = .ok (.ifCond .ne 7, 3) := by decide +kernel
theorem dX8_many_25 : decode cX8_many 25 = .ok (.ldc2_w 266, 3) := by decide +kernel
theorem dX8_many_28 : decode cX8_many 28 = .ok (.lreturn, 1) := by decide +kernel
theorem dX8_many_29 : decode cX8_many 29 = .ok (.aload_n 0, 1) := by decide +kernel
theorem dX8_many_30 : decode cX8_many 30 = .ok (.iload_n 1, 1) := by decide +kernel
theorem dX8_many_31 : decode cX8_many 31 = .ok (.invokevirtual 255, 3) := by decide +kernel
theorem dX8_many_34 : decode cX8_many 34 = .ok (.iconst 0, 1) := by decide +kernel
theorem dX8_many_35 : decode cX8_many 35 = .ok (.istore_n 3, 1) := by decide +kernel
theorem dX8_many_36 : decode cX8_many 36 = .ok (.iload_n 3, 1) := by decide +kernel
theorem dX8_many_37 : decode cX8_many 37 = .ok (.sipush 15520, 3) := by decide +kernel
theorem dX8_many_40 : decode cX8_many 40 = .ok (.if_icmp .ge 16, 3) := by decide +kernel
theorem dX8_many_43 : decode cX8_many 43 = .ok (.aload_n 0, 1) := by decide +kernel
theorem dX8_many_44 : decode cX8_many 44 = .ok (.getfield 137, 3) := by decide +kernel
theorem dX8_many_47 : decode cX8_many 47 = .ok (.iload_n 3, 1) := by decide +kernel
theorem dX8_many_48 : decode cX8_many 48 = .ok (.lconst 0, 1) := by decide +kernel
theorem dX8_many_49 : decode cX8_many 49 = .ok (.lastore, 1) := by decide +kernel
theorem dX8_many_50 : decode cX8_many 50 = .ok (.iinc 3 1, 3) := by decide +kernel
theorem dX8_many_53 : decode cX8_many 53 = .ok (.goto (-17), 3) := by decide +kernel
theorem dX8_many_56 : decode cX8_many 56 = .ok (.aload_n 0, 1) := by decide +kernel
theorem dX8_many_57 : decode cX8_many 57 = .ok (.getfield 137, 3) := by decide +kernel
theorem dX8_many_60 : decode cX8_many 60 = .ok (.aload_n 0, 1) := by decide +kernel
theorem dX8_many_61 : decode cX8_many 61 = .ok (.invokevirtual 258, 3) := by decide +kernel
theorem dX8_many_64 : decode cX8_many 64 = .ok (.lconst 1, 1) := by decide +kernel
theorem dX8_many_65 : decode cX8_many 65 = .ok (.lastore, 1) := by decide +kernel
theorem dX8_many_66 : decode cX8_many 66 = .ok (.iconst 0, 1) := by decide +kernel
theorem dX8_many_67 : decode cX8_many 67 = .ok (.istore_n 3, 1) := by decide +kernel
theorem dX8_many_68 : decode cX8_many 68 = .ok (.iload_n 3, 1) := by decide +kernel
theorem dX8_many_69 : decode cX8_many 69 = .ok (.iload_n 2, 1) := by decide +kernel
theorem dX8_many_70 : decode cX8_many 70 = .ok (.if_icmp .ge 150, 3) := by decide +kernel
theorem dX8_many_73 : decode cX8_many 73 = .ok (.iconst 0, 1) := by decide +kernel
theorem dX8_many_74 : decode cX8_many 74 = .ok (.istore 4, 2) := by decide +kernel
theorem dX8_many_76 : decode cX8_many 76 = .ok (.iload 4, 2) := by decide +kernel
theorem dX8_many_78 : decode cX8_many 78 = .ok (.sipush 15520, 3) := by decide +kernel
theorem dX8_many_81 : decode cX8_many 81 = .ok (.if_icmp .ge 17, 3) := by decide +kernel
theorem dX8_many_84 : decode cX8_many 84 = .ok (.aload_n 0, 1) := by decide +kernel
theorem dX8_many_85 : decode cX8_many 85 = .ok (.getfield 141, 3) := by decide +kernel
theorem dX8_many_88 : decode cX8_many 88 = .ok (.iload 4, 2) := by decide +kernel
theorem dX8_many_90 : decode cX8_many 90 = .ok (.lconst 0, 1) := by decide +kernel
theorem dX8_many_91 : decode cX8_many 91 = .ok (.lastore, 1) := by decide +kernel
theorem dX8_many_92 : decode cX8_many 92 = .ok (.iinc 4 1, 3) := by decide +kernel
theorem dX8_many_95 : decode cX8_many 95 = .ok (.goto (-19), 3) := by decide +kernel
theorem dX8_many_98 : decode cX8_many 98 = .ok (.iconst 0, 1) := by decide +kernel
theorem dX8_many_99 : decode cX8_many 99 = .ok (.istore 4, 2) := by decide +kernel
theorem dX8_many_101 : decode cX8_many 101 = .ok (.iload 4, 2) := by decide +kernel
theorem dX8_many_103 : decode cX8_many 103 = .ok (.sipush 160, 3) := by decide +kernel
theorem dX8_many_106 : decode cX8_many 106 = .ok (.aload_n 0, 1) := by decide +kernel
theorem dX8_many_107 : decode cX8_many 107 = .ok (.getfield 73, 3) := by decide +kernel
theorem dX8_many_110 : decode cX8_many 110 = .ok (.imul, 1) := by decide +kernel
theorem dX8_many_111 : decode cX8_many 111 = .ok (.if_icmp .ge 72, 3) := by decide +kernel
theorem dX8_many_114 : decode cX8_many 114 = .ok (.iconst 0, 1) := by decide +kernel
theorem dX8_many_115 : decode cX8_many 115 = .ok (.istore 5, 2) := by decide +kernel
theorem dX8_many_117 : decode cX8_many 117 = .ok (.iload 5, 2) := by decide +kernel
theorem dX8_many_119 : decode cX8_many 119 = .ok (.bipush 8, 2) := by decide +kernel
theorem dX8_many_121 : decode cX8_many 121 = .ok (.if_icmp .ge 56, 3) := by decide +kernel
theorem dX8_many_124 : decode cX8_many 124 = .ok (.aload_n 0, 1) := by decide +kernel
theorem dX8_many_125 : decode cX8_many 125 = .ok (.getfield 137, 3) := by decide +kernel
theorem dX8_many_128 : decode cX8_many 128 = .ok (.iload 4, 2) := by decide +kernel
theorem dX8_many_130 : decode cX8_many 130 = .ok (.laload, 1) := by decide +kernel
theorem dX8_many_131 : decode cX8_many 131 = .ok (.lconst 0, 1) := by decide +kernel
theorem dX8_many_132 : decode cX8_many 132 = .ok (.lcmp, 1) := by decide +kernel
theorem dX8_many_133 : decode cX8_many 133 = .ok (.ifCond .le 44, 3) := by decide +kernel
theorem dX8_many_136 : decode cX8_many 136 = .ok (.aload_n 0, 1) := by decide +kernel
theorem dX8_many_137 : decode cX8_many 137 = .ok (.iload_n 1, 1) := by decide +kernel
theorem dX8_many_138 : decode cX8_many 138 = .ok (.iload 4, 2) := by decide +kernel
theorem dX8_many_140 : decode cX8_many 140 = .ok (.iload 5, 2) := by decide +kernel
theorem dX8_many_142 : decode cX8_many 142 = .ok (.invokevirtual 250, 3) := by decide +kernel
theorem dX8_many_145 : decode cX8_many 145 = .ok (.istore 6, 2) := by decide +kernel
theorem dX8_many_147 : decode cX8_many 147 = .ok (.iload 6, 2) := by decide +kernel
theorem dX8_many_149 : decode cX8_many 149 = .ok (.bipush (-9), 2) := by decide +kernel
theorem dX8_many_151 : decode cX8_many 151 = .ok (.if_icmp .eq 20, 3) := by decide +kernel
theorem dX8_many_154 : decode cX8_many 154 = .ok (.aload_n 0, 1) := by decide +kernel
theorem dX8_many_155 : decode cX8_many 155 = .ok (.getfield 141, 3) := by decide +kernel
theorem dX8_many_158 : decode cX8_many 158 = .ok (.iload 6, 2) := by decide +kernel
theorem dX8_many_160 : decode cX8_many 160 = .ok (.dup2, 1) := by decide +kernel
theorem dX8_many_161 : decode cX8_many 161 = .ok (.laload, 1) := by decide +kernel
theorem dX8_many_162 : decode cX8_many 162 = .ok (.aload_n 0, 1) := by decide +kernel
theorem dX8_many_163 : decode cX8_many 163 = .ok (.getfield 137, 3) := by decide +kernel
theorem dX8_many_166 : decode cX8_many 166 = .ok (.iload 4, 2) := by decide +kernel
theorem dX8_many_168 : decode cX8_many 168 = .ok (.laload, 1) := by decide +kernel
theorem dX8_many_169 : decode cX8_many 169 = .ok (.ladd, 1) := by decide +kernel
theorem dX8_many_170 : decode cX8_many 170 = .ok (.lastore, 1) := by decide +kernel
theorem dX8_many_171 : decode cX8_many 171 = .ok (.iinc 5 1, 3) := by decide +kernel
theorem dX8_many_174 : decode cX8_many 174 = .ok (.goto (-57), 3) := by decide +kernel
theorem dX8_many_177 : decode cX8_many 177 = .ok (.iinc 4 1, 3) := by decide +kernel
theorem dX8_many_180 : decode cX8_many 180 = .ok (.goto (-79), 3) := by decide +kernel
theorem dX8_many_183 : decode cX8_many 183 = .ok (.iconst 0, 1) := by decide +kernel
theorem dX8_many_184 : decode cX8_many 184 = .ok (.istore 4, 2) := by decide +kernel
theorem dX8_many_186 : decode cX8_many 186 = .ok (.iload 4, 2) := by decide +kernel
theorem dX8_many_188 : decode cX8_many 188 = .ok (.sipush 15520, 3) := by decide +kernel
theorem dX8_many_191 : decode cX8_many 191 = .ok (.if_icmp .ge 23, 3) := by decide +kernel
theorem dX8_many_194 : decode cX8_many 194 = .ok (.aload_n 0, 1) := by decide +kernel
theorem dX8_many_195 : decode cX8_many 195 = .ok (.getfield 137, 3) := by decide +kernel
theorem dX8_many_198 : decode cX8_many 198 = .ok (.iload 4, 2) := by decide +kernel
theorem dX8_many_200 : decode cX8_many 200 = .ok (.aload_n 0, 1) := by decide +kernel
theorem dX8_many_201 : decode cX8_many 201 = .ok (.getfield 141, 3) := by decide +kernel
theorem dX8_many_204 : decode cX8_many 204 = .ok (.iload 4, 2) := by decide +kernel
theorem dX8_many_206 : decode cX8_many 206 = .ok (.laload, 1) := by decide +kernel
theorem dX8_many_207 : decode cX8_many 207 = .ok (.lastore, 1) := by decide +kernel
theorem dX8_many_208 : decode cX8_many 208 = .ok (.iinc 4 1, 3) := by decide +kernel
theorem dX8_many_211 : decode cX8_many 211 = .ok (.goto (-25), 3) := by decide +kernel
theorem dX8_many_214 : decode cX8_many 214 = .ok (.iinc 3 1, 3) := by decide +kernel
theorem dX8_many_217 : decode cX8_many 217 = .ok (.goto (-149), 3) := by decide +kernel
theorem dX8_many_220 : decode cX8_many 220 = .ok (.lconst 0, 1) := by decide +kernel
theorem dX8_many_221 : decode cX8_many 221 = .ok (.lstore_n 3, 1) := by decide +kernel
theorem dX8_many_222 : decode cX8_many 222 = .ok (.iconst 0, 1) := by decide +kernel
theorem dX8_many_223 : decode cX8_many 223 = .ok (.istore 5, 2) := by decide +kernel
theorem dX8_many_225 : decode cX8_many 225 = .ok (.iload 5, 2) := by decide +kernel
theorem dX8_many_227 : decode cX8_many 227 = .ok (.sipush 160, 3) := by decide +kernel
theorem dX8_many_230 : decode cX8_many 230 = .ok (.aload_n 0, 1) := by decide +kernel
theorem dX8_many_231 : decode cX8_many 231 = .ok (.getfield 73, 3) := by decide +kernel
theorem dX8_many_234 : decode cX8_many 234 = .ok (.imul, 1) := by decide +kernel
theorem dX8_many_235 : decode cX8_many 235 = .ok (.if_icmp .ge 32, 3) := by decide +kernel
theorem dX8_many_238 : decode cX8_many 238 = .ok (.lload_n 3, 1) := by decide +kernel
theorem dX8_many_239 : decode cX8_many 239 = .ok (.aload_n 0, 1) := by decide +kernel
theorem dX8_many_240 : decode cX8_many 240 = .ok (.iload 5, 2) := by decide +kernel
theorem dX8_many_242 : decode cX8_many 242 = .ok (.invokevirtual 245, 3) := by decide +kernel
theorem dX8_many_245 : decode cX8_many 245 = .ok (.ifCond .eq 13, 3) := by decide +kernel
theorem dX8_many_248 : decode cX8_many 248 = .ok (.aload_n 0, 1) := by decide +kernel
theorem dX8_many_249 : decode cX8_many 249 = .ok (.getfield 137, 3) := by decide +kernel
theorem dX8_many_252 : decode cX8_many 252 = .ok (.iload 5, 2) := by decide +kernel
theorem dX8_many_254 : decode cX8_many 254 = .ok (.laload, 1) := by decide +kernel
theorem dX8_many_255 : decode cX8_many 255 = .ok (.goto 4, 3) := by decide +kernel
theorem dX8_many_258 : decode cX8_many 258 = .ok (.lconst 0, 1) := by decide +kernel
theorem dX8_many_259 : decode cX8_many 259 = .ok (.ladd, 1) := by decide +kernel
theorem dX8_many_260 : decode cX8_many 260 = .ok (.lstore_n 3, 1) := by decide +kernel
theorem dX8_many_261 : decode cX8_many 261 = .ok (.iinc 5 1, 3) := by decide +kernel
theorem dX8_many_264 : decode cX8_many 264 = .ok (.goto (-39), 3) := by decide +kernel
theorem dX8_many_267 : decode cX8_many 267 = .ok (.lload_n 3, 1) := by decide +kernel
theorem dX8_many_268 : decode cX8_many 268 = .ok (.lreturn, 1) := by decide +kernel
abbrev mdX8_many : MD := (cX8_many, RX8, 7, (some .long), yX8_many.name, 2, 50, eT)
set_option maxHeartbeats 2000000 in
set_option maxRecDepth 20000 in
theorem p_X8_many_J25 (C : KX)   : Cmp C mdX8_many (QM rvL) 25 [] [] (m_X8_many_J25 ) := by
  unfold m_X8_many_J25
  refine C_ldc2 (D := mdX8_many) (pc' := 28) (v := (-1)) c_X8_266 dX8_many_25 rfl ?_
  exact C_lret rfl dX8_many_28
set_option maxHeartbeats 2000000 in
set_option maxRecDepth 20000 in
theorem p_X8_many_J259 (C : KX) (l0 : Nat) (l5 : Int32) (s0 : Int64) (s1 : Int64) (k225 : Int64 × Int32 → Mo Int64) (hk225 : ∀ s, Cmp C mdX8_many (QM rvL) 225 [(0, .ref (kB C + l0)), (3, .long s.1), (5, .int s.2)] [] (k225 s)) : Cmp C mdX8_many (QM rvL) 259 [(0, .ref (kB C + l0)), (5, .int l5)] [.long s0, .long s1] (m_X8_many_J259 l0 l5 s0 s1 k225) := by
  unfold m_X8_many_J259
  refine C_ladd (D := mdX8_many) (pc' := 260) dX8_many_259 rfl ?_
  refine C_letL (fun v7 => ?_)
  refine C_lstore_n (D := mdX8_many) (pc' := 261) (ls' := [(3, .long v7), (0, .ref (kB C + l0)), (5, .int l5)]) dX8_many_260 rfl rfl (by decide) rfl ?_
  refine C_iinc (D := mdX8_many) (pc' := 264) (j := 2) (v := (l5 + 1)) (ls' := [(5, .int (l5 + 1)), (3, .long v7), (0, .ref (kB C + l0))]) dX8_many_261 rfl rfl rfl (by decide) rfl ?_
  refine C_goto (D := mdX8_many) (pc' := 225) dX8_many_264 (by decide) ?_
  exact C_sub [2, 1, 0] rfl (hk225 (v7, (l5 + 1)))
set_option maxHeartbeats 2000000 in
set_option maxRecDepth 20000 in
theorem p_X8_many_B225 (C : KX) (l0 : Nat)  (k225 : Int64 × Int32 → Mo Int64) (hk225 : ∀ s, Cmp C mdX8_many (QM rvL) 225 [(0, .ref (kB C + l0)), (3, .long s.1), (5, .int s.2)] [] (k225 s)) (l3 : Int64) (l5 : Int32) : Cmp C mdX8_many (QM rvL) 225 [(0, .ref (kB C + l0)), (3, .long l3), (5, .int l5)] [] (m_X8_many_B225 l0 k225 l3 l5) := by
  unfold m_X8_many_B225
  refine C_iload (D := mdX8_many) (pc' := 227) (x := l5) dX8_many_225 rfl 2 rfl ?_
  refine C_sipush (D := mdX8_many) (pc' := 230) (v := 160) dX8_many_227 rfl (by decide) ?_
  refine C_aload_n (D := mdX8_many) (pc' := 231) (x := kB C + l0) dX8_many_230 rfl 0 rfl ?_
  refine C_getI (D := mdX8_many) (pc' := 234) (p := l0) f_X8_73 rfl dX8_many_231 rfl (fun nodeMany5 => ?_)
  refine C_imul (D := mdX8_many) (pc' := 235) dX8_many_234 rfl ?_
  refine C_icmp_ge (D := mdX8_many) (pc' := 238) (tgt := 267) dX8_many_235 (by decide) rfl ?_ ?_
  · refine C_lload_n (D := mdX8_many) (pc' := 268) (x := l3) dX8_many_267 rfl 1 rfl ?_
    exact C_lret rfl dX8_many_268
  · refine C_lload_n (D := mdX8_many) (pc' := 239) (x := l3) dX8_many_238 rfl 1 rfl ?_
    refine C_aload_n (D := mdX8_many) (pc' := 240) (x := kB C + l0) dX8_many_239 rfl 0 rfl ?_
    refine C_iload (D := mdX8_many) (pc' := 242) (x := l5) dX8_many_240 rfl 2 rfl ?_
    refine C_callV (D := mdX8_many) (pc' := 245) (p := l0) (st := [.long l3]) [.int l5] v_X8_245 (i_X8_isDone C l0 l5) dX8_many_242 rfl rfl rfl (Nat.le_of_ble_eq_true rfl) (by decide) (by decide) (fun c6 => ?_)
    refine C_if_eq (D := mdX8_many) (pc' := 248) (tgt := 258) dX8_many_245 (by decide) rfl ?_ ?_
    · refine C_lconst (D := mdX8_many) (pc' := 259) (v := 0) dX8_many_258 rfl (by decide) ?_
      exact C_sub [0, 2] rfl (p_X8_many_J259 C l0 l5 0 l3 k225 hk225)
    · refine C_aload_n (D := mdX8_many) (pc' := 249) (x := kB C + l0) dX8_many_248 rfl 0 rfl ?_
      refine C_getR (D := mdX8_many) (pc' := 252) (p := l0) f_X8_137 rfl dX8_many_249 rfl (fun queue8 => ?_)
      refine C_iload (D := mdX8_many) (pc' := 254) (x := l5) dX8_many_252 rfl 2 rfl ?_
      refine C_aJ (D := mdX8_many) (pc' := 255) (p := queue8) dX8_many_254 rfl (fun x9 => ?_)
      refine C_goto (D := mdX8_many) (pc' := 259) dX8_many_255 (by decide) ?_
      exact C_sub [0, 2] rfl (p_X8_many_J259 C l0 l5 x9 l3 k225 hk225)
set_option maxHeartbeats 2000000 in
set_option maxRecDepth 20000 in
theorem p_X8_many_B186 (C : KX) (l0 : Nat) (l1 : Int32) (l2 : Int32) (l3 : Int32) (k68 : Int32 → Mo Int64) (hk68 : ∀ s, Cmp C mdX8_many (QM rvL) 68 [(0, .ref (kB C + l0)), (1, .int l1), (2, .int l2), (3, .int s)] [] (k68 s)) (k186 : Int32 → Mo Int64) (hk186 : ∀ s, Cmp C mdX8_many (QM rvL) 186 [(0, .ref (kB C + l0)), (1, .int l1), (2, .int l2), (3, .int l3), (4, .int s)] [] (k186 s)) (l4 : Int32) : Cmp C mdX8_many (QM rvL) 186 [(0, .ref (kB C + l0)), (1, .int l1), (2, .int l2), (3, .int l3), (4, .int l4)] [] (m_X8_many_B186 l0 l1 l2 l3 k68 k186 l4) := by
  unfold m_X8_many_B186
  refine C_iload (D := mdX8_many) (pc' := 188) (x := l4) dX8_many_186 rfl 4 rfl ?_
  refine C_sipush (D := mdX8_many) (pc' := 191) (v := 15520) dX8_many_188 rfl (by decide) ?_
  refine C_icmp_ge (D := mdX8_many) (pc' := 194) (tgt := 214) dX8_many_191 (by decide) rfl ?_ ?_
  · refine C_iinc (D := mdX8_many) (pc' := 217) (j := 3) (v := (l3 + 1)) (ls' := [(3, .int (l3 + 1)), (0, .ref (kB C + l0)), (1, .int l1), (2, .int l2), (4, .int l4)]) dX8_many_214 rfl rfl rfl (by decide) rfl ?_
    refine C_goto (D := mdX8_many) (pc' := 68) dX8_many_217 (by decide) ?_
    exact C_sub [1, 2, 3, 0] rfl (hk68 ((l3 + 1)))
  · refine C_aload_n (D := mdX8_many) (pc' := 195) (x := kB C + l0) dX8_many_194 rfl 0 rfl ?_
    refine C_getR (D := mdX8_many) (pc' := 198) (p := l0) f_X8_137 rfl dX8_many_195 rfl (fun queue11 => ?_)
    refine C_iload (D := mdX8_many) (pc' := 200) (x := l4) dX8_many_198 rfl 4 rfl ?_
    refine C_aload_n (D := mdX8_many) (pc' := 201) (x := kB C + l0) dX8_many_200 rfl 0 rfl ?_
    refine C_getR (D := mdX8_many) (pc' := 204) (p := l0) f_X8_141 rfl dX8_many_201 rfl (fun came12 => ?_)
    refine C_iload (D := mdX8_many) (pc' := 206) (x := l4) dX8_many_204 rfl 4 rfl ?_
    refine C_aJ (D := mdX8_many) (pc' := 207) (p := came12) dX8_many_206 rfl (fun x13 => ?_)
    refine C_tJ (D := mdX8_many) (pc' := 208) (p := queue11) dX8_many_207 rfl ?_
    refine C_iinc (D := mdX8_many) (pc' := 211) (j := 4) (v := (l4 + 1)) (ls' := [(4, .int (l4 + 1)), (0, .ref (kB C + l0)), (1, .int l1), (2, .int l2), (3, .int l3)]) dX8_many_208 rfl rfl rfl (by decide) rfl ?_
    refine C_goto (D := mdX8_many) (pc' := 186) dX8_many_211 (by decide) ?_
    exact C_sub [1, 2, 3, 4, 0] rfl (hk186 ((l4 + 1)))
set_option maxHeartbeats 2000000 in
set_option maxRecDepth 20000 in
theorem p_X8_many_J177 (C : KX) (l0 : Nat) (l1 : Int32) (l2 : Int32) (l3 : Int32) (l4 : Int32) (k68 : Int32 → Mo Int64) (hk68 : ∀ s, Cmp C mdX8_many (QM rvL) 68 [(0, .ref (kB C + l0)), (1, .int l1), (2, .int l2), (3, .int s)] [] (k68 s)) (k101 : Int32 → Mo Int64) (hk101 : ∀ s, Cmp C mdX8_many (QM rvL) 101 [(0, .ref (kB C + l0)), (1, .int l1), (2, .int l2), (3, .int l3), (4, .int s)] [] (k101 s)) : Cmp C mdX8_many (QM rvL) 177 [(0, .ref (kB C + l0)), (1, .int l1), (2, .int l2), (3, .int l3), (4, .int l4)] [] (m_X8_many_J177 l0 l1 l2 l3 l4 k68 k101) := by
  unfold m_X8_many_J177
  refine C_iinc (D := mdX8_many) (pc' := 180) (j := 4) (v := (l4 + 1)) (ls' := [(4, .int (l4 + 1)), (0, .ref (kB C + l0)), (1, .int l1), (2, .int l2), (3, .int l3)]) dX8_many_177 rfl rfl rfl (by decide) rfl ?_
  refine C_goto (D := mdX8_many) (pc' := 101) dX8_many_180 (by decide) ?_
  exact C_sub [1, 2, 3, 4, 0] rfl (hk101 ((l4 + 1)))
set_option maxHeartbeats 2000000 in
set_option maxRecDepth 20000 in
theorem p_X8_many_J171 (C : KX) (l0 : Nat) (l1 : Int32) (l2 : Int32) (l3 : Int32) (l4 : Int32) (l5 : Int32) (k68 : Int32 → Mo Int64) (hk68 : ∀ s, Cmp C mdX8_many (QM rvL) 68 [(0, .ref (kB C + l0)), (1, .int l1), (2, .int l2), (3, .int s)] [] (k68 s)) (k101 : Int32 → Mo Int64) (hk101 : ∀ s, Cmp C mdX8_many (QM rvL) 101 [(0, .ref (kB C + l0)), (1, .int l1), (2, .int l2), (3, .int l3), (4, .int s)] [] (k101 s)) (k117 : Int32 → Mo Int64) (hk117 : ∀ s, Cmp C mdX8_many (QM rvL) 117 [(0, .ref (kB C + l0)), (1, .int l1), (2, .int l2), (3, .int l3), (4, .int l4), (5, .int s)] [] (k117 s)) : Cmp C mdX8_many (QM rvL) 171 [(0, .ref (kB C + l0)), (1, .int l1), (2, .int l2), (3, .int l3), (4, .int l4), (5, .int l5)] [] (m_X8_many_J171 l0 l1 l2 l3 l4 l5 k68 k101 k117) := by
  unfold m_X8_many_J171
  refine C_iinc (D := mdX8_many) (pc' := 174) (j := 5) (v := (l5 + 1)) (ls' := [(5, .int (l5 + 1)), (0, .ref (kB C + l0)), (1, .int l1), (2, .int l2), (3, .int l3), (4, .int l4)]) dX8_many_171 rfl rfl rfl (by decide) rfl ?_
  refine C_goto (D := mdX8_many) (pc' := 117) dX8_many_174 (by decide) ?_
  exact C_sub [1, 2, 3, 4, 5, 0] rfl (hk117 ((l5 + 1)))
set_option maxHeartbeats 2000000 in
set_option maxRecDepth 20000 in
theorem p_X8_many_B117 (C : KX) (l0 : Nat) (l1 : Int32) (l2 : Int32) (l3 : Int32) (l4 : Int32) (k68 : Int32 → Mo Int64) (hk68 : ∀ s, Cmp C mdX8_many (QM rvL) 68 [(0, .ref (kB C + l0)), (1, .int l1), (2, .int l2), (3, .int s)] [] (k68 s)) (k101 : Int32 → Mo Int64) (hk101 : ∀ s, Cmp C mdX8_many (QM rvL) 101 [(0, .ref (kB C + l0)), (1, .int l1), (2, .int l2), (3, .int l3), (4, .int s)] [] (k101 s)) (k117 : Int32 → Mo Int64) (hk117 : ∀ s, Cmp C mdX8_many (QM rvL) 117 [(0, .ref (kB C + l0)), (1, .int l1), (2, .int l2), (3, .int l3), (4, .int l4), (5, .int s)] [] (k117 s)) (l5 : Int32) : Cmp C mdX8_many (QM rvL) 117 [(0, .ref (kB C + l0)), (1, .int l1), (2, .int l2), (3, .int l3), (4, .int l4), (5, .int l5)] [] (m_X8_many_B117 l0 l1 l2 l3 l4 k68 k101 k117 l5) := by
  unfold m_X8_many_B117
  refine C_iload (D := mdX8_many) (pc' := 119) (x := l5) dX8_many_117 rfl 5 rfl ?_
  refine C_bipush (D := mdX8_many) (pc' := 121) (v := 8) dX8_many_119 rfl (by decide) ?_
  refine C_icmp_ge (D := mdX8_many) (pc' := 124) (tgt := 177) dX8_many_121 (by decide) rfl ?_ ?_
  · exact C_sub [0, 1, 2, 3, 4] rfl (p_X8_many_J177 C l0 l1 l2 l3 l4 k68 hk68 k101 hk101)
  · refine C_aload_n (D := mdX8_many) (pc' := 125) (x := kB C + l0) dX8_many_124 rfl 0 rfl ?_
    refine C_getR (D := mdX8_many) (pc' := 128) (p := l0) f_X8_137 rfl dX8_many_125 rfl (fun queue14 => ?_)
    refine C_iload (D := mdX8_many) (pc' := 130) (x := l4) dX8_many_128 rfl 4 rfl ?_
    refine C_aJ (D := mdX8_many) (pc' := 131) (p := queue14) dX8_many_130 rfl (fun x15 => ?_)
    refine C_lconst (D := mdX8_many) (pc' := 132) (v := 0) dX8_many_131 rfl (by decide) ?_
    refine C_lcmp (D := mdX8_many) (pc' := 133) dX8_many_132 rfl ?_
    refine C_if_le (D := mdX8_many) (pc' := 136) (tgt := 177) dX8_many_133 (by decide) rfl ?_ ?_
    · exact C_sub [0, 1, 2, 3, 4] rfl (p_X8_many_J177 C l0 l1 l2 l3 l4 k68 hk68 k101 hk101)
    · refine C_aload_n (D := mdX8_many) (pc' := 137) (x := kB C + l0) dX8_many_136 rfl 0 rfl ?_
      refine C_iload_n (D := mdX8_many) (pc' := 138) (x := l1) dX8_many_137 rfl 1 rfl ?_
      refine C_iload (D := mdX8_many) (pc' := 140) (x := l4) dX8_many_138 rfl 4 rfl ?_
      refine C_iload (D := mdX8_many) (pc' := 142) (x := l5) dX8_many_140 rfl 5 rfl ?_
      refine C_callV (D := mdX8_many) (pc' := 145) (p := l0) (st := []) [.int l1, .int l4, .int l5] v_X8_250 (i_X8_behind C l0 l1 l4 l5) dX8_many_142 rfl rfl rfl (Nat.le_of_ble_eq_true rfl) (by decide) (by decide) (fun c16 => ?_)
      refine C_istore (D := mdX8_many) (pc' := 147) (ls' := [(6, .int c16), (0, .ref (kB C + l0)), (1, .int l1), (2, .int l2), (3, .int l3), (4, .int l4), (5, .int l5)]) dX8_many_145 rfl (by decide) rfl ?_
      refine C_iload (D := mdX8_many) (pc' := 149) (x := c16) dX8_many_147 rfl 0 rfl ?_
      refine C_bipush (D := mdX8_many) (pc' := 151) (v := (-9)) dX8_many_149 rfl (by decide) ?_
      refine C_icmp_eq (D := mdX8_many) (pc' := 154) (tgt := 171) dX8_many_151 (by decide) rfl ?_ ?_
      · exact C_sub [1, 2, 3, 4, 5, 6] rfl (p_X8_many_J171 C l0 l1 l2 l3 l4 l5 k68 hk68 k101 hk101 k117 hk117)
      · refine C_aload_n (D := mdX8_many) (pc' := 155) (x := kB C + l0) dX8_many_154 rfl 1 rfl ?_
        refine C_getR (D := mdX8_many) (pc' := 158) (p := l0) f_X8_141 rfl dX8_many_155 rfl (fun came17 => ?_)
        refine C_iload (D := mdX8_many) (pc' := 160) (x := c16) dX8_many_158 rfl 0 rfl ?_
        refine C_dup2 (D := mdX8_many) (pc' := 161) dX8_many_160 rfl rfl rfl ?_
        refine C_aJ (D := mdX8_many) (pc' := 162) (p := came17) dX8_many_161 rfl (fun x18 => ?_)
        refine C_aload_n (D := mdX8_many) (pc' := 163) (x := kB C + l0) dX8_many_162 rfl 1 rfl ?_
        refine C_getR (D := mdX8_many) (pc' := 166) (p := l0) f_X8_137 rfl dX8_many_163 rfl (fun queue19 => ?_)
        refine C_iload (D := mdX8_many) (pc' := 168) (x := l4) dX8_many_166 rfl 5 rfl ?_
        refine C_aJ (D := mdX8_many) (pc' := 169) (p := queue19) dX8_many_168 rfl (fun x20 => ?_)
        refine C_ladd (D := mdX8_many) (pc' := 170) dX8_many_169 rfl ?_
        refine C_tJ (D := mdX8_many) (pc' := 171) (p := came17) dX8_many_170 rfl ?_
        exact C_sub [1, 2, 3, 4, 5, 6] rfl (p_X8_many_J171 C l0 l1 l2 l3 l4 l5 k68 hk68 k101 hk101 k117 hk117)
set_option maxHeartbeats 2000000 in
set_option maxRecDepth 20000 in
theorem p_X8_many_B101 (C : KX) (l0 : Nat) (l1 : Int32) (l2 : Int32) (l3 : Int32) (k68 : Int32 → Mo Int64) (hk68 : ∀ s, Cmp C mdX8_many (QM rvL) 68 [(0, .ref (kB C + l0)), (1, .int l1), (2, .int l2), (3, .int s)] [] (k68 s)) (k101 : Int32 → Mo Int64) (hk101 : ∀ s, Cmp C mdX8_many (QM rvL) 101 [(0, .ref (kB C + l0)), (1, .int l1), (2, .int l2), (3, .int l3), (4, .int s)] [] (k101 s)) (l4 : Int32) : Cmp C mdX8_many (QM rvL) 101 [(0, .ref (kB C + l0)), (1, .int l1), (2, .int l2), (3, .int l3), (4, .int l4)] [] (m_X8_many_B101 l0 l1 l2 l3 k68 k101 l4) := by
  unfold m_X8_many_B101
  refine C_iload (D := mdX8_many) (pc' := 103) (x := l4) dX8_many_101 rfl 4 rfl ?_
  refine C_sipush (D := mdX8_many) (pc' := 106) (v := 160) dX8_many_103 rfl (by decide) ?_
  refine C_aload_n (D := mdX8_many) (pc' := 107) (x := kB C + l0) dX8_many_106 rfl 0 rfl ?_
  refine C_getI (D := mdX8_many) (pc' := 110) (p := l0) f_X8_73 rfl dX8_many_107 rfl (fun nodeMany10 => ?_)
  refine C_imul (D := mdX8_many) (pc' := 111) dX8_many_110 rfl ?_
  refine C_icmp_ge (D := mdX8_many) (pc' := 114) (tgt := 183) dX8_many_111 (by decide) rfl ?_ ?_
  · refine C_iconst (D := mdX8_many) (pc' := 184) (v := 0) dX8_many_183 rfl (by decide) ?_
    refine C_istore (D := mdX8_many) (pc' := 186) (ls' := [(4, .int 0), (0, .ref (kB C + l0)), (1, .int l1), (2, .int l2), (3, .int l3)]) dX8_many_184 rfl (by decide) rfl ?_
    exact C_sub [1, 2, 3, 4, 0] rfl (C_loop (fun s => [(0, .ref (kB C + l0)), (1, .int l1), (2, .int l2), (3, .int l3), (4, .int s)]) (fun k hk s => p_X8_many_B186 C l0 l1 l2 l3 k68 hk68 k hk s) FU 0)
  · refine C_iconst (D := mdX8_many) (pc' := 115) (v := 0) dX8_many_114 rfl (by decide) ?_
    refine C_istore (D := mdX8_many) (pc' := 117) (ls' := [(5, .int 0), (0, .ref (kB C + l0)), (1, .int l1), (2, .int l2), (3, .int l3), (4, .int l4)]) dX8_many_115 rfl (by decide) rfl ?_
    exact C_sub [1, 2, 3, 4, 5, 0] rfl (C_loop (fun s => [(0, .ref (kB C + l0)), (1, .int l1), (2, .int l2), (3, .int l3), (4, .int l4), (5, .int s)]) (fun k hk s => p_X8_many_B117 C l0 l1 l2 l3 l4 k68 hk68 k101 hk101 k hk s) FU 0)
set_option maxHeartbeats 2000000 in
set_option maxRecDepth 20000 in
theorem p_X8_many_B76 (C : KX) (l0 : Nat) (l1 : Int32) (l2 : Int32) (l3 : Int32) (k68 : Int32 → Mo Int64) (hk68 : ∀ s, Cmp C mdX8_many (QM rvL) 68 [(0, .ref (kB C + l0)), (1, .int l1), (2, .int l2), (3, .int s)] [] (k68 s)) (k76 : Int32 → Mo Int64) (hk76 : ∀ s, Cmp C mdX8_many (QM rvL) 76 [(0, .ref (kB C + l0)), (1, .int l1), (2, .int l2), (3, .int l3), (4, .int s)] [] (k76 s)) (l4 : Int32) : Cmp C mdX8_many (QM rvL) 76 [(0, .ref (kB C + l0)), (1, .int l1), (2, .int l2), (3, .int l3), (4, .int l4)] [] (m_X8_many_B76 l0 l1 l2 l3 k68 k76 l4) := by
  unfold m_X8_many_B76
  refine C_iload (D := mdX8_many) (pc' := 78) (x := l4) dX8_many_76 rfl 4 rfl ?_
  refine C_sipush (D := mdX8_many) (pc' := 81) (v := 15520) dX8_many_78 rfl (by decide) ?_
  refine C_icmp_ge (D := mdX8_many) (pc' := 84) (tgt := 98) dX8_many_81 (by decide) rfl ?_ ?_
  · refine C_iconst (D := mdX8_many) (pc' := 99) (v := 0) dX8_many_98 rfl (by decide) ?_
    refine C_istore (D := mdX8_many) (pc' := 101) (ls' := [(4, .int 0), (0, .ref (kB C + l0)), (1, .int l1), (2, .int l2), (3, .int l3)]) dX8_many_99 rfl (by decide) rfl ?_
    exact C_sub [1, 2, 3, 4, 0] rfl (C_loop (fun s => [(0, .ref (kB C + l0)), (1, .int l1), (2, .int l2), (3, .int l3), (4, .int s)]) (fun k hk s => p_X8_many_B101 C l0 l1 l2 l3 k68 hk68 k hk s) FU 0)
  · refine C_aload_n (D := mdX8_many) (pc' := 85) (x := kB C + l0) dX8_many_84 rfl 0 rfl ?_
    refine C_getR (D := mdX8_many) (pc' := 88) (p := l0) f_X8_141 rfl dX8_many_85 rfl (fun came21 => ?_)
    refine C_iload (D := mdX8_many) (pc' := 90) (x := l4) dX8_many_88 rfl 4 rfl ?_
    refine C_lconst (D := mdX8_many) (pc' := 91) (v := 0) dX8_many_90 rfl (by decide) ?_
    refine C_tJ (D := mdX8_many) (pc' := 92) (p := came21) dX8_many_91 rfl ?_
    refine C_iinc (D := mdX8_many) (pc' := 95) (j := 4) (v := (l4 + 1)) (ls' := [(4, .int (l4 + 1)), (0, .ref (kB C + l0)), (1, .int l1), (2, .int l2), (3, .int l3)]) dX8_many_92 rfl rfl rfl (by decide) rfl ?_
    refine C_goto (D := mdX8_many) (pc' := 76) dX8_many_95 (by decide) ?_
    exact C_sub [1, 2, 3, 4, 0] rfl (hk76 ((l4 + 1)))
set_option maxHeartbeats 2000000 in
set_option maxRecDepth 20000 in
theorem p_X8_many_B68 (C : KX) (l0 : Nat) (l1 : Int32) (l2 : Int32)  (k68 : Int32 → Mo Int64) (hk68 : ∀ s, Cmp C mdX8_many (QM rvL) 68 [(0, .ref (kB C + l0)), (1, .int l1), (2, .int l2), (3, .int s)] [] (k68 s)) (l3 : Int32) : Cmp C mdX8_many (QM rvL) 68 [(0, .ref (kB C + l0)), (1, .int l1), (2, .int l2), (3, .int l3)] [] (m_X8_many_B68 l0 l1 l2 k68 l3) := by
  unfold m_X8_many_B68
  refine C_iload_n (D := mdX8_many) (pc' := 69) (x := l3) dX8_many_68 rfl 3 rfl ?_
  refine C_iload_n (D := mdX8_many) (pc' := 70) (x := l2) dX8_many_69 rfl 2 rfl ?_
  refine C_icmp_ge (D := mdX8_many) (pc' := 73) (tgt := 220) dX8_many_70 (by decide) rfl ?_ ?_
  · refine C_lconst (D := mdX8_many) (pc' := 221) (v := 0) dX8_many_220 rfl (by decide) ?_
    refine C_lstore_n (D := mdX8_many) (pc' := 222) (ls' := [(3, .long 0), (0, .ref (kB C + l0)), (1, .int l1), (2, .int l2)]) dX8_many_221 rfl rfl (by decide) rfl ?_
    refine C_iconst (D := mdX8_many) (pc' := 223) (v := 0) dX8_many_222 rfl (by decide) ?_
    refine C_istore (D := mdX8_many) (pc' := 225) (ls' := [(5, .int 0), (3, .long 0), (0, .ref (kB C + l0)), (1, .int l1), (2, .int l2)]) dX8_many_223 rfl (by decide) rfl ?_
    exact C_sub [2, 1, 0] rfl (C_loop (fun s => [(0, .ref (kB C + l0)), (3, .long s.1), (5, .int s.2)]) (fun k hk s => p_X8_many_B225 C l0  k hk s.1 s.2) FU (0, 0))
  · refine C_iconst (D := mdX8_many) (pc' := 74) (v := 0) dX8_many_73 rfl (by decide) ?_
    refine C_istore (D := mdX8_many) (pc' := 76) (ls' := [(4, .int 0), (0, .ref (kB C + l0)), (1, .int l1), (2, .int l2), (3, .int l3)]) dX8_many_74 rfl (by decide) rfl ?_
    exact C_sub [1, 2, 3, 4, 0] rfl (C_loop (fun s => [(0, .ref (kB C + l0)), (1, .int l1), (2, .int l2), (3, .int l3), (4, .int s)]) (fun k hk s => p_X8_many_B76 C l0 l1 l2 l3 k68 hk68 k hk s) FU 0)
set_option maxHeartbeats 2000000 in
set_option maxRecDepth 20000 in
theorem p_X8_many_B36 (C : KX) (l0 : Nat) (l1 : Int32) (l2 : Int32)  (k36 : Int32 → Mo Int64) (hk36 : ∀ s, Cmp C mdX8_many (QM rvL) 36 [(0, .ref (kB C + l0)), (1, .int l1), (2, .int l2), (3, .int s)] [] (k36 s)) (l3 : Int32) : Cmp C mdX8_many (QM rvL) 36 [(0, .ref (kB C + l0)), (1, .int l1), (2, .int l2), (3, .int l3)] [] (m_X8_many_B36 l0 l1 l2 k36 l3) := by
  unfold m_X8_many_B36
  refine C_iload_n (D := mdX8_many) (pc' := 37) (x := l3) dX8_many_36 rfl 3 rfl ?_
  refine C_sipush (D := mdX8_many) (pc' := 40) (v := 15520) dX8_many_37 rfl (by decide) ?_
  refine C_icmp_ge (D := mdX8_many) (pc' := 43) (tgt := 56) dX8_many_40 (by decide) rfl ?_ ?_
  · refine C_aload_n (D := mdX8_many) (pc' := 57) (x := kB C + l0) dX8_many_56 rfl 0 rfl ?_
    refine C_getR (D := mdX8_many) (pc' := 60) (p := l0) f_X8_137 rfl dX8_many_57 rfl (fun queue3 => ?_)
    refine C_aload_n (D := mdX8_many) (pc' := 61) (x := kB C + l0) dX8_many_60 rfl 0 rfl ?_
    refine C_callV (D := mdX8_many) (pc' := 64) (p := l0) (st := [.ref (kB C + queue3)]) [] v_X8_258 (i_X8_begins C l0) dX8_many_61 rfl rfl rfl (Nat.le_of_ble_eq_true rfl) (by decide) (by decide) (fun c4 => ?_)
    refine C_lconst (D := mdX8_many) (pc' := 65) (v := 1) dX8_many_64 rfl (by decide) ?_
    refine C_tJ (D := mdX8_many) (pc' := 66) (p := queue3) dX8_many_65 rfl ?_
    refine C_iconst (D := mdX8_many) (pc' := 67) (v := 0) dX8_many_66 rfl (by decide) ?_
    refine C_istore_n (D := mdX8_many) (pc' := 68) (ls' := [(3, .int 0), (0, .ref (kB C + l0)), (1, .int l1), (2, .int l2)]) dX8_many_67 rfl rfl (by decide) rfl ?_
    exact C_sub [1, 2, 3, 0] rfl (C_loop (fun s => [(0, .ref (kB C + l0)), (1, .int l1), (2, .int l2), (3, .int s)]) (fun k hk s => p_X8_many_B68 C l0 l1 l2  k hk s) FU 0)
  · refine C_aload_n (D := mdX8_many) (pc' := 44) (x := kB C + l0) dX8_many_43 rfl 0 rfl ?_
    refine C_getR (D := mdX8_many) (pc' := 47) (p := l0) f_X8_137 rfl dX8_many_44 rfl (fun queue22 => ?_)
    refine C_iload_n (D := mdX8_many) (pc' := 48) (x := l3) dX8_many_47 rfl 3 rfl ?_
    refine C_lconst (D := mdX8_many) (pc' := 49) (v := 0) dX8_many_48 rfl (by decide) ?_
    refine C_tJ (D := mdX8_many) (pc' := 50) (p := queue22) dX8_many_49 rfl ?_
    refine C_iinc (D := mdX8_many) (pc' := 53) (j := 3) (v := (l3 + 1)) (ls' := [(3, .int (l3 + 1)), (0, .ref (kB C + l0)), (1, .int l1), (2, .int l2)]) dX8_many_50 rfl rfl rfl (by decide) rfl ?_
    refine C_goto (D := mdX8_many) (pc' := 36) dX8_many_53 (by decide) ?_
    exact C_sub [1, 2, 3, 0] rfl (hk36 ((l3 + 1)))
set_option maxHeartbeats 2000000 in
set_option maxRecDepth 20000 in
theorem i_X8_many (C : KX) (l0 : Nat) (l1 : Int32) (l2 : Int32) : Imp C yX8_many cX8_many 7 (some .long) 2 50 rvL [.ref (kB C + l0), .int l1, .int l2] (m_X8_many l0 l1 l2) := by
  refine Imp.of (by decide) (Nat.le_of_ble_eq_true rfl) [(0, .ref (kB C + l0)), (1, .int l1), (2, .int l2)] rfl ?_
  show Cmp C mdX8_many (QM rvL) 0 [(0, .ref (kB C + l0)), (1, .int l1), (2, .int l2)] [] (m_X8_many l0 l1 l2)
  unfold m_X8_many
  refine C_aload_n (D := mdX8_many) (pc' := 1) (x := kB C + l0) dX8_many_0 rfl 0 rfl ?_
  refine C_iconst (D := mdX8_many) (pc' := 2) (v := 0) dX8_many_1 rfl (by decide) ?_
  refine C_putI (D := mdX8_many) (pc' := 5) (p := l0) f_X8_1 rfl dX8_many_2 rfl ?_
  refine C_aload_n (D := mdX8_many) (pc' := 6) (x := kB C + l0) dX8_many_5 rfl 0 rfl ?_
  refine C_iload_n (D := mdX8_many) (pc' := 7) (x := l1) dX8_many_6 rfl 1 rfl ?_
  refine C_callV (D := mdX8_many) (pc' := 10) (p := l0) (st := []) [.int l1] v_X8_183 (i_X8_isQuery C l0 l1) dX8_many_7 rfl rfl rfl (Nat.le_of_ble_eq_true rfl) (by decide) (by decide) (fun c1 => ?_)
  refine C_if_eq (D := mdX8_many) (pc' := 13) (tgt := 25) dX8_many_10 (by decide) rfl ?_ ?_
  · exact C_sub [] rfl (p_X8_many_J25 C )
  · refine C_iload_n (D := mdX8_many) (pc' := 14) (x := l2) dX8_many_13 rfl 2 rfl ?_
    refine C_i2l (D := mdX8_many) (pc' := 15) dX8_many_14 rfl ?_
    refine C_lconst (D := mdX8_many) (pc' := 16) (v := 0) dX8_many_15 rfl (by decide) ?_
    refine C_ldc2 (D := mdX8_many) (pc' := 19) (v := 12) c_X8_264 dX8_many_16 rfl ?_
    refine C_callS (D := mdX8_many) (pc' := 22) (st := []) [.long ((l2 : Int32).toInt64), .long 0, .long 12] s_X8_9 (i_X8_in C (((l2 : Int32).toInt64)) 0 12) dX8_many_19 rfl rfl rfl (Nat.le_of_ble_eq_true rfl) (by decide) (by decide) (fun c2 => ?_)
    refine C_if_ne (D := mdX8_many) (pc' := 25) (tgt := 29) dX8_many_22 (by decide) rfl ?_ ?_
    · refine C_aload_n (D := mdX8_many) (pc' := 30) (x := kB C + l0) dX8_many_29 rfl 0 rfl ?_
      refine C_iload_n (D := mdX8_many) (pc' := 31) (x := l1) dX8_many_30 rfl 1 rfl ?_
      refine C_callV (D := mdX8_many) (pc' := 34) (p := l0) (st := []) [.int l1] v_X8_255 (i_X8_takes C l0 l1) dX8_many_31 rfl rfl rfl (Nat.le_of_ble_eq_true rfl) (by decide) (by decide) (fun _ => ?_)
      refine C_iconst (D := mdX8_many) (pc' := 35) (v := 0) dX8_many_34 rfl (by decide) ?_
      refine C_istore_n (D := mdX8_many) (pc' := 36) (ls' := [(3, .int 0), (0, .ref (kB C + l0)), (1, .int l1), (2, .int l2)]) dX8_many_35 rfl rfl (by decide) rfl ?_
      exact C_sub [1, 2, 3, 0] rfl (C_loop (fun s => [(0, .ref (kB C + l0)), (1, .int l1), (2, .int l2), (3, .int s)]) (fun k hk s => p_X8_many_B36 C l0 l1 l2  k hk s) FU 0)
    · exact C_sub [] rfl (p_X8_many_J25 C )

-- StandingQueriesModel.word(II)I
theorem dX8_word_0 : decode cX8_word 0 = .ok (.aload_n 0, 1) := by decide +kernel
theorem dX8_word_1 : decode cX8_word 1 = .ok (.iconst 0, 1) := by decide +kernel
theorem dX8_word_2 : decode cX8_word 2 = .ok (.putfield 1, 3) := by decide +kernel
theorem dX8_word_5 : decode cX8_word 5 = .ok (.iload_n 1, 1) := by decide +kernel
theorem dX8_word_6 : decode cX8_word 6 = .ok (.i2l, 1) := by decide +kernel
theorem dX8_word_7 : decode cX8_word 7 = .ok (.lconst 0, 1) := by decide +kernel
theorem dX8_word_8 : decode cX8_word 8 = .ok (.aload_n 0, 1) := by decide +kernel
theorem dX8_word_9 : decode cX8_word 9 = .ok (.getfield 52, 3) := by decide +kernel
theorem dX8_word_12 : decode cX8_word 12 = .ok (.iconst 1, 1) := by decide +kernel
theorem dX8_word_13 : decode cX8_word 13 = .ok (.isub, 1) := by decide +kernel
theorem dX8_word_14 : decode cX8_word 14 = .ok (.i2l, 1) := by decide +kernel
theorem dX8_word_15 : decode cX8_word 15 = .ok (.invokestatic 9, 3) := by decide +kernel
theorem dX8_word_18 : decode cX8_word 18 = .ok (.ifCond .eq 8, 3) := by decide +kernel
theorem dX8_word_21 : decode cX8_word 21 = .ok (.iload_n 2, 1) := by decide +kernel
theorem dX8_word_22 : decode cX8_word 22 = .ok (.iconst (-1), 1) := by decide +kernel
theorem dX8_word_23 : decode cX8_word 23 = .ok (.if_icmp .ge 5, 3) := by decide +kernel
theorem dX8_word_26 : decode cX8_word 26 = .ok (.iconst (-1), 1) := by decide +kernel
theorem dX8_word_27 : decode cX8_word 27 = .ok (.ireturn, 1) := by decide +kernel
theorem dX8_word_28 : decode cX8_word 28 = .ok (.aload_n 0, 1) := by decide +kernel
theorem dX8_word_29 : decode cX8_word 29 = .ok (.getfield 55, 3) := by decide +kernel
theorem dX8_word_32 : decode cX8_word 32 = .ok (.iload_n 1, 1) := by decide +kernel
theorem dX8_word_33 : decode cX8_word 33 = .ok (.iaload, 1) := by decide +kernel
theorem dX8_word_34 : decode cX8_word 34 = .ok (.ldc 47, 2) := by decide +kernel
theorem dX8_word_36 : decode cX8_word 36 = .ok (.idiv, 1) := by decide +kernel
theorem dX8_word_37 : decode cX8_word 37 = .ok (.istore_n 3, 1) := by decide +kernel
theorem dX8_word_38 : decode cX8_word 38 = .ok (.iload_n 2, 1) := by decide +kernel
theorem dX8_word_39 : decode cX8_word 39 = .ok (.iconst (-1), 1) := by decide +kernel
theorem dX8_word_40 : decode cX8_word 40 = .ok (.if_icmp .ne 7, 3) := by decide +kernel
theorem dX8_word_43 : decode cX8_word 43 = .ok (.iload_n 3, 1) := by decide +kernel
theorem dX8_word_44 : decode cX8_word 44 = .ok (.goto 26, 3) := by decide +kernel
theorem dX8_word_47 : decode cX8_word 47 = .ok (.iload_n 2, 1) := by decide +kernel
theorem dX8_word_48 : decode cX8_word 48 = .ok (.iload_n 3, 1) := by decide +kernel
theorem dX8_word_49 : decode cX8_word 49 = .ok (.if_icmp .ge 19, 3) := by decide +kernel
theorem dX8_word_52 : decode cX8_word 52 = .ok (.bipush 97, 2) := by decide +kernel
theorem dX8_word_54 : decode cX8_word 54 = .ok (.aload_n 0, 1) := by decide +kernel
theorem dX8_word_55 : decode cX8_word 55 = .ok (.getfield 55, 3) := by decide +kernel
theorem dX8_word_58 : decode cX8_word 58 = .ok (.iload_n 1, 1) := by decide +kernel
theorem dX8_word_59 : decode cX8_word 59 = .ok (.iaload, 1) := by decide +kernel
theorem dX8_word_60 : decode cX8_word 60 = .ok (.iload_n 2, 1) := by decide +kernel
theorem dX8_word_61 : decode cX8_word 61 = .ok (.invokestatic 48, 3) := by decide +kernel
theorem dX8_word_64 : decode cX8_word 64 = .ok (.iadd, 1) := by decide +kernel
theorem dX8_word_65 : decode cX8_word 65 = .ok (.goto 5, 3) := by decide +kernel
theorem dX8_word_68 : decode cX8_word 68 = .ok (.bipush (-9), 2) := by decide +kernel
theorem dX8_word_70 : decode cX8_word 70 = .ok (.ireturn, 1) := by decide +kernel
abbrev mdX8_word : MD := (cX8_word, RX8, 4, (some .int), yX8_word.name, 1, 25, eT)
set_option maxHeartbeats 2000000 in
set_option maxRecDepth 20000 in
theorem i_X8_word (C : KX) (l0 : Nat) (l1 : Int32) (l2 : Int32) : Imp C yX8_word cX8_word 4 (some .int) 1 25 rvI [.ref (kB C + l0), .int l1, .int l2] (m_X8_word l0 l1 l2) := by
  refine Imp.of (by decide) (Nat.le_of_ble_eq_true rfl) [(0, .ref (kB C + l0)), (1, .int l1), (2, .int l2)] rfl ?_
  show Cmp C mdX8_word (QM rvI) 0 [(0, .ref (kB C + l0)), (1, .int l1), (2, .int l2)] [] (m_X8_word l0 l1 l2)
  unfold m_X8_word
  refine C_aload_n (D := mdX8_word) (pc' := 1) (x := kB C + l0) dX8_word_0 rfl 0 rfl ?_
  refine C_iconst (D := mdX8_word) (pc' := 2) (v := 0) dX8_word_1 rfl (by decide) ?_
  refine C_putI (D := mdX8_word) (pc' := 5) (p := l0) f_X8_1 rfl dX8_word_2 rfl ?_
  refine C_iload_n (D := mdX8_word) (pc' := 6) (x := l1) dX8_word_5 rfl 1 rfl ?_
  refine C_i2l (D := mdX8_word) (pc' := 7) dX8_word_6 rfl ?_
  refine C_lconst (D := mdX8_word) (pc' := 8) (v := 0) dX8_word_7 rfl (by decide) ?_
  refine C_aload_n (D := mdX8_word) (pc' := 9) (x := kB C + l0) dX8_word_8 rfl 0 rfl ?_
  refine C_getI (D := mdX8_word) (pc' := 12) (p := l0) f_X8_52 rfl dX8_word_9 rfl (fun wordMany1 => ?_)
  refine C_iconst (D := mdX8_word) (pc' := 13) (v := 1) dX8_word_12 rfl (by decide) ?_
  refine C_isub (D := mdX8_word) (pc' := 14) dX8_word_13 rfl ?_
  refine C_i2l (D := mdX8_word) (pc' := 15) dX8_word_14 rfl ?_
  refine C_callS (D := mdX8_word) (pc' := 18) (st := []) [.long ((l1 : Int32).toInt64), .long 0, .long (((wordMany1 - 1) : Int32).toInt64)] s_X8_9 (i_X8_in C (((l1 : Int32).toInt64)) 0 ((((wordMany1 - 1) : Int32).toInt64))) dX8_word_15 rfl rfl rfl (Nat.le_of_ble_eq_true rfl) (by decide) (by decide) (fun c2 => ?_)
  refine C_if_eq (D := mdX8_word) (pc' := 21) (tgt := 26) dX8_word_18 (by decide) rfl ?_ ?_
  · refine C_iconst (D := mdX8_word) (pc' := 27) (v := (-1)) dX8_word_26 rfl (by decide) ?_
    exact C_iret rfl dX8_word_27
  · refine C_iload_n (D := mdX8_word) (pc' := 22) (x := l2) dX8_word_21 rfl 2 rfl ?_
    refine C_iconst (D := mdX8_word) (pc' := 23) (v := (-1)) dX8_word_22 rfl (by decide) ?_
    refine C_icmp_ge (D := mdX8_word) (pc' := 26) (tgt := 28) dX8_word_23 (by decide) rfl ?_ ?_
    · refine C_aload_n (D := mdX8_word) (pc' := 29) (x := kB C + l0) dX8_word_28 rfl 0 rfl ?_
      refine C_getR (D := mdX8_word) (pc' := 32) (p := l0) f_X8_55 rfl dX8_word_29 rfl (fun words3 => ?_)
      refine C_iload_n (D := mdX8_word) (pc' := 33) (x := l1) dX8_word_32 rfl 1 rfl ?_
      refine C_aI (D := mdX8_word) (pc' := 34) (p := words3) dX8_word_33 rfl (fun x4 => ?_)
      refine C_ldc (D := mdX8_word) (pc' := 36) (v := 1048576) c_X8_47 dX8_word_34 rfl ?_
      refine C_idiv (D := mdX8_word) (pc' := 37) dX8_word_36 rfl (by decide) ?_
      refine C_letI (fun v5 => ?_)
      refine C_istore_n (D := mdX8_word) (pc' := 38) (ls' := [(3, .int v5), (0, .ref (kB C + l0)), (1, .int l1), (2, .int l2)]) dX8_word_37 rfl rfl (by decide) rfl ?_
      refine C_iload_n (D := mdX8_word) (pc' := 39) (x := l2) dX8_word_38 rfl 3 rfl ?_
      refine C_iconst (D := mdX8_word) (pc' := 40) (v := (-1)) dX8_word_39 rfl (by decide) ?_
      refine C_icmp_ne (D := mdX8_word) (pc' := 43) (tgt := 47) dX8_word_40 (by decide) rfl ?_ ?_
      · refine C_iload_n (D := mdX8_word) (pc' := 48) (x := l2) dX8_word_47 rfl 3 rfl ?_
        refine C_iload_n (D := mdX8_word) (pc' := 49) (x := v5) dX8_word_48 rfl 0 rfl ?_
        refine C_icmp_ge (D := mdX8_word) (pc' := 52) (tgt := 68) dX8_word_49 (by decide) rfl ?_ ?_
        · refine C_bipush (D := mdX8_word) (pc' := 70) (v := (-9)) dX8_word_68 rfl (by decide) ?_
          exact C_iret rfl dX8_word_70
        · refine C_bipush (D := mdX8_word) (pc' := 54) (v := 97) dX8_word_52 rfl (by decide) ?_
          refine C_aload_n (D := mdX8_word) (pc' := 55) (x := kB C + l0) dX8_word_54 rfl 1 rfl ?_
          refine C_getR (D := mdX8_word) (pc' := 58) (p := l0) f_X8_55 rfl dX8_word_55 rfl (fun words6 => ?_)
          refine C_iload_n (D := mdX8_word) (pc' := 59) (x := l1) dX8_word_58 rfl 2 rfl ?_
          refine C_aI (D := mdX8_word) (pc' := 60) (p := words6) dX8_word_59 rfl (fun x7 => ?_)
          refine C_iload_n (D := mdX8_word) (pc' := 61) (x := l2) dX8_word_60 rfl 3 rfl ?_
          refine C_callS (D := mdX8_word) (pc' := 64) (st := [.int 97]) [.int x7, .int l2] s_X8_48 (i_X8_letterOf C x7 l2) dX8_word_61 rfl rfl rfl (Nat.le_of_ble_eq_true rfl) (by decide) (by decide) (fun c8 => ?_)
          refine C_iadd (D := mdX8_word) (pc' := 65) dX8_word_64 rfl ?_
          refine C_goto (D := mdX8_word) (pc' := 70) dX8_word_65 (by decide) ?_
          exact C_iret rfl dX8_word_70
      · refine C_iload_n (D := mdX8_word) (pc' := 44) (x := v5) dX8_word_43 rfl 0 rfl ?_
        refine C_goto (D := mdX8_word) (pc' := 70) dX8_word_44 (by decide) ?_
        exact C_iret rfl dX8_word_70
    · refine C_iconst (D := mdX8_word) (pc' := 27) (v := (-1)) dX8_word_26 rfl (by decide) ?_
      exact C_iret rfl dX8_word_27

-- StandingQueriesModel.hit(II)I
theorem dX8_hit_0 : decode cX8_hit 0 = .ok (.aload_n 0, 1) := by decide +kernel
theorem dX8_hit_1 : decode cX8_hit 1 = .ok (.iconst 0, 1) := by decide +kernel
theorem dX8_hit_2 : decode cX8_hit 2 = .ok (.putfield 1, 3) := by decide +kernel
theorem dX8_hit_5 : decode cX8_hit 5 = .ok (.iload_n 1, 1) := by decide +kernel
theorem dX8_hit_6 : decode cX8_hit 6 = .ok (.i2l, 1) := by decide +kernel
theorem dX8_hit_7 : decode cX8_hit 7 = .ok (.lconst 0, 1) := by decide +kernel
theorem dX8_hit_8 : decode cX8_hit 8 = .ok (.aload_n 0, 1) := by decide +kernel
theorem dX8_hit_9 : decode cX8_hit 9 = .ok (.getfield 52, 3) := by decide +kernel
theorem dX8_hit_12 : decode cX8_hit 12 = .ok (.iconst 1, 1) := by decide +kernel
theorem dX8_hit_13 : decode cX8_hit 13 = .ok (.isub, 1) := by decide +kernel
theorem dX8_hit_14 : decode cX8_hit 14 = .ok (.i2l, 1) := by decide +kernel
theorem dX8_hit_15 : decode cX8_hit 15 = .ok (.invokestatic 9, 3) := by decide +kernel
theorem dX8_hit_18 : decode cX8_hit 18 = .ok (.ifCond .eq 8, 3) := by decide +kernel
theorem dX8_hit_21 : decode cX8_hit 21 = .ok (.iload_n 2, 1) := by decide +kernel
theorem dX8_hit_22 : decode cX8_hit 22 = .ok (.iconst (-1), 1) := by decide +kernel
theorem dX8_hit_23 : decode cX8_hit 23 = .ok (.if_icmp .ge 5, 3) := by decide +kernel
theorem dX8_hit_26 : decode cX8_hit 26 = .ok (.iconst (-1), 1) := by decide +kernel
theorem dX8_hit_27 : decode cX8_hit 27 = .ok (.ireturn, 1) := by decide +kernel
theorem dX8_hit_28 : decode cX8_hit 28 = .ok (.aload_n 0, 1) := by decide +kernel
theorem dX8_hit_29 : decode cX8_hit 29 = .ok (.invokevirtual 211, 3) := by decide +kernel
theorem dX8_hit_32 : decode cX8_hit 32 = .ok (.iload_n 2, 1) := by decide +kernel
theorem dX8_hit_33 : decode cX8_hit 33 = .ok (.iconst (-1), 1) := by decide +kernel
theorem dX8_hit_34 : decode cX8_hit 34 = .ok (.if_icmp .ne 15, 3) := by decide +kernel
theorem dX8_hit_37 : decode cX8_hit 37 = .ok (.aload_n 0, 1) := by decide +kernel
theorem dX8_hit_38 : decode cX8_hit 38 = .ok (.iload_n 1, 1) := by decide +kernel
theorem dX8_hit_39 : decode cX8_hit 39 = .ok (.aload_n 0, 1) := by decide +kernel
theorem dX8_hit_40 : decode cX8_hit 40 = .ok (.getfield 87, 3) := by decide +kernel
theorem dX8_hit_43 : decode cX8_hit 43 = .ok (.iconst 1, 1) := by decide +kernel
theorem dX8_hit_44 : decode cX8_hit 44 = .ok (.iaload, 1) := by decide +kernel
theorem dX8_hit_45 : decode cX8_hit 45 = .ok (.invokevirtual 198, 3) := by decide +kernel
theorem dX8_hit_48 : decode cX8_hit 48 = .ok (.ireturn, 1) := by decide +kernel
theorem dX8_hit_49 : decode cX8_hit 49 = .ok (.iload_n 2, 1) := by decide +kernel
theorem dX8_hit_50 : decode cX8_hit 50 = .ok (.istore_n 3, 1) := by decide +kernel
theorem dX8_hit_51 : decode cX8_hit 51 = .ok (.iconst 0, 1) := by decide +kernel
theorem dX8_hit_52 : decode cX8_hit 52 = .ok (.istore 4, 2) := by decide +kernel
theorem dX8_hit_54 : decode cX8_hit 54 = .ok (.iload 4, 2) := by decide +kernel
theorem dX8_hit_56 : decode cX8_hit 56 = .ok (.aload_n 0, 1) := by decide +kernel
theorem dX8_hit_57 : decode cX8_hit 57 = .ok (.getfield 87, 3) := by decide +kernel
theorem dX8_hit_60 : decode cX8_hit 60 = .ok (.iconst 1, 1) := by decide +kernel
theorem dX8_hit_61 : decode cX8_hit 61 = .ok (.iaload, 1) := by decide +kernel
theorem dX8_hit_62 : decode cX8_hit 62 = .ok (.if_icmp .ge 33, 3) := by decide +kernel
theorem dX8_hit_65 : decode cX8_hit 65 = .ok (.aload_n 0, 1) := by decide +kernel
theorem dX8_hit_66 : decode cX8_hit 66 = .ok (.getfield 134, 3) := by decide +kernel
theorem dX8_hit_69 : decode cX8_hit 69 = .ok (.iload 4, 2) := by decide +kernel
theorem dX8_hit_71 : decode cX8_hit 71 = .ok (.iaload, 1) := by decide +kernel
theorem dX8_hit_72 : decode cX8_hit 72 = .ok (.iload_n 1, 1) := by decide +kernel
theorem dX8_hit_73 : decode cX8_hit 73 = .ok (.invokestatic 191, 3) := by decide +kernel
theorem dX8_hit_76 : decode cX8_hit 76 = .ok (.ifCond .eq 13, 3) := by decide +kernel
theorem dX8_hit_79 : decode cX8_hit 79 = .ok (.iload_n 3, 1) := by decide +kernel
theorem dX8_hit_80 : decode cX8_hit 80 = .ok (.ifCond .ne 6, 3) := by decide +kernel
theorem dX8_hit_83 : decode cX8_hit 83 = .ok (.iload 4, 2) := by decide +kernel
theorem dX8_hit_85 : decode cX8_hit 85 = .ok (.ireturn, 1) := by decide +kernel
theorem dX8_hit_86 : decode cX8_hit 86 = .ok (.iinc 3 (-1), 3) := by decide +kernel
theorem dX8_hit_89 : decode cX8_hit 89 = .ok (.iinc 4 1, 3) := by decide +kernel
theorem dX8_hit_92 : decode cX8_hit 92 = .ok (.goto (-38), 3) := by decide +kernel
theorem dX8_hit_95 : decode cX8_hit 95 = .ok (.bipush (-9), 2) := by decide +kernel
theorem dX8_hit_97 : decode cX8_hit 97 = .ok (.ireturn, 1) := by decide +kernel
abbrev mdX8_hit : MD := (cX8_hit, RX8, 5, (some .int), yX8_hit.name, 2, 45, eT)
set_option maxHeartbeats 2000000 in
set_option maxRecDepth 20000 in
theorem p_X8_hit_J89 (C : KX) (l0 : Nat) (l1 : Int32) (l3 : Int32) (l4 : Int32) (k54 : Int32 × Int32 → Mo Int32) (hk54 : ∀ s, Cmp C mdX8_hit (QM rvI) 54 [(0, .ref (kB C + l0)), (1, .int l1), (3, .int s.1), (4, .int s.2)] [] (k54 s)) : Cmp C mdX8_hit (QM rvI) 89 [(0, .ref (kB C + l0)), (1, .int l1), (3, .int l3), (4, .int l4)] [] (m_X8_hit_J89 l0 l1 l3 l4 k54) := by
  unfold m_X8_hit_J89
  refine C_iinc (D := mdX8_hit) (pc' := 92) (j := 3) (v := (l4 + 1)) (ls' := [(4, .int (l4 + 1)), (0, .ref (kB C + l0)), (1, .int l1), (3, .int l3)]) dX8_hit_89 rfl rfl rfl (by decide) rfl ?_
  refine C_goto (D := mdX8_hit) (pc' := 54) dX8_hit_92 (by decide) ?_
  exact C_sub [1, 2, 3, 0] rfl (hk54 (l3, (l4 + 1)))
set_option maxHeartbeats 2000000 in
set_option maxRecDepth 20000 in
theorem p_X8_hit_B54 (C : KX) (l0 : Nat) (l1 : Int32)  (k54 : Int32 × Int32 → Mo Int32) (hk54 : ∀ s, Cmp C mdX8_hit (QM rvI) 54 [(0, .ref (kB C + l0)), (1, .int l1), (3, .int s.1), (4, .int s.2)] [] (k54 s)) (l3 : Int32) (l4 : Int32) : Cmp C mdX8_hit (QM rvI) 54 [(0, .ref (kB C + l0)), (1, .int l1), (3, .int l3), (4, .int l4)] [] (m_X8_hit_B54 l0 l1 k54 l3 l4) := by
  unfold m_X8_hit_B54
  refine C_iload (D := mdX8_hit) (pc' := 56) (x := l4) dX8_hit_54 rfl 3 rfl ?_
  refine C_aload_n (D := mdX8_hit) (pc' := 57) (x := kB C + l0) dX8_hit_56 rfl 0 rfl ?_
  refine C_getR (D := mdX8_hit) (pc' := 60) (p := l0) f_X8_87 rfl dX8_hit_57 rfl (fun now3 => ?_)
  refine C_iconst (D := mdX8_hit) (pc' := 61) (v := 1) dX8_hit_60 rfl (by decide) ?_
  refine C_aI (D := mdX8_hit) (pc' := 62) (p := now3) dX8_hit_61 rfl (fun x4 => ?_)
  refine C_icmp_ge (D := mdX8_hit) (pc' := 65) (tgt := 95) dX8_hit_62 (by decide) rfl ?_ ?_
  · refine C_bipush (D := mdX8_hit) (pc' := 97) (v := (-9)) dX8_hit_95 rfl (by decide) ?_
    exact C_iret rfl dX8_hit_97
  · refine C_aload_n (D := mdX8_hit) (pc' := 66) (x := kB C + l0) dX8_hit_65 rfl 0 rfl ?_
    refine C_getR (D := mdX8_hit) (pc' := 69) (p := l0) f_X8_134 rfl dX8_hit_66 rfl (fun ended5 => ?_)
    refine C_iload (D := mdX8_hit) (pc' := 71) (x := l4) dX8_hit_69 rfl 3 rfl ?_
    refine C_aI (D := mdX8_hit) (pc' := 72) (p := ended5) dX8_hit_71 rfl (fun x6 => ?_)
    refine C_iload_n (D := mdX8_hit) (pc' := 73) (x := l1) dX8_hit_72 rfl 1 rfl ?_
    refine C_callS (D := mdX8_hit) (pc' := 76) (st := []) [.int x6, .int l1] s_X8_191 (i_X8_has C x6 l1) dX8_hit_73 rfl rfl rfl (Nat.le_of_ble_eq_true rfl) (by decide) (by decide) (fun c7 => ?_)
    refine C_if_eq (D := mdX8_hit) (pc' := 79) (tgt := 89) dX8_hit_76 (by decide) rfl ?_ ?_
    · exact C_sub [0, 1, 2, 3] rfl (p_X8_hit_J89 C l0 l1 l3 l4 k54 hk54)
    · refine C_iload_n (D := mdX8_hit) (pc' := 80) (x := l3) dX8_hit_79 rfl 2 rfl ?_
      refine C_if_ne (D := mdX8_hit) (pc' := 83) (tgt := 86) dX8_hit_80 (by decide) rfl ?_ ?_
      · refine C_iinc (D := mdX8_hit) (pc' := 89) (j := 2) (v := (l3 + (-1))) (ls' := [(3, .int (l3 + (-1))), (0, .ref (kB C + l0)), (1, .int l1), (4, .int l4)]) dX8_hit_86 rfl rfl rfl (by decide) rfl ?_
        exact C_sub [1, 2, 0, 3] rfl (p_X8_hit_J89 C l0 l1 ((l3 + (-1))) l4 k54 hk54)
      · refine C_iload (D := mdX8_hit) (pc' := 85) (x := l4) dX8_hit_83 rfl 3 rfl ?_
        exact C_iret rfl dX8_hit_85
set_option maxHeartbeats 2000000 in
set_option maxRecDepth 20000 in
theorem i_X8_hit (C : KX) (l0 : Nat) (l1 : Int32) (l2 : Int32) : Imp C yX8_hit cX8_hit 5 (some .int) 2 45 rvI [.ref (kB C + l0), .int l1, .int l2] (m_X8_hit l0 l1 l2) := by
  refine Imp.of (by decide) (Nat.le_of_ble_eq_true rfl) [(0, .ref (kB C + l0)), (1, .int l1), (2, .int l2)] rfl ?_
  show Cmp C mdX8_hit (QM rvI) 0 [(0, .ref (kB C + l0)), (1, .int l1), (2, .int l2)] [] (m_X8_hit l0 l1 l2)
  unfold m_X8_hit
  refine C_aload_n (D := mdX8_hit) (pc' := 1) (x := kB C + l0) dX8_hit_0 rfl 0 rfl ?_
  refine C_iconst (D := mdX8_hit) (pc' := 2) (v := 0) dX8_hit_1 rfl (by decide) ?_
  refine C_putI (D := mdX8_hit) (pc' := 5) (p := l0) f_X8_1 rfl dX8_hit_2 rfl ?_
  refine C_iload_n (D := mdX8_hit) (pc' := 6) (x := l1) dX8_hit_5 rfl 1 rfl ?_
  refine C_i2l (D := mdX8_hit) (pc' := 7) dX8_hit_6 rfl ?_
  refine C_lconst (D := mdX8_hit) (pc' := 8) (v := 0) dX8_hit_7 rfl (by decide) ?_
  refine C_aload_n (D := mdX8_hit) (pc' := 9) (x := kB C + l0) dX8_hit_8 rfl 0 rfl ?_
  refine C_getI (D := mdX8_hit) (pc' := 12) (p := l0) f_X8_52 rfl dX8_hit_9 rfl (fun wordMany1 => ?_)
  refine C_iconst (D := mdX8_hit) (pc' := 13) (v := 1) dX8_hit_12 rfl (by decide) ?_
  refine C_isub (D := mdX8_hit) (pc' := 14) dX8_hit_13 rfl ?_
  refine C_i2l (D := mdX8_hit) (pc' := 15) dX8_hit_14 rfl ?_
  refine C_callS (D := mdX8_hit) (pc' := 18) (st := []) [.long ((l1 : Int32).toInt64), .long 0, .long (((wordMany1 - 1) : Int32).toInt64)] s_X8_9 (i_X8_in C (((l1 : Int32).toInt64)) 0 ((((wordMany1 - 1) : Int32).toInt64))) dX8_hit_15 rfl rfl rfl (Nat.le_of_ble_eq_true rfl) (by decide) (by decide) (fun c2 => ?_)
  refine C_if_eq (D := mdX8_hit) (pc' := 21) (tgt := 26) dX8_hit_18 (by decide) rfl ?_ ?_
  · refine C_iconst (D := mdX8_hit) (pc' := 27) (v := (-1)) dX8_hit_26 rfl (by decide) ?_
    exact C_iret rfl dX8_hit_27
  · refine C_iload_n (D := mdX8_hit) (pc' := 22) (x := l2) dX8_hit_21 rfl 2 rfl ?_
    refine C_iconst (D := mdX8_hit) (pc' := 23) (v := (-1)) dX8_hit_22 rfl (by decide) ?_
    refine C_icmp_ge (D := mdX8_hit) (pc' := 26) (tgt := 28) dX8_hit_23 (by decide) rfl ?_ ?_
    · refine C_aload_n (D := mdX8_hit) (pc' := 29) (x := kB C + l0) dX8_hit_28 rfl 0 rfl ?_
      refine C_callV (D := mdX8_hit) (pc' := 32) (p := l0) (st := []) [] v_X8_211 (i_X8_layEnds C l0) dX8_hit_29 rfl rfl rfl (Nat.le_of_ble_eq_true rfl) (by decide) (by decide) (fun _ => ?_)
      refine C_iload_n (D := mdX8_hit) (pc' := 33) (x := l2) dX8_hit_32 rfl 2 rfl ?_
      refine C_iconst (D := mdX8_hit) (pc' := 34) (v := (-1)) dX8_hit_33 rfl (by decide) ?_
      refine C_icmp_ne (D := mdX8_hit) (pc' := 37) (tgt := 49) dX8_hit_34 (by decide) rfl ?_ ?_
      · refine C_iload_n (D := mdX8_hit) (pc' := 50) (x := l2) dX8_hit_49 rfl 2 rfl ?_
        refine C_istore_n (D := mdX8_hit) (pc' := 51) (ls' := [(3, .int l2), (0, .ref (kB C + l0)), (1, .int l1), (2, .int l2)]) dX8_hit_50 rfl rfl (by decide) rfl ?_
        refine C_iconst (D := mdX8_hit) (pc' := 52) (v := 0) dX8_hit_51 rfl (by decide) ?_
        refine C_istore (D := mdX8_hit) (pc' := 54) (ls' := [(4, .int 0), (3, .int l2), (0, .ref (kB C + l0)), (1, .int l1), (2, .int l2)]) dX8_hit_52 rfl (by decide) rfl ?_
        exact C_sub [2, 3, 1, 0] rfl (C_loop (fun s => [(0, .ref (kB C + l0)), (1, .int l1), (3, .int s.1), (4, .int s.2)]) (fun k hk s => p_X8_hit_B54 C l0 l1  k hk s.1 s.2) FU (l2, 0))
      · refine C_aload_n (D := mdX8_hit) (pc' := 38) (x := kB C + l0) dX8_hit_37 rfl 0 rfl ?_
        refine C_iload_n (D := mdX8_hit) (pc' := 39) (x := l1) dX8_hit_38 rfl 1 rfl ?_
        refine C_aload_n (D := mdX8_hit) (pc' := 40) (x := kB C + l0) dX8_hit_39 rfl 0 rfl ?_
        refine C_getR (D := mdX8_hit) (pc' := 43) (p := l0) f_X8_87 rfl dX8_hit_40 rfl (fun now8 => ?_)
        refine C_iconst (D := mdX8_hit) (pc' := 44) (v := 1) dX8_hit_43 rfl (by decide) ?_
        refine C_aI (D := mdX8_hit) (pc' := 45) (p := now8) dX8_hit_44 rfl (fun x9 => ?_)
        refine C_callV (D := mdX8_hit) (pc' := 48) (p := l0) (st := []) [.int l1, .int x9] v_X8_198 (i_X8_hits C l0 l1 x9) dX8_hit_45 rfl rfl rfl (Nat.le_of_ble_eq_true rfl) (by decide) (by decide) (fun c10 => ?_)
        exact C_iret rfl dX8_hit_48
    · refine C_iconst (D := mdX8_hit) (pc' := 27) (v := (-1)) dX8_hit_26 rfl (by decide) ?_
      exact C_iret rfl dX8_hit_27

-- StandingQueriesModel.node(II)I
theorem dX8_node_0 : decode cX8_node 0 = .ok (.aload_n 0, 1) := by decide +kernel
theorem dX8_node_1 : decode cX8_node 1 = .ok (.iconst 0, 1) := by decide +kernel
theorem dX8_node_2 : decode cX8_node 2 = .ok (.putfield 1, 3) := by decide +kernel
theorem dX8_node_5 : decode cX8_node 5 = .ok (.iload_n 1, 1) := by decide +kernel
theorem dX8_node_6 : decode cX8_node 6 = .ok (.i2l, 1) := by decide +kernel
theorem dX8_node_7 : decode cX8_node 7 = .ok (.lconst 0, 1) := by decide +kernel
theorem dX8_node_8 : decode cX8_node 8 = .ok (.aload_n 0, 1) := by decide +kernel
theorem dX8_node_9 : decode cX8_node 9 = .ok (.getfield 73, 3) := by decide +kernel
theorem dX8_node_12 : decode cX8_node 12 = .ok (.iconst 1, 1) := by decide +kernel
theorem dX8_node_13 : decode cX8_node 13 = .ok (.isub, 1) := by decide +kernel
theorem dX8_node_14 : decode cX8_node 14 = .ok (.i2l, 1) := by decide +kernel
theorem dX8_node_15 : decode cX8_node 15 = .ok (.invokestatic 9, 3) := by decide +kernel
theorem dX8_node_18 : decode cX8_node 18 = .ok (.ifCond .ne 5, 3) := by decide +kernel
theorem dX8_node_21 : decode cX8_node 21 = .ok (.iconst (-1), 1) := by decide +kernel
theorem dX8_node_22 : decode cX8_node 22 = .ok (.ireturn, 1) := by decide +kernel
theorem dX8_node_23 : decode cX8_node 23 = .ok (.aload_n 0, 1) := by decide +kernel
theorem dX8_node_24 : decode cX8_node 24 = .ok (.getfield 76, 3) := by decide +kernel
theorem dX8_node_27 : decode cX8_node 27 = .ok (.iload_n 1, 1) := by decide +kernel
theorem dX8_node_28 : decode cX8_node 28 = .ok (.iaload, 1) := by decide +kernel
theorem dX8_node_29 : decode cX8_node 29 = .ok (.ldc 47, 2) := by decide +kernel
theorem dX8_node_31 : decode cX8_node 31 = .ok (.idiv, 1) := by decide +kernel
theorem dX8_node_32 : decode cX8_node 32 = .ok (.istore_n 3, 1) := by decide +kernel
theorem dX8_node_33 : decode cX8_node 33 = .ok (.iload_n 2, 1) := by decide +kernel
theorem dX8_node_34 : decode cX8_node 34 = .ok (.tableswitch 98 0 4 #[34, 36, 58, 84, 91], 34) := by decide +kernel
theorem dX8_node_68 : decode cX8_node 68 = .ok (.iload_n 3, 1) := by decide +kernel
theorem dX8_node_69 : decode cX8_node 69 = .ok (.ireturn, 1) := by decide +kernel
theorem dX8_node_70 : decode cX8_node 70 = .ok (.iload_n 3, 1) := by decide +kernel
theorem dX8_node_71 : decode cX8_node 71 = .ok (.ifCond .ne 8, 3) := by decide +kernel
theorem dX8_node_74 : decode cX8_node 74 = .ok (.bipush (-9), 2) := by decide +kernel
theorem dX8_node_76 : decode cX8_node 76 = .ok (.goto 15, 3) := by decide +kernel
theorem dX8_node_79 : decode cX8_node 79 = .ok (.bipush 97, 2) := by decide +kernel
theorem dX8_node_81 : decode cX8_node 81 = .ok (.aload_n 0, 1) := by decide +kernel
theorem dX8_node_82 : decode cX8_node 82 = .ok (.getfield 76, 3) := by decide +kernel
theorem dX8_node_85 : decode cX8_node 85 = .ok (.iload_n 1, 1) := by decide +kernel
theorem dX8_node_86 : decode cX8_node 86 = .ok (.iaload, 1) := by decide +kernel
theorem dX8_node_87 : decode cX8_node 87 = .ok (.bipush 7, 2) := by decide +kernel
theorem dX8_node_89 : decode cX8_node 89 = .ok (.iand, 1) := by decide +kernel
theorem dX8_node_90 : decode cX8_node 90 = .ok (.iadd, 1) := by decide +kernel
theorem dX8_node_91 : decode cX8_node 91 = .ok (.ireturn, 1) := by decide +kernel
theorem dX8_node_92 : decode cX8_node 92 = .ok (.iload_n 3, 1) := by decide +kernel
theorem dX8_node_93 : decode cX8_node 93 = .ok (.ifCond .ne 8, 3) := by decide +kernel
theorem dX8_node_96 : decode cX8_node 96 = .ok (.bipush (-9), 2) := by decide +kernel
theorem dX8_node_98 : decode cX8_node 98 = .ok (.goto 19, 3) := by decide +kernel
theorem dX8_node_101 : decode cX8_node 101 = .ok (.aload_n 0, 1) := by decide +kernel
theorem dX8_node_102 : decode cX8_node 102 = .ok (.aload_n 0, 1) := by decide +kernel
theorem dX8_node_103 : decode cX8_node 103 = .ok (.getfield 76, 3) := by decide +kernel
theorem dX8_node_106 : decode cX8_node 106 = .ok (.iload_n 1, 1) := by decide +kernel
theorem dX8_node_107 : decode cX8_node 107 = .ok (.iaload, 1) := by decide +kernel
theorem dX8_node_108 : decode cX8_node 108 = .ok (.iload_n 3, 1) := by decide +kernel
theorem dX8_node_109 : decode cX8_node 109 = .ok (.iconst 1, 1) := by decide +kernel
theorem dX8_node_110 : decode cX8_node 110 = .ok (.isub, 1) := by decide +kernel
theorem dX8_node_111 : decode cX8_node 111 = .ok (.invokestatic 97, 3) := by decide +kernel
theorem dX8_node_114 : decode cX8_node 114 = .ok (.invokevirtual 84, 3) := by decide +kernel
theorem dX8_node_117 : decode cX8_node 117 = .ok (.ireturn, 1) := by decide +kernel
theorem dX8_node_118 : decode cX8_node 118 = .ok (.aload_n 0, 1) := by decide +kernel
theorem dX8_node_119 : decode cX8_node 119 = .ok (.getfield 100, 3) := by decide +kernel
theorem dX8_node_122 : decode cX8_node 122 = .ok (.iload_n 1, 1) := by decide +kernel
theorem dX8_node_123 : decode cX8_node 123 = .ok (.iaload, 1) := by decide +kernel
theorem dX8_node_124 : decode cX8_node 124 = .ok (.ireturn, 1) := by decide +kernel
theorem dX8_node_125 : decode cX8_node 125 = .ok (.aload_n 0, 1) := by decide +kernel
theorem dX8_node_126 : decode cX8_node 126 = .ok (.getfield 106, 3) := by decide +kernel
theorem dX8_node_129 : decode cX8_node 129 = .ok (.iload_n 1, 1) := by decide +kernel
theorem dX8_node_130 : decode cX8_node 130 = .ok (.iaload, 1) := by decide +kernel
theorem dX8_node_131 : decode cX8_node 131 = .ok (.ireturn, 1) := by decide +kernel
theorem dX8_node_132 : decode cX8_node 132 = .ok (.iconst (-1), 1) := by decide +kernel
theorem dX8_node_133 : decode cX8_node 133 = .ok (.ireturn, 1) := by decide +kernel
abbrev mdX8_node : MD := (cX8_node, RX8, 4, (some .int), yX8_node.name, 1, 25, eT)
set_option maxHeartbeats 2000000 in
set_option maxRecDepth 20000 in
theorem i_X8_node (C : KX) (l0 : Nat) (l1 : Int32) (l2 : Int32) : Imp C yX8_node cX8_node 4 (some .int) 1 25 rvI [.ref (kB C + l0), .int l1, .int l2] (m_X8_node l0 l1 l2) := by
  refine Imp.of (by decide) (Nat.le_of_ble_eq_true rfl) [(0, .ref (kB C + l0)), (1, .int l1), (2, .int l2)] rfl ?_
  show Cmp C mdX8_node (QM rvI) 0 [(0, .ref (kB C + l0)), (1, .int l1), (2, .int l2)] [] (m_X8_node l0 l1 l2)
  unfold m_X8_node
  refine C_aload_n (D := mdX8_node) (pc' := 1) (x := kB C + l0) dX8_node_0 rfl 0 rfl ?_
  refine C_iconst (D := mdX8_node) (pc' := 2) (v := 0) dX8_node_1 rfl (by decide) ?_
  refine C_putI (D := mdX8_node) (pc' := 5) (p := l0) f_X8_1 rfl dX8_node_2 rfl ?_
  refine C_iload_n (D := mdX8_node) (pc' := 6) (x := l1) dX8_node_5 rfl 1 rfl ?_
  refine C_i2l (D := mdX8_node) (pc' := 7) dX8_node_6 rfl ?_
  refine C_lconst (D := mdX8_node) (pc' := 8) (v := 0) dX8_node_7 rfl (by decide) ?_
  refine C_aload_n (D := mdX8_node) (pc' := 9) (x := kB C + l0) dX8_node_8 rfl 0 rfl ?_
  refine C_getI (D := mdX8_node) (pc' := 12) (p := l0) f_X8_73 rfl dX8_node_9 rfl (fun nodeMany1 => ?_)
  refine C_iconst (D := mdX8_node) (pc' := 13) (v := 1) dX8_node_12 rfl (by decide) ?_
  refine C_isub (D := mdX8_node) (pc' := 14) dX8_node_13 rfl ?_
  refine C_i2l (D := mdX8_node) (pc' := 15) dX8_node_14 rfl ?_
  refine C_callS (D := mdX8_node) (pc' := 18) (st := []) [.long ((l1 : Int32).toInt64), .long 0, .long (((nodeMany1 - 1) : Int32).toInt64)] s_X8_9 (i_X8_in C (((l1 : Int32).toInt64)) 0 ((((nodeMany1 - 1) : Int32).toInt64))) dX8_node_15 rfl rfl rfl (Nat.le_of_ble_eq_true rfl) (by decide) (by decide) (fun c2 => ?_)
  refine C_if_ne (D := mdX8_node) (pc' := 21) (tgt := 23) dX8_node_18 (by decide) rfl ?_ ?_
  · refine C_aload_n (D := mdX8_node) (pc' := 24) (x := kB C + l0) dX8_node_23 rfl 0 rfl ?_
    refine C_getR (D := mdX8_node) (pc' := 27) (p := l0) f_X8_76 rfl dX8_node_24 rfl (fun nodes3 => ?_)
    refine C_iload_n (D := mdX8_node) (pc' := 28) (x := l1) dX8_node_27 rfl 1 rfl ?_
    refine C_aI (D := mdX8_node) (pc' := 29) (p := nodes3) dX8_node_28 rfl (fun x4 => ?_)
    refine C_ldc (D := mdX8_node) (pc' := 31) (v := 1048576) c_X8_47 dX8_node_29 rfl ?_
    refine C_idiv (D := mdX8_node) (pc' := 32) dX8_node_31 rfl (by decide) ?_
    refine C_letI (fun v5 => ?_)
    refine C_istore_n (D := mdX8_node) (pc' := 33) (ls' := [(3, .int v5), (0, .ref (kB C + l0)), (1, .int l1), (2, .int l2)]) dX8_node_32 rfl rfl (by decide) rfl ?_
    refine C_iload_n (D := mdX8_node) (pc' := 34) (x := l2) dX8_node_33 rfl 3 rfl ?_
    refine C_tcase (D := mdX8_node) (c := 0) 0 (by decide) (tgt := 68) dX8_node_34 (by decide) (by decide) rfl (by decide) ?_ (fun h0 => ?_)
    · refine C_iload_n (D := mdX8_node) (pc' := 69) (x := v5) dX8_node_68 rfl 0 rfl ?_
      exact C_iret rfl dX8_node_69
    refine C_tcase (D := mdX8_node) (c := 1) 1 (by decide) (tgt := 70) dX8_node_34 (by decide) (by decide) rfl (by decide) ?_ (fun h1 => ?_)
    · refine C_iload_n (D := mdX8_node) (pc' := 71) (x := v5) dX8_node_70 rfl 0 rfl ?_
      refine C_if_ne (D := mdX8_node) (pc' := 74) (tgt := 79) dX8_node_71 (by decide) rfl ?_ ?_
      · refine C_bipush (D := mdX8_node) (pc' := 81) (v := 97) dX8_node_79 rfl (by decide) ?_
        refine C_aload_n (D := mdX8_node) (pc' := 82) (x := kB C + l0) dX8_node_81 rfl 1 rfl ?_
        refine C_getR (D := mdX8_node) (pc' := 85) (p := l0) f_X8_76 rfl dX8_node_82 rfl (fun nodes6 => ?_)
        refine C_iload_n (D := mdX8_node) (pc' := 86) (x := l1) dX8_node_85 rfl 2 rfl ?_
        refine C_aI (D := mdX8_node) (pc' := 87) (p := nodes6) dX8_node_86 rfl (fun x7 => ?_)
        refine C_bipush (D := mdX8_node) (pc' := 89) (v := 7) dX8_node_87 rfl (by decide) ?_
        refine C_iand (D := mdX8_node) (pc' := 90) dX8_node_89 rfl ?_
        refine C_iadd (D := mdX8_node) (pc' := 91) dX8_node_90 rfl ?_
        exact C_iret rfl dX8_node_91
      · refine C_bipush (D := mdX8_node) (pc' := 76) (v := (-9)) dX8_node_74 rfl (by decide) ?_
        refine C_goto (D := mdX8_node) (pc' := 91) dX8_node_76 (by decide) ?_
        exact C_iret rfl dX8_node_91
    refine C_tcase (D := mdX8_node) (c := 2) 2 (by decide) (tgt := 92) dX8_node_34 (by decide) (by decide) rfl (by decide) ?_ (fun h2 => ?_)
    · refine C_iload_n (D := mdX8_node) (pc' := 93) (x := v5) dX8_node_92 rfl 0 rfl ?_
      refine C_if_ne (D := mdX8_node) (pc' := 96) (tgt := 101) dX8_node_93 (by decide) rfl ?_ ?_
      · refine C_aload_n (D := mdX8_node) (pc' := 102) (x := kB C + l0) dX8_node_101 rfl 1 rfl ?_
        refine C_aload_n (D := mdX8_node) (pc' := 103) (x := kB C + l0) dX8_node_102 rfl 1 rfl ?_
        refine C_getR (D := mdX8_node) (pc' := 106) (p := l0) f_X8_76 rfl dX8_node_103 rfl (fun nodes8 => ?_)
        refine C_iload_n (D := mdX8_node) (pc' := 107) (x := l1) dX8_node_106 rfl 2 rfl ?_
        refine C_aI (D := mdX8_node) (pc' := 108) (p := nodes8) dX8_node_107 rfl (fun x9 => ?_)
        refine C_iload_n (D := mdX8_node) (pc' := 109) (x := v5) dX8_node_108 rfl 0 rfl ?_
        refine C_iconst (D := mdX8_node) (pc' := 110) (v := 1) dX8_node_109 rfl (by decide) ?_
        refine C_isub (D := mdX8_node) (pc' := 111) dX8_node_110 rfl ?_
        refine C_callS (D := mdX8_node) (pc' := 114) (st := [.ref (kB C + l0)]) [.int x9, .int (v5 - 1)] s_X8_97 (i_X8_firsts C x9 ((v5 - 1))) dX8_node_111 rfl rfl rfl (Nat.le_of_ble_eq_true rfl) (by decide) (by decide) (fun c10 => ?_)
        refine C_callV (D := mdX8_node) (pc' := 117) (p := l0) (st := []) [.int c10] v_X8_84 (i_X8_nodeOf C l0 c10) dX8_node_114 rfl rfl rfl (Nat.le_of_ble_eq_true rfl) (by decide) (by decide) (fun c11 => ?_)
        exact C_iret rfl dX8_node_117
      · refine C_bipush (D := mdX8_node) (pc' := 98) (v := (-9)) dX8_node_96 rfl (by decide) ?_
        refine C_goto (D := mdX8_node) (pc' := 117) dX8_node_98 (by decide) ?_
        exact C_iret rfl dX8_node_117
    refine C_tcase (D := mdX8_node) (c := 3) 3 (by decide) (tgt := 118) dX8_node_34 (by decide) (by decide) rfl (by decide) ?_ (fun h3 => ?_)
    · refine C_aload_n (D := mdX8_node) (pc' := 119) (x := kB C + l0) dX8_node_118 rfl 1 rfl ?_
      refine C_getR (D := mdX8_node) (pc' := 122) (p := l0) f_X8_100 rfl dX8_node_119 rfl (fun fails12 => ?_)
      refine C_iload_n (D := mdX8_node) (pc' := 123) (x := l1) dX8_node_122 rfl 2 rfl ?_
      refine C_aI (D := mdX8_node) (pc' := 124) (p := fails12) dX8_node_123 rfl (fun x13 => ?_)
      exact C_iret rfl dX8_node_124
    refine C_tcase (D := mdX8_node) (c := 4) 4 (by decide) (tgt := 125) dX8_node_34 (by decide) (by decide) rfl (by decide) ?_ (fun h4 => ?_)
    · refine C_aload_n (D := mdX8_node) (pc' := 126) (x := kB C + l0) dX8_node_125 rfl 1 rfl ?_
      refine C_getR (D := mdX8_node) (pc' := 129) (p := l0) f_X8_106 rfl dX8_node_126 rfl (fun ends14 => ?_)
      refine C_iload_n (D := mdX8_node) (pc' := 130) (x := l1) dX8_node_129 rfl 2 rfl ?_
      refine C_aI (D := mdX8_node) (pc' := 131) (p := ends14) dX8_node_130 rfl (fun x15 => ?_)
      exact C_iret rfl dX8_node_131
    refine C_tdef (D := mdX8_node) (tgt := 132) dX8_node_34 (by omega) (by decide) ?_
    refine C_iconst (D := mdX8_node) (pc' := 133) (v := (-1)) dX8_node_132 rfl (by decide) ?_
    exact C_iret rfl dX8_node_133
  · refine C_iconst (D := mdX8_node) (pc' := 22) (v := (-1)) dX8_node_21 rfl (by decide) ?_
    exact C_iret rfl dX8_node_22
