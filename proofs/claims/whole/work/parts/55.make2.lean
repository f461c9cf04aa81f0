/-! ===== the reference's make(): links ===== -/
theorem makeN_ok {z : Zd} {m : Nat} (hM : MO z m) {I : Nat → Nat → Int32} {W ns : List (List Nat)} (hN : NS W ns) (hR : RN I m (ns.map rcI)) (h97 : ns.length ≤ 97) (h8 : ∀ v ∈ ns, (∀ d ∈ v, d < 8) ∧ v.length ≤ 6) {n : Nat} {u : List Nat} (hu : ns[n]? = some u) :
    ∃ g : Nat → Nat, (∀ c, c < 8 → ns[g c]? = some (lsuf ns (u ++ [c]))) ∧ ∀ k71 : Int32 → Mo Unit, lp (fun k s => m_X8_make_B195 m (nI n) (nI u.length) k71 k s) FU 0 (I, z) = k71 (nI (n + 1)) (uA I (m + 11) (fun q => if 8 * n ≤ q ∧ q < 8 * n + 8 then nI (g (q - 8 * n)) else I (m + 11) q), z) := by
  have hn := (List.getElem?_eq_some_iff.mp hu).1
  obtain ⟨u8, u6⟩ := h8 u (List.mem_of_getElem? hu)
  have hx : ∀ c, c < 8 → (rc (u ++ [c])) % 1048576 = b8 (u ++ [c]) % 1048576 := fun c _ => by unfold rc; omega
  have hs8 : ∀ c, c < 8 → ∀ d ∈ u ++ [c], d < 8 := by
    intro c hc d hd
    rcases List.mem_append.mp hd with h | h
    · exact u8 d h
    · rw [List.mem_singleton.mp h]; exact hc
  have hex : ∀ c, c < 8 → ∃ kx : Nat, ns[kx]? = some (lsuf ns (u ++ [c])) ∧ ∀ J : Nat → Nat → Int32, RN J m (ns.map rcI) → ∀ (k71 k : Int32 → Mo Unit), m_X8_make_B195 m (nI n) (nI u.length) k71 k (nI c) (J, z) = k (nI (c + 1)) (u2 J (m + 11) (8 * n + c) (nI kx), z) := by
    intro c hc
    have hlen : (u ++ [c]).length = u.length + 1 := by simp
    have hmul : (8 : Int32) * nI n + nI c = nI (8 * n + c) := by rw [show (8 : Int32) = nI 8 from rfl, pk_mul, nI_add]
    have head : ∀ J : Nat → Nat → Int32, RN J m (ns.map rcI) → ∀ (k71 k : Int32 → Mo Unit), m_X8_make_B195 m (nI n) (nI u.length) k71 k (nI c) (J, z) = (if nI (u.length + 1) ≤ 6 then m_X8_make_J238 m (nI n) (nI u.length) (nI c) (nI (u.length + 1)) (nI (rc (u ++ [c]))) m (nI (8 * n + c)) (m + 11) k71 k else m_X8_make_J238 m (nI n) (nI u.length) (nI c) 6 (nI (rc (u ++ [c]))) m (nI (8 * n + c)) (m + 11) k71 k) (J, z) := by
      intro J hJ k71 k
      have hcode : J (m + 8) n = rcI u := hJ.2 n _ (by rw [List.getElem?_map, hu]; rfl)
      unfold m_X8_make_B195
      rw [if_neg (show ¬ (8 : Int32) ≤ nI c from nI_ge (b := 8) hc (by omega)), mb_gR hM.o hM.rNexts, mb_gR hM.o hM.rNodes, mb_aI hM.sNodes (show n < 100 by omega) (by omega)]
      simp only [hcode]
      rw [mb_call (withLetterR_ok u8 u6 c _), nI_1, hmul]
    by_cases h7 : u.length + 1 ≤ 6
    · obtain ⟨k, e1, -⟩ := longest_ok hM hN hR (by omega) h8 (hs8 c hc) (hx c hc) (u.length + 1) h7 (by rw [hlen]; omega)
      rw [hlen, Nat.sub_self, List.drop_zero] at e1
      refine ⟨k, e1, fun J hJ k71 q => ?_⟩
      obtain ⟨k2, e2, e3⟩ := longest_ok hM hN hJ (by omega) h8 (hs8 c hc) (hx c hc) (u.length + 1) h7 (by rw [hlen]; omega)
      rw [hlen, Nat.sub_self, List.drop_zero] at e2
      have hkk : k2 = k := nodup_idx hN.nodup e2 e1
      subst hkk
      rw [head J hJ, if_pos (show nI (u.length + 1) ≤ 6 from nI_le (b := 6) h7 (by omega))]
      unfold m_X8_make_J238
      rw [mb_vc hM.o, mb_call e3, mb_tI hM.sNexts (show 8 * n + c < 800 by omega) (by omega), nI_1]
    · have hu6 : u.length = 6 := by omega
      have hnot : (u ++ [c]) ∉ ns := fun hm => by have := (h8 _ hm).2; rw [hlen] at this; omega
      obtain ⟨a, t, hat⟩ : ∃ a t, u ++ [c] = a :: t := by
        cases h : u ++ [c] with
        | nil => simp at h
        | cons a t => exact ⟨a, t, rfl⟩
      have hls : lsuf ns (u ++ [c]) = lsuf ns ((u ++ [c]).drop ((u ++ [c]).length - 6)) := by
        rw [hlen, hu6, show 6 + 1 - 6 = 1 by omega, hat]
        rw [hat] at hnot
        rw [lsuf_not hnot]
        rfl
      obtain ⟨k, e1, -⟩ := longest_ok hM hN hR (by omega) h8 (hs8 c hc) (hx c hc) 6 (Nat.le_refl 6) (by rw [hlen]; omega)
      rw [← hls] at e1
      refine ⟨k, e1, fun J hJ k71 q => ?_⟩
      obtain ⟨k2, e2, e3⟩ := longest_ok hM hN hJ (by omega) h8 (hs8 c hc) (hx c hc) 6 (Nat.le_refl 6) (by rw [hlen]; omega)
      rw [← hls] at e2
      have hkk : k2 = k := nodup_idx hN.nodup e2 e1
      subst hkk
      rw [head J hJ, if_neg (show ¬ nI (u.length + 1) ≤ 6 from nI_ge (a := 6) (by omega) (by omega))]
      unfold m_X8_make_J238
      rw [mb_vc hM.o, show (6 : Int32) = nI 6 from rfl, mb_call e3, mb_tI hM.sNexts (show 8 * n + c < 800 by omega) (by omega), nI_1]
  obtain ⟨g, hg⟩ : ∃ g : Nat → Nat, ∀ c, c < 8 → ns[g c]? = some (lsuf ns (u ++ [c])) ∧ ∀ J : Nat → Nat → Int32, RN J m (ns.map rcI) → ∀ (k71 k : Int32 → Mo Unit), m_X8_make_B195 m (nI n) (nI u.length) k71 k (nI c) (J, z) = k (nI (c + 1)) (u2 J (m + 11) (8 * n + c) (nI (g c)), z) :=
    ⟨fun c => if h : c < 8 then (hex c h).choose else 0, fun c hc => by dsimp only; rw [dif_pos hc]; exact (hex c hc).choose_spec⟩
  refine ⟨g, fun c hc => (hg c hc).1, fun k71 => ?_⟩
  have key := lp_FU (F := fun k s => m_X8_make_B195 m (nI n) (nI u.length) k71 k s) (fun i => nI i) (fun i => (uA I (m + 11) (fun q => if 8 * n ≤ q ∧ q < 8 * n + i then nI (g (q - 8 * n)) else I (m + 11) q), z)) (X := k71 (nI (n + 1)) (uA I (m + 11) (fun q => if 8 * n ≤ q ∧ q < 8 * n + 8 then nI (g (q - 8 * n)) else I (m + 11) q), z)) 8 (by omega) (fun i hi k => ?_) (fun k => ?_)
  · rw [show (uA I (m + 11) (fun q => if 8 * n ≤ q ∧ q < 8 * n + 0 then nI (g (q - 8 * n)) else I (m + 11) q)) = I by
      rw [show (fun q => if 8 * n ≤ q ∧ q < 8 * n + 0 then nI (g (q - 8 * n)) else I (m + 11) q) = I (m + 11) from funext fun q => if_neg (by omega)]
      exact uA_self I (m + 11)] at key
    exact key
  · show m_X8_make_B195 m (nI n) (nI u.length) k71 k (nI i) _ = _
    have hJ : RN (uA I (m + 11) (fun q => if 8 * n ≤ q ∧ q < 8 * n + i then nI (g (q - 8 * n)) else I (m + 11) q)) m (ns.map rcI) := by
      unfold RN
      rw [uA_ne (by omega), uA_ne (by omega)]
      exact hR
    rw [(hg i hi).2 _ hJ, u2_uA2]
    congr 2
    congr 1
    funext q
    unfold va_up
    dsimp only
    by_cases hq : q = 8 * n + i
    · subst hq
      rw [if_pos rfl, if_pos (by omega), show 8 * n + i - 8 * n = i by omega]
    · rw [if_neg hq]
      by_cases h2 : 8 * n ≤ q ∧ q < 8 * n + i
      · rw [if_pos h2, if_pos (by omega)]
      · rw [if_neg h2, if_neg (by omega)]
  · show m_X8_make_B195 m (nI n) (nI u.length) k71 k (nI 8) _ = _
    unfold m_X8_make_B195
    rw [if_pos (show (8 : Int32) ≤ nI 8 from nI_le (a := 8) (Nat.le_refl 8) (by omega)), nI_1]
theorem makeE_ok {z : Zd} {m : Nat} (hM : MO z m) {I : Nat → Nat → Int32} {W ns : List (List Nat)} (hW : okL W) (h16 : W.length ≤ 16) (hRW : RW I m W) (hR : RN I m (ns.map rcI)) (h97 : ns.length ≤ 97) (h8 : ∀ v ∈ ns, (∀ d ∈ v, d < 8) ∧ v.length ≤ 6) {n : Nat} {u : List Nat} (hu : ns[n]? = some u) (h0 : I (m + 10) n = 0) :
    ∀ k71 : Int32 → Mo Unit, lp (fun k s => m_X8_make_B126 m (nI n) (nI u.length) k71 k s) FU 0 (I, z) = lp (fun k s => m_X8_make_B195 m (nI n) (nI u.length) k71 k s) FU 0 (uA I (m + 10) (va_up (I (m + 10)) n (nI (eb W u))), z) := by
  intro k71
  have hn := (List.getElem?_eq_some_iff.mp hu).1
  obtain ⟨u8, u6⟩ := h8 u (List.mem_of_getElem? hu)
  have hcode : I (m + 8) n = rcI u := hR.2 n _ (by rw [List.getElem?_map, hu]; rfl)
  have key := lp_FU (F := fun k s => m_X8_make_B126 m (nI n) (nI u.length) k71 k s) (fun i => nI i) (fun i => (uA I (m + 10) (va_up (I (m + 10)) n (nI (bitsL (fun v => v.isSuffixOf u) (W.take i)))), z)) (X := lp (fun k s => m_X8_make_B195 m (nI n) (nI u.length) k71 k s) FU 0 (uA I (m + 10) (va_up (I (m + 10)) n (nI (eb W u))), z)) W.length (by omega) (fun i hi k => ?_) (fun k => ?_)
  · rw [show (uA I (m + 10) (va_up (I (m + 10)) n (nI (bitsL (fun v => v.isSuffixOf u) (W.take 0))))) = I by
      rw [show va_up (I (m + 10)) n (nI (bitsL (fun v => v.isSuffixOf u) (W.take 0))) = I (m + 10) from funext fun q => by
        unfold va_up
        by_cases hq : q = n
        · subst hq; rw [if_pos rfl, h0]; rfl
        · rw [if_neg hq]]
      exact uA_self I (m + 10)] at key
    exact key
  · show m_X8_make_B126 m (nI n) (nI u.length) k71 k (nI i) _ = _
    have hv := List.getElem?_eq_getElem hi
    generalize W[i] = v at hv
    obtain ⟨v1, v6, v8⟩ := hW.1 v (List.mem_of_getElem? hv)
    have hvc := hRW.2 i v hv
    have hbt := bitsL_take (fun v => v.isSuffixOf u) W hv
    have fin : ∀ b : Nat, bitsL (fun v => v.isSuffixOf u) (W.take (i + 1)) = bitsL (fun v => v.isSuffixOf u) (W.take i) ||| b → m_X8_make_J185 m (nI n) (nI u.length) (nI i) (nI b) (nI (bitsL (fun v => v.isSuffixOf u) (W.take i))) (nI n) (m + 10) k71 k (uA I (m + 10) (va_up (I (m + 10)) n (nI (bitsL (fun v => v.isSuffixOf u) (W.take i)))), z) = k (nI (i + 1)) (uA I (m + 10) (va_up (I (m + 10)) n (nI (bitsL (fun v => v.isSuffixOf u) (W.take (i + 1))))), z) := by
      intro b hb
      unfold m_X8_make_J185
      rw [bx_or, ← hb, mb_tI hM.sEnds (show n < 100 by omega) (by omega), nI_1]
      simp only [u2_uA2]
      congr 2
      congr 1
      funext q
      unfold va_up
      by_cases hq : q = n
      · rw [if_pos hq, if_pos hq]
      · rw [if_neg hq, if_neg hq, if_neg hq]
    unfold m_X8_make_B126
    rw [mb_gI hM.o]
    simp only [uA_ne (show m ≠ m + 10 by omega), hRW.1]
    rw [if_neg (nI_ge hi (by omega)), mb_gR hM.o hM.rWords, mb_aI hM.sWords (show i < 64 by omega) (by omega)]
    simp only [uA_ne (show m + 7 ≠ m + 10 by omega), hvc]
    rw [mb_mp, rcI_div v8 v6, mb_gR hM.o hM.rEnds, mb_aI hM.sEnds (show n < 100 by omega) (by omega)]
    simp only [uA_eq]
    rw [show va_up (I (m + 10)) n (nI (bitsL (fun v => v.isSuffixOf u) (W.take i))) n = nI (bitsL (fun v => v.isSuffixOf u) (W.take i)) by simp [va_up]]
    by_cases hlen : u.length < v.length
    · rw [if_pos (nI_lt hlen (by omega))]
      unfold m_X8_make_J184
      refine fin 0 ?_
      rw [hbt, if_neg]
      intro h
      have := (List.isSuffixOf_iff_suffix.mp h).length_le
      omega
    · rw [if_neg (nI_nlt (by omega) (by omega)), mb_gR hM.o hM.rNodes, mb_aI hM.sNodes (show n < 100 by omega) (by omega)]
      simp only [uA_ne (show m + 8 ≠ m + 10 by omega), hcode]
      rw [show rcI u = nI (rc u) from rfl, mb_call (lasts_ok u8 (show rc u % 1048576 = b8 u % 1048576 by unfold rc; omega) v6 (by omega) _), mb_gR hM.o hM.rWords, mb_aI hM.sWords (show i < 64 by omega) (by omega)]
      simp only [uA_ne (show m + 7 ≠ m + 10 by omega), hvc]
      by_cases hsf : v <:+ u
      · rw [if_pos (by rw [(suffix_drop (by omega)).mp hsf])]
        rw [show ((1 : Int32) <<< (nI i &&& 31)) = nI (2 ^ i) by rw [show (1 : Int32) = nI 1 from rfl, bx_shl (by omega), Nat.one_mul]]
        exact fin (2 ^ i) (by rw [hbt, if_pos (List.isSuffixOf_iff_suffix.mpr hsf)])
      · rw [if_neg]
        · unfold m_X8_make_J184
          exact fin 0 (by rw [hbt, if_neg (fun h => hsf (List.isSuffixOf_iff_suffix.mp h))])
        · intro h
          have h2 := rcI_inj (fun d hd => u8 d (List.mem_of_mem_drop hd)) v8 (by rw [List.length_drop]; omega) v6 h
          exact hsf ((suffix_drop (by omega)).mpr h2)
  · show m_X8_make_B126 m (nI n) (nI u.length) k71 k (nI W.length) _ = _
    unfold m_X8_make_B126
    rw [mb_gI hM.o]
    simp only [uA_ne (show m ≠ m + 10 by omega), hRW.1]
    rw [if_pos (nI_le (Nat.le_refl _) (by omega)), List.take_length]
    rfl
