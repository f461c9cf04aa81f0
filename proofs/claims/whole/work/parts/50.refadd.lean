/-! ===== the reference: its cells, its words ===== -/
def MO (z : Zd) (m : Nat) : Prop := z.2.2[m]? = some (7, nf 7) ∧
  (z.2.1 m 1 = some (m + 1) ∧ z.2.1 m 8 = some (m + 2) ∧ z.2.1 m 9 = some (m + 3) ∧ z.2.1 m 10 = some (m + 4) ∧ z.2.1 m 12 = some (m + 5) ∧ z.2.1 m 13 = some (m + 6) ∧ z.2.1 m 14 = some (m + 7) ∧ z.2.1 m 16 = some (m + 8) ∧ z.2.1 m 18 = some (m + 9) ∧ z.2.1 m 19 = some (m + 10) ∧ z.2.1 m 20 = some (m + 11) ∧ z.2.1 m 21 = some (m + 12) ∧ z.2.1 m 28 = some (m + 13) ∧ z.2.1 m 29 = some (m + 14)) ∧
  (z.2.2[m + 1]? = some (100, 150) ∧ z.2.2[m + 2]? = some (100, 178) ∧ z.2.2[m + 3]? = some (100, 178) ∧ z.2.2[m + 4]? = some (100, 1780) ∧ z.2.2[m + 5]? = some (102, 2) ∧ z.2.2[m + 6]? = some (100, 356) ∧ z.2.2[m + 7]? = some (100, 64) ∧ z.2.2[m + 8]? = some (100, 100) ∧ z.2.2[m + 9]? = some (100, 100) ∧ z.2.2[m + 10]? = some (100, 100) ∧ z.2.2[m + 11]? = some (100, 800) ∧ z.2.2[m + 12]? = some (100, 40) ∧ z.2.2[m + 13]? = some (101, 15520) ∧ z.2.2[m + 14]? = some (101, 15520))
section MOf
variable {z : Zd} {m : Nat}
theorem MO.o (h : MO z m) : z.2.2[m]? = some (7, nf 7) := h.1
theorem MO.rText (h : MO z m) : z.2.1 m 1 = some (m + 1) := h.2.1.1
theorem MO.rNow (h : MO z m) : z.2.1 m 8 = some (m + 2) := h.2.1.2.1
theorem MO.rFresh (h : MO z m) : z.2.1 m 9 = some (m + 3) := h.2.1.2.2.1
theorem MO.rWas (h : MO z m) : z.2.1 m 10 = some (m + 4) := h.2.1.2.2.2.1
theorem MO.rIsKept (h : MO z m) : z.2.1 m 12 = some (m + 5) := h.2.1.2.2.2.2.1
theorem MO.rKept (h : MO z m) : z.2.1 m 13 = some (m + 6) := h.2.1.2.2.2.2.2.1
theorem MO.rWords (h : MO z m) : z.2.1 m 14 = some (m + 7) := h.2.1.2.2.2.2.2.2.1
theorem MO.rNodes (h : MO z m) : z.2.1 m 16 = some (m + 8) := h.2.1.2.2.2.2.2.2.2.1
theorem MO.rFails (h : MO z m) : z.2.1 m 18 = some (m + 9) := h.2.1.2.2.2.2.2.2.2.2.1
theorem MO.rEnds (h : MO z m) : z.2.1 m 19 = some (m + 10) := h.2.1.2.2.2.2.2.2.2.2.2.1
theorem MO.rNexts (h : MO z m) : z.2.1 m 20 = some (m + 11) := h.2.1.2.2.2.2.2.2.2.2.2.2.1
theorem MO.rEnded (h : MO z m) : z.2.1 m 21 = some (m + 12) := h.2.1.2.2.2.2.2.2.2.2.2.2.2.1
theorem MO.rQueue (h : MO z m) : z.2.1 m 28 = some (m + 13) := h.2.1.2.2.2.2.2.2.2.2.2.2.2.2.1
theorem MO.rCame (h : MO z m) : z.2.1 m 29 = some (m + 14) := h.2.1.2.2.2.2.2.2.2.2.2.2.2.2.2
theorem MO.sText (h : MO z m) : z.2.2[m + 1]? = some (100, 150) := h.2.2.1
theorem MO.sNow (h : MO z m) : z.2.2[m + 2]? = some (100, 178) := h.2.2.2.1
theorem MO.sFresh (h : MO z m) : z.2.2[m + 3]? = some (100, 178) := h.2.2.2.2.1
theorem MO.sWas (h : MO z m) : z.2.2[m + 4]? = some (100, 1780) := h.2.2.2.2.2.1
theorem MO.sIsKept (h : MO z m) : z.2.2[m + 5]? = some (102, 2) := h.2.2.2.2.2.2.1
theorem MO.sKept (h : MO z m) : z.2.2[m + 6]? = some (100, 356) := h.2.2.2.2.2.2.2.1
theorem MO.sWords (h : MO z m) : z.2.2[m + 7]? = some (100, 64) := h.2.2.2.2.2.2.2.2.1
theorem MO.sNodes (h : MO z m) : z.2.2[m + 8]? = some (100, 100) := h.2.2.2.2.2.2.2.2.2.1
theorem MO.sFails (h : MO z m) : z.2.2[m + 9]? = some (100, 100) := h.2.2.2.2.2.2.2.2.2.2.1
theorem MO.sEnds (h : MO z m) : z.2.2[m + 10]? = some (100, 100) := h.2.2.2.2.2.2.2.2.2.2.2.1
theorem MO.sNexts (h : MO z m) : z.2.2[m + 11]? = some (100, 800) := h.2.2.2.2.2.2.2.2.2.2.2.2.1
theorem MO.sEnded (h : MO z m) : z.2.2[m + 12]? = some (100, 40) := h.2.2.2.2.2.2.2.2.2.2.2.2.2.1
theorem MO.sQueue (h : MO z m) : z.2.2[m + 13]? = some (101, 15520) := h.2.2.2.2.2.2.2.2.2.2.2.2.2.2.1
theorem MO.sCame (h : MO z m) : z.2.2[m + 14]? = some (101, 15520) := h.2.2.2.2.2.2.2.2.2.2.2.2.2.2.2
end MOf
def RW (I : Nat → Nat → Int32) (m : Nat) (W : List (List Nat)) : Prop := I m 15 = nI W.length ∧ ∀ (j : Nat) (u : List Nat), W[j]? = some u → I (m + 7) j = rcI u
/-- a word comes into words that stand in their order: as the class's codes do -/
def winsW (W : List (List Nat)) (u : List Nat) : List (List Nat) := if pkI u ∈ W.map pkI then W else W.take (ipos (W.map pkI) (pkI u)) ++ u :: W.drop (ipos (W.map pkI) (pkI u))
theorem winsW_map (W : List (List Nat)) (u : List Nat) : (winsW W u).map pkI = wins (W.map pkI) (pkI u) := by
  unfold winsW wins
  by_cases h : pkI u ∈ W.map pkI
  · rw [if_pos h, if_pos h]
  · rw [if_neg h, if_neg h]
    simp [List.map_take, List.map_drop]
def gatW (W : List (List Nat)) (us : List (List Nat)) : List (List Nat) := us.foldl winsW W
theorem gatW_map (W us : List (List Nat)) : (gatW W us).map pkI = gat (W.map pkI) us := by
  induction us generalizing W with
  | nil => rfl
  | cons u us ih => show (gatW (winsW W u) us).map pkI = gat (wins (W.map pkI) (pkI u)) us; rw [ih, winsW_map]
theorem mem_winsW {W : List (List Nat)} (hW : ∀ v ∈ W, okW v) {u v : List Nat} (hu : okW u) : v ∈ winsW W u ↔ v = u ∨ v ∈ W := by
  unfold winsW
  by_cases h : pkI u ∈ W.map pkI
  · rw [if_pos h]
    obtain ⟨x, hx, he⟩ := List.mem_map.mp h
    have hxu : x = u := pkI_inj (hW x hx).2.2 hu.2.2 (hW x hx).2.1 hu.2.1 he
    constructor
    · exact Or.inr
    · rintro (rfl | h2)
      · rw [← hxu]; exact hx
      · exact h2
  · rw [if_neg h]
    have e : v ∈ W ↔ v ∈ W.take (ipos (W.map pkI) (pkI u)) ∨ v ∈ W.drop (ipos (W.map pkI) (pkI u)) := by rw [← List.mem_append, List.take_append_drop]
    simp only [List.mem_append, List.mem_cons, e]
    constructor
    · rintro (h1 | h1 | h1)
      · exact Or.inr (Or.inl h1)
      · exact Or.inl h1
      · exact Or.inr (Or.inr h1)
    · rintro (h1 | h1 | h1)
      · exact Or.inr (Or.inl h1)
      · exact Or.inl h1
      · exact Or.inr (Or.inr h1)
theorem pkI_lt {u v : List Nat} (hu : ∀ c ∈ u, c < 8) (hv : ∀ c ∈ v, c < 8) : pkI u < pkI v ↔ pk u < pk v := by
  have h1 := pkw_lt hu
  have h2 := pkw_lt hv
  exact nI_ltI (by omega) (by omega)
theorem okL_srt {W : List (List Nat)} (hW : ∀ v ∈ W, okW v) : W.Pairwise (fun u v => pk u < pk v) ↔ Srt (W.map pkI) := by
  unfold Srt
  rw [List.pairwise_map]
  constructor
  · intro h
    exact List.Pairwise.imp_of_mem (fun {a b} ha hb hab => (pkI_lt (hW a ha).2.2 (hW b hb).2.2).mpr hab) h
  · intro h
    exact List.Pairwise.imp_of_mem (fun {a b} ha hb hab => (pkI_lt (hW a ha).2.2 (hW b hb).2.2).mp hab) h
theorem okL.wins {W : List (List Nat)} (h : okL W) {u : List Nat} (hu : okW u) : okL (winsW W u) := by
  have h1 : ∀ v ∈ winsW W u, okW v := fun v hv => by
    rcases (mem_winsW h.1 hu).mp hv with rfl | hv
    · exact hu
    · exact h.1 v hv
  refine ⟨h1, (okL_srt h1).mpr ?_⟩
  rw [winsW_map]
  exact wins_srt ((okL_srt h.1).mp h.2) _
theorem okL.gat {us W : List (List Nat)} (h : okL W) (hu : ∀ u ∈ us, okW u) : okL (gatW W us) := by
  induction us generalizing W with
  | nil => exact h
  | cons u us ih => exact ih (h.wins (hu u List.mem_cons_self)) (fun v hv => hu v (List.mem_cons_of_mem _ hv))
