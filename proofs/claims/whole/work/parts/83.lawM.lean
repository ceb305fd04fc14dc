/-! ===== the reference's levels ===== -/
def smS (b s t : Int32) : Int32 := if b = 21 then s - t else s + t
def tsF (g a s : Int32) : Int32 := if g = 24 then (if s ≤ a then 0 else 1) else if g = 25 then (if a = s then 1 else 0) else s
def kpF (b k t : Int32) : Int32 := if b = 26 then (if k = 0 then 0 else if t = 0 then 0 else 1) else if b = 27 then (if k = 0 then (if t = 0 then 0 else 1) else 1) else t
theorem Mo_sums_eq {v : zM} {d : Nat} (hd : d < 7) : Mo_sums (nI d) v = some ((), sI (sI v 26 d (smS (gI v 27 d) (gI v 26 d) (gI v 28 d))) 29 d 0) := by
  have hI : ib (nI d) 7 = true := ib_nI hd (by decide)
  have hx : ix (nI d) = d := ix_nI (by omega)
  unfold Mo_sums smS
  simp only [if_pos hI, hx, zl_e]
  by_cases q : gI v 27 d = 21
  · rw [if_pos q, if_pos q]
  · rw [if_neg q, if_neg q]
theorem Mo_opens_eq {v : zM} {d : Nat} (hd : d < 7) : Mo_opens (nI d) v = some ((), sI (sI (sI (sI (sI v 23 d 0) 25 d 0) 26 d 0) 27 d 20) 29 d 0) := by
  have hI : ib (nI d) 7 = true := ib_nI hd (by decide)
  have hx : ix (nI d) = d := ix_nI (by omega)
  unfold Mo_opens
  simp only [if_pos hI, hx, zl_e]
theorem Mo_tests_136_eq {v : zM} {d : Nat} (hd : d < 7) (x : Int32) : Mo_tests_136 (nI d) x v = some ((), sI (sI (sI (sI v 22 d x) 25 d 0) 26 d 0) 27 d 20) := by
  have hI : ib (nI d) 7 = true := ib_nI hd (by decide)
  have hx : ix (nI d) = d := ix_nI (by omega)
  unfold Mo_tests_136
  simp only [if_pos hI, hx, zl_e]
theorem Mo_tests_76_eq {v : zM} {d : Nat} (hd : d < 7) (t : Int32) : Mo_tests_76 (nI d) t v = some ((), sI (sI (sI (sI v 22 d (kpF (gI v 23 d) (gI v 22 d) t)) 25 d 0) 26 d 0) 27 d 20) := by
  have hI : ib (nI d) 7 = true := ib_nI hd (by decide)
  have hx : ix (nI d) = d := ix_nI (by omega)
  unfold Mo_tests_76 Mo_tests_104 Mo_tests_105 Mo_tests_106 Mo_tests_130 Mo_tests_135 kpF
  simp only [if_pos hI, hx, Mo_tests_136_eq hd]
  by_cases q1 : gI v 23 d = 26
  · have q2 : ¬ gI v 23 d = 27 := by rw [q1]; decide
    simp only [if_pos q1, if_neg q2]
    by_cases q3 : gI v 22 d = 0
    · simp only [if_pos q3]
    · simp only [if_neg q3]
      by_cases q4 : t = 0
      · simp only [if_pos q4]
      · simp only [if_neg q4]
  · simp only [if_neg q1]
    by_cases q2 : gI v 23 d = 27
    · simp only [if_pos q2]
      by_cases q3 : gI v 22 d = 0
      · simp only [if_pos q3]
        by_cases q4 : t = 0
        · simp only [if_pos q4]
        · simp only [if_neg q4]
      · simp only [if_neg q3]
    · simp only [if_neg q2]
/-- what a test at a level gives: the value kept -/
def tvF (v : zM) (d : Nat) : Int32 := kpF (gI v 23 d) (gI v 22 d) (tsF (gI v 25 d) (gI v 24 d) (smS (gI v 27 d) (gI v 26 d) (gI v 28 d)))
def tsA (d : Nat) (c k : Nat) : Prop := (c = 22 ∨ c = 25 ∨ c = 26 ∨ c = 27 ∨ c = 29) ∧ k = d
theorem Mo_tests_eq {v : zM} {d : Nat} (hd : d < 7) : ∃ v', Mo_tests (nI d) v = some ((), v') ∧ gI v' 22 d = tvF v d ∧ gI v' 25 d = nI 0 ∧ gI v' 26 d = nI 0 ∧ gI v' 27 d = nI 20 ∧ gI v' 29 d = nI 0 ∧ Fr (tsA d) v v' := by
  have hI : ib (nI d) 7 = true := ib_nI hd (by decide)
  have hx : ix (nI d) = d := ix_nI (by omega)
  let v1 := sI (sI v 26 d (smS (gI v 27 d) (gI v 26 d) (gI v 28 d))) 29 d 0
  have g26 : gI v1 26 d = smS (gI v 27 d) (gI v 26 d) (gI v 28 d) := (gs_ne (by omega)).trans (gs_eq ⟨rfl, rfl⟩)
  have g25 : gI v1 25 d = gI v 25 d := (gs_ne (by omega)).trans (gs_ne (by omega))
  have g24 : gI v1 24 d = gI v 24 d := (gs_ne (by omega)).trans (gs_ne (by omega))
  have g23 : gI v1 23 d = gI v 23 d := (gs_ne (by omega)).trans (gs_ne (by omega))
  have g22 : gI v1 22 d = gI v 22 d := (gs_ne (by omega)).trans (gs_ne (by omega))
  have f1 : Fr (tsA d) v v1 := (Fr.sI (by unfold tsA; omega)).tr (Fr.sI (by unfold tsA; omega))
  have e : Mo_tests (nI d) v = Mo_tests_76 (nI d) (tsF (gI v 25 d) (gI v 24 d) (smS (gI v 27 d) (gI v 26 d) (gI v 28 d))) v1 := by
    unfold Mo_tests Mo_tests_43 Mo_tests_44 Mo_tests_75
    rw [zb_eq (Mo_sums_eq hd)]
    show (if ib (nI d) 7 = true then zlet (gI v1 26 (ix (nI d))) _ else none) = _
    simp only [if_pos hI, hx, zl_e]
    show (if gI v1 25 d = 24 then _ else _) = _
    rw [g25, g26, g24]
    unfold tsF
    by_cases q1 : gI v 25 d = 24
    · have q2 : ¬ gI v 25 d = 25 := by rw [q1]; decide
      rw [if_pos q1, if_pos q1, if_neg q2, if_neg q2]
      by_cases q3 : smS (gI v 27 d) (gI v 26 d) (gI v 28 d) ≤ gI v 24 d
      · rw [if_pos q3, if_pos q3]
      · rw [if_neg q3, if_neg q3]
    · rw [if_neg q1, if_neg q1]
      by_cases q2 : gI v 25 d = 25
      · rw [if_pos q2, if_pos q2]
        by_cases q3 : gI v 24 d = smS (gI v 27 d) (gI v 26 d) (gI v 28 d)
        · rw [if_pos q3, if_pos q3]
        · rw [if_neg q3, if_neg q3]
      · rw [if_neg q2, if_neg q2]
  refine ⟨_, e.trans (Mo_tests_76_eq hd _), ?_, ?_, ?_, ?_, ?_, ?_⟩
  · rw [gs_ne (by omega), gs_ne (by omega), gs_ne (by omega), gs_eq ⟨rfl, rfl⟩, g23, g22]
    rfl
  · exact (gs_ne (by omega)).trans ((gs_ne (by omega)).trans (gs_eq ⟨rfl, rfl⟩))
  · exact (gs_ne (by omega)).trans (gs_eq ⟨rfl, rfl⟩)
  · exact gs_eq ⟨rfl, rfl⟩
  · exact (gs_ne (by omega)).trans ((gs_ne (by omega)).trans ((gs_ne (by omega)).trans ((gs_ne (by omega)).trans (gs_eq ⟨rfl, rfl⟩))))
  · exact (((f1.tr (Fr.sI (by unfold tsA; omega))).tr (Fr.sI (by unfold tsA; omega))).tr (Fr.sI (by unfold tsA; omega))).tr (Fr.sI (by unfold tsA; omega))
