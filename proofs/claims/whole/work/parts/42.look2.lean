/-! ===== look, its loops ===== -/
theorem lookC_in {u : zM} {S : Nat → Nat} {K : Nat → Nat → Nat} {E : Int32 → Int32 → Int32 → Int32 → Int32} {p s : Nat} (hs : s < 1024) (hp : p < 7) (st : Nat × Int32) (h10 : st.1 ≤ 10) (h : ∀ r, r < 10 → gI u 84 r = nI (wbS E K p (S (1 + p)) r (S 0))) (zr : Int32 → Int32 → Int32 → Int32 → Int32 → zM → Option (Int32 × zM)) : OW_look_42 zF zr (nI s) (nI (pop s)) (nI st.1) st.2 (nI p) 1 u = zr (nI s) (nI (pop s)) (nI (lkJ (grF E K S s p) (10 * p) st 9).1) (lkJ (grF E K S s p) (10 * p) st 9).2 (nI (p + 1)) u := by
  refine lpz (fun n (z : Int32 × Int32 × Int32) => OW_look_42 n zr (nI s) (nI (pop s)) z.1 z.2.1 (nI p) z.2.2 u) (fun j => (nI (lkJ (grF E K S s p) (10 * p) st j).1, (lkJ (grF E K S s p) (10 * p) st j).2, nI (j + 1))) 9 _ (by omega) (fun n => ?_) (fun n j hj => ?_)
  · show OW_look_42b _ _ _ _ _ _ _ _ _ = _
    simp (disch := omega) only [OW_look_42b, li0, li1, li2, li3, li4, li5, li6, li7, li8, li9, li10, li11, li12, li13, li14, li15, li16, li17, li18, li19, li20, li21, li22, li23, li24, li25, li26, li27, li28, li29, li30, li31, li32, li37, li40, li41, li42, li43, li45, li47, li48, li57, li59, li60, li61, li63, li64, li75, li97, li98, li99, li100, li120, li122, li126, li200, li240, li255, li305, li306, li375, li400, li427, li428, li1000, li2000, li9999, neg_nI1, ↓reduceIte, nI_leI, nI_ltI, nI_eq, nI_add, nI_1, pk_mul, ix_nI, ib_nI, if_true, if_false, eq_self, true_and, and_true, not_false_eq_true, not_true_eq_false, Nat.reduceEqDiff, Nat.reduceLeDiff, Nat.reduceLT, Nat.reduceAdd, Nat.reduceMul]
  · show OW_look_42b _ _ _ _ _ _ _ _ _ = OW_look_42 _ _ _ _ _ _ _ _ _
    have h1 := lkJ_le (b := 10 * p) (fun j => grF_le E K S s p j) h10 j
    have e1 := soMuch_eq hs (show j + 1 ≤ 9 by omega) h
    have h2 := soF_le E K S s p (j + 1)
    have h3 := pop_le s
    have h4 := grF_le E K S s p (j + 1)
    have e2 := max_eq (a := cnt (soF E K S s p (j + 1)) 10) (b := pop s - cnt (soF E K S s p (j + 1)) 10) (by omega) (by omega) u
    have e3 : max (cnt (soF E K S s p (j + 1)) 10) (pop s - cnt (soF E K S s p (j + 1)) 10) = grF E K S s p (j + 1) := rfl
    rw [e3] at e2
    rw [lkJ_s]
    generalize lkJ (grF E K S s p) (10 * p) st j = A at h1 ⊢
    generalize grF E K S s p (j + 1) = G at e2 h4 ⊢
    generalize cnt (soF E K S s p (j + 1)) 10 = C at e1 e2 h2
    generalize pop s = Q at e2 h2 h3 ⊢
    simp (disch := omega) only [OW_look_42b, e1, e2, pk_sub, show ¬ 9 < j + 1 by omega, zl_e, zs_e, li0, li1, li2, li3, li4, li5, li6, li7, li8, li9, li10, li11, li12, li13, li14, li15, li16, li17, li18, li19, li20, li21, li22, li23, li24, li25, li26, li27, li28, li29, li30, li31, li32, li37, li40, li41, li42, li43, li45, li47, li48, li57, li59, li60, li61, li63, li64, li75, li97, li98, li99, li100, li120, li122, li126, li200, li240, li255, li305, li306, li375, li400, li427, li428, li1000, li2000, li9999, neg_nI1, ↓reduceIte, nI_leI, nI_ltI, nI_eq, nI_add, nI_1, pk_mul, ix_nI, ib_nI, if_true, if_false, eq_self, true_and, and_true, not_false_eq_true, not_true_eq_false, Nat.reduceEqDiff, Nat.reduceLeDiff, Nat.reduceLT, Nat.reduceAdd, Nat.reduceMul]
    by_cases hc : G < A.1
    · rw [if_neg (by omega), if_pos hc]
    · rw [if_pos (by omega), if_neg hc]
theorem lookC {u : zM} {t : Nat} {N S : Nat → Nat} {K : Nat → Nat → Nat} {E : Int32 → Int32 → Int32 → Int32 → Int32} (hW : Wf N K S) (hu : NowC u t N K E 54 S) {s : Nat} (hs : s < 1024) : ∃ u', OW_look_18 zF (nI s) (nI (pop s)) (nI (pop s)) (-1) 0 u = some ((lkP (grF E K S s) (pop s) (N 0)).2, u') ∧ NowC u' t N K E 54 S ∧ Fr (fun a _ => a = t + 20 ∨ a = 84) u u' := by
  have hn0 : N 0 ≤ 7 := hW.1.1
  have lt := layT hu.2.1
  refine lprz (fun n (z : Int32 × Int32 × Int32 × zM) => OW_look_18 n (nI s) (nI (pop s)) z.1 z.2.1 z.2.2.1 z.2.2.2) (fun p z => z.1 = nI (lkP (grF E K S s) (pop s) p).1 ∧ z.2.1 = (lkP (grF E K S s) (pop s) p).2 ∧ z.2.2.1 = nI p ∧ NowC z.2.2.2 t N K E 54 S ∧ Fr (fun a _ => a = t + 20 ∨ a = 84) u z.2.2.2) (fun y => ∃ u', y = some ((lkP (grF E K S s) (pop s) (N 0)).2, u') ∧ NowC u' t N K E 54 S ∧ Fr (fun a _ => a = t + 20 ∨ a = 84) u u') (N 0) (nI (pop s), -1, 0, u) (by omega) ⟨rfl, rfl, rfl, hu, Fr.rf⟩ (fun n z hh => ?_) (fun n p z hp hh => Or.inr ?_)
  · obtain ⟨a, b, i, m⟩ := z
    obtain ⟨e1, e2, e3, h1, h2⟩ := hh
    dsimp only at e1 e2 e3 h1 h2
    subst e1 e2 e3
    have rt := h1.1
    have c0 : gI m (t + 1) 1 = nI (N 0) := h1.2.2.1.1.1
    refine ⟨m, ?_, h1, h2⟩
    show OW_look_18b _ _ _ _ _ _ _ = _
    simp (disch := omega) only [OW_look_18b, rt, lt, c0, li0, li1, li2, li3, li4, li5, li6, li7, li8, li9, li10, li11, li12, li13, li14, li15, li16, li17, li18, li19, li20, li21, li22, li23, li24, li25, li26, li27, li28, li29, li30, li31, li32, li37, li40, li41, li42, li43, li45, li47, li48, li57, li59, li60, li61, li63, li64, li75, li97, li98, li99, li100, li120, li122, li126, li200, li240, li255, li305, li306, li375, li400, li427, li428, li1000, li2000, li9999, neg_nI1, ↓reduceIte, nI_leI, nI_ltI, nI_eq, nI_add, nI_1, pk_mul, ix_nI, ib_nI, if_true, if_false, eq_self, true_and, and_true, not_false_eq_true, not_true_eq_false, Nat.reduceEqDiff, Nat.reduceLeDiff, Nat.reduceLT, Nat.reduceAdd, Nat.reduceMul, Nat.le_refl]
  · obtain ⟨a, b, i, m⟩ := z
    obtain ⟨e1, e2, e3, h1, h2⟩ := hh
    dsimp only at e1 e2 e3 h1 h2
    subst e1 e2 e3
    have rt := h1.1
    have c0 : gI m (t + 1) 1 = nI (N 0) := h1.2.2.1.1.1
    obtain ⟨m', f1, f2, f3, f4⟩ := fillTomorrow_eq hW h1 hp
    have hle := lkP_le (fun p j => grF_le E K S s p j) (pop_le s) p
    have e5 := lookC_in hs (show p < 7 by omega) _ hle f3 (OW_look_18 n)
    have e6 : OW_look_42 zF (OW_look_18 n) (nI s) (nI (pop s)) (nI (lkP (grF E K S s) (pop s) p).1) (lkP (grF E K S s) (pop s) p).2 (nI p) (nI 1) m' = _ := e5
    have e7 : lkJ (grF E K S s p) (10 * p) (lkP (grF E K S s) (pop s) p) 9 = lkP (grF E K S s) (pop s) (p + 1) := rfl
    rw [e7] at e6
    generalize lkP (grF E K S s) (pop s) (p + 1) = A at e6 ⊢
    generalize lkP (grF E K S s) (pop s) p = B at e6 ⊢
    refine ⟨(nI A.1, A.2, nI (p + 1), m'), ⟨rfl, rfl, rfl, f2, h2.tr f4⟩, ?_⟩
    show OW_look_18b _ _ _ _ _ _ _ = OW_look_18 _ _ _ _ _ _ _
    simp (disch := omega) only [OW_look_18b, rt, lt, c0, f1, e6, zl_e, zs_e, li0, li1, li2, li3, li4, li5, li6, li7, li8, li9, li10, li11, li12, li13, li14, li15, li16, li17, li18, li19, li20, li21, li22, li23, li24, li25, li26, li27, li28, li29, li30, li31, li32, li37, li40, li41, li42, li43, li45, li47, li48, li57, li59, li60, li61, li63, li64, li75, li97, li98, li99, li100, li120, li122, li126, li200, li240, li255, li305, li306, li375, li400, li427, li428, li1000, li2000, li9999, neg_nI1, ↓reduceIte, nI_leI, nI_ltI, nI_eq, nI_add, nI_1, pk_mul, ix_nI, ib_nI, if_true, if_false, eq_self, true_and, and_true, not_false_eq_true, not_true_eq_false, Nat.reduceEqDiff, Nat.reduceLeDiff, Nat.reduceLT, Nat.reduceAdd, Nat.reduceMul, Nat.not_le.mpr hp]
