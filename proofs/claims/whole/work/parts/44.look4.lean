/-! ===== look ===== -/
theorem lookM_mid {v m : zM} {N S : Nat → Nat} {K : Nat → Nat → Nat} {E : Int32 → Int32 → Int32 → Int32 → Int32} (h : RnM v m N K E S 10 0) {p s : Nat} (hs : s < 1024) (hp : p < N 0) (h7 : N 0 ≤ 7) (st : Nat × Int32) (h10 : st.1 ≤ 10) (zr : Int32 → Int32 → Int32 → Int32 → Int32 → zM → Option (Int32 × zM)) : Mo_look_37 zF zr (nI s) (nI (pop s)) (nI st.1) st.2 (nI p) 1 m = zr (nI s) (nI (pop s)) (nI (lkJ (grF E K S s p) (10 * p) st 9).1) (lkJ (grF E K S s p) (10 * p) st 9).2 (nI (p + 1)) m := by
  refine lpz (fun n (z : Int32 × Int32 × Int32) => Mo_look_37 n zr (nI s) (nI (pop s)) z.1 z.2.1 (nI p) z.2.2 m) (fun j => (nI (lkJ (grF E K S s p) (10 * p) st j).1, (lkJ (grF E K S s p) (10 * p) st j).2, nI (j + 1))) 9 _ (by omega) (fun n => ?_) (fun n j hj => ?_)
  · show Mo_look_37b _ _ _ _ _ _ _ _ _ = _
    simp (disch := omega) only [Mo_look_37b, li0, li1, li2, li3, li4, li5, li6, li7, li8, li9, li10, li11, li12, li13, li14, li15, li16, li17, li18, li19, li20, li21, li22, li23, li24, li25, li26, li27, li28, li29, li30, li31, li32, li37, li40, li41, li42, li43, li45, li47, li48, li57, li59, li60, li61, li63, li64, li75, li97, li98, li99, li100, li120, li122, li126, li200, li240, li255, li305, li306, li375, li400, li427, li428, li1000, li2000, li9999, neg_nI1, ↓reduceIte, nI_leI, nI_ltI, nI_eq, nI_add, nI_1, pk_mul, ix_nI, ib_nI, if_true, if_false, eq_self, true_and, and_true, not_false_eq_true, not_true_eq_false, Nat.reduceEqDiff, Nat.reduceLeDiff, Nat.reduceLT, Nat.reduceAdd, Nat.reduceMul]
  · show Mo_look_37b _ _ _ _ _ _ _ _ _ = Mo_look_37 _ _ _ _ _ _ _ _ _
    have h1 := lkJ_le (b := 10 * p) (fun j => grF_le E K S s p j) h10 j
    have h4 := grF_le E K S s p (j + 1)
    rw [lkJ_s]
    generalize lkJ (grF E K S s p) (10 * p) st j = A at h1 ⊢
    have e1 := lookM_in h hs hp h7 (show j + 1 ≤ 9 by omega) (nI A.1) A.2 (Mo_look_37 n zr)
    have e2 : Mo_look_50 zF (Mo_look_37 n zr) (nI s) (nI (pop s)) (nI A.1) A.2 (nI p) (nI (j + 1)) (nI 0) (nI 0) m = _ := e1
    generalize grF E K S s p (j + 1) = G at e2 h4 ⊢
    simp (disch := omega) only [Mo_look_37b, e2, li0, li1, li2, li3, li4, li5, li6, li7, li8, li9, li10, li11, li12, li13, li14, li15, li16, li17, li18, li19, li20, li21, li22, li23, li24, li25, li26, li27, li28, li29, li30, li31, li32, li37, li40, li41, li42, li43, li45, li47, li48, li57, li59, li60, li61, li63, li64, li75, li97, li98, li99, li100, li120, li122, li126, li200, li240, li255, li305, li306, li375, li400, li427, li428, li1000, li2000, li9999, neg_nI1, ↓reduceIte, nI_leI, nI_ltI, nI_eq, nI_add, nI_1, pk_mul, ix_nI, ib_nI, if_true, if_false, eq_self, true_and, and_true, not_false_eq_true, not_true_eq_false, Nat.reduceEqDiff, Nat.reduceLeDiff, Nat.reduceLT, Nat.reduceAdd, Nat.reduceMul, show ¬ 10 ≤ j + 1 by omega]
    by_cases hc : G < A.1
    · rw [if_pos hc, if_pos hc]
    · rw [if_neg hc, if_neg hc]
theorem lookM {v m : zM} {N S : Nat → Nat} {K : Nat → Nat → Nat} {E : Int32 → Int32 → Int32 → Int32 → Int32} (h : RnM v m N K E S 10 0) {s : Nat} (hs : s < 1024) (h7 : N 0 ≤ 7) : Mo_look_23 zF (nI s) (nI (pop s)) (nI (pop s)) (-1) 0 m = some ((lkP (grF E K S s) (pop s) (N 0)).2, m) := by
  have m0 : gI m 3 0 = nI (N 0) := h.1.1.1 0 (by omega)
  refine lpz (fun n (z : Int32 × Int32 × Int32) => Mo_look_23 n (nI s) (nI (pop s)) z.1 z.2.1 z.2.2 m) (fun p => (nI (lkP (grF E K S s) (pop s) p).1, (lkP (grF E K S s) (pop s) p).2, nI p)) (N 0) _ (by omega) (fun n => ?_) (fun n p hp => ?_)
  · show Mo_look_23b _ _ _ _ _ _ _ = _
    simp (disch := omega) only [Mo_look_23b, m0, li0, li1, li2, li3, li4, li5, li6, li7, li8, li9, li10, li11, li12, li13, li14, li15, li16, li17, li18, li19, li20, li21, li22, li23, li24, li25, li26, li27, li28, li29, li30, li31, li32, li37, li40, li41, li42, li43, li45, li47, li48, li57, li59, li60, li61, li63, li64, li75, li97, li98, li99, li100, li120, li122, li126, li200, li240, li255, li305, li306, li375, li400, li427, li428, li1000, li2000, li9999, neg_nI1, ↓reduceIte, nI_leI, nI_ltI, nI_eq, nI_add, nI_1, pk_mul, ix_nI, ib_nI, if_true, if_false, eq_self, true_and, and_true, not_false_eq_true, not_true_eq_false, Nat.reduceEqDiff, Nat.reduceLeDiff, Nat.reduceLT, Nat.reduceAdd, Nat.reduceMul, Nat.le_refl]
  · show Mo_look_23b _ _ _ _ _ _ _ = Mo_look_23 _ _ _ _ _ _ _
    have hle := lkP_le (fun p j => grF_le E K S s p j) (pop_le s) p
    have e5 := lookM_mid h hs hp h7 _ hle (Mo_look_23 n)
    have e6 : Mo_look_37 zF (Mo_look_23 n) (nI s) (nI (pop s)) (nI (lkP (grF E K S s) (pop s) p).1) (lkP (grF E K S s) (pop s) p).2 (nI p) (nI 1) m = _ := e5
    have e7 : lkJ (grF E K S s p) (10 * p) (lkP (grF E K S s) (pop s) p) 9 = lkP (grF E K S s) (pop s) (p + 1) := rfl
    rw [e7] at e6
    generalize lkP (grF E K S s) (pop s) (p + 1) = A at e6 ⊢
    generalize lkP (grF E K S s) (pop s) p = B at e6 ⊢
    simp (disch := omega) only [Mo_look_23b, m0, e6, li0, li1, li2, li3, li4, li5, li6, li7, li8, li9, li10, li11, li12, li13, li14, li15, li16, li17, li18, li19, li20, li21, li22, li23, li24, li25, li26, li27, li28, li29, li30, li31, li32, li37, li40, li41, li42, li43, li45, li47, li48, li57, li59, li60, li61, li63, li64, li75, li97, li98, li99, li100, li120, li122, li126, li200, li240, li255, li305, li306, li375, li400, li427, li428, li1000, li2000, li9999, neg_nI1, ↓reduceIte, nI_leI, nI_ltI, nI_eq, nI_add, nI_1, pk_mul, ix_nI, ib_nI, if_true, if_false, eq_self, true_and, and_true, not_false_eq_true, not_true_eq_false, Nat.reduceEqDiff, Nat.reduceLeDiff, Nat.reduceLT, Nat.reduceAdd, Nat.reduceMul, Nat.not_le.mpr hp]
