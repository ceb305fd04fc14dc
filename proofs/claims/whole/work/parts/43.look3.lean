/-! ===== look, the reference's loops ===== -/
theorem lookM_in {v m : zM} {N S : Nat → Nat} {K : Nat → Nat → Nat} {E : Int32 → Int32 → Int32 → Int32 → Int32} (h : RnM v m N K E S 10 0) {p s j : Nat} (hs : s < 1024) (hp : p < N 0) (h7 : N 0 ≤ 7) (hj : j ≤ 9) (x y : Int32) (zr : Int32 → Int32 → Int32 → Int32 → Int32 → Int32 → zM → Option (Int32 × zM)) : Mo_look_50 zF zr (nI s) (nI (pop s)) x y (nI p) (nI j) 0 0 m = if nI (grF E K S s p j) < x then zr (nI s) (nI (pop s)) (nI (grF E K S s p j)) (nI (10 * p + j)) (nI p) (nI (j + 1)) m else zr (nI s) (nI (pop s)) x y (nI p) (nI (j + 1)) m := by
  refine lpz (fun n (z : Int32 × Int32) => Mo_look_50 n zr (nI s) (nI (pop s)) x y (nI p) (nI j) z.1 z.2 m) (fun k => (nI (cnt (soF E K S s p j) k), nI k)) 10 _ (by omega) (fun n => ?_) (fun n k hk => ?_)
  · show Mo_look_50b _ _ _ _ _ _ _ _ _ _ _ = _
    have h2 := soF_le E K S s p j
    have h3 := pop_le s
    have e2 := max_eq (a := cnt (soF E K S s p j) 10) (b := pop s - cnt (soF E K S s p j) 10) (by omega) (by omega) m
    have e3 : max (cnt (soF E K S s p j) 10) (pop s - cnt (soF E K S s p j) 10) = grF E K S s p j := rfl
    rw [e3] at e2
    generalize grF E K S s p j = G at e2 ⊢
    generalize cnt (soF E K S s p j) 10 = C at e2 h2 ⊢
    generalize pop s = Q at e2 h2 h3 ⊢
    simp (disch := omega) only [Mo_look_50b, e2, pk_sub, zl_e, zs_e, li0, li1, li2, li3, li4, li5, li6, li7, li8, li9, li10, li11, li12, li13, li14, li15, li16, li17, li18, li19, li20, li21, li22, li23, li24, li25, li26, li27, li28, li29, li30, li31, li32, li37, li40, li41, li42, li43, li45, li47, li48, li57, li59, li60, li61, li63, li64, li75, li97, li98, li99, li100, li120, li122, li126, li200, li240, li255, li305, li306, li375, li400, li427, li428, li1000, li2000, li9999, neg_nI1, ↓reduceIte, nI_leI, nI_ltI, nI_eq, nI_add, nI_1, pk_mul, ix_nI, ib_nI, if_true, if_false, eq_self, true_and, and_true, not_false_eq_true, not_true_eq_false, Nat.reduceEqDiff, Nat.reduceLeDiff, Nat.reduceLT, Nat.reduceAdd, Nat.reduceMul, Nat.le_refl]
  · show Mo_look_50b _ _ _ _ _ _ _ _ _ _ _ = Mo_look_50 _ _ _ _ _ _ _ _ _ _ _
    have h1 := h.2.1 k p hp (by omega)
    have wl : wbS E K p (S (1 + p)) k (S 0) ≤ 9 := clN_le _
    have e : cnt (soF E K S s p j) (k + 1) = if soF E K S s p j k then cnt (soF E K S s p j) k + 1 else cnt (soF E K S s p j) k := rfl
    have e0 : soF E K S s p j k = (s.testBit k && decide (j ≤ wbS E K p (S (1 + p)) k (S 0))) := rfl
    rw [e, e0]
    generalize wbS E K p (S (1 + p)) k (S 0) = Y at h1 wl ⊢
    generalize cnt (soF E K S s p j) k = C
    simp (disch := omega) only [Mo_look_50b, h1, zl_e, zs_e, li0, li1, li2, li3, li4, li5, li6, li7, li8, li9, li10, li11, li12, li13, li14, li15, li16, li17, li18, li19, li20, li21, li22, li23, li24, li25, li26, li27, li28, li29, li30, li31, li32, li37, li40, li41, li42, li43, li45, li47, li48, li57, li59, li60, li61, li63, li64, li75, li97, li98, li99, li100, li120, li122, li126, li200, li240, li255, li305, li306, li375, li400, li427, li428, li1000, li2000, li9999, neg_nI1, ↓reduceIte, nI_leI, nI_ltI, nI_eq, nI_add, nI_1, pk_mul, ix_nI, ib_nI, if_true, if_false, eq_self, true_and, and_true, not_false_eq_true, not_true_eq_false, Nat.reduceEqDiff, Nat.reduceLeDiff, Nat.reduceLT, Nat.reduceAdd, Nat.reduceMul, Nat.not_le.mpr hk, bn_bit hs (show k < 10 by omega), bit_lt, bit_1, Nat.add_zero]
    cases s.testBit k
    · rfl
    · rw [if_pos (by first | rfl | decide)]
      by_cases hc : Y < j
      · rw [if_pos hc, decide_eq_false (by omega)]; rfl
      · rw [if_neg hc, decide_eq_true (by omega)]; rfl
