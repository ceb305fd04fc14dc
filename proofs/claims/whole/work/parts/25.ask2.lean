/-! ===== more questions of how it is ===== -/
theorem q_late {u v : zM} {t : Nat} {N S : Nat → Nat} {K : Nat → Nat → Nat} {E : Int32 → Int32 → Int32 → Int32 → Int32} (hW : Wf N K S) (hu : NowC u t N K E 54 S) (hz : NowM v N K E S) : ∃ r, OW_late u = some (r, u) ∧ Mo_late v = some (r, sI v 1 0 0) := by
  unfold Mo_late OW_late
  dsimp only [zlet]
  have hz := hz.th hW.1
  generalize sI v 1 0 0 = v at *
  have hW' := hW
  have hu' := hu
  have hz' := hz
  obtain ⟨⟨n0, n1, n2, n3, n4, n5⟩, ⟨wp, wq, wo, ww, wi⟩, ⟨z0, zp, zq, zo, zw⟩⟩ := hW
  obtain ⟨rt, ht, ⟨⟨c0, c1, c2, c3, c4, c5⟩, cp, cq, co, cw, ci⟩, hl, ⟨s0, sp, sq, so, sw⟩⟩ := hu
  have lt := layT ht
  obtain ⟨⟨m0, mp, mq, mo, mw, mi⟩, hlm, ⟨x0, xp, xq, xo, xw⟩⟩ := hz
  simp only [Nat.zero_add] at x0 xp xq xo xw
  refine ⟨nI (mk (fun w => decide (S (19 + w) ≠ 3 ∧ K 4 w < S 0)) (N 4)), ?_, ?_⟩
  · refine lpz (fun n (s : Int32 × Int32) => OW_late_4 n s.1 s.2 u) (fun k => (nI (mk (fun w => decide (S (19 + w) ≠ 3 ∧ K 4 w < S 0)) k), nI k)) (N 4) _ (by omega) (fun n => ?_) (fun n k hk => ?_)
    · show OW_late_4b _ _ _ _ = _
      simp (disch := omega) only [OW_late_4b, li0, li1, li2, li3, li4, li5, li6, li7, li8, li9, li10, li11, li12, li13, li14, li15, li16, li17, li18, li19, li20, li21, li22, li23, li24, li25, li26, li27, li28, li29, li30, li31, li32, li37, li40, li41, li42, li43, li45, li47, li48, li57, li59, li60, li61, li63, li64, li75, li97, li98, li99, li100, li120, li122, li126, li200, li240, li255, li305, li306, li375, li400, li427, li428, li1000, li2000, li9999, neg_nI1, ↓reduceIte, nI_leI, nI_ltI, nI_eq, nI_add, nI_1, pk_mul, ix_nI, ib_nI, if_true, if_false, eq_self, true_and, and_true, not_false_eq_true, not_true_eq_false, Nat.reduceEqDiff, Nat.reduceLeDiff, Nat.reduceLT, Nat.reduceAdd, Nat.reduceMul, rt, lt, c0, c1, c2, c3, c4, c5, cp, cq, co, cw, ci, s0, sp, sq, so, sw, Nat.le_refl]
    · show OW_late_4b _ _ _ _ = OW_late_4 _ _ _ _
      have h9 := zw k hk
      have h8 := ww k hk
      simp (disch := omega) only [OW_late_4b, zl_e, zs_e, li0, li1, li2, li3, li4, li5, li6, li7, li8, li9, li10, li11, li12, li13, li14, li15, li16, li17, li18, li19, li20, li21, li22, li23, li24, li25, li26, li27, li28, li29, li30, li31, li32, li37, li40, li41, li42, li43, li45, li47, li48, li57, li59, li60, li61, li63, li64, li75, li97, li98, li99, li100, li120, li122, li126, li200, li240, li255, li305, li306, li375, li400, li427, li428, li1000, li2000, li9999, neg_nI1, ↓reduceIte, nI_leI, nI_ltI, nI_eq, nI_add, nI_1, pk_mul, ix_nI, ib_nI, if_true, if_false, eq_self, true_and, and_true, not_false_eq_true, not_true_eq_false, Nat.reduceEqDiff, Nat.reduceLeDiff, Nat.reduceLT, Nat.reduceAdd, Nat.reduceMul, rt, lt, c0, c1, c2, c3, c4, c5, cp, cq, co, cw, ci, s0, sp, sq, so, sw, hv_eq, Nat.not_le.mpr hk, bn_or (mk_lt10 _ (show k < 10 by omega))]
      by_cases h : S (19 + k) = 3
      · rw [if_pos h, mk_f (by simp [h])]
      · rw [if_neg h]
        by_cases h2 : S 0 ≤ K 4 k
        · rw [if_pos h2, mk_f (by simp [Nat.not_lt.mpr h2])]
        · rw [if_neg h2, mk_t (by simp [h, Nat.not_le.mp h2])]
  · refine lpz (fun n (s : Int32 × Int32) => Mo_late_9 n s.1 s.2 v) (fun k => (nI (mk (fun w => decide (S (19 + w) ≠ 3 ∧ K 4 w < S 0)) k), nI k)) (N 4) _ (by omega) (fun n => ?_) (fun n k hk => ?_)
    · show Mo_late_9b _ _ _ _ = _
      simp (disch := omega) only [Mo_late_9b, li0, li1, li2, li3, li4, li5, li6, li7, li8, li9, li10, li11, li12, li13, li14, li15, li16, li17, li18, li19, li20, li21, li22, li23, li24, li25, li26, li27, li28, li29, li30, li31, li32, li37, li40, li41, li42, li43, li45, li47, li48, li57, li59, li60, li61, li63, li64, li75, li97, li98, li99, li100, li120, li122, li126, li200, li240, li255, li305, li306, li375, li400, li427, li428, li1000, li2000, li9999, neg_nI1, ↓reduceIte, nI_leI, nI_ltI, nI_eq, nI_add, nI_1, pk_mul, ix_nI, ib_nI, if_true, if_false, eq_self, true_and, and_true, not_false_eq_true, not_true_eq_false, Nat.reduceEqDiff, Nat.reduceLeDiff, Nat.reduceLT, Nat.reduceAdd, Nat.reduceMul, m0, mp, mq, mo, mw, mi, x0, xp, xq, xo, xw, Nat.le_refl]
    · show Mo_late_9b _ _ _ _ = Mo_late_9 _ _ _ _
      have h9 := zw k hk
      have h8 := ww k hk
      simp (disch := omega) only [Mo_late_9b, zl_e, zs_e, li0, li1, li2, li3, li4, li5, li6, li7, li8, li9, li10, li11, li12, li13, li14, li15, li16, li17, li18, li19, li20, li21, li22, li23, li24, li25, li26, li27, li28, li29, li30, li31, li32, li37, li40, li41, li42, li43, li45, li47, li48, li57, li59, li60, li61, li63, li64, li75, li97, li98, li99, li100, li120, li122, li126, li200, li240, li255, li305, li306, li375, li400, li427, li428, li1000, li2000, li9999, neg_nI1, ↓reduceIte, nI_leI, nI_ltI, nI_eq, nI_add, nI_1, pk_mul, ix_nI, ib_nI, if_true, if_false, eq_self, true_and, and_true, not_false_eq_true, not_true_eq_false, Nat.reduceEqDiff, Nat.reduceLeDiff, Nat.reduceLT, Nat.reduceAdd, Nat.reduceMul, m0, mp, mq, mo, mw, mi, x0, xp, xq, xo, xw, hv_eq, Nat.not_le.mpr hk, bn_or0, bn_or (mk_lt10 _ (show k < 10 by omega))]
      by_cases h : S (19 + k) = 3
      · rw [if_pos h, mk_f (by simp [h])]
      · rw [if_neg h]
        by_cases h2 : S 0 ≤ K 4 k
        · rw [if_pos h2, mk_f (by simp [Nat.not_lt.mpr h2])]
        · rw [if_neg h2, mk_t (by simp [h, Nat.not_le.mp h2])]
theorem q_may {u v : zM} {t : Nat} {N S : Nat → Nat} {K : Nat → Nat → Nat} {E : Int32 → Int32 → Int32 → Int32 → Int32} (hW : Wf N K S) (hu : NowC u t N K E 54 S) (hz : NowM v N K E S) (x : Int32) : ∃ r, OW_may x u = some (r, u) ∧ Mo_may x v = some (r, sI v 1 0 0) := by
  unfold Mo_may OW_may
  dsimp only [zlet]
  have hz := hz.th hW.1
  generalize sI v 1 0 0 = v at *
  have hW' := hW
  have hu' := hu
  have hz' := hz
  obtain ⟨⟨n0, n1, n2, n3, n4, n5⟩, ⟨wp, wq, wo, ww, wi⟩, ⟨z0, zp, zq, zo, zw⟩⟩ := hW
  obtain ⟨rt, ht, ⟨⟨c0, c1, c2, c3, c4, c5⟩, cp, cq, co, cw, ci⟩, hl, ⟨s0, sp, sq, so, sw⟩⟩ := hu
  have lt := layT ht
  obtain ⟨⟨m0, mp, mq, mo, mw, mi⟩, hlm, ⟨x0, xp, xq, xo, xw⟩⟩ := hz
  simp only [Nat.zero_add] at x0 xp xq xo xw
  rw [rt, if_pos lt]
  rcases arg_ix x (show N 4 < 2 ^ 31 by omega) with ⟨w, hw, rfl⟩ | h
  · refine ⟨bI (svB N K S w), ?_, ?_⟩
    · rw [zb_eq (St_mayServe_ok hW' hu' StA54 hw), zbo_bI]
    · rw [zb_eq (Mo_isWrit_ok hW' hz' hw), if_neg (by decide), zb_eq (Mo_canServe_eq hW' hz' hw)]
      cases svB N K S w <;> rfl
  · refine ⟨nI 0, ?_, ?_⟩
    · rw [zb_eq (St_mayServe_no hW' hu' StA54 h)]
      rfl
    · rw [zb_eq (Mo_isWrit_no hW' hz' h)]
      rfl
theorem q_can {u v : zM} {t : Nat} {N S : Nat → Nat} {K : Nat → Nat → Nat} {E : Int32 → Int32 → Int32 → Int32 → Int32} (hW : Wf N K S) (hu : NowC u t N K E 54 S) (hz : NowM v N K E S) (x : Int32) : ∃ r, OW_can x u = some (r, u) ∧ Mo_can x v = some (r, sI v 1 0 0) := by
  unfold Mo_can OW_can
  dsimp only [zlet]
  have hz := hz.th hW.1
  generalize sI v 1 0 0 = v at *
  have hW' := hW
  have hu' := hu
  have hz' := hz
  obtain ⟨⟨n0, n1, n2, n3, n4, n5⟩, ⟨wp, wq, wo, ww, wi⟩, ⟨z0, zp, zq, zo, zw⟩⟩ := hW
  obtain ⟨rt, ht, ⟨⟨c0, c1, c2, c3, c4, c5⟩, cp, cq, co, cw, ci⟩, hl, ⟨s0, sp, sq, so, sw⟩⟩ := hu
  have lt := layT ht
  obtain ⟨⟨m0, mp, mq, mo, mw, mi⟩, hlm, ⟨x0, xp, xq, xo, xw⟩⟩ := hz
  simp only [Nat.zero_add] at x0 xp xq xo xw
  rcases arg_ix x (show N 3 < 2 ^ 31 by omega) with ⟨w, hw, rfl⟩ | h
  · refine ⟨nI (canS N K S w), ?_, ?_⟩
    · rw [zb_eq (OW_isOtter_ok hW' hu' hw), if_neg (by decide), ← canS_mk]
      refine lpz (fun n (s : Int32 × Int32) => OW_can_14 n (nI w) s.1 s.2 u) (fun k => (nI (mk (fun p => swB K S w p) k), nI k)) (N 0) _ (by omega) (fun n => ?_) (fun n k hk => ?_)
      · show OW_can_14b _ _ _ _ _ = _
        simp (disch := omega) only [OW_can_14b, li0, li1, li2, li3, li4, li5, li6, li7, li8, li9, li10, li11, li12, li13, li14, li15, li16, li17, li18, li19, li20, li21, li22, li23, li24, li25, li26, li27, li28, li29, li30, li31, li32, li37, li40, li41, li42, li43, li45, li47, li48, li57, li59, li60, li61, li63, li64, li75, li97, li98, li99, li100, li120, li122, li126, li200, li240, li255, li305, li306, li375, li400, li427, li428, li1000, li2000, li9999, neg_nI1, ↓reduceIte, nI_leI, nI_ltI, nI_eq, nI_add, nI_1, pk_mul, ix_nI, ib_nI, if_true, if_false, eq_self, true_and, and_true, not_false_eq_true, not_true_eq_false, Nat.reduceEqDiff, Nat.reduceLeDiff, Nat.reduceLT, Nat.reduceAdd, Nat.reduceMul, rt, lt, c0, c1, c2, c3, c4, c5, cp, cq, co, cw, ci, s0, sp, sq, so, sw, Nat.le_refl]
      · show OW_can_14b _ _ _ _ _ = OW_can_14 _ _ _ _ _
        have e := St_maySwim_ok hW' hu' StA54 hw hk
        simp (disch := omega) only [OW_can_14b, zl_e, zs_e, li0, li1, li2, li3, li4, li5, li6, li7, li8, li9, li10, li11, li12, li13, li14, li15, li16, li17, li18, li19, li20, li21, li22, li23, li24, li25, li26, li27, li28, li29, li30, li31, li32, li37, li40, li41, li42, li43, li45, li47, li48, li57, li59, li60, li61, li63, li64, li75, li97, li98, li99, li100, li120, li122, li126, li200, li240, li255, li305, li306, li375, li400, li427, li428, li1000, li2000, li9999, neg_nI1, ↓reduceIte, nI_leI, nI_ltI, nI_eq, nI_add, nI_1, pk_mul, ix_nI, ib_nI, if_true, if_false, eq_self, true_and, and_true, not_false_eq_true, not_true_eq_false, Nat.reduceEqDiff, Nat.reduceLeDiff, Nat.reduceLT, Nat.reduceAdd, Nat.reduceMul, rt, lt, c0, c1, c2, c3, c4, c5, cp, cq, co, cw, ci, s0, sp, sq, so, sw, Nat.not_le.mpr hk, e, bI_0, bn_or (mk_lt10 _ (show k < 10 by omega))]
        cases h : swB K S w k
        · rw [if_pos rfl, mk_f h]
        · rw [if_neg (by decide), mk_t h]
    · rw [zb_eq (Mo_isOtter_ok hW' hz' hw), if_neg (by decide), zb_eq (Mo_canSwim_eq hW' hz' hw)]
  · refine ⟨mI, ?_, ?_⟩
    · rw [zb_eq (OW_isOtter_no hW' hu' h)]
      rfl
    · rw [zb_eq (Mo_isOtter_no hW' hz' h)]
      rfl
/-- the first of the greatest -/
def am (f : Nat → Nat) : Nat → Nat × Int32
  | 0 => (0, mI)
  | k + 1 => if (am f k).1 < f k then (f k, nI k) else am f k
theorem am_le {f : Nat → Nat} {B : Nat} (h : ∀ k, f k ≤ B) (k : Nat) : (am f k).1 ≤ B := by
  induction k with
  | zero => exact Nat.zero_le _
  | succ k ih =>
    unfold am
    split
    · exact h k
    · exact ih
theorem am_s (f : Nat → Nat) (k : Nat) : am f (k + 1) = if (am f k).1 < f k then (f k, nI k) else am f k := rfl
theorem whoS_lt {N S : Nat → Nat} (hN : WfN N) (p : Nat) : whoS N S p < 1024 := mk_1024 _ (by have := hN.2.2.1; omega)
theorem q_warm {u v : zM} {t : Nat} {N S : Nat → Nat} {K : Nat → Nat → Nat} {E : Int32 → Int32 → Int32 → Int32 → Int32} (hW : Wf N K S) (hu : NowC u t N K E 54 S) (hz : NowM v N K E S) : ∃ r, OW_warm u = some (r, u) ∧ Mo_warm v = some (r, sI v 1 0 0) := by
  unfold Mo_warm OW_warm
  dsimp only [zlet]
  have hz := hz.th hW.1
  generalize sI v 1 0 0 = v at *
  have hW' := hW
  have hu' := hu
  have hz' := hz
  obtain ⟨⟨n0, n1, n2, n3, n4, n5⟩, ⟨wp, wq, wo, ww, wi⟩, ⟨z0, zp, zq, zo, zw⟩⟩ := hW
  obtain ⟨rt, ht, ⟨⟨c0, c1, c2, c3, c4, c5⟩, cp, cq, co, cw, ci⟩, hl, ⟨s0, sp, sq, so, sw⟩⟩ := hu
  have lt := layT ht
  obtain ⟨⟨m0, mp, mq, mo, mw, mi⟩, hlm, ⟨x0, xp, xq, xo, xw⟩⟩ := hz
  simp only [Nat.zero_add] at x0 xp xq xo xw
  have hb := fun k => am_le (fun p => pop_le (whoS N S p)) k
  refine ⟨(am (fun p => pop (whoS N S p)) (N 0)).2, ?_, ?_⟩
  · refine lpz (fun n (s : Int32 × Int32 × Int32) => OW_warm_6 n s.1 s.2.1 s.2.2 u) (fun k => ((am (fun p => pop (whoS N S p)) k).2, nI (am (fun p => pop (whoS N S p)) k).1, nI k)) (N 0) _ (by omega) (fun n => ?_) (fun n k hk => ?_)
    · show OW_warm_6b _ _ _ _ _ = _
      simp (disch := omega) only [OW_warm_6b, li0, li1, li2, li3, li4, li5, li6, li7, li8, li9, li10, li11, li12, li13, li14, li15, li16, li17, li18, li19, li20, li21, li22, li23, li24, li25, li26, li27, li28, li29, li30, li31, li32, li37, li40, li41, li42, li43, li45, li47, li48, li57, li59, li60, li61, li63, li64, li75, li97, li98, li99, li100, li120, li122, li126, li200, li240, li255, li305, li306, li375, li400, li427, li428, li1000, li2000, li9999, neg_nI1, ↓reduceIte, nI_leI, nI_ltI, nI_eq, nI_add, nI_1, pk_mul, ix_nI, ib_nI, if_true, if_false, eq_self, true_and, and_true, not_false_eq_true, not_true_eq_false, Nat.reduceEqDiff, Nat.reduceLeDiff, Nat.reduceLT, Nat.reduceAdd, Nat.reduceMul, rt, lt, c0, c1, c2, c3, c4, c5, cp, cq, co, cw, ci, s0, sp, sq, so, sw, Nat.le_refl]
    · show OW_warm_6b _ _ _ _ _ = OW_warm_6 _ _ _ _ _
      have h1 := hb k
      have e : OW_bitsOf 56 (nI (N 2)) (nI k) u = some (nI (whoS N S k), u) := OW_bitsOf_eq layS54.1 n2 (by omega) (fun q => decide (S (8 + q) = k)) (nI k) (fun i hi => by have := zq i hi; rw [sq i hi, nI_eq (by omega) (by omega)]; simp)
      have e2 := bitCount_pop (whoS_lt (S := S) hW'.1 k) u
      have h2 := pop_le (whoS N S k)
      rw [am_s]
      generalize am (fun p => pop (whoS N S p)) k = A at h1 ⊢
      generalize pop (whoS N S k) = P at e2 h2 ⊢
      simp (disch := omega) only [OW_warm_6b, zl_e, zs_e, li0, li1, li2, li3, li4, li5, li6, li7, li8, li9, li10, li11, li12, li13, li14, li15, li16, li17, li18, li19, li20, li21, li22, li23, li24, li25, li26, li27, li28, li29, li30, li31, li32, li37, li40, li41, li42, li43, li45, li47, li48, li57, li59, li60, li61, li63, li64, li75, li97, li98, li99, li100, li120, li122, li126, li200, li240, li255, li305, li306, li375, li400, li427, li428, li1000, li2000, li9999, neg_nI1, ↓reduceIte, nI_leI, nI_ltI, nI_eq, nI_add, nI_1, pk_mul, ix_nI, ib_nI, if_true, if_false, eq_self, true_and, and_true, not_false_eq_true, not_true_eq_false, Nat.reduceEqDiff, Nat.reduceLeDiff, Nat.reduceLT, Nat.reduceAdd, Nat.reduceMul, rt, lt, c0, c1, c2, c3, c4, c5, cp, cq, co, cw, ci, s0, sp, sq, so, sw, Nat.not_le.mpr hk, e, e2]
      by_cases h : A.1 < P
      · rw [if_neg (by omega), if_pos h]
      · rw [if_pos (by omega), if_neg h]
  · refine lpz (fun n (s : Int32 × Int32 × Int32) => Mo_warm_11 n s.1 s.2.1 s.2.2 v) (fun k => ((am (fun p => pop (whoS N S p)) k).2, nI (am (fun p => pop (whoS N S p)) k).1, nI k)) (N 0) _ (by omega) (fun n => ?_) (fun n k hk => ?_)
    · show Mo_warm_11b _ _ _ _ _ = _
      simp (disch := omega) only [Mo_warm_11b, li0, li1, li2, li3, li4, li5, li6, li7, li8, li9, li10, li11, li12, li13, li14, li15, li16, li17, li18, li19, li20, li21, li22, li23, li24, li25, li26, li27, li28, li29, li30, li31, li32, li37, li40, li41, li42, li43, li45, li47, li48, li57, li59, li60, li61, li63, li64, li75, li97, li98, li99, li100, li120, li122, li126, li200, li240, li255, li305, li306, li375, li400, li427, li428, li1000, li2000, li9999, neg_nI1, ↓reduceIte, nI_leI, nI_ltI, nI_eq, nI_add, nI_1, pk_mul, ix_nI, ib_nI, if_true, if_false, eq_self, true_and, and_true, not_false_eq_true, not_true_eq_false, Nat.reduceEqDiff, Nat.reduceLeDiff, Nat.reduceLT, Nat.reduceAdd, Nat.reduceMul, m0, mp, mq, mo, mw, mi, x0, xp, xq, xo, xw, Nat.le_refl]
    · show Mo_warm_11b _ _ _ _ _ = Mo_warm_11 _ _ _ _ _
      have h1 := hb k
      have e := Mo_whoAt_eq hW' hz' (show k < 7 by omega)
      have e2 := bits_pop (whoS_lt (S := S) hW'.1 k) v
      have h2 := pop_le (whoS N S k)
      rw [am_s]
      generalize am (fun p => pop (whoS N S p)) k = A at h1 ⊢
      generalize pop (whoS N S k) = P at e2 h2 ⊢
      simp (disch := omega) only [Mo_warm_11b, zl_e, zs_e, li0, li1, li2, li3, li4, li5, li6, li7, li8, li9, li10, li11, li12, li13, li14, li15, li16, li17, li18, li19, li20, li21, li22, li23, li24, li25, li26, li27, li28, li29, li30, li31, li32, li37, li40, li41, li42, li43, li45, li47, li48, li57, li59, li60, li61, li63, li64, li75, li97, li98, li99, li100, li120, li122, li126, li200, li240, li255, li305, li306, li375, li400, li427, li428, li1000, li2000, li9999, neg_nI1, ↓reduceIte, nI_leI, nI_ltI, nI_eq, nI_add, nI_1, pk_mul, ix_nI, ib_nI, if_true, if_false, eq_self, true_and, and_true, not_false_eq_true, not_true_eq_false, Nat.reduceEqDiff, Nat.reduceLeDiff, Nat.reduceLT, Nat.reduceAdd, Nat.reduceMul, m0, mp, mq, mo, mw, mi, x0, xp, xq, xo, xw, Nat.not_le.mpr hk, e, e2]
      by_cases h : A.1 < P
      · rw [if_pos h, if_pos h]
      · rw [if_neg h, if_neg h]
theorem cnt_mk (P : Nat → Bool) {n : Nat} : ∀ m, n ≤ m → cnt (fun k => (mk P n).testBit k) m = cnt P n := by
  have h0 : ∀ j, j ≤ n → cnt (fun k => (mk P n).testBit k) j = cnt P j := by
    intro j
    induction j with
    | zero => intro _; rfl
    | succ j ih =>
      intro h
      show (if (mk P n).testBit j then _ else _) = (if P j then _ else _)
      rw [ih (by omega), mk_bit]
      simp [show j < n by omega]
  intro m
  induction m with
  | zero => intro h; have : n = 0 := by omega
            subst this; rfl
  | succ m ih =>
    intro h
    by_cases e : n = m + 1
    · subst e; exact h0 _ (Nat.le_refl _)
    · show (if (mk P n).testBit m then _ else _) = _
      rw [mk_bit, ih (by omega)]
      simp [show ¬ m < n by omega]
theorem pop_mk (P : Nat → Bool) {n : Nat} (h : n ≤ 10) : pop (mk P n) = cnt P n := cnt_mk P 10 h
theorem mk_and (P Q : Nat → Bool) (n : Nat) : mk P n &&& mk Q n = mk (fun k => P k && Q k) n := by
  apply Nat.eq_of_testBit_eq
  intro i
  rw [Nat.testBit_and, mk_bit, mk_bit, mk_bit]
  cases decide (i < n) <;> simp
theorem open_eq : ∀ n, n < 7 → ∀ b, b < 64 → ((nI 1 <<< (nI n &&& nI 31)) - nI 1) &&& (nI b ^^^ mI) = nI (mk (fun w => !b.testBit w) n) := by decide +kernel
def hunF (N : Nat → Nat) (K : Nat → Nat → Nat) (S : Nat → Nat) (q w : Nat) : Bool := decide (K 3 w = q) && !decide (S (19 + w) = 3)
theorem mk_64 (P : Nat → Bool) {n : Nat} (h : n ≤ 6) : mk P n < 64 := Nat.lt_of_lt_of_le (mk_lt P n) (show 2 ^ n ≤ 2 ^ 6 from Nat.pow_le_pow_right (by decide) h)
theorem q_hunted {u v : zM} {t : Nat} {N S : Nat → Nat} {K : Nat → Nat → Nat} {E : Int32 → Int32 → Int32 → Int32 → Int32} (hW : Wf N K S) (hu : NowC u t N K E 54 S) (hz : NowM v N K E S) : ∃ r, OW_hunted u = some (r, u) ∧ Mo_hunted v = some (r, sI v 1 0 0) := by
  unfold Mo_hunted OW_hunted
  dsimp only [zlet]
  have hz := hz.th hW.1
  generalize sI v 1 0 0 = v at *
  have hW' := hW
  have hu' := hu
  have hz' := hz
  obtain ⟨⟨n0, n1, n2, n3, n4, n5⟩, ⟨wp, wq, wo, ww, wi⟩, ⟨z0, zp, zq, zo, zw⟩⟩ := hW
  obtain ⟨rt, ht, ⟨⟨c0, c1, c2, c3, c4, c5⟩, cp, cq, co, cw, ci⟩, hl, ⟨s0, sp, sq, so, sw⟩⟩ := hu
  have lt := layT ht
  obtain ⟨⟨m0, mp, mq, mo, mw, mi⟩, hlm, ⟨x0, xp, xq, xo, xw⟩⟩ := hz
  simp only [Nat.zero_add] at x0 xp xq xo xw
  have hc : ∀ q, cnt (hunF N K S q) (N 4) ≤ 6 := fun q => Nat.le_trans (cnt_le _ _) n4
  have hb := fun k => am_le hc k
  refine ⟨(am (fun q => cnt (hunF N K S q) (N 4)) (N 2)).2, ?_, ?_⟩
  · have e0 : OW_bitsOf 59 (nI (N 4)) (nI 3) u = some (nI (wriS N S 3), u) := OW_bitsOf_eq layS54.2.2.1 n4 (by omega) (fun q => decide (S (19 + q) = 3)) (nI 3) (fun i hi => by have := zw i hi; rw [sw i hi, hv_eq (by omega) (by omega)]; simp)
    have e5 := open_eq (N 4) (by omega) (wriS N S 3) (mk_64 _ n4)
    have e6 : mk (fun w => !(wriS N S 3).testBit w) (N 4) = mk (fun w => !decide (S (19 + w) = 3)) (N 4) := mk_congr (fun k hk => by show (!(mk _ _).testBit k) = _; rw [mk_bit]; simp [hk])
    simp (disch := omega) only [Co_allWrits, zl_e, zs_e, li0, li1, li2, li3, li4, li5, li6, li7, li8, li9, li10, li11, li12, li13, li14, li15, li16, li17, li18, li19, li20, li21, li22, li23, li24, li25, li26, li27, li28, li29, li30, li31, li32, li37, li40, li41, li42, li43, li45, li47, li48, li57, li59, li60, li61, li63, li64, li75, li97, li98, li99, li100, li120, li122, li126, li200, li240, li255, li305, li306, li375, li400, li427, li428, li1000, li2000, li9999, neg_nI1, ↓reduceIte, nI_leI, nI_ltI, nI_eq, nI_add, nI_1, pk_mul, ix_nI, ib_nI, if_true, if_false, eq_self, true_and, and_true, not_false_eq_true, not_true_eq_false, Nat.reduceEqDiff, Nat.reduceLeDiff, Nat.reduceLT, Nat.reduceAdd, Nat.reduceMul, rt, lt, c0, c1, c2, c3, c4, c5, cp, cq, co, cw, ci, s0, sp, sq, so, sw, e0, e5, e6]
    refine lpz (fun n (s : Int32 × Int32 × Int32) => OW_hunted_39 n s.1 s.2.1 (nI (mk (fun w => !decide (S (19 + w) = 3)) (N 4))) s.2.2 u) (fun k => ((am (fun q => cnt (hunF N K S q) (N 4)) k).2, nI (am (fun q => cnt (hunF N K S q) (N 4)) k).1, nI k)) (N 2) _ (by omega) (fun n => ?_) (fun n k hk => ?_)
    · show OW_hunted_39b _ _ _ _ _ _ = _
      simp (disch := omega) only [OW_hunted_39b, li0, li1, li2, li3, li4, li5, li6, li7, li8, li9, li10, li11, li12, li13, li14, li15, li16, li17, li18, li19, li20, li21, li22, li23, li24, li25, li26, li27, li28, li29, li30, li31, li32, li37, li40, li41, li42, li43, li45, li47, li48, li57, li59, li60, li61, li63, li64, li75, li97, li98, li99, li100, li120, li122, li126, li200, li240, li255, li305, li306, li375, li400, li427, li428, li1000, li2000, li9999, neg_nI1, ↓reduceIte, nI_leI, nI_ltI, nI_eq, nI_add, nI_1, pk_mul, ix_nI, ib_nI, if_true, if_false, eq_self, true_and, and_true, not_false_eq_true, not_true_eq_false, Nat.reduceEqDiff, Nat.reduceLeDiff, Nat.reduceLT, Nat.reduceAdd, Nat.reduceMul, rt, lt, c0, c1, c2, c3, c4, c5, cp, cq, co, cw, ci, s0, sp, sq, so, sw, Nat.le_refl]
    · show OW_hunted_39b _ _ _ _ _ _ = OW_hunted_39 _ _ _ _ _ _
      have h1 := hb k
      have h2 := hc k
      have l15 : layC (t + 15) = (1, 6) := by rcases ht with h | h <;> subst h <;> rfl
      have e : OW_bitsOf (t + 15) (nI (N 4)) (nI k) u = some (nI (mk (fun w => decide (K 3 w = k)) (N 4)), u) := OW_bitsOf_eq l15 n4 (by omega) (fun w => decide (K 3 w = k)) (nI k) (fun i hi => by have := ww i hi; rw [(cw i hi).1, nI_eq (by omega) (by omega)]; simp)
      have e3 : mk (fun w => !decide (S (19 + w) = 3)) (N 4) &&& mk (fun w => decide (K 3 w = k)) (N 4) = mk (hunF N K S k) (N 4) := by
        rw [mk_and]
        exact mk_congr (fun w _ => Bool.and_comm _ _)
      have e2 := bitCount_pop (mk_1024 (hunF N K S k) (show N 4 ≤ 10 by omega)) u
      rw [pop_mk _ (by omega)] at e2
      rw [am_s]
      generalize am (fun q => cnt (hunF N K S q) (N 4)) k = A at h1 ⊢
      generalize cnt (hunF N K S k) (N 4) = P at e2 h2 ⊢
      simp (disch := omega) only [OW_hunted_39b, zl_e, zs_e, li0, li1, li2, li3, li4, li5, li6, li7, li8, li9, li10, li11, li12, li13, li14, li15, li16, li17, li18, li19, li20, li21, li22, li23, li24, li25, li26, li27, li28, li29, li30, li31, li32, li37, li40, li41, li42, li43, li45, li47, li48, li57, li59, li60, li61, li63, li64, li75, li97, li98, li99, li100, li120, li122, li126, li200, li240, li255, li305, li306, li375, li400, li427, li428, li1000, li2000, li9999, neg_nI1, ↓reduceIte, nI_leI, nI_ltI, nI_eq, nI_add, nI_1, pk_mul, ix_nI, ib_nI, if_true, if_false, eq_self, true_and, and_true, not_false_eq_true, not_true_eq_false, Nat.reduceEqDiff, Nat.reduceLeDiff, Nat.reduceLT, Nat.reduceAdd, Nat.reduceMul, rt, lt, c0, c1, c2, c3, c4, c5, cp, cq, co, cw, ci, s0, sp, sq, so, sw, Nat.not_le.mpr hk, e, bn_and (mk_128 _ (show N 4 ≤ 7 by omega)) (mk_128 _ (show N 4 ≤ 7 by omega)), e3, e2]
      by_cases h : A.1 < P
      · rw [if_neg (by omega), if_pos h]
      · rw [if_pos (by omega), if_neg h]
  · refine lpz (fun n (s : Int32 × Int32 × Int32) => Mo_hunted_11 n s.1 s.2.1 s.2.2 v) (fun k => ((am (fun q => cnt (hunF N K S q) (N 4)) k).2, nI (am (fun q => cnt (hunF N K S q) (N 4)) k).1, nI k)) (N 2) _ (by omega) (fun n => ?_) (fun n k hk => ?_)
    · show Mo_hunted_11b _ _ _ _ _ = _
      simp (disch := omega) only [Mo_hunted_11b, li0, li1, li2, li3, li4, li5, li6, li7, li8, li9, li10, li11, li12, li13, li14, li15, li16, li17, li18, li19, li20, li21, li22, li23, li24, li25, li26, li27, li28, li29, li30, li31, li32, li37, li40, li41, li42, li43, li45, li47, li48, li57, li59, li60, li61, li63, li64, li75, li97, li98, li99, li100, li120, li122, li126, li200, li240, li255, li305, li306, li375, li400, li427, li428, li1000, li2000, li9999, neg_nI1, ↓reduceIte, nI_leI, nI_ltI, nI_eq, nI_add, nI_1, pk_mul, ix_nI, ib_nI, if_true, if_false, eq_self, true_and, and_true, not_false_eq_true, not_true_eq_false, Nat.reduceEqDiff, Nat.reduceLeDiff, Nat.reduceLT, Nat.reduceAdd, Nat.reduceMul, m0, mp, mq, mo, mw, mi, x0, xp, xq, xo, xw, Nat.le_refl]
    · show Mo_hunted_11b _ _ _ _ _ = Mo_hunted_11 _ _ _ _ _
      have h1 := hb k
      have h2 := hc k
      rw [am_s]
      generalize am (fun q => cnt (hunF N K S q) (N 4)) k = A at h1 ⊢
      simp (disch := omega) only [Mo_hunted_11b, zl_e, zs_e, li0, li1, li2, li3, li4, li5, li6, li7, li8, li9, li10, li11, li12, li13, li14, li15, li16, li17, li18, li19, li20, li21, li22, li23, li24, li25, li26, li27, li28, li29, li30, li31, li32, li37, li40, li41, li42, li43, li45, li47, li48, li57, li59, li60, li61, li63, li64, li75, li97, li98, li99, li100, li120, li122, li126, li200, li240, li255, li305, li306, li375, li400, li427, li428, li1000, li2000, li9999, neg_nI1, ↓reduceIte, nI_leI, nI_ltI, nI_eq, nI_add, nI_1, pk_mul, ix_nI, ib_nI, if_true, if_false, eq_self, true_and, and_true, not_false_eq_true, not_true_eq_false, Nat.reduceEqDiff, Nat.reduceLeDiff, Nat.reduceLT, Nat.reduceAdd, Nat.reduceMul, m0, mp, mq, mo, mw, mi, x0, xp, xq, xo, xw, Nat.not_le.mpr hk]
      refine lpz (fun n' (s : Int32 × Int32) => Mo_hunted_27 n' (Mo_hunted_11 n) A.2 (nI A.1) (nI k) s.1 s.2 v) (fun j => (nI (cnt (hunF N K S k) j), nI j)) (N 4) _ (by omega) (fun n' => ?_) (fun n' j hj => ?_)
      · show Mo_hunted_27b _ _ _ _ _ _ _ _ = _
        simp (disch := omega) only [Mo_hunted_27b, li0, li1, li2, li3, li4, li5, li6, li7, li8, li9, li10, li11, li12, li13, li14, li15, li16, li17, li18, li19, li20, li21, li22, li23, li24, li25, li26, li27, li28, li29, li30, li31, li32, li37, li40, li41, li42, li43, li45, li47, li48, li57, li59, li60, li61, li63, li64, li75, li97, li98, li99, li100, li120, li122, li126, li200, li240, li255, li305, li306, li375, li400, li427, li428, li1000, li2000, li9999, neg_nI1, ↓reduceIte, nI_leI, nI_ltI, nI_eq, nI_add, nI_1, pk_mul, ix_nI, ib_nI, if_true, if_false, eq_self, true_and, and_true, not_false_eq_true, not_true_eq_false, Nat.reduceEqDiff, Nat.reduceLeDiff, Nat.reduceLT, Nat.reduceAdd, Nat.reduceMul, m0, mp, mq, mo, mw, mi, x0, xp, xq, xo, xw, Nat.le_refl]
        by_cases h : A.1 < cnt (hunF N K S k) (N 4)
        · rw [if_pos h, if_pos h]
        · rw [if_neg h, if_neg h]
      · show Mo_hunted_27b _ _ _ _ _ _ _ _ = Mo_hunted_27 _ _ _ _ _ _ _ _
        have h9 := zw j hj
        have h8 := ww j hj
        simp (disch := omega) only [Mo_hunted_27b, zl_e, zs_e, li0, li1, li2, li3, li4, li5, li6, li7, li8, li9, li10, li11, li12, li13, li14, li15, li16, li17, li18, li19, li20, li21, li22, li23, li24, li25, li26, li27, li28, li29, li30, li31, li32, li37, li40, li41, li42, li43, li45, li47, li48, li57, li59, li60, li61, li63, li64, li75, li97, li98, li99, li100, li120, li122, li126, li200, li240, li255, li305, li306, li375, li400, li427, li428, li1000, li2000, li9999, neg_nI1, ↓reduceIte, nI_leI, nI_ltI, nI_eq, nI_add, nI_1, pk_mul, ix_nI, ib_nI, if_true, if_false, eq_self, true_and, and_true, not_false_eq_true, not_true_eq_false, Nat.reduceEqDiff, Nat.reduceLeDiff, Nat.reduceLT, Nat.reduceAdd, Nat.reduceMul, m0, mp, mq, mo, mw, mi, x0, xp, xq, xo, xw, hv_eq, Nat.not_le.mpr hj, Nat.add_zero]
        have e : cnt (hunF N K S k) (j + 1) = if hunF N K S k j then cnt (hunF N K S k) j + 1 else cnt (hunF N K S k) j := rfl
        rw [e]
        by_cases h3 : K 3 j = k
        · by_cases h4 : S (19 + j) = 3
          · rw [if_pos h3, if_pos h4, if_neg (by simp [hunF, h4])]
          · rw [if_pos h3, if_neg h4, if_pos (by simp [hunF, h3, h4])]
        · rw [if_neg h3, if_neg (by simp [hunF, h3])]
theorem q_count {u v : zM} {t : Nat} {N S : Nat → Nat} {K : Nat → Nat → Nat} {E : Int32 → Int32 → Int32 → Int32 → Int32} (hW : Wf N K S) (hu : NowC u t N K E 54 S) (hz : NowM v N K E S) (hl1 : layC (gR u 1 3) = (16, 4)) (h9 : gI u (gR u 1 3) 3 = gI v 32 0) (h10 : gI u 66 3 = gI v 36 0) (h11 : gI u 1 12 = gI v 1 56) (h12 : gI u 2 1 = gI v 1 1) (x : Int32) : ∃ r, OW_count x u = some (r, u) ∧ Mo_count x v = some (r, sI v 1 0 0) := by
  unfold Mo_count
  have h9' : gI (sI v 1 0 0) 32 0 = gI v 32 0 := rfl
  have h10' : gI (sI v 1 0 0) 36 0 = gI v 36 0 := rfl
  have h11' : gI (sI v 1 0 0) 1 56 = gI v 1 56 := rfl
  have h12' : gI (sI v 1 0 0) 1 1 = gI v 1 1 := rfl
  rw [← h9'] at h9
  rw [← h10'] at h10
  rw [← h11'] at h11
  rw [← h12'] at h12
  clear h9' h10' h11' h12'
  dsimp only [zlet]
  have hz := hz.th hW.1
  generalize sI v 1 0 0 = v at *
  have hW' := hW
  have hu' := hu
  have hz' := hz
  obtain ⟨⟨n0, n1, n2, n3, n4, n5⟩, ⟨wp, wq, wo, ww, wi⟩, ⟨z0, zp, zq, zo, zw⟩⟩ := hW
  obtain ⟨rt, ht, ⟨⟨c0, c1, c2, c3, c4, c5⟩, cp, cq, co, cw, ci⟩, hl, ⟨s0, sp, sq, so, sw⟩⟩ := hu
  have lt := layT ht
  obtain ⟨⟨m0, mp, mq, mo, mw, mi⟩, hlm, ⟨x0, xp, xq, xo, xw⟩⟩ := hz
  simp only [Nat.zero_add] at x0 xp xq xo xw
  rcases arg_ix x (show 13 < 2 ^ 31 by omega) with ⟨k, hk, rfl⟩ | h
  · obtain rfl | rfl | rfl | rfl | rfl | rfl | rfl | rfl | rfl | rfl | rfl | rfl | rfl : k = 0 ∨ k = 1 ∨ k = 2 ∨ k = 3 ∨ k = 4 ∨ k = 5 ∨ k = 6 ∨ k = 7 ∨ k = 8 ∨ k = 9 ∨ k = 10 ∨ k = 11 ∨ k = 12 := by omega
    · refine ⟨nI (N 0), ?_, ?_⟩
      · simp (disch := omega) only [OW_count, zl_e, zs_e, li0, li1, li2, li3, li4, li5, li6, li7, li8, li9, li10, li11, li12, li13, li14, li15, li16, li17, li18, li19, li20, li21, li22, li23, li24, li25, li26, li27, li28, li29, li30, li31, li32, li37, li40, li41, li42, li43, li45, li47, li48, li57, li59, li60, li61, li63, li64, li75, li97, li98, li99, li100, li120, li122, li126, li200, li240, li255, li305, li306, li375, li400, li427, li428, li1000, li2000, li9999, neg_nI1, ↓reduceIte, nI_leI, nI_ltI, nI_eq, nI_add, nI_1, pk_mul, ix_nI, ib_nI, if_true, if_false, eq_self, true_and, and_true, not_false_eq_true, not_true_eq_false, Nat.reduceEqDiff, Nat.reduceLeDiff, Nat.reduceLT, Nat.reduceAdd, Nat.reduceMul, rt, lt, c0, c1, c2, c3, c4, c5, cp, cq, co, cw, ci, s0, sp, sq, so, sw, hl1, h9, h10, h11, h12]
        all_goals rfl
      · simp (disch := omega) only [Mo_within_ok, zl_e, zs_e, li0, li1, li2, li3, li4, li5, li6, li7, li8, li9, li10, li11, li12, li13, li14, li15, li16, li17, li18, li19, li20, li21, li22, li23, li24, li25, li26, li27, li28, li29, li30, li31, li32, li37, li40, li41, li42, li43, li45, li47, li48, li57, li59, li60, li61, li63, li64, li75, li97, li98, li99, li100, li120, li122, li126, li200, li240, li255, li305, li306, li375, li400, li427, li428, li1000, li2000, li9999, neg_nI1, ↓reduceIte, nI_leI, nI_ltI, nI_eq, nI_add, nI_1, pk_mul, ix_nI, ib_nI, if_true, if_false, eq_self, true_and, and_true, not_false_eq_true, not_true_eq_false, Nat.reduceEqDiff, Nat.reduceLeDiff, Nat.reduceLT, Nat.reduceAdd, Nat.reduceMul, m0, mp, mq, mo, mw, mi, x0, xp, xq, xo, xw]
        all_goals rfl
    · refine ⟨nI (N 1), ?_, ?_⟩
      · simp (disch := omega) only [OW_count, zl_e, zs_e, li0, li1, li2, li3, li4, li5, li6, li7, li8, li9, li10, li11, li12, li13, li14, li15, li16, li17, li18, li19, li20, li21, li22, li23, li24, li25, li26, li27, li28, li29, li30, li31, li32, li37, li40, li41, li42, li43, li45, li47, li48, li57, li59, li60, li61, li63, li64, li75, li97, li98, li99, li100, li120, li122, li126, li200, li240, li255, li305, li306, li375, li400, li427, li428, li1000, li2000, li9999, neg_nI1, ↓reduceIte, nI_leI, nI_ltI, nI_eq, nI_add, nI_1, pk_mul, ix_nI, ib_nI, if_true, if_false, eq_self, true_and, and_true, not_false_eq_true, not_true_eq_false, Nat.reduceEqDiff, Nat.reduceLeDiff, Nat.reduceLT, Nat.reduceAdd, Nat.reduceMul, rt, lt, c0, c1, c2, c3, c4, c5, cp, cq, co, cw, ci, s0, sp, sq, so, sw, hl1, h9, h10, h11, h12]
        all_goals rfl
      · simp (disch := omega) only [Mo_within_ok, zl_e, zs_e, li0, li1, li2, li3, li4, li5, li6, li7, li8, li9, li10, li11, li12, li13, li14, li15, li16, li17, li18, li19, li20, li21, li22, li23, li24, li25, li26, li27, li28, li29, li30, li31, li32, li37, li40, li41, li42, li43, li45, li47, li48, li57, li59, li60, li61, li63, li64, li75, li97, li98, li99, li100, li120, li122, li126, li200, li240, li255, li305, li306, li375, li400, li427, li428, li1000, li2000, li9999, neg_nI1, ↓reduceIte, nI_leI, nI_ltI, nI_eq, nI_add, nI_1, pk_mul, ix_nI, ib_nI, if_true, if_false, eq_self, true_and, and_true, not_false_eq_true, not_true_eq_false, Nat.reduceEqDiff, Nat.reduceLeDiff, Nat.reduceLT, Nat.reduceAdd, Nat.reduceMul, m0, mp, mq, mo, mw, mi, x0, xp, xq, xo, xw]
        all_goals rfl
    · refine ⟨nI (N 2), ?_, ?_⟩
      · simp (disch := omega) only [OW_count, zl_e, zs_e, li0, li1, li2, li3, li4, li5, li6, li7, li8, li9, li10, li11, li12, li13, li14, li15, li16, li17, li18, li19, li20, li21, li22, li23, li24, li25, li26, li27, li28, li29, li30, li31, li32, li37, li40, li41, li42, li43, li45, li47, li48, li57, li59, li60, li61, li63, li64, li75, li97, li98, li99, li100, li120, li122, li126, li200, li240, li255, li305, li306, li375, li400, li427, li428, li1000, li2000, li9999, neg_nI1, ↓reduceIte, nI_leI, nI_ltI, nI_eq, nI_add, nI_1, pk_mul, ix_nI, ib_nI, if_true, if_false, eq_self, true_and, and_true, not_false_eq_true, not_true_eq_false, Nat.reduceEqDiff, Nat.reduceLeDiff, Nat.reduceLT, Nat.reduceAdd, Nat.reduceMul, rt, lt, c0, c1, c2, c3, c4, c5, cp, cq, co, cw, ci, s0, sp, sq, so, sw, hl1, h9, h10, h11, h12]
        all_goals rfl
      · simp (disch := omega) only [Mo_within_ok, zl_e, zs_e, li0, li1, li2, li3, li4, li5, li6, li7, li8, li9, li10, li11, li12, li13, li14, li15, li16, li17, li18, li19, li20, li21, li22, li23, li24, li25, li26, li27, li28, li29, li30, li31, li32, li37, li40, li41, li42, li43, li45, li47, li48, li57, li59, li60, li61, li63, li64, li75, li97, li98, li99, li100, li120, li122, li126, li200, li240, li255, li305, li306, li375, li400, li427, li428, li1000, li2000, li9999, neg_nI1, ↓reduceIte, nI_leI, nI_ltI, nI_eq, nI_add, nI_1, pk_mul, ix_nI, ib_nI, if_true, if_false, eq_self, true_and, and_true, not_false_eq_true, not_true_eq_false, Nat.reduceEqDiff, Nat.reduceLeDiff, Nat.reduceLT, Nat.reduceAdd, Nat.reduceMul, m0, mp, mq, mo, mw, mi, x0, xp, xq, xo, xw]
        all_goals rfl
    · refine ⟨nI (N 3), ?_, ?_⟩
      · simp (disch := omega) only [OW_count, zl_e, zs_e, li0, li1, li2, li3, li4, li5, li6, li7, li8, li9, li10, li11, li12, li13, li14, li15, li16, li17, li18, li19, li20, li21, li22, li23, li24, li25, li26, li27, li28, li29, li30, li31, li32, li37, li40, li41, li42, li43, li45, li47, li48, li57, li59, li60, li61, li63, li64, li75, li97, li98, li99, li100, li120, li122, li126, li200, li240, li255, li305, li306, li375, li400, li427, li428, li1000, li2000, li9999, neg_nI1, ↓reduceIte, nI_leI, nI_ltI, nI_eq, nI_add, nI_1, pk_mul, ix_nI, ib_nI, if_true, if_false, eq_self, true_and, and_true, not_false_eq_true, not_true_eq_false, Nat.reduceEqDiff, Nat.reduceLeDiff, Nat.reduceLT, Nat.reduceAdd, Nat.reduceMul, rt, lt, c0, c1, c2, c3, c4, c5, cp, cq, co, cw, ci, s0, sp, sq, so, sw, hl1, h9, h10, h11, h12]
        all_goals rfl
      · simp (disch := omega) only [Mo_within_ok, zl_e, zs_e, li0, li1, li2, li3, li4, li5, li6, li7, li8, li9, li10, li11, li12, li13, li14, li15, li16, li17, li18, li19, li20, li21, li22, li23, li24, li25, li26, li27, li28, li29, li30, li31, li32, li37, li40, li41, li42, li43, li45, li47, li48, li57, li59, li60, li61, li63, li64, li75, li97, li98, li99, li100, li120, li122, li126, li200, li240, li255, li305, li306, li375, li400, li427, li428, li1000, li2000, li9999, neg_nI1, ↓reduceIte, nI_leI, nI_ltI, nI_eq, nI_add, nI_1, pk_mul, ix_nI, ib_nI, if_true, if_false, eq_self, true_and, and_true, not_false_eq_true, not_true_eq_false, Nat.reduceEqDiff, Nat.reduceLeDiff, Nat.reduceLT, Nat.reduceAdd, Nat.reduceMul, m0, mp, mq, mo, mw, mi, x0, xp, xq, xo, xw]
        all_goals rfl
    · refine ⟨nI (N 4), ?_, ?_⟩
      · simp (disch := omega) only [OW_count, zl_e, zs_e, li0, li1, li2, li3, li4, li5, li6, li7, li8, li9, li10, li11, li12, li13, li14, li15, li16, li17, li18, li19, li20, li21, li22, li23, li24, li25, li26, li27, li28, li29, li30, li31, li32, li37, li40, li41, li42, li43, li45, li47, li48, li57, li59, li60, li61, li63, li64, li75, li97, li98, li99, li100, li120, li122, li126, li200, li240, li255, li305, li306, li375, li400, li427, li428, li1000, li2000, li9999, neg_nI1, ↓reduceIte, nI_leI, nI_ltI, nI_eq, nI_add, nI_1, pk_mul, ix_nI, ib_nI, if_true, if_false, eq_self, true_and, and_true, not_false_eq_true, not_true_eq_false, Nat.reduceEqDiff, Nat.reduceLeDiff, Nat.reduceLT, Nat.reduceAdd, Nat.reduceMul, rt, lt, c0, c1, c2, c3, c4, c5, cp, cq, co, cw, ci, s0, sp, sq, so, sw, hl1, h9, h10, h11, h12]
        all_goals rfl
      · simp (disch := omega) only [Mo_within_ok, zl_e, zs_e, li0, li1, li2, li3, li4, li5, li6, li7, li8, li9, li10, li11, li12, li13, li14, li15, li16, li17, li18, li19, li20, li21, li22, li23, li24, li25, li26, li27, li28, li29, li30, li31, li32, li37, li40, li41, li42, li43, li45, li47, li48, li57, li59, li60, li61, li63, li64, li75, li97, li98, li99, li100, li120, li122, li126, li200, li240, li255, li305, li306, li375, li400, li427, li428, li1000, li2000, li9999, neg_nI1, ↓reduceIte, nI_leI, nI_ltI, nI_eq, nI_add, nI_1, pk_mul, ix_nI, ib_nI, if_true, if_false, eq_self, true_and, and_true, not_false_eq_true, not_true_eq_false, Nat.reduceEqDiff, Nat.reduceLeDiff, Nat.reduceLT, Nat.reduceAdd, Nat.reduceMul, m0, mp, mq, mo, mw, mi, x0, xp, xq, xo, xw]
        all_goals rfl
    · refine ⟨nI (S 0), ?_, ?_⟩
      · simp (disch := omega) only [OW_count, zl_e, zs_e, li0, li1, li2, li3, li4, li5, li6, li7, li8, li9, li10, li11, li12, li13, li14, li15, li16, li17, li18, li19, li20, li21, li22, li23, li24, li25, li26, li27, li28, li29, li30, li31, li32, li37, li40, li41, li42, li43, li45, li47, li48, li57, li59, li60, li61, li63, li64, li75, li97, li98, li99, li100, li120, li122, li126, li200, li240, li255, li305, li306, li375, li400, li427, li428, li1000, li2000, li9999, neg_nI1, ↓reduceIte, nI_leI, nI_ltI, nI_eq, nI_add, nI_1, pk_mul, ix_nI, ib_nI, if_true, if_false, eq_self, true_and, and_true, not_false_eq_true, not_true_eq_false, Nat.reduceEqDiff, Nat.reduceLeDiff, Nat.reduceLT, Nat.reduceAdd, Nat.reduceMul, rt, lt, c0, c1, c2, c3, c4, c5, cp, cq, co, cw, ci, s0, sp, sq, so, sw, hl1, h9, h10, h11, h12]
        all_goals rfl
      · simp (disch := omega) only [Mo_within_ok, zl_e, zs_e, li0, li1, li2, li3, li4, li5, li6, li7, li8, li9, li10, li11, li12, li13, li14, li15, li16, li17, li18, li19, li20, li21, li22, li23, li24, li25, li26, li27, li28, li29, li30, li31, li32, li37, li40, li41, li42, li43, li45, li47, li48, li57, li59, li60, li61, li63, li64, li75, li97, li98, li99, li100, li120, li122, li126, li200, li240, li255, li305, li306, li375, li400, li427, li428, li1000, li2000, li9999, neg_nI1, ↓reduceIte, nI_leI, nI_ltI, nI_eq, nI_add, nI_1, pk_mul, ix_nI, ib_nI, if_true, if_false, eq_self, true_and, and_true, not_false_eq_true, not_true_eq_false, Nat.reduceEqDiff, Nat.reduceLeDiff, Nat.reduceLT, Nat.reduceAdd, Nat.reduceMul, m0, mp, mq, mo, mw, mi, x0, xp, xq, xo, xw]
        all_goals rfl
    · refine ⟨nI (rainS N K (S 0)), ?_, ?_⟩
      · simp (disch := omega) only [OW_count, zl_e, zs_e, li0, li1, li2, li3, li4, li5, li6, li7, li8, li9, li10, li11, li12, li13, li14, li15, li16, li17, li18, li19, li20, li21, li22, li23, li24, li25, li26, li27, li28, li29, li30, li31, li32, li37, li40, li41, li42, li43, li45, li47, li48, li57, li59, li60, li61, li63, li64, li75, li97, li98, li99, li100, li120, li122, li126, li200, li240, li255, li305, li306, li375, li400, li427, li428, li1000, li2000, li9999, neg_nI1, ↓reduceIte, nI_leI, nI_ltI, nI_eq, nI_add, nI_1, pk_mul, ix_nI, ib_nI, if_true, if_false, eq_self, true_and, and_true, not_false_eq_true, not_true_eq_false, Nat.reduceEqDiff, Nat.reduceLeDiff, Nat.reduceLT, Nat.reduceAdd, Nat.reduceMul, rt, lt, c0, c1, c2, c3, c4, c5, cp, cq, co, cw, ci, s0, sp, sq, so, sw, hl1, h9, h10, h11, h12, Co_rainOf_eq hW' hu' (show S 0 < 2 ^ 31 by omega)]
        all_goals rfl
      · simp (disch := omega) only [Mo_within_ok, zl_e, zs_e, li0, li1, li2, li3, li4, li5, li6, li7, li8, li9, li10, li11, li12, li13, li14, li15, li16, li17, li18, li19, li20, li21, li22, li23, li24, li25, li26, li27, li28, li29, li30, li31, li32, li37, li40, li41, li42, li43, li45, li47, li48, li57, li59, li60, li61, li63, li64, li75, li97, li98, li99, li100, li120, li122, li126, li200, li240, li255, li305, li306, li375, li400, li427, li428, li1000, li2000, li9999, neg_nI1, ↓reduceIte, nI_leI, nI_ltI, nI_eq, nI_add, nI_1, pk_mul, ix_nI, ib_nI, if_true, if_false, eq_self, true_and, and_true, not_false_eq_true, not_true_eq_false, Nat.reduceEqDiff, Nat.reduceLeDiff, Nat.reduceLT, Nat.reduceAdd, Nat.reduceMul, m0, mp, mq, mo, mw, mi, x0, xp, xq, xo, xw, Mo_rainOf_eq hW' hz' (show S 0 < 2 ^ 31 by omega)]
        all_goals rfl
    · refine ⟨nI (wetS N S), ?_, ?_⟩
      · simp (disch := omega) only [OW_count, zl_e, zs_e, li0, li1, li2, li3, li4, li5, li6, li7, li8, li9, li10, li11, li12, li13, li14, li15, li16, li17, li18, li19, li20, li21, li22, li23, li24, li25, li26, li27, li28, li29, li30, li31, li32, li37, li40, li41, li42, li43, li45, li47, li48, li57, li59, li60, li61, li63, li64, li75, li97, li98, li99, li100, li120, li122, li126, li200, li240, li255, li305, li306, li375, li400, li427, li428, li1000, li2000, li9999, neg_nI1, ↓reduceIte, nI_leI, nI_ltI, nI_eq, nI_add, nI_1, pk_mul, ix_nI, ib_nI, if_true, if_false, eq_self, true_and, and_true, not_false_eq_true, not_true_eq_false, Nat.reduceEqDiff, Nat.reduceLeDiff, Nat.reduceLT, Nat.reduceAdd, Nat.reduceMul, rt, lt, c0, c1, c2, c3, c4, c5, cp, cq, co, cw, ci, s0, sp, sq, so, sw, hl1, h9, h10, h11, h12, St_wetBits_eq hW' hu' StA54]
        all_goals rfl
      · simp (disch := omega) only [Mo_within_ok, zl_e, zs_e, li0, li1, li2, li3, li4, li5, li6, li7, li8, li9, li10, li11, li12, li13, li14, li15, li16, li17, li18, li19, li20, li21, li22, li23, li24, li25, li26, li27, li28, li29, li30, li31, li32, li37, li40, li41, li42, li43, li45, li47, li48, li57, li59, li60, li61, li63, li64, li75, li97, li98, li99, li100, li120, li122, li126, li200, li240, li255, li305, li306, li375, li400, li427, li428, li1000, li2000, li9999, neg_nI1, ↓reduceIte, nI_leI, nI_ltI, nI_eq, nI_add, nI_1, pk_mul, ix_nI, ib_nI, if_true, if_false, eq_self, true_and, and_true, not_false_eq_true, not_true_eq_false, Nat.reduceEqDiff, Nat.reduceLeDiff, Nat.reduceLT, Nat.reduceAdd, Nat.reduceMul, m0, mp, mq, mo, mw, mi, x0, xp, xq, xo, xw, Mo_wets_e hW' hz']
        all_goals rfl
    · refine ⟨nI (wriS N S 3), ?_, ?_⟩
      · simp (disch := omega) only [OW_count, zl_e, zs_e, li0, li1, li2, li3, li4, li5, li6, li7, li8, li9, li10, li11, li12, li13, li14, li15, li16, li17, li18, li19, li20, li21, li22, li23, li24, li25, li26, li27, li28, li29, li30, li31, li32, li37, li40, li41, li42, li43, li45, li47, li48, li57, li59, li60, li61, li63, li64, li75, li97, li98, li99, li100, li120, li122, li126, li200, li240, li255, li305, li306, li375, li400, li427, li428, li1000, li2000, li9999, neg_nI1, ↓reduceIte, nI_leI, nI_ltI, nI_eq, nI_add, nI_1, pk_mul, ix_nI, ib_nI, if_true, if_false, eq_self, true_and, and_true, not_false_eq_true, not_true_eq_false, Nat.reduceEqDiff, Nat.reduceLeDiff, Nat.reduceLT, Nat.reduceAdd, Nat.reduceMul, rt, lt, c0, c1, c2, c3, c4, c5, cp, cq, co, cw, ci, s0, sp, sq, so, sw, hl1, h9, h10, h11, h12, OW_bitsOf_eq layS54.2.2.1 n4 (by omega) (fun q => decide (S (19 + q) = 3)) (nI 3) (fun i hi => by have := zw i hi; rw [sw i hi, hv_eq (by omega) (by omega)]; simp)]
        all_goals rfl
      · simp (disch := omega) only [Mo_within_ok, zl_e, zs_e, li0, li1, li2, li3, li4, li5, li6, li7, li8, li9, li10, li11, li12, li13, li14, li15, li16, li17, li18, li19, li20, li21, li22, li23, li24, li25, li26, li27, li28, li29, li30, li31, li32, li37, li40, li41, li42, li43, li45, li47, li48, li57, li59, li60, li61, li63, li64, li75, li97, li98, li99, li100, li120, li122, li126, li200, li240, li255, li305, li306, li375, li400, li427, li428, li1000, li2000, li9999, neg_nI1, ↓reduceIte, nI_leI, nI_ltI, nI_eq, nI_add, nI_1, pk_mul, ix_nI, ib_nI, if_true, if_false, eq_self, true_and, and_true, not_false_eq_true, not_true_eq_false, Nat.reduceEqDiff, Nat.reduceLeDiff, Nat.reduceLT, Nat.reduceAdd, Nat.reduceMul, m0, mp, mq, mo, mw, mi, x0, xp, xq, xo, xw, Mo_writsOf_eq hW' hz' (show 3 < 4 by omega)]
        all_goals rfl
    · refine ⟨gI v 32 0, ?_, ?_⟩
      · simp (disch := omega) only [OW_count, zl_e, zs_e, li0, li1, li2, li3, li4, li5, li6, li7, li8, li9, li10, li11, li12, li13, li14, li15, li16, li17, li18, li19, li20, li21, li22, li23, li24, li25, li26, li27, li28, li29, li30, li31, li32, li37, li40, li41, li42, li43, li45, li47, li48, li57, li59, li60, li61, li63, li64, li75, li97, li98, li99, li100, li120, li122, li126, li200, li240, li255, li305, li306, li375, li400, li427, li428, li1000, li2000, li9999, neg_nI1, ↓reduceIte, nI_leI, nI_ltI, nI_eq, nI_add, nI_1, pk_mul, ix_nI, ib_nI, if_true, if_false, eq_self, true_and, and_true, not_false_eq_true, not_true_eq_false, Nat.reduceEqDiff, Nat.reduceLeDiff, Nat.reduceLT, Nat.reduceAdd, Nat.reduceMul, rt, lt, c0, c1, c2, c3, c4, c5, cp, cq, co, cw, ci, s0, sp, sq, so, sw, hl1, h9, h10, h11, h12]
        all_goals rfl
      · simp (disch := omega) only [Mo_within_ok, zl_e, zs_e, li0, li1, li2, li3, li4, li5, li6, li7, li8, li9, li10, li11, li12, li13, li14, li15, li16, li17, li18, li19, li20, li21, li22, li23, li24, li25, li26, li27, li28, li29, li30, li31, li32, li37, li40, li41, li42, li43, li45, li47, li48, li57, li59, li60, li61, li63, li64, li75, li97, li98, li99, li100, li120, li122, li126, li200, li240, li255, li305, li306, li375, li400, li427, li428, li1000, li2000, li9999, neg_nI1, ↓reduceIte, nI_leI, nI_ltI, nI_eq, nI_add, nI_1, pk_mul, ix_nI, ib_nI, if_true, if_false, eq_self, true_and, and_true, not_false_eq_true, not_true_eq_false, Nat.reduceEqDiff, Nat.reduceLeDiff, Nat.reduceLT, Nat.reduceAdd, Nat.reduceMul, m0, mp, mq, mo, mw, mi, x0, xp, xq, xo, xw]
        all_goals rfl
    · refine ⟨gI v 36 0, ?_, ?_⟩
      · simp (disch := omega) only [OW_count, zl_e, zs_e, li0, li1, li2, li3, li4, li5, li6, li7, li8, li9, li10, li11, li12, li13, li14, li15, li16, li17, li18, li19, li20, li21, li22, li23, li24, li25, li26, li27, li28, li29, li30, li31, li32, li37, li40, li41, li42, li43, li45, li47, li48, li57, li59, li60, li61, li63, li64, li75, li97, li98, li99, li100, li120, li122, li126, li200, li240, li255, li305, li306, li375, li400, li427, li428, li1000, li2000, li9999, neg_nI1, ↓reduceIte, nI_leI, nI_ltI, nI_eq, nI_add, nI_1, pk_mul, ix_nI, ib_nI, if_true, if_false, eq_self, true_and, and_true, not_false_eq_true, not_true_eq_false, Nat.reduceEqDiff, Nat.reduceLeDiff, Nat.reduceLT, Nat.reduceAdd, Nat.reduceMul, rt, lt, c0, c1, c2, c3, c4, c5, cp, cq, co, cw, ci, s0, sp, sq, so, sw, hl1, h9, h10, h11, h12]
        all_goals rfl
      · simp (disch := omega) only [Mo_within_ok, zl_e, zs_e, li0, li1, li2, li3, li4, li5, li6, li7, li8, li9, li10, li11, li12, li13, li14, li15, li16, li17, li18, li19, li20, li21, li22, li23, li24, li25, li26, li27, li28, li29, li30, li31, li32, li37, li40, li41, li42, li43, li45, li47, li48, li57, li59, li60, li61, li63, li64, li75, li97, li98, li99, li100, li120, li122, li126, li200, li240, li255, li305, li306, li375, li400, li427, li428, li1000, li2000, li9999, neg_nI1, ↓reduceIte, nI_leI, nI_ltI, nI_eq, nI_add, nI_1, pk_mul, ix_nI, ib_nI, if_true, if_false, eq_self, true_and, and_true, not_false_eq_true, not_true_eq_false, Nat.reduceEqDiff, Nat.reduceLeDiff, Nat.reduceLT, Nat.reduceAdd, Nat.reduceMul, m0, mp, mq, mo, mw, mi, x0, xp, xq, xo, xw]
        all_goals rfl
    · refine ⟨gI v 1 56, ?_, ?_⟩
      · simp (disch := omega) only [OW_count, zl_e, zs_e, li0, li1, li2, li3, li4, li5, li6, li7, li8, li9, li10, li11, li12, li13, li14, li15, li16, li17, li18, li19, li20, li21, li22, li23, li24, li25, li26, li27, li28, li29, li30, li31, li32, li37, li40, li41, li42, li43, li45, li47, li48, li57, li59, li60, li61, li63, li64, li75, li97, li98, li99, li100, li120, li122, li126, li200, li240, li255, li305, li306, li375, li400, li427, li428, li1000, li2000, li9999, neg_nI1, ↓reduceIte, nI_leI, nI_ltI, nI_eq, nI_add, nI_1, pk_mul, ix_nI, ib_nI, if_true, if_false, eq_self, true_and, and_true, not_false_eq_true, not_true_eq_false, Nat.reduceEqDiff, Nat.reduceLeDiff, Nat.reduceLT, Nat.reduceAdd, Nat.reduceMul, rt, lt, c0, c1, c2, c3, c4, c5, cp, cq, co, cw, ci, s0, sp, sq, so, sw, hl1, h9, h10, h11, h12]
        all_goals rfl
      · simp (disch := omega) only [Mo_within_ok, zl_e, zs_e, li0, li1, li2, li3, li4, li5, li6, li7, li8, li9, li10, li11, li12, li13, li14, li15, li16, li17, li18, li19, li20, li21, li22, li23, li24, li25, li26, li27, li28, li29, li30, li31, li32, li37, li40, li41, li42, li43, li45, li47, li48, li57, li59, li60, li61, li63, li64, li75, li97, li98, li99, li100, li120, li122, li126, li200, li240, li255, li305, li306, li375, li400, li427, li428, li1000, li2000, li9999, neg_nI1, ↓reduceIte, nI_leI, nI_ltI, nI_eq, nI_add, nI_1, pk_mul, ix_nI, ib_nI, if_true, if_false, eq_self, true_and, and_true, not_false_eq_true, not_true_eq_false, Nat.reduceEqDiff, Nat.reduceLeDiff, Nat.reduceLT, Nat.reduceAdd, Nat.reduceMul, m0, mp, mq, mo, mw, mi, x0, xp, xq, xo, xw]
        all_goals rfl
    · refine ⟨gI v 1 1, ?_, ?_⟩
      · simp (disch := omega) only [OW_count, zl_e, zs_e, li0, li1, li2, li3, li4, li5, li6, li7, li8, li9, li10, li11, li12, li13, li14, li15, li16, li17, li18, li19, li20, li21, li22, li23, li24, li25, li26, li27, li28, li29, li30, li31, li32, li37, li40, li41, li42, li43, li45, li47, li48, li57, li59, li60, li61, li63, li64, li75, li97, li98, li99, li100, li120, li122, li126, li200, li240, li255, li305, li306, li375, li400, li427, li428, li1000, li2000, li9999, neg_nI1, ↓reduceIte, nI_leI, nI_ltI, nI_eq, nI_add, nI_1, pk_mul, ix_nI, ib_nI, if_true, if_false, eq_self, true_and, and_true, not_false_eq_true, not_true_eq_false, Nat.reduceEqDiff, Nat.reduceLeDiff, Nat.reduceLT, Nat.reduceAdd, Nat.reduceMul, rt, lt, c0, c1, c2, c3, c4, c5, cp, cq, co, cw, ci, s0, sp, sq, so, sw, hl1, h9, h10, h11, h12]
        all_goals rfl
      · simp (disch := omega) only [Mo_within_ok, zl_e, zs_e, li0, li1, li2, li3, li4, li5, li6, li7, li8, li9, li10, li11, li12, li13, li14, li15, li16, li17, li18, li19, li20, li21, li22, li23, li24, li25, li26, li27, li28, li29, li30, li31, li32, li37, li40, li41, li42, li43, li45, li47, li48, li57, li59, li60, li61, li63, li64, li75, li97, li98, li99, li100, li120, li122, li126, li200, li240, li255, li305, li306, li375, li400, li427, li428, li1000, li2000, li9999, neg_nI1, ↓reduceIte, nI_leI, nI_ltI, nI_eq, nI_add, nI_1, pk_mul, ix_nI, ib_nI, if_true, if_false, eq_self, true_and, and_true, not_false_eq_true, not_true_eq_false, Nat.reduceEqDiff, Nat.reduceLeDiff, Nat.reduceLT, Nat.reduceAdd, Nat.reduceMul, m0, mp, mq, mo, mw, mi, x0, xp, xq, xo, xw]
        all_goals rfl
  · refine ⟨mI, ?_, ?_⟩
    · simp (disch := omega) only [OW_count, zl_e, zs_e, li0, li1, li2, li3, li4, li5, li6, li7, li8, li9, li10, li11, li12, li13, li14, li15, li16, li17, li18, li19, li20, li21, li22, li23, li24, li25, li26, li27, li28, li29, li30, li31, li32, li37, li40, li41, li42, li43, li45, li47, li48, li57, li59, li60, li61, li63, li64, li75, li97, li98, li99, li100, li120, li122, li126, li200, li240, li255, li305, li306, li375, li400, li427, li428, li1000, li2000, li9999, neg_nI1, ↓reduceIte, nI_leI, nI_ltI, nI_eq, nI_add, nI_1, pk_mul, ix_nI, ib_nI, if_true, if_false, eq_self, true_and, and_true, not_false_eq_true, not_true_eq_false, Nat.reduceEqDiff, Nat.reduceLeDiff, Nat.reduceLT, Nat.reduceAdd, Nat.reduceMul, out_ne h]
    · simp (disch := omega) only [Mo_within_no h, zl_e, zs_e, li0, li1, li2, li3, li4, li5, li6, li7, li8, li9, li10, li11, li12, li13, li14, li15, li16, li17, li18, li19, li20, li21, li22, li23, li24, li25, li26, li27, li28, li29, li30, li31, li32, li37, li40, li41, li42, li43, li45, li47, li48, li57, li59, li60, li61, li63, li64, li75, li97, li98, li99, li100, li120, li122, li126, li200, li240, li255, li305, li306, li375, li400, li427, li428, li1000, li2000, li9999, neg_nI1, ↓reduceIte, nI_leI, nI_ltI, nI_eq, nI_add, nI_1, pk_mul, ix_nI, ib_nI, if_true, if_false, eq_self, true_and, and_true, not_false_eq_true, not_true_eq_false, Nat.reduceEqDiff, Nat.reduceLeDiff, Nat.reduceLT, Nat.reduceAdd, Nat.reduceMul]
