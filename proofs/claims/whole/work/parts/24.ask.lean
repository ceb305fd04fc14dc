/-! ===== questions of how it is ===== -/
theorem OW_isPlace_ok {u : zM} {t a : Nat} {N S : Nat → Nat} {K : Nat → Nat → Nat} {E : Int32 → Int32 → Int32 → Int32 → Int32} (hW : Wf N K S) (hu : NowC u t N K E a S) {j : Nat} (h : j < N 0) : OW_isPlace (nI j) u = some (nI 1, u) := by
  obtain ⟨⟨n0, n1, n2, n3, n4, n5⟩, ⟨wp, wq, wo, ww, wi⟩, ⟨z0, zp, zq, zo, zw⟩⟩ := hW
  obtain ⟨rt, ht, ⟨⟨c0, c1, c2, c3, c4, c5⟩, cp, cq, co, cw, ci⟩, hl, ⟨s0, sp, sq, so, sw⟩⟩ := hu
  have lt := layT ht
  simp (disch := omega) only [OW_isPlace, zl_e, zs_e, li0, li1, li2, li3, li4, li5, li6, li7, li8, li9, li10, li11, li12, li13, li14, li15, li16, li17, li18, li19, li20, li21, li22, li23, li24, li25, li26, li27, li28, li29, li30, li31, li32, li37, li40, li41, li42, li43, li45, li47, li48, li57, li59, li60, li61, li63, li64, li75, li97, li98, li99, li100, li120, li122, li126, li200, li240, li255, li305, li306, li375, li400, li427, li428, li1000, li2000, li9999, neg_nI1, ↓reduceIte, nI_leI, nI_ltI, nI_eq, nI_add, nI_1, pk_mul, ix_nI, ib_nI, if_true, if_false, eq_self, true_and, and_true, not_false_eq_true, not_true_eq_false, Nat.reduceEqDiff, Nat.reduceLeDiff, Nat.reduceLT, Nat.reduceAdd, Nat.reduceMul, rt, lt, c0, c1, c2, c3, c4, c5, cp, cq, co, cw, ci, s0, sp, sq, so, sw, Nat.not_le.mpr h, Nat.not_lt_zero]
theorem OW_isPlace_no {u : zM} {t a : Nat} {N S : Nat → Nat} {K : Nat → Nat → Nat} {E : Int32 → Int32 → Int32 → Int32 → Int32} (hW : Wf N K S) (hu : NowC u t N K E a S) {x : Int32} (h : x < nI 0 ∨ nI (N 0) ≤ x) : OW_isPlace x u = some (nI 0, u) := by
  obtain ⟨⟨n0, n1, n2, n3, n4, n5⟩, ⟨wp, wq, wo, ww, wi⟩, ⟨z0, zp, zq, zo, zw⟩⟩ := hW
  obtain ⟨rt, ht, ⟨⟨c0, c1, c2, c3, c4, c5⟩, cp, cq, co, cw, ci⟩, hl, ⟨s0, sp, sq, so, sw⟩⟩ := hu
  have lt := layT ht
  by_cases h0 : x < nI 0
  · simp (disch := omega) only [OW_isPlace, zl_e, zs_e, li0, li1, li2, li3, li4, li5, li6, li7, li8, li9, li10, li11, li12, li13, li14, li15, li16, li17, li18, li19, li20, li21, li22, li23, li24, li25, li26, li27, li28, li29, li30, li31, li32, li37, li40, li41, li42, li43, li45, li47, li48, li57, li59, li60, li61, li63, li64, li75, li97, li98, li99, li100, li120, li122, li126, li200, li240, li255, li305, li306, li375, li400, li427, li428, li1000, li2000, li9999, neg_nI1, ↓reduceIte, nI_leI, nI_ltI, nI_eq, nI_add, nI_1, pk_mul, ix_nI, ib_nI, if_true, if_false, eq_self, true_and, and_true, not_false_eq_true, not_true_eq_false, Nat.reduceEqDiff, Nat.reduceLeDiff, Nat.reduceLT, Nat.reduceAdd, Nat.reduceMul, rt, lt, c0, c1, c2, c3, c4, c5, cp, cq, co, cw, ci, s0, sp, sq, so, sw, h0]
  · have h1 := h.resolve_left h0
    simp (disch := omega) only [OW_isPlace, zl_e, zs_e, li0, li1, li2, li3, li4, li5, li6, li7, li8, li9, li10, li11, li12, li13, li14, li15, li16, li17, li18, li19, li20, li21, li22, li23, li24, li25, li26, li27, li28, li29, li30, li31, li32, li37, li40, li41, li42, li43, li45, li47, li48, li57, li59, li60, li61, li63, li64, li75, li97, li98, li99, li100, li120, li122, li126, li200, li240, li255, li305, li306, li375, li400, li427, li428, li1000, li2000, li9999, neg_nI1, ↓reduceIte, nI_leI, nI_ltI, nI_eq, nI_add, nI_1, pk_mul, ix_nI, ib_nI, if_true, if_false, eq_self, true_and, and_true, not_false_eq_true, not_true_eq_false, Nat.reduceEqDiff, Nat.reduceLeDiff, Nat.reduceLT, Nat.reduceAdd, Nat.reduceMul, rt, lt, c0, c1, c2, c3, c4, c5, cp, cq, co, cw, ci, s0, sp, sq, so, sw, h0, h1]
theorem Mo_isPlace_ok {v : zM} {N S : Nat → Nat} {K : Nat → Nat → Nat} {E : Int32 → Int32 → Int32 → Int32 → Int32} (hW : Wf N K S) (hz : NowM v N K E S) {j : Nat} (h : j < N 0) : Mo_isPlace (nI j) v = some (nI 1, v) := by
  obtain ⟨⟨n0, n1, n2, n3, n4, n5⟩, ⟨wp, wq, wo, ww, wi⟩, ⟨z0, zp, zq, zo, zw⟩⟩ := hW
  obtain ⟨⟨m0, mp, mq, mo, mw, mi⟩, hlm, ⟨x0, xp, xq, xo, xw⟩⟩ := hz
  simp only [Nat.zero_add] at x0 xp xq xo xw
  simp (disch := omega) only [Mo_isPlace, zl_e, zs_e, li0, li1, li2, li3, li4, li5, li6, li7, li8, li9, li10, li11, li12, li13, li14, li15, li16, li17, li18, li19, li20, li21, li22, li23, li24, li25, li26, li27, li28, li29, li30, li31, li32, li37, li40, li41, li42, li43, li45, li47, li48, li57, li59, li60, li61, li63, li64, li75, li97, li98, li99, li100, li120, li122, li126, li200, li240, li255, li305, li306, li375, li400, li427, li428, li1000, li2000, li9999, neg_nI1, ↓reduceIte, nI_leI, nI_ltI, nI_eq, nI_add, nI_1, pk_mul, ix_nI, ib_nI, if_true, if_false, eq_self, true_and, and_true, not_false_eq_true, not_true_eq_false, Nat.reduceEqDiff, Nat.reduceLeDiff, Nat.reduceLT, Nat.reduceAdd, Nat.reduceMul, m0, mp, mq, mo, mw, mi, x0, xp, xq, xo, xw, Nat.not_le.mpr h, Nat.not_lt_zero]
theorem Mo_isPlace_no {v : zM} {N S : Nat → Nat} {K : Nat → Nat → Nat} {E : Int32 → Int32 → Int32 → Int32 → Int32} (hW : Wf N K S) (hz : NowM v N K E S) {x : Int32} (h : x < nI 0 ∨ nI (N 0) ≤ x) : Mo_isPlace x v = some (nI 0, v) := by
  obtain ⟨⟨n0, n1, n2, n3, n4, n5⟩, ⟨wp, wq, wo, ww, wi⟩, ⟨z0, zp, zq, zo, zw⟩⟩ := hW
  obtain ⟨⟨m0, mp, mq, mo, mw, mi⟩, hlm, ⟨x0, xp, xq, xo, xw⟩⟩ := hz
  simp only [Nat.zero_add] at x0 xp xq xo xw
  by_cases h0 : x < nI 0
  · simp (disch := omega) only [Mo_isPlace, zl_e, zs_e, li0, li1, li2, li3, li4, li5, li6, li7, li8, li9, li10, li11, li12, li13, li14, li15, li16, li17, li18, li19, li20, li21, li22, li23, li24, li25, li26, li27, li28, li29, li30, li31, li32, li37, li40, li41, li42, li43, li45, li47, li48, li57, li59, li60, li61, li63, li64, li75, li97, li98, li99, li100, li120, li122, li126, li200, li240, li255, li305, li306, li375, li400, li427, li428, li1000, li2000, li9999, neg_nI1, ↓reduceIte, nI_leI, nI_ltI, nI_eq, nI_add, nI_1, pk_mul, ix_nI, ib_nI, if_true, if_false, eq_self, true_and, and_true, not_false_eq_true, not_true_eq_false, Nat.reduceEqDiff, Nat.reduceLeDiff, Nat.reduceLT, Nat.reduceAdd, Nat.reduceMul, m0, mp, mq, mo, mw, mi, x0, xp, xq, xo, xw, h0]
  · have h1 := h.resolve_left h0
    simp (disch := omega) only [Mo_isPlace, zl_e, zs_e, li0, li1, li2, li3, li4, li5, li6, li7, li8, li9, li10, li11, li12, li13, li14, li15, li16, li17, li18, li19, li20, li21, li22, li23, li24, li25, li26, li27, li28, li29, li30, li31, li32, li37, li40, li41, li42, li43, li45, li47, li48, li57, li59, li60, li61, li63, li64, li75, li97, li98, li99, li100, li120, li122, li126, li200, li240, li255, li305, li306, li375, li400, li427, li428, li1000, li2000, li9999, neg_nI1, ↓reduceIte, nI_leI, nI_ltI, nI_eq, nI_add, nI_1, pk_mul, ix_nI, ib_nI, if_true, if_false, eq_self, true_and, and_true, not_false_eq_true, not_true_eq_false, Nat.reduceEqDiff, Nat.reduceLeDiff, Nat.reduceLT, Nat.reduceAdd, Nat.reduceMul, m0, mp, mq, mo, mw, mi, x0, xp, xq, xo, xw, h0, h1]
theorem OW_isPerson_ok {u : zM} {t a : Nat} {N S : Nat → Nat} {K : Nat → Nat → Nat} {E : Int32 → Int32 → Int32 → Int32 → Int32} (hW : Wf N K S) (hu : NowC u t N K E a S) {j : Nat} (h : j < N 2) : OW_isPerson (nI j) u = some (nI 1, u) := by
  obtain ⟨⟨n0, n1, n2, n3, n4, n5⟩, ⟨wp, wq, wo, ww, wi⟩, ⟨z0, zp, zq, zo, zw⟩⟩ := hW
  obtain ⟨rt, ht, ⟨⟨c0, c1, c2, c3, c4, c5⟩, cp, cq, co, cw, ci⟩, hl, ⟨s0, sp, sq, so, sw⟩⟩ := hu
  have lt := layT ht
  simp (disch := omega) only [OW_isPerson, zl_e, zs_e, li0, li1, li2, li3, li4, li5, li6, li7, li8, li9, li10, li11, li12, li13, li14, li15, li16, li17, li18, li19, li20, li21, li22, li23, li24, li25, li26, li27, li28, li29, li30, li31, li32, li37, li40, li41, li42, li43, li45, li47, li48, li57, li59, li60, li61, li63, li64, li75, li97, li98, li99, li100, li120, li122, li126, li200, li240, li255, li305, li306, li375, li400, li427, li428, li1000, li2000, li9999, neg_nI1, ↓reduceIte, nI_leI, nI_ltI, nI_eq, nI_add, nI_1, pk_mul, ix_nI, ib_nI, if_true, if_false, eq_self, true_and, and_true, not_false_eq_true, not_true_eq_false, Nat.reduceEqDiff, Nat.reduceLeDiff, Nat.reduceLT, Nat.reduceAdd, Nat.reduceMul, rt, lt, c0, c1, c2, c3, c4, c5, cp, cq, co, cw, ci, s0, sp, sq, so, sw, Nat.not_le.mpr h, Nat.not_lt_zero]
theorem OW_isPerson_no {u : zM} {t a : Nat} {N S : Nat → Nat} {K : Nat → Nat → Nat} {E : Int32 → Int32 → Int32 → Int32 → Int32} (hW : Wf N K S) (hu : NowC u t N K E a S) {x : Int32} (h : x < nI 0 ∨ nI (N 2) ≤ x) : OW_isPerson x u = some (nI 0, u) := by
  obtain ⟨⟨n0, n1, n2, n3, n4, n5⟩, ⟨wp, wq, wo, ww, wi⟩, ⟨z0, zp, zq, zo, zw⟩⟩ := hW
  obtain ⟨rt, ht, ⟨⟨c0, c1, c2, c3, c4, c5⟩, cp, cq, co, cw, ci⟩, hl, ⟨s0, sp, sq, so, sw⟩⟩ := hu
  have lt := layT ht
  by_cases h0 : x < nI 0
  · simp (disch := omega) only [OW_isPerson, zl_e, zs_e, li0, li1, li2, li3, li4, li5, li6, li7, li8, li9, li10, li11, li12, li13, li14, li15, li16, li17, li18, li19, li20, li21, li22, li23, li24, li25, li26, li27, li28, li29, li30, li31, li32, li37, li40, li41, li42, li43, li45, li47, li48, li57, li59, li60, li61, li63, li64, li75, li97, li98, li99, li100, li120, li122, li126, li200, li240, li255, li305, li306, li375, li400, li427, li428, li1000, li2000, li9999, neg_nI1, ↓reduceIte, nI_leI, nI_ltI, nI_eq, nI_add, nI_1, pk_mul, ix_nI, ib_nI, if_true, if_false, eq_self, true_and, and_true, not_false_eq_true, not_true_eq_false, Nat.reduceEqDiff, Nat.reduceLeDiff, Nat.reduceLT, Nat.reduceAdd, Nat.reduceMul, rt, lt, c0, c1, c2, c3, c4, c5, cp, cq, co, cw, ci, s0, sp, sq, so, sw, h0]
  · have h1 := h.resolve_left h0
    simp (disch := omega) only [OW_isPerson, zl_e, zs_e, li0, li1, li2, li3, li4, li5, li6, li7, li8, li9, li10, li11, li12, li13, li14, li15, li16, li17, li18, li19, li20, li21, li22, li23, li24, li25, li26, li27, li28, li29, li30, li31, li32, li37, li40, li41, li42, li43, li45, li47, li48, li57, li59, li60, li61, li63, li64, li75, li97, li98, li99, li100, li120, li122, li126, li200, li240, li255, li305, li306, li375, li400, li427, li428, li1000, li2000, li9999, neg_nI1, ↓reduceIte, nI_leI, nI_ltI, nI_eq, nI_add, nI_1, pk_mul, ix_nI, ib_nI, if_true, if_false, eq_self, true_and, and_true, not_false_eq_true, not_true_eq_false, Nat.reduceEqDiff, Nat.reduceLeDiff, Nat.reduceLT, Nat.reduceAdd, Nat.reduceMul, rt, lt, c0, c1, c2, c3, c4, c5, cp, cq, co, cw, ci, s0, sp, sq, so, sw, h0, h1]
theorem Mo_isPerson_ok {v : zM} {N S : Nat → Nat} {K : Nat → Nat → Nat} {E : Int32 → Int32 → Int32 → Int32 → Int32} (hW : Wf N K S) (hz : NowM v N K E S) {j : Nat} (h : j < N 2) : Mo_isPerson (nI j) v = some (nI 1, v) := by
  obtain ⟨⟨n0, n1, n2, n3, n4, n5⟩, ⟨wp, wq, wo, ww, wi⟩, ⟨z0, zp, zq, zo, zw⟩⟩ := hW
  obtain ⟨⟨m0, mp, mq, mo, mw, mi⟩, hlm, ⟨x0, xp, xq, xo, xw⟩⟩ := hz
  simp only [Nat.zero_add] at x0 xp xq xo xw
  simp (disch := omega) only [Mo_isPerson, zl_e, zs_e, li0, li1, li2, li3, li4, li5, li6, li7, li8, li9, li10, li11, li12, li13, li14, li15, li16, li17, li18, li19, li20, li21, li22, li23, li24, li25, li26, li27, li28, li29, li30, li31, li32, li37, li40, li41, li42, li43, li45, li47, li48, li57, li59, li60, li61, li63, li64, li75, li97, li98, li99, li100, li120, li122, li126, li200, li240, li255, li305, li306, li375, li400, li427, li428, li1000, li2000, li9999, neg_nI1, ↓reduceIte, nI_leI, nI_ltI, nI_eq, nI_add, nI_1, pk_mul, ix_nI, ib_nI, if_true, if_false, eq_self, true_and, and_true, not_false_eq_true, not_true_eq_false, Nat.reduceEqDiff, Nat.reduceLeDiff, Nat.reduceLT, Nat.reduceAdd, Nat.reduceMul, m0, mp, mq, mo, mw, mi, x0, xp, xq, xo, xw, Nat.not_le.mpr h, Nat.not_lt_zero]
theorem Mo_isPerson_no {v : zM} {N S : Nat → Nat} {K : Nat → Nat → Nat} {E : Int32 → Int32 → Int32 → Int32 → Int32} (hW : Wf N K S) (hz : NowM v N K E S) {x : Int32} (h : x < nI 0 ∨ nI (N 2) ≤ x) : Mo_isPerson x v = some (nI 0, v) := by
  obtain ⟨⟨n0, n1, n2, n3, n4, n5⟩, ⟨wp, wq, wo, ww, wi⟩, ⟨z0, zp, zq, zo, zw⟩⟩ := hW
  obtain ⟨⟨m0, mp, mq, mo, mw, mi⟩, hlm, ⟨x0, xp, xq, xo, xw⟩⟩ := hz
  simp only [Nat.zero_add] at x0 xp xq xo xw
  by_cases h0 : x < nI 0
  · simp (disch := omega) only [Mo_isPerson, zl_e, zs_e, li0, li1, li2, li3, li4, li5, li6, li7, li8, li9, li10, li11, li12, li13, li14, li15, li16, li17, li18, li19, li20, li21, li22, li23, li24, li25, li26, li27, li28, li29, li30, li31, li32, li37, li40, li41, li42, li43, li45, li47, li48, li57, li59, li60, li61, li63, li64, li75, li97, li98, li99, li100, li120, li122, li126, li200, li240, li255, li305, li306, li375, li400, li427, li428, li1000, li2000, li9999, neg_nI1, ↓reduceIte, nI_leI, nI_ltI, nI_eq, nI_add, nI_1, pk_mul, ix_nI, ib_nI, if_true, if_false, eq_self, true_and, and_true, not_false_eq_true, not_true_eq_false, Nat.reduceEqDiff, Nat.reduceLeDiff, Nat.reduceLT, Nat.reduceAdd, Nat.reduceMul, m0, mp, mq, mo, mw, mi, x0, xp, xq, xo, xw, h0]
  · have h1 := h.resolve_left h0
    simp (disch := omega) only [Mo_isPerson, zl_e, zs_e, li0, li1, li2, li3, li4, li5, li6, li7, li8, li9, li10, li11, li12, li13, li14, li15, li16, li17, li18, li19, li20, li21, li22, li23, li24, li25, li26, li27, li28, li29, li30, li31, li32, li37, li40, li41, li42, li43, li45, li47, li48, li57, li59, li60, li61, li63, li64, li75, li97, li98, li99, li100, li120, li122, li126, li200, li240, li255, li305, li306, li375, li400, li427, li428, li1000, li2000, li9999, neg_nI1, ↓reduceIte, nI_leI, nI_ltI, nI_eq, nI_add, nI_1, pk_mul, ix_nI, ib_nI, if_true, if_false, eq_self, true_and, and_true, not_false_eq_true, not_true_eq_false, Nat.reduceEqDiff, Nat.reduceLeDiff, Nat.reduceLT, Nat.reduceAdd, Nat.reduceMul, m0, mp, mq, mo, mw, mi, x0, xp, xq, xo, xw, h0, h1]
theorem OW_isOtter_ok {u : zM} {t a : Nat} {N S : Nat → Nat} {K : Nat → Nat → Nat} {E : Int32 → Int32 → Int32 → Int32 → Int32} (hW : Wf N K S) (hu : NowC u t N K E a S) {j : Nat} (h : j < N 3) : OW_isOtter (nI j) u = some (nI 1, u) := by
  obtain ⟨⟨n0, n1, n2, n3, n4, n5⟩, ⟨wp, wq, wo, ww, wi⟩, ⟨z0, zp, zq, zo, zw⟩⟩ := hW
  obtain ⟨rt, ht, ⟨⟨c0, c1, c2, c3, c4, c5⟩, cp, cq, co, cw, ci⟩, hl, ⟨s0, sp, sq, so, sw⟩⟩ := hu
  have lt := layT ht
  simp (disch := omega) only [OW_isOtter, zl_e, zs_e, li0, li1, li2, li3, li4, li5, li6, li7, li8, li9, li10, li11, li12, li13, li14, li15, li16, li17, li18, li19, li20, li21, li22, li23, li24, li25, li26, li27, li28, li29, li30, li31, li32, li37, li40, li41, li42, li43, li45, li47, li48, li57, li59, li60, li61, li63, li64, li75, li97, li98, li99, li100, li120, li122, li126, li200, li240, li255, li305, li306, li375, li400, li427, li428, li1000, li2000, li9999, neg_nI1, ↓reduceIte, nI_leI, nI_ltI, nI_eq, nI_add, nI_1, pk_mul, ix_nI, ib_nI, if_true, if_false, eq_self, true_and, and_true, not_false_eq_true, not_true_eq_false, Nat.reduceEqDiff, Nat.reduceLeDiff, Nat.reduceLT, Nat.reduceAdd, Nat.reduceMul, rt, lt, c0, c1, c2, c3, c4, c5, cp, cq, co, cw, ci, s0, sp, sq, so, sw, Nat.not_le.mpr h, Nat.not_lt_zero]
theorem OW_isOtter_no {u : zM} {t a : Nat} {N S : Nat → Nat} {K : Nat → Nat → Nat} {E : Int32 → Int32 → Int32 → Int32 → Int32} (hW : Wf N K S) (hu : NowC u t N K E a S) {x : Int32} (h : x < nI 0 ∨ nI (N 3) ≤ x) : OW_isOtter x u = some (nI 0, u) := by
  obtain ⟨⟨n0, n1, n2, n3, n4, n5⟩, ⟨wp, wq, wo, ww, wi⟩, ⟨z0, zp, zq, zo, zw⟩⟩ := hW
  obtain ⟨rt, ht, ⟨⟨c0, c1, c2, c3, c4, c5⟩, cp, cq, co, cw, ci⟩, hl, ⟨s0, sp, sq, so, sw⟩⟩ := hu
  have lt := layT ht
  by_cases h0 : x < nI 0
  · simp (disch := omega) only [OW_isOtter, zl_e, zs_e, li0, li1, li2, li3, li4, li5, li6, li7, li8, li9, li10, li11, li12, li13, li14, li15, li16, li17, li18, li19, li20, li21, li22, li23, li24, li25, li26, li27, li28, li29, li30, li31, li32, li37, li40, li41, li42, li43, li45, li47, li48, li57, li59, li60, li61, li63, li64, li75, li97, li98, li99, li100, li120, li122, li126, li200, li240, li255, li305, li306, li375, li400, li427, li428, li1000, li2000, li9999, neg_nI1, ↓reduceIte, nI_leI, nI_ltI, nI_eq, nI_add, nI_1, pk_mul, ix_nI, ib_nI, if_true, if_false, eq_self, true_and, and_true, not_false_eq_true, not_true_eq_false, Nat.reduceEqDiff, Nat.reduceLeDiff, Nat.reduceLT, Nat.reduceAdd, Nat.reduceMul, rt, lt, c0, c1, c2, c3, c4, c5, cp, cq, co, cw, ci, s0, sp, sq, so, sw, h0]
  · have h1 := h.resolve_left h0
    simp (disch := omega) only [OW_isOtter, zl_e, zs_e, li0, li1, li2, li3, li4, li5, li6, li7, li8, li9, li10, li11, li12, li13, li14, li15, li16, li17, li18, li19, li20, li21, li22, li23, li24, li25, li26, li27, li28, li29, li30, li31, li32, li37, li40, li41, li42, li43, li45, li47, li48, li57, li59, li60, li61, li63, li64, li75, li97, li98, li99, li100, li120, li122, li126, li200, li240, li255, li305, li306, li375, li400, li427, li428, li1000, li2000, li9999, neg_nI1, ↓reduceIte, nI_leI, nI_ltI, nI_eq, nI_add, nI_1, pk_mul, ix_nI, ib_nI, if_true, if_false, eq_self, true_and, and_true, not_false_eq_true, not_true_eq_false, Nat.reduceEqDiff, Nat.reduceLeDiff, Nat.reduceLT, Nat.reduceAdd, Nat.reduceMul, rt, lt, c0, c1, c2, c3, c4, c5, cp, cq, co, cw, ci, s0, sp, sq, so, sw, h0, h1]
theorem Mo_isOtter_ok {v : zM} {N S : Nat → Nat} {K : Nat → Nat → Nat} {E : Int32 → Int32 → Int32 → Int32 → Int32} (hW : Wf N K S) (hz : NowM v N K E S) {j : Nat} (h : j < N 3) : Mo_isOtter (nI j) v = some (nI 1, v) := by
  obtain ⟨⟨n0, n1, n2, n3, n4, n5⟩, ⟨wp, wq, wo, ww, wi⟩, ⟨z0, zp, zq, zo, zw⟩⟩ := hW
  obtain ⟨⟨m0, mp, mq, mo, mw, mi⟩, hlm, ⟨x0, xp, xq, xo, xw⟩⟩ := hz
  simp only [Nat.zero_add] at x0 xp xq xo xw
  simp (disch := omega) only [Mo_isOtter, zl_e, zs_e, li0, li1, li2, li3, li4, li5, li6, li7, li8, li9, li10, li11, li12, li13, li14, li15, li16, li17, li18, li19, li20, li21, li22, li23, li24, li25, li26, li27, li28, li29, li30, li31, li32, li37, li40, li41, li42, li43, li45, li47, li48, li57, li59, li60, li61, li63, li64, li75, li97, li98, li99, li100, li120, li122, li126, li200, li240, li255, li305, li306, li375, li400, li427, li428, li1000, li2000, li9999, neg_nI1, ↓reduceIte, nI_leI, nI_ltI, nI_eq, nI_add, nI_1, pk_mul, ix_nI, ib_nI, if_true, if_false, eq_self, true_and, and_true, not_false_eq_true, not_true_eq_false, Nat.reduceEqDiff, Nat.reduceLeDiff, Nat.reduceLT, Nat.reduceAdd, Nat.reduceMul, m0, mp, mq, mo, mw, mi, x0, xp, xq, xo, xw, Nat.not_le.mpr h, Nat.not_lt_zero]
theorem Mo_isOtter_no {v : zM} {N S : Nat → Nat} {K : Nat → Nat → Nat} {E : Int32 → Int32 → Int32 → Int32 → Int32} (hW : Wf N K S) (hz : NowM v N K E S) {x : Int32} (h : x < nI 0 ∨ nI (N 3) ≤ x) : Mo_isOtter x v = some (nI 0, v) := by
  obtain ⟨⟨n0, n1, n2, n3, n4, n5⟩, ⟨wp, wq, wo, ww, wi⟩, ⟨z0, zp, zq, zo, zw⟩⟩ := hW
  obtain ⟨⟨m0, mp, mq, mo, mw, mi⟩, hlm, ⟨x0, xp, xq, xo, xw⟩⟩ := hz
  simp only [Nat.zero_add] at x0 xp xq xo xw
  by_cases h0 : x < nI 0
  · simp (disch := omega) only [Mo_isOtter, zl_e, zs_e, li0, li1, li2, li3, li4, li5, li6, li7, li8, li9, li10, li11, li12, li13, li14, li15, li16, li17, li18, li19, li20, li21, li22, li23, li24, li25, li26, li27, li28, li29, li30, li31, li32, li37, li40, li41, li42, li43, li45, li47, li48, li57, li59, li60, li61, li63, li64, li75, li97, li98, li99, li100, li120, li122, li126, li200, li240, li255, li305, li306, li375, li400, li427, li428, li1000, li2000, li9999, neg_nI1, ↓reduceIte, nI_leI, nI_ltI, nI_eq, nI_add, nI_1, pk_mul, ix_nI, ib_nI, if_true, if_false, eq_self, true_and, and_true, not_false_eq_true, not_true_eq_false, Nat.reduceEqDiff, Nat.reduceLeDiff, Nat.reduceLT, Nat.reduceAdd, Nat.reduceMul, m0, mp, mq, mo, mw, mi, x0, xp, xq, xo, xw, h0]
  · have h1 := h.resolve_left h0
    simp (disch := omega) only [Mo_isOtter, zl_e, zs_e, li0, li1, li2, li3, li4, li5, li6, li7, li8, li9, li10, li11, li12, li13, li14, li15, li16, li17, li18, li19, li20, li21, li22, li23, li24, li25, li26, li27, li28, li29, li30, li31, li32, li37, li40, li41, li42, li43, li45, li47, li48, li57, li59, li60, li61, li63, li64, li75, li97, li98, li99, li100, li120, li122, li126, li200, li240, li255, li305, li306, li375, li400, li427, li428, li1000, li2000, li9999, neg_nI1, ↓reduceIte, nI_leI, nI_ltI, nI_eq, nI_add, nI_1, pk_mul, ix_nI, ib_nI, if_true, if_false, eq_self, true_and, and_true, not_false_eq_true, not_true_eq_false, Nat.reduceEqDiff, Nat.reduceLeDiff, Nat.reduceLT, Nat.reduceAdd, Nat.reduceMul, m0, mp, mq, mo, mw, mi, x0, xp, xq, xo, xw, h0, h1]
theorem OW_isWrit_ok {u : zM} {t a : Nat} {N S : Nat → Nat} {K : Nat → Nat → Nat} {E : Int32 → Int32 → Int32 → Int32 → Int32} (hW : Wf N K S) (hu : NowC u t N K E a S) {j : Nat} (h : j < N 4) : OW_isWrit (nI j) u = some (nI 1, u) := by
  obtain ⟨⟨n0, n1, n2, n3, n4, n5⟩, ⟨wp, wq, wo, ww, wi⟩, ⟨z0, zp, zq, zo, zw⟩⟩ := hW
  obtain ⟨rt, ht, ⟨⟨c0, c1, c2, c3, c4, c5⟩, cp, cq, co, cw, ci⟩, hl, ⟨s0, sp, sq, so, sw⟩⟩ := hu
  have lt := layT ht
  simp (disch := omega) only [OW_isWrit, zl_e, zs_e, li0, li1, li2, li3, li4, li5, li6, li7, li8, li9, li10, li11, li12, li13, li14, li15, li16, li17, li18, li19, li20, li21, li22, li23, li24, li25, li26, li27, li28, li29, li30, li31, li32, li37, li40, li41, li42, li43, li45, li47, li48, li57, li59, li60, li61, li63, li64, li75, li97, li98, li99, li100, li120, li122, li126, li200, li240, li255, li305, li306, li375, li400, li427, li428, li1000, li2000, li9999, neg_nI1, ↓reduceIte, nI_leI, nI_ltI, nI_eq, nI_add, nI_1, pk_mul, ix_nI, ib_nI, if_true, if_false, eq_self, true_and, and_true, not_false_eq_true, not_true_eq_false, Nat.reduceEqDiff, Nat.reduceLeDiff, Nat.reduceLT, Nat.reduceAdd, Nat.reduceMul, rt, lt, c0, c1, c2, c3, c4, c5, cp, cq, co, cw, ci, s0, sp, sq, so, sw, Nat.not_le.mpr h, Nat.not_lt_zero]
theorem OW_isWrit_no {u : zM} {t a : Nat} {N S : Nat → Nat} {K : Nat → Nat → Nat} {E : Int32 → Int32 → Int32 → Int32 → Int32} (hW : Wf N K S) (hu : NowC u t N K E a S) {x : Int32} (h : x < nI 0 ∨ nI (N 4) ≤ x) : OW_isWrit x u = some (nI 0, u) := by
  obtain ⟨⟨n0, n1, n2, n3, n4, n5⟩, ⟨wp, wq, wo, ww, wi⟩, ⟨z0, zp, zq, zo, zw⟩⟩ := hW
  obtain ⟨rt, ht, ⟨⟨c0, c1, c2, c3, c4, c5⟩, cp, cq, co, cw, ci⟩, hl, ⟨s0, sp, sq, so, sw⟩⟩ := hu
  have lt := layT ht
  by_cases h0 : x < nI 0
  · simp (disch := omega) only [OW_isWrit, zl_e, zs_e, li0, li1, li2, li3, li4, li5, li6, li7, li8, li9, li10, li11, li12, li13, li14, li15, li16, li17, li18, li19, li20, li21, li22, li23, li24, li25, li26, li27, li28, li29, li30, li31, li32, li37, li40, li41, li42, li43, li45, li47, li48, li57, li59, li60, li61, li63, li64, li75, li97, li98, li99, li100, li120, li122, li126, li200, li240, li255, li305, li306, li375, li400, li427, li428, li1000, li2000, li9999, neg_nI1, ↓reduceIte, nI_leI, nI_ltI, nI_eq, nI_add, nI_1, pk_mul, ix_nI, ib_nI, if_true, if_false, eq_self, true_and, and_true, not_false_eq_true, not_true_eq_false, Nat.reduceEqDiff, Nat.reduceLeDiff, Nat.reduceLT, Nat.reduceAdd, Nat.reduceMul, rt, lt, c0, c1, c2, c3, c4, c5, cp, cq, co, cw, ci, s0, sp, sq, so, sw, h0]
  · have h1 := h.resolve_left h0
    simp (disch := omega) only [OW_isWrit, zl_e, zs_e, li0, li1, li2, li3, li4, li5, li6, li7, li8, li9, li10, li11, li12, li13, li14, li15, li16, li17, li18, li19, li20, li21, li22, li23, li24, li25, li26, li27, li28, li29, li30, li31, li32, li37, li40, li41, li42, li43, li45, li47, li48, li57, li59, li60, li61, li63, li64, li75, li97, li98, li99, li100, li120, li122, li126, li200, li240, li255, li305, li306, li375, li400, li427, li428, li1000, li2000, li9999, neg_nI1, ↓reduceIte, nI_leI, nI_ltI, nI_eq, nI_add, nI_1, pk_mul, ix_nI, ib_nI, if_true, if_false, eq_self, true_and, and_true, not_false_eq_true, not_true_eq_false, Nat.reduceEqDiff, Nat.reduceLeDiff, Nat.reduceLT, Nat.reduceAdd, Nat.reduceMul, rt, lt, c0, c1, c2, c3, c4, c5, cp, cq, co, cw, ci, s0, sp, sq, so, sw, h0, h1]
theorem Mo_isWrit_ok {v : zM} {N S : Nat → Nat} {K : Nat → Nat → Nat} {E : Int32 → Int32 → Int32 → Int32 → Int32} (hW : Wf N K S) (hz : NowM v N K E S) {j : Nat} (h : j < N 4) : Mo_isWrit (nI j) v = some (nI 1, v) := by
  obtain ⟨⟨n0, n1, n2, n3, n4, n5⟩, ⟨wp, wq, wo, ww, wi⟩, ⟨z0, zp, zq, zo, zw⟩⟩ := hW
  obtain ⟨⟨m0, mp, mq, mo, mw, mi⟩, hlm, ⟨x0, xp, xq, xo, xw⟩⟩ := hz
  simp only [Nat.zero_add] at x0 xp xq xo xw
  simp (disch := omega) only [Mo_isWrit, zl_e, zs_e, li0, li1, li2, li3, li4, li5, li6, li7, li8, li9, li10, li11, li12, li13, li14, li15, li16, li17, li18, li19, li20, li21, li22, li23, li24, li25, li26, li27, li28, li29, li30, li31, li32, li37, li40, li41, li42, li43, li45, li47, li48, li57, li59, li60, li61, li63, li64, li75, li97, li98, li99, li100, li120, li122, li126, li200, li240, li255, li305, li306, li375, li400, li427, li428, li1000, li2000, li9999, neg_nI1, ↓reduceIte, nI_leI, nI_ltI, nI_eq, nI_add, nI_1, pk_mul, ix_nI, ib_nI, if_true, if_false, eq_self, true_and, and_true, not_false_eq_true, not_true_eq_false, Nat.reduceEqDiff, Nat.reduceLeDiff, Nat.reduceLT, Nat.reduceAdd, Nat.reduceMul, m0, mp, mq, mo, mw, mi, x0, xp, xq, xo, xw, Nat.not_le.mpr h, Nat.not_lt_zero]
theorem Mo_isWrit_no {v : zM} {N S : Nat → Nat} {K : Nat → Nat → Nat} {E : Int32 → Int32 → Int32 → Int32 → Int32} (hW : Wf N K S) (hz : NowM v N K E S) {x : Int32} (h : x < nI 0 ∨ nI (N 4) ≤ x) : Mo_isWrit x v = some (nI 0, v) := by
  obtain ⟨⟨n0, n1, n2, n3, n4, n5⟩, ⟨wp, wq, wo, ww, wi⟩, ⟨z0, zp, zq, zo, zw⟩⟩ := hW
  obtain ⟨⟨m0, mp, mq, mo, mw, mi⟩, hlm, ⟨x0, xp, xq, xo, xw⟩⟩ := hz
  simp only [Nat.zero_add] at x0 xp xq xo xw
  by_cases h0 : x < nI 0
  · simp (disch := omega) only [Mo_isWrit, zl_e, zs_e, li0, li1, li2, li3, li4, li5, li6, li7, li8, li9, li10, li11, li12, li13, li14, li15, li16, li17, li18, li19, li20, li21, li22, li23, li24, li25, li26, li27, li28, li29, li30, li31, li32, li37, li40, li41, li42, li43, li45, li47, li48, li57, li59, li60, li61, li63, li64, li75, li97, li98, li99, li100, li120, li122, li126, li200, li240, li255, li305, li306, li375, li400, li427, li428, li1000, li2000, li9999, neg_nI1, ↓reduceIte, nI_leI, nI_ltI, nI_eq, nI_add, nI_1, pk_mul, ix_nI, ib_nI, if_true, if_false, eq_self, true_and, and_true, not_false_eq_true, not_true_eq_false, Nat.reduceEqDiff, Nat.reduceLeDiff, Nat.reduceLT, Nat.reduceAdd, Nat.reduceMul, m0, mp, mq, mo, mw, mi, x0, xp, xq, xo, xw, h0]
  · have h1 := h.resolve_left h0
    simp (disch := omega) only [Mo_isWrit, zl_e, zs_e, li0, li1, li2, li3, li4, li5, li6, li7, li8, li9, li10, li11, li12, li13, li14, li15, li16, li17, li18, li19, li20, li21, li22, li23, li24, li25, li26, li27, li28, li29, li30, li31, li32, li37, li40, li41, li42, li43, li45, li47, li48, li57, li59, li60, li61, li63, li64, li75, li97, li98, li99, li100, li120, li122, li126, li200, li240, li255, li305, li306, li375, li400, li427, li428, li1000, li2000, li9999, neg_nI1, ↓reduceIte, nI_leI, nI_ltI, nI_eq, nI_add, nI_1, pk_mul, ix_nI, ib_nI, if_true, if_false, eq_self, true_and, and_true, not_false_eq_true, not_true_eq_false, Nat.reduceEqDiff, Nat.reduceLeDiff, Nat.reduceLT, Nat.reduceAdd, Nat.reduceMul, m0, mp, mq, mo, mw, mi, x0, xp, xq, xo, xw, h0, h1]
theorem NowM.th {v : zM} {N S : Nat → Nat} {K : Nat → Nat → Nat} {E : Int32 → Int32 → Int32 → Int32 → Int32} (hN : WfN N) (hz : NowM v N K E S) : NowM (sI v 1 0 0) N K E S := by
  obtain ⟨h1, h2, h3⟩ := hz
  have e : ∀ a k, a ≠ 1 → gI (sI v 1 0 0) a k = gI v a k := fun a k h => by rw [gI_sI, if_neg (by omega)]
  exact ⟨h1.fr hN (fun a k h => e a k (by omega)), h2.fr ⟨e _ _ (by decide), e _ _ (by decide), fun k _ => e _ _ (by decide)⟩, h3.fr hN (fun k _ => e _ _ (by decide))⟩
theorem Mo_within_ok {j n m : Nat} {u : zM} (h : n ≤ j) (h2 : j ≤ m) (hm : m < 2 ^ 31) : Mo_within (nI j) (nI n) (nI m) u = some (nI 1, u) := by
  unfold Mo_within
  rw [if_neg (nI_nlt h (by omega)), if_neg (nI_nlt h2 hm)]
  rfl
theorem Mo_within_no {x : Int32} {m : Nat} {u : zM} (h : x < nI 0 ∨ nI (m + 1) ≤ x) (hm : m < 2 ^ 30) : Mo_within x (nI 0) (nI m) u = some (nI 0, u) := by
  unfold Mo_within
  by_cases h0 : x < nI 0
  · rw [if_pos h0]; rfl
  · have h1 := h.resolve_left h0
    rw [if_neg h0, if_pos (Int32.lt_of_lt_of_le (nI_lt (Nat.lt_succ_self m) (by omega)) h1)]
    rfl
theorem OW_within_no {x : Int32} {m : Nat} {u : zM} (h : x < nI 0 ∨ nI (m + 1) ≤ x) (hm : m < 2 ^ 30) : OW_within x (nI 0) (nI m) u = some (nI 0, u) := Mo_within_no h hm
theorem OW_within_ok {j n m : Nat} {u : zM} (h : n ≤ j) (h2 : j ≤ m) (hm : m < 2 ^ 31) : OW_within (nI j) (nI n) (nI m) u = some (nI 1, u) := Mo_within_ok h h2 hm
/-- an argument beyond all that are asked for is none of them -/
theorem out_ne {x : Int32} {n k : Nat} (h : x < nI 0 ∨ nI n ≤ x) (hk : k < n) (hn : n < 2 ^ 31) : ¬ x = nI k := by
  rintro rfl
  rcases h with h | h
  · exact nI_nlt (Nat.zero_le _) (by omega) h
  · exact nI_ge hk hn h
theorem layS54 : layC 56 = (1, 5) ∧ layC 57 = (1, 3) ∧ layC 59 = (1, 6) ∧ layC 62 = (1, 5) := ⟨rfl, rfl, rfl, rfl⟩

theorem q_place {u v : zM} {t : Nat} {N S : Nat → Nat} {K : Nat → Nat → Nat} {E : Int32 → Int32 → Int32 → Int32 → Int32} (hW : Wf N K S) (hu : NowC u t N K E 54 S) (hz : NowM v N K E S) (x y : Int32) : ∃ r, OW_place x y u = some (r, u) ∧ Mo_place x y v = some (r, sI v 1 0 0) := by
  unfold Mo_place
  dsimp only [zlet]
  have hz := hz.th hW.1
  generalize sI v 1 0 0 = v at *
  have hW' := hW
  have hu' := hu
  have hz' := hz
  obtain ⟨⟨n0, n1, n2, n3, n4, n5⟩, ⟨wp, wq, wo, ww, wi⟩, ⟨z0, zp, zq, zo, zw⟩⟩ := hW
  obtain ⟨rt, ht, ⟨⟨c0, c1, c2, c3, c4, c5⟩, cp, cq, co, cw, ci⟩, hl, ⟨s0, sp, sq, so, sw⟩⟩ := hu
  have lt := layT ht
  obtain ⟨⟨m0, mp, mq, mo, mw, mi⟩, hlm, ⟨x0, xp, xq, xo, xw⟩⟩ := hz
  simp only [Nat.zero_add] at x0 xp xq xo xw
  rcases arg_ix x (show N 0 < 2 ^ 31 by omega) with ⟨p, hp, rfl⟩ | h
  · have a1 := zp p hp
    rcases arg_ix y (show 4 < 2 ^ 31 by omega) with ⟨k, hk, rfl⟩ | hy
    · obtain rfl | rfl | rfl | rfl : k = 0 ∨ k = 1 ∨ k = 2 ∨ k = 3 := by omega
      · refine ⟨nI (S (1 + p)), ?_, ?_⟩
        · simp (disch := omega) only [OW_place, OW_isPlace_ok hW' hu' hp, zl_e, zs_e, li0, li1, li2, li3, li4, li5, li6, li7, li8, li9, li10, li11, li12, li13, li14, li15, li16, li17, li18, li19, li20, li21, li22, li23, li24, li25, li26, li27, li28, li29, li30, li31, li32, li37, li40, li41, li42, li43, li45, li47, li48, li57, li59, li60, li61, li63, li64, li75, li97, li98, li99, li100, li120, li122, li126, li200, li240, li255, li305, li306, li375, li400, li427, li428, li1000, li2000, li9999, neg_nI1, ↓reduceIte, nI_leI, nI_ltI, nI_eq, nI_add, nI_1, pk_mul, ix_nI, ib_nI, if_true, if_false, eq_self, true_and, and_true, not_false_eq_true, not_true_eq_false, Nat.reduceEqDiff, Nat.reduceLeDiff, Nat.reduceLT, Nat.reduceAdd, Nat.reduceMul, rt, lt, c0, c1, c2, c3, c4, c5, cp, cq, co, cw, ci, s0, sp, sq, so, sw]
          all_goals rfl
        · simp (disch := omega) only [Mo_isPlace_ok hW' hz' hp, Mo_within_ok, zl_e, zs_e, li0, li1, li2, li3, li4, li5, li6, li7, li8, li9, li10, li11, li12, li13, li14, li15, li16, li17, li18, li19, li20, li21, li22, li23, li24, li25, li26, li27, li28, li29, li30, li31, li32, li37, li40, li41, li42, li43, li45, li47, li48, li57, li59, li60, li61, li63, li64, li75, li97, li98, li99, li100, li120, li122, li126, li200, li240, li255, li305, li306, li375, li400, li427, li428, li1000, li2000, li9999, neg_nI1, ↓reduceIte, nI_leI, nI_ltI, nI_eq, nI_add, nI_1, pk_mul, ix_nI, ib_nI, if_true, if_false, eq_self, true_and, and_true, not_false_eq_true, not_true_eq_false, Nat.reduceEqDiff, Nat.reduceLeDiff, Nat.reduceLT, Nat.reduceAdd, Nat.reduceMul, m0, mp, mq, mo, mw, mi, x0, xp, xq, xo, xw]
          all_goals rfl
      · refine ⟨nI (K 0 p), ?_, ?_⟩
        · simp (disch := omega) only [OW_place, OW_isPlace_ok hW' hu' hp, zl_e, zs_e, li0, li1, li2, li3, li4, li5, li6, li7, li8, li9, li10, li11, li12, li13, li14, li15, li16, li17, li18, li19, li20, li21, li22, li23, li24, li25, li26, li27, li28, li29, li30, li31, li32, li37, li40, li41, li42, li43, li45, li47, li48, li57, li59, li60, li61, li63, li64, li75, li97, li98, li99, li100, li120, li122, li126, li200, li240, li255, li305, li306, li375, li400, li427, li428, li1000, li2000, li9999, neg_nI1, ↓reduceIte, nI_leI, nI_ltI, nI_eq, nI_add, nI_1, pk_mul, ix_nI, ib_nI, if_true, if_false, eq_self, true_and, and_true, not_false_eq_true, not_true_eq_false, Nat.reduceEqDiff, Nat.reduceLeDiff, Nat.reduceLT, Nat.reduceAdd, Nat.reduceMul, rt, lt, c0, c1, c2, c3, c4, c5, cp, cq, co, cw, ci, s0, sp, sq, so, sw]
          all_goals rfl
        · simp (disch := omega) only [Mo_isPlace_ok hW' hz' hp, Mo_within_ok, zl_e, zs_e, li0, li1, li2, li3, li4, li5, li6, li7, li8, li9, li10, li11, li12, li13, li14, li15, li16, li17, li18, li19, li20, li21, li22, li23, li24, li25, li26, li27, li28, li29, li30, li31, li32, li37, li40, li41, li42, li43, li45, li47, li48, li57, li59, li60, li61, li63, li64, li75, li97, li98, li99, li100, li120, li122, li126, li200, li240, li255, li305, li306, li375, li400, li427, li428, li1000, li2000, li9999, neg_nI1, ↓reduceIte, nI_leI, nI_ltI, nI_eq, nI_add, nI_1, pk_mul, ix_nI, ib_nI, if_true, if_false, eq_self, true_and, and_true, not_false_eq_true, not_true_eq_false, Nat.reduceEqDiff, Nat.reduceLeDiff, Nat.reduceLT, Nat.reduceAdd, Nat.reduceMul, m0, mp, mq, mo, mw, mi, x0, xp, xq, xo, xw]
          all_goals rfl
      · refine ⟨nI (whoS N S p), ?_, ?_⟩
        · simp (disch := omega) only [OW_place, OW_isPlace_ok hW' hu' hp, zl_e, zs_e, li0, li1, li2, li3, li4, li5, li6, li7, li8, li9, li10, li11, li12, li13, li14, li15, li16, li17, li18, li19, li20, li21, li22, li23, li24, li25, li26, li27, li28, li29, li30, li31, li32, li37, li40, li41, li42, li43, li45, li47, li48, li57, li59, li60, li61, li63, li64, li75, li97, li98, li99, li100, li120, li122, li126, li200, li240, li255, li305, li306, li375, li400, li427, li428, li1000, li2000, li9999, neg_nI1, ↓reduceIte, nI_leI, nI_ltI, nI_eq, nI_add, nI_1, pk_mul, ix_nI, ib_nI, if_true, if_false, eq_self, true_and, and_true, not_false_eq_true, not_true_eq_false, Nat.reduceEqDiff, Nat.reduceLeDiff, Nat.reduceLT, Nat.reduceAdd, Nat.reduceMul, rt, lt, c0, c1, c2, c3, c4, c5, cp, cq, co, cw, ci, s0, sp, sq, so, sw, OW_bitsOf_eq layS54.1 n2 (by omega) (fun q => decide (S (8 + q) = p)) (nI p) (fun i hi => by have := zq i hi; rw [sq i hi, nI_eq (by omega) (by omega)]; simp)]
          all_goals rfl
        · simp (disch := omega) only [Mo_isPlace_ok hW' hz' hp, Mo_within_ok, Mo_whoAt_eq hW' hz', zl_e, zs_e, li0, li1, li2, li3, li4, li5, li6, li7, li8, li9, li10, li11, li12, li13, li14, li15, li16, li17, li18, li19, li20, li21, li22, li23, li24, li25, li26, li27, li28, li29, li30, li31, li32, li37, li40, li41, li42, li43, li45, li47, li48, li57, li59, li60, li61, li63, li64, li75, li97, li98, li99, li100, li120, li122, li126, li200, li240, li255, li305, li306, li375, li400, li427, li428, li1000, li2000, li9999, neg_nI1, ↓reduceIte, nI_leI, nI_ltI, nI_eq, nI_add, nI_1, pk_mul, ix_nI, ib_nI, if_true, if_false, eq_self, true_and, and_true, not_false_eq_true, not_true_eq_false, Nat.reduceEqDiff, Nat.reduceLeDiff, Nat.reduceLT, Nat.reduceAdd, Nat.reduceMul, m0, mp, mq, mo, mw, mi, x0, xp, xq, xo, xw]
          all_goals rfl
      · refine ⟨nI (ottS N S p), ?_, ?_⟩
        · simp (disch := omega) only [OW_place, OW_isPlace_ok hW' hu' hp, zl_e, zs_e, li0, li1, li2, li3, li4, li5, li6, li7, li8, li9, li10, li11, li12, li13, li14, li15, li16, li17, li18, li19, li20, li21, li22, li23, li24, li25, li26, li27, li28, li29, li30, li31, li32, li37, li40, li41, li42, li43, li45, li47, li48, li57, li59, li60, li61, li63, li64, li75, li97, li98, li99, li100, li120, li122, li126, li200, li240, li255, li305, li306, li375, li400, li427, li428, li1000, li2000, li9999, neg_nI1, ↓reduceIte, nI_leI, nI_ltI, nI_eq, nI_add, nI_1, pk_mul, ix_nI, ib_nI, if_true, if_false, eq_self, true_and, and_true, not_false_eq_true, not_true_eq_false, Nat.reduceEqDiff, Nat.reduceLeDiff, Nat.reduceLT, Nat.reduceAdd, Nat.reduceMul, rt, lt, c0, c1, c2, c3, c4, c5, cp, cq, co, cw, ci, s0, sp, sq, so, sw, OW_bitsOf_eq layS54.2.1 n3 (by omega) (fun q => decide (S (13 + q) = p)) (nI p) (fun i hi => by have := zo i hi; rw [(so i hi).1, nI_eq (by omega) (by omega)]; simp)]
          all_goals rfl
        · simp (disch := omega) only [Mo_isPlace_ok hW' hz' hp, Mo_within_ok, Mo_place_69_eq hW' hz', zl_e, zs_e, li0, li1, li2, li3, li4, li5, li6, li7, li8, li9, li10, li11, li12, li13, li14, li15, li16, li17, li18, li19, li20, li21, li22, li23, li24, li25, li26, li27, li28, li29, li30, li31, li32, li37, li40, li41, li42, li43, li45, li47, li48, li57, li59, li60, li61, li63, li64, li75, li97, li98, li99, li100, li120, li122, li126, li200, li240, li255, li305, li306, li375, li400, li427, li428, li1000, li2000, li9999, neg_nI1, ↓reduceIte, nI_leI, nI_ltI, nI_eq, nI_add, nI_1, pk_mul, ix_nI, ib_nI, if_true, if_false, eq_self, true_and, and_true, not_false_eq_true, not_true_eq_false, Nat.reduceEqDiff, Nat.reduceLeDiff, Nat.reduceLT, Nat.reduceAdd, Nat.reduceMul, m0, mp, mq, mo, mw, mi, x0, xp, xq, xo, xw, Nat.le_refl]
    · refine ⟨mI, ?_, ?_⟩
      · simp (disch := omega) only [OW_place, OW_isPlace_ok hW' hu' hp, zl_e, zs_e, li0, li1, li2, li3, li4, li5, li6, li7, li8, li9, li10, li11, li12, li13, li14, li15, li16, li17, li18, li19, li20, li21, li22, li23, li24, li25, li26, li27, li28, li29, li30, li31, li32, li37, li40, li41, li42, li43, li45, li47, li48, li57, li59, li60, li61, li63, li64, li75, li97, li98, li99, li100, li120, li122, li126, li200, li240, li255, li305, li306, li375, li400, li427, li428, li1000, li2000, li9999, neg_nI1, ↓reduceIte, nI_leI, nI_ltI, nI_eq, nI_add, nI_1, pk_mul, ix_nI, ib_nI, if_true, if_false, eq_self, true_and, and_true, not_false_eq_true, not_true_eq_false, Nat.reduceEqDiff, Nat.reduceLeDiff, Nat.reduceLT, Nat.reduceAdd, Nat.reduceMul, rt, lt, c0, c1, c2, c3, c4, c5, cp, cq, co, cw, ci, s0, sp, sq, so, sw, out_ne hy]
        all_goals rfl
      · simp (disch := omega) only [Mo_isPlace_ok hW' hz' hp, Mo_within_no hy, zl_e, zs_e, li0, li1, li2, li3, li4, li5, li6, li7, li8, li9, li10, li11, li12, li13, li14, li15, li16, li17, li18, li19, li20, li21, li22, li23, li24, li25, li26, li27, li28, li29, li30, li31, li32, li37, li40, li41, li42, li43, li45, li47, li48, li57, li59, li60, li61, li63, li64, li75, li97, li98, li99, li100, li120, li122, li126, li200, li240, li255, li305, li306, li375, li400, li427, li428, li1000, li2000, li9999, neg_nI1, ↓reduceIte, nI_leI, nI_ltI, nI_eq, nI_add, nI_1, pk_mul, ix_nI, ib_nI, if_true, if_false, eq_self, true_and, and_true, not_false_eq_true, not_true_eq_false, Nat.reduceEqDiff, Nat.reduceLeDiff, Nat.reduceLT, Nat.reduceAdd, Nat.reduceMul, m0, mp, mq, mo, mw, mi, x0, xp, xq, xo, xw]
        all_goals rfl
  · refine ⟨mI, ?_, ?_⟩
    · simp (disch := omega) only [OW_place, OW_isPlace_no hW' hu' h, zl_e, zs_e, li0, li1, li2, li3, li4, li5, li6, li7, li8, li9, li10, li11, li12, li13, li14, li15, li16, li17, li18, li19, li20, li21, li22, li23, li24, li25, li26, li27, li28, li29, li30, li31, li32, li37, li40, li41, li42, li43, li45, li47, li48, li57, li59, li60, li61, li63, li64, li75, li97, li98, li99, li100, li120, li122, li126, li200, li240, li255, li305, li306, li375, li400, li427, li428, li1000, li2000, li9999, neg_nI1, ↓reduceIte, nI_leI, nI_ltI, nI_eq, nI_add, nI_1, pk_mul, ix_nI, ib_nI, if_true, if_false, eq_self, true_and, and_true, not_false_eq_true, not_true_eq_false, Nat.reduceEqDiff, Nat.reduceLeDiff, Nat.reduceLT, Nat.reduceAdd, Nat.reduceMul]
    · simp (disch := omega) only [Mo_isPlace_no hW' hz' h, zl_e, zs_e, li0, li1, li2, li3, li4, li5, li6, li7, li8, li9, li10, li11, li12, li13, li14, li15, li16, li17, li18, li19, li20, li21, li22, li23, li24, li25, li26, li27, li28, li29, li30, li31, li32, li37, li40, li41, li42, li43, li45, li47, li48, li57, li59, li60, li61, li63, li64, li75, li97, li98, li99, li100, li120, li122, li126, li200, li240, li255, li305, li306, li375, li400, li427, li428, li1000, li2000, li9999, neg_nI1, ↓reduceIte, nI_leI, nI_ltI, nI_eq, nI_add, nI_1, pk_mul, ix_nI, ib_nI, if_true, if_false, eq_self, true_and, and_true, not_false_eq_true, not_true_eq_false, Nat.reduceEqDiff, Nat.reduceLeDiff, Nat.reduceLT, Nat.reduceAdd, Nat.reduceMul]

theorem q_person {u v : zM} {t : Nat} {N S : Nat → Nat} {K : Nat → Nat → Nat} {E : Int32 → Int32 → Int32 → Int32 → Int32} (hW : Wf N K S) (hu : NowC u t N K E 54 S) (hz : NowM v N K E S) (x y : Int32) : ∃ r, OW_person x y u = some (r, u) ∧ Mo_person x y v = some (r, sI v 1 0 0) := by
  unfold Mo_person
  dsimp only [zlet]
  have hz := hz.th hW.1
  generalize sI v 1 0 0 = v at *
  have hW' := hW
  have hu' := hu
  have hz' := hz
  obtain ⟨⟨n0, n1, n2, n3, n4, n5⟩, ⟨wp, wq, wo, ww, wi⟩, ⟨z0, zp, zq, zo, zw⟩⟩ := hW
  obtain ⟨rt, ht, ⟨⟨c0, c1, c2, c3, c4, c5⟩, cp, cq, co, cw, ci⟩, hl, ⟨s0, sp, sq, so, sw⟩⟩ := hu
  have lt := layT ht
  obtain ⟨⟨m0, mp, mq, mo, mw, mi⟩, hlm, ⟨x0, xp, xq, xo, xw⟩⟩ := hz
  simp only [Nat.zero_add] at x0 xp xq xo xw
  rcases arg_ix x (show N 2 < 2 ^ 31 by omega) with ⟨p, hp, rfl⟩ | h
  · have a1 := zq p hp
    rcases arg_ix y (show 2 < 2 ^ 31 by omega) with ⟨k, hk, rfl⟩ | hy
    · obtain rfl | rfl : k = 0 ∨ k = 1 := by omega
      · refine ⟨nI (K 1 p), ?_, ?_⟩
        · simp (disch := omega) only [OW_person, OW_isPerson_ok hW' hu' hp, zl_e, zs_e, li0, li1, li2, li3, li4, li5, li6, li7, li8, li9, li10, li11, li12, li13, li14, li15, li16, li17, li18, li19, li20, li21, li22, li23, li24, li25, li26, li27, li28, li29, li30, li31, li32, li37, li40, li41, li42, li43, li45, li47, li48, li57, li59, li60, li61, li63, li64, li75, li97, li98, li99, li100, li120, li122, li126, li200, li240, li255, li305, li306, li375, li400, li427, li428, li1000, li2000, li9999, neg_nI1, ↓reduceIte, nI_leI, nI_ltI, nI_eq, nI_add, nI_1, pk_mul, ix_nI, ib_nI, if_true, if_false, eq_self, true_and, and_true, not_false_eq_true, not_true_eq_false, Nat.reduceEqDiff, Nat.reduceLeDiff, Nat.reduceLT, Nat.reduceAdd, Nat.reduceMul, rt, lt, c0, c1, c2, c3, c4, c5, cp, cq, co, cw, ci, s0, sp, sq, so, sw]
          all_goals rfl
        · simp (disch := omega) only [Mo_isPerson_ok hW' hz' hp, Mo_within_ok, zl_e, zs_e, li0, li1, li2, li3, li4, li5, li6, li7, li8, li9, li10, li11, li12, li13, li14, li15, li16, li17, li18, li19, li20, li21, li22, li23, li24, li25, li26, li27, li28, li29, li30, li31, li32, li37, li40, li41, li42, li43, li45, li47, li48, li57, li59, li60, li61, li63, li64, li75, li97, li98, li99, li100, li120, li122, li126, li200, li240, li255, li305, li306, li375, li400, li427, li428, li1000, li2000, li9999, neg_nI1, ↓reduceIte, nI_leI, nI_ltI, nI_eq, nI_add, nI_1, pk_mul, ix_nI, ib_nI, if_true, if_false, eq_self, true_and, and_true, not_false_eq_true, not_true_eq_false, Nat.reduceEqDiff, Nat.reduceLeDiff, Nat.reduceLT, Nat.reduceAdd, Nat.reduceMul, m0, mp, mq, mo, mw, mi, x0, xp, xq, xo, xw]
          all_goals rfl
      · refine ⟨nI (S (8 + p)), ?_, ?_⟩
        · simp (disch := omega) only [OW_person, OW_isPerson_ok hW' hu' hp, zl_e, zs_e, li0, li1, li2, li3, li4, li5, li6, li7, li8, li9, li10, li11, li12, li13, li14, li15, li16, li17, li18, li19, li20, li21, li22, li23, li24, li25, li26, li27, li28, li29, li30, li31, li32, li37, li40, li41, li42, li43, li45, li47, li48, li57, li59, li60, li61, li63, li64, li75, li97, li98, li99, li100, li120, li122, li126, li200, li240, li255, li305, li306, li375, li400, li427, li428, li1000, li2000, li9999, neg_nI1, ↓reduceIte, nI_leI, nI_ltI, nI_eq, nI_add, nI_1, pk_mul, ix_nI, ib_nI, if_true, if_false, eq_self, true_and, and_true, not_false_eq_true, not_true_eq_false, Nat.reduceEqDiff, Nat.reduceLeDiff, Nat.reduceLT, Nat.reduceAdd, Nat.reduceMul, rt, lt, c0, c1, c2, c3, c4, c5, cp, cq, co, cw, ci, s0, sp, sq, so, sw]
          all_goals rfl
        · simp (disch := omega) only [Mo_isPerson_ok hW' hz' hp, Mo_within_ok, zl_e, zs_e, li0, li1, li2, li3, li4, li5, li6, li7, li8, li9, li10, li11, li12, li13, li14, li15, li16, li17, li18, li19, li20, li21, li22, li23, li24, li25, li26, li27, li28, li29, li30, li31, li32, li37, li40, li41, li42, li43, li45, li47, li48, li57, li59, li60, li61, li63, li64, li75, li97, li98, li99, li100, li120, li122, li126, li200, li240, li255, li305, li306, li375, li400, li427, li428, li1000, li2000, li9999, neg_nI1, ↓reduceIte, nI_leI, nI_ltI, nI_eq, nI_add, nI_1, pk_mul, ix_nI, ib_nI, if_true, if_false, eq_self, true_and, and_true, not_false_eq_true, not_true_eq_false, Nat.reduceEqDiff, Nat.reduceLeDiff, Nat.reduceLT, Nat.reduceAdd, Nat.reduceMul, m0, mp, mq, mo, mw, mi, x0, xp, xq, xo, xw]
          all_goals rfl
    · refine ⟨mI, ?_, ?_⟩
      · simp (disch := omega) only [OW_person, OW_isPerson_ok hW' hu' hp, zl_e, zs_e, li0, li1, li2, li3, li4, li5, li6, li7, li8, li9, li10, li11, li12, li13, li14, li15, li16, li17, li18, li19, li20, li21, li22, li23, li24, li25, li26, li27, li28, li29, li30, li31, li32, li37, li40, li41, li42, li43, li45, li47, li48, li57, li59, li60, li61, li63, li64, li75, li97, li98, li99, li100, li120, li122, li126, li200, li240, li255, li305, li306, li375, li400, li427, li428, li1000, li2000, li9999, neg_nI1, ↓reduceIte, nI_leI, nI_ltI, nI_eq, nI_add, nI_1, pk_mul, ix_nI, ib_nI, if_true, if_false, eq_self, true_and, and_true, not_false_eq_true, not_true_eq_false, Nat.reduceEqDiff, Nat.reduceLeDiff, Nat.reduceLT, Nat.reduceAdd, Nat.reduceMul, rt, lt, c0, c1, c2, c3, c4, c5, cp, cq, co, cw, ci, s0, sp, sq, so, sw, out_ne hy]
        all_goals rfl
      · simp (disch := omega) only [Mo_isPerson_ok hW' hz' hp, Mo_within_no hy, zl_e, zs_e, li0, li1, li2, li3, li4, li5, li6, li7, li8, li9, li10, li11, li12, li13, li14, li15, li16, li17, li18, li19, li20, li21, li22, li23, li24, li25, li26, li27, li28, li29, li30, li31, li32, li37, li40, li41, li42, li43, li45, li47, li48, li57, li59, li60, li61, li63, li64, li75, li97, li98, li99, li100, li120, li122, li126, li200, li240, li255, li305, li306, li375, li400, li427, li428, li1000, li2000, li9999, neg_nI1, ↓reduceIte, nI_leI, nI_ltI, nI_eq, nI_add, nI_1, pk_mul, ix_nI, ib_nI, if_true, if_false, eq_self, true_and, and_true, not_false_eq_true, not_true_eq_false, Nat.reduceEqDiff, Nat.reduceLeDiff, Nat.reduceLT, Nat.reduceAdd, Nat.reduceMul, m0, mp, mq, mo, mw, mi, x0, xp, xq, xo, xw]
        all_goals rfl
  · refine ⟨mI, ?_, ?_⟩
    · simp (disch := omega) only [OW_person, OW_isPerson_no hW' hu' h, zl_e, zs_e, li0, li1, li2, li3, li4, li5, li6, li7, li8, li9, li10, li11, li12, li13, li14, li15, li16, li17, li18, li19, li20, li21, li22, li23, li24, li25, li26, li27, li28, li29, li30, li31, li32, li37, li40, li41, li42, li43, li45, li47, li48, li57, li59, li60, li61, li63, li64, li75, li97, li98, li99, li100, li120, li122, li126, li200, li240, li255, li305, li306, li375, li400, li427, li428, li1000, li2000, li9999, neg_nI1, ↓reduceIte, nI_leI, nI_ltI, nI_eq, nI_add, nI_1, pk_mul, ix_nI, ib_nI, if_true, if_false, eq_self, true_and, and_true, not_false_eq_true, not_true_eq_false, Nat.reduceEqDiff, Nat.reduceLeDiff, Nat.reduceLT, Nat.reduceAdd, Nat.reduceMul]
      all_goals rfl
    · simp (disch := omega) only [Mo_isPerson_no hW' hz' h, zl_e, zs_e, li0, li1, li2, li3, li4, li5, li6, li7, li8, li9, li10, li11, li12, li13, li14, li15, li16, li17, li18, li19, li20, li21, li22, li23, li24, li25, li26, li27, li28, li29, li30, li31, li32, li37, li40, li41, li42, li43, li45, li47, li48, li57, li59, li60, li61, li63, li64, li75, li97, li98, li99, li100, li120, li122, li126, li200, li240, li255, li305, li306, li375, li400, li427, li428, li1000, li2000, li9999, neg_nI1, ↓reduceIte, nI_leI, nI_ltI, nI_eq, nI_add, nI_1, pk_mul, ix_nI, ib_nI, if_true, if_false, eq_self, true_and, and_true, not_false_eq_true, not_true_eq_false, Nat.reduceEqDiff, Nat.reduceLeDiff, Nat.reduceLT, Nat.reduceAdd, Nat.reduceMul]
      all_goals rfl

theorem q_otter {u v : zM} {t : Nat} {N S : Nat → Nat} {K : Nat → Nat → Nat} {E : Int32 → Int32 → Int32 → Int32 → Int32} (hW : Wf N K S) (hu : NowC u t N K E 54 S) (hz : NowM v N K E S) (x y : Int32) : ∃ r, OW_otter x y u = some (r, u) ∧ Mo_otter x y v = some (r, sI v 1 0 0) := by
  unfold Mo_otter
  dsimp only [zlet]
  have hz := hz.th hW.1
  generalize sI v 1 0 0 = v at *
  have hW' := hW
  have hu' := hu
  have hz' := hz
  obtain ⟨⟨n0, n1, n2, n3, n4, n5⟩, ⟨wp, wq, wo, ww, wi⟩, ⟨z0, zp, zq, zo, zw⟩⟩ := hW
  obtain ⟨rt, ht, ⟨⟨c0, c1, c2, c3, c4, c5⟩, cp, cq, co, cw, ci⟩, hl, ⟨s0, sp, sq, so, sw⟩⟩ := hu
  have lt := layT ht
  obtain ⟨⟨m0, mp, mq, mo, mw, mi⟩, hlm, ⟨x0, xp, xq, xo, xw⟩⟩ := hz
  simp only [Nat.zero_add] at x0 xp xq xo xw
  rcases arg_ix x (show N 3 < 2 ^ 31 by omega) with ⟨p, hp, rfl⟩ | h
  · have a1 := zo p hp
    rcases arg_ix y (show 4 < 2 ^ 31 by omega) with ⟨k, hk, rfl⟩ | hy
    · obtain rfl | rfl | rfl | rfl : k = 0 ∨ k = 1 ∨ k = 2 ∨ k = 3 := by omega
      · refine ⟨nI (K 2 p), ?_, ?_⟩
        · simp (disch := omega) only [OW_otter, OW_isOtter_ok hW' hu' hp, zl_e, zs_e, li0, li1, li2, li3, li4, li5, li6, li7, li8, li9, li10, li11, li12, li13, li14, li15, li16, li17, li18, li19, li20, li21, li22, li23, li24, li25, li26, li27, li28, li29, li30, li31, li32, li37, li40, li41, li42, li43, li45, li47, li48, li57, li59, li60, li61, li63, li64, li75, li97, li98, li99, li100, li120, li122, li126, li200, li240, li255, li305, li306, li375, li400, li427, li428, li1000, li2000, li9999, neg_nI1, ↓reduceIte, nI_leI, nI_ltI, nI_eq, nI_add, nI_1, pk_mul, ix_nI, ib_nI, if_true, if_false, eq_self, true_and, and_true, not_false_eq_true, not_true_eq_false, Nat.reduceEqDiff, Nat.reduceLeDiff, Nat.reduceLT, Nat.reduceAdd, Nat.reduceMul, rt, lt, c0, c1, c2, c3, c4, c5, cp, cq, co, cw, ci, s0, sp, sq, so, sw]
          all_goals rfl
        · simp (disch := omega) only [Mo_isOtter_ok hW' hz' hp, Mo_within_ok, zl_e, zs_e, li0, li1, li2, li3, li4, li5, li6, li7, li8, li9, li10, li11, li12, li13, li14, li15, li16, li17, li18, li19, li20, li21, li22, li23, li24, li25, li26, li27, li28, li29, li30, li31, li32, li37, li40, li41, li42, li43, li45, li47, li48, li57, li59, li60, li61, li63, li64, li75, li97, li98, li99, li100, li120, li122, li126, li200, li240, li255, li305, li306, li375, li400, li427, li428, li1000, li2000, li9999, neg_nI1, ↓reduceIte, nI_leI, nI_ltI, nI_eq, nI_add, nI_1, pk_mul, ix_nI, ib_nI, if_true, if_false, eq_self, true_and, and_true, not_false_eq_true, not_true_eq_false, Nat.reduceEqDiff, Nat.reduceLeDiff, Nat.reduceLT, Nat.reduceAdd, Nat.reduceMul, m0, mp, mq, mo, mw, mi, x0, xp, xq, xo, xw]
          all_goals rfl
      · refine ⟨nI (S (13 + p)), ?_, ?_⟩
        · simp (disch := omega) only [OW_otter, OW_isOtter_ok hW' hu' hp, zl_e, zs_e, li0, li1, li2, li3, li4, li5, li6, li7, li8, li9, li10, li11, li12, li13, li14, li15, li16, li17, li18, li19, li20, li21, li22, li23, li24, li25, li26, li27, li28, li29, li30, li31, li32, li37, li40, li41, li42, li43, li45, li47, li48, li57, li59, li60, li61, li63, li64, li75, li97, li98, li99, li100, li120, li122, li126, li200, li240, li255, li305, li306, li375, li400, li427, li428, li1000, li2000, li9999, neg_nI1, ↓reduceIte, nI_leI, nI_ltI, nI_eq, nI_add, nI_1, pk_mul, ix_nI, ib_nI, if_true, if_false, eq_self, true_and, and_true, not_false_eq_true, not_true_eq_false, Nat.reduceEqDiff, Nat.reduceLeDiff, Nat.reduceLT, Nat.reduceAdd, Nat.reduceMul, rt, lt, c0, c1, c2, c3, c4, c5, cp, cq, co, cw, ci, s0, sp, sq, so, sw]
          all_goals rfl
        · simp (disch := omega) only [Mo_isOtter_ok hW' hz' hp, Mo_within_ok, zl_e, zs_e, li0, li1, li2, li3, li4, li5, li6, li7, li8, li9, li10, li11, li12, li13, li14, li15, li16, li17, li18, li19, li20, li21, li22, li23, li24, li25, li26, li27, li28, li29, li30, li31, li32, li37, li40, li41, li42, li43, li45, li47, li48, li57, li59, li60, li61, li63, li64, li75, li97, li98, li99, li100, li120, li122, li126, li200, li240, li255, li305, li306, li375, li400, li427, li428, li1000, li2000, li9999, neg_nI1, ↓reduceIte, nI_leI, nI_ltI, nI_eq, nI_add, nI_1, pk_mul, ix_nI, ib_nI, if_true, if_false, eq_self, true_and, and_true, not_false_eq_true, not_true_eq_false, Nat.reduceEqDiff, Nat.reduceLeDiff, Nat.reduceLT, Nat.reduceAdd, Nat.reduceMul, m0, mp, mq, mo, mw, mi, x0, xp, xq, xo, xw]
          all_goals rfl
      · refine ⟨nI (S (16 + p)), ?_, ?_⟩
        · simp (disch := omega) only [OW_otter, OW_isOtter_ok hW' hu' hp, zl_e, zs_e, li0, li1, li2, li3, li4, li5, li6, li7, li8, li9, li10, li11, li12, li13, li14, li15, li16, li17, li18, li19, li20, li21, li22, li23, li24, li25, li26, li27, li28, li29, li30, li31, li32, li37, li40, li41, li42, li43, li45, li47, li48, li57, li59, li60, li61, li63, li64, li75, li97, li98, li99, li100, li120, li122, li126, li200, li240, li255, li305, li306, li375, li400, li427, li428, li1000, li2000, li9999, neg_nI1, ↓reduceIte, nI_leI, nI_ltI, nI_eq, nI_add, nI_1, pk_mul, ix_nI, ib_nI, if_true, if_false, eq_self, true_and, and_true, not_false_eq_true, not_true_eq_false, Nat.reduceEqDiff, Nat.reduceLeDiff, Nat.reduceLT, Nat.reduceAdd, Nat.reduceMul, rt, lt, c0, c1, c2, c3, c4, c5, cp, cq, co, cw, ci, s0, sp, sq, so, sw]
          all_goals rfl
        · simp (disch := omega) only [Mo_isOtter_ok hW' hz' hp, Mo_within_ok, zl_e, zs_e, li0, li1, li2, li3, li4, li5, li6, li7, li8, li9, li10, li11, li12, li13, li14, li15, li16, li17, li18, li19, li20, li21, li22, li23, li24, li25, li26, li27, li28, li29, li30, li31, li32, li37, li40, li41, li42, li43, li45, li47, li48, li57, li59, li60, li61, li63, li64, li75, li97, li98, li99, li100, li120, li122, li126, li200, li240, li255, li305, li306, li375, li400, li427, li428, li1000, li2000, li9999, neg_nI1, ↓reduceIte, nI_leI, nI_ltI, nI_eq, nI_add, nI_1, pk_mul, ix_nI, ib_nI, if_true, if_false, eq_self, true_and, and_true, not_false_eq_true, not_true_eq_false, Nat.reduceEqDiff, Nat.reduceLeDiff, Nat.reduceLT, Nat.reduceAdd, Nat.reduceMul, m0, mp, mq, mo, mw, mi, x0, xp, xq, xo, xw]
          all_goals rfl
      · refine ⟨nI (wriS N S p), ?_, ?_⟩
        · simp (disch := omega) only [OW_otter, OW_isOtter_ok hW' hu' hp, zl_e, zs_e, li0, li1, li2, li3, li4, li5, li6, li7, li8, li9, li10, li11, li12, li13, li14, li15, li16, li17, li18, li19, li20, li21, li22, li23, li24, li25, li26, li27, li28, li29, li30, li31, li32, li37, li40, li41, li42, li43, li45, li47, li48, li57, li59, li60, li61, li63, li64, li75, li97, li98, li99, li100, li120, li122, li126, li200, li240, li255, li305, li306, li375, li400, li427, li428, li1000, li2000, li9999, neg_nI1, ↓reduceIte, nI_leI, nI_ltI, nI_eq, nI_add, nI_1, pk_mul, ix_nI, ib_nI, if_true, if_false, eq_self, true_and, and_true, not_false_eq_true, not_true_eq_false, Nat.reduceEqDiff, Nat.reduceLeDiff, Nat.reduceLT, Nat.reduceAdd, Nat.reduceMul, rt, lt, c0, c1, c2, c3, c4, c5, cp, cq, co, cw, ci, s0, sp, sq, so, sw, OW_bitsOf_eq layS54.2.2.1 n4 (by omega) (fun q => decide (S (19 + q) = p)) (nI p) (fun i hi => by have := zw i hi; rw [sw i hi, hv_eq (by omega) (by omega)]; simp)]
          all_goals rfl
        · simp (disch := omega) only [Mo_isOtter_ok hW' hz' hp, Mo_within_ok, zl_e, zs_e, li0, li1, li2, li3, li4, li5, li6, li7, li8, li9, li10, li11, li12, li13, li14, li15, li16, li17, li18, li19, li20, li21, li22, li23, li24, li25, li26, li27, li28, li29, li30, li31, li32, li37, li40, li41, li42, li43, li45, li47, li48, li57, li59, li60, li61, li63, li64, li75, li97, li98, li99, li100, li120, li122, li126, li200, li240, li255, li305, li306, li375, li400, li427, li428, li1000, li2000, li9999, neg_nI1, ↓reduceIte, nI_leI, nI_ltI, nI_eq, nI_add, nI_1, pk_mul, ix_nI, ib_nI, if_true, if_false, eq_self, true_and, and_true, not_false_eq_true, not_true_eq_false, Nat.reduceEqDiff, Nat.reduceLeDiff, Nat.reduceLT, Nat.reduceAdd, Nat.reduceMul, m0, mp, mq, mo, mw, mi, x0, xp, xq, xo, xw, Mo_writsOf_eq hW' hz']
          all_goals rfl
    · refine ⟨mI, ?_, ?_⟩
      · simp (disch := omega) only [OW_otter, OW_isOtter_ok hW' hu' hp, zl_e, zs_e, li0, li1, li2, li3, li4, li5, li6, li7, li8, li9, li10, li11, li12, li13, li14, li15, li16, li17, li18, li19, li20, li21, li22, li23, li24, li25, li26, li27, li28, li29, li30, li31, li32, li37, li40, li41, li42, li43, li45, li47, li48, li57, li59, li60, li61, li63, li64, li75, li97, li98, li99, li100, li120, li122, li126, li200, li240, li255, li305, li306, li375, li400, li427, li428, li1000, li2000, li9999, neg_nI1, ↓reduceIte, nI_leI, nI_ltI, nI_eq, nI_add, nI_1, pk_mul, ix_nI, ib_nI, if_true, if_false, eq_self, true_and, and_true, not_false_eq_true, not_true_eq_false, Nat.reduceEqDiff, Nat.reduceLeDiff, Nat.reduceLT, Nat.reduceAdd, Nat.reduceMul, rt, lt, c0, c1, c2, c3, c4, c5, cp, cq, co, cw, ci, s0, sp, sq, so, sw, out_ne hy]
        all_goals rfl
      · simp (disch := omega) only [Mo_isOtter_ok hW' hz' hp, Mo_within_no hy, zl_e, zs_e, li0, li1, li2, li3, li4, li5, li6, li7, li8, li9, li10, li11, li12, li13, li14, li15, li16, li17, li18, li19, li20, li21, li22, li23, li24, li25, li26, li27, li28, li29, li30, li31, li32, li37, li40, li41, li42, li43, li45, li47, li48, li57, li59, li60, li61, li63, li64, li75, li97, li98, li99, li100, li120, li122, li126, li200, li240, li255, li305, li306, li375, li400, li427, li428, li1000, li2000, li9999, neg_nI1, ↓reduceIte, nI_leI, nI_ltI, nI_eq, nI_add, nI_1, pk_mul, ix_nI, ib_nI, if_true, if_false, eq_self, true_and, and_true, not_false_eq_true, not_true_eq_false, Nat.reduceEqDiff, Nat.reduceLeDiff, Nat.reduceLT, Nat.reduceAdd, Nat.reduceMul, m0, mp, mq, mo, mw, mi, x0, xp, xq, xo, xw]
        all_goals rfl
  · refine ⟨mI, ?_, ?_⟩
    · simp (disch := omega) only [OW_otter, OW_isOtter_no hW' hu' h, zl_e, zs_e, li0, li1, li2, li3, li4, li5, li6, li7, li8, li9, li10, li11, li12, li13, li14, li15, li16, li17, li18, li19, li20, li21, li22, li23, li24, li25, li26, li27, li28, li29, li30, li31, li32, li37, li40, li41, li42, li43, li45, li47, li48, li57, li59, li60, li61, li63, li64, li75, li97, li98, li99, li100, li120, li122, li126, li200, li240, li255, li305, li306, li375, li400, li427, li428, li1000, li2000, li9999, neg_nI1, ↓reduceIte, nI_leI, nI_ltI, nI_eq, nI_add, nI_1, pk_mul, ix_nI, ib_nI, if_true, if_false, eq_self, true_and, and_true, not_false_eq_true, not_true_eq_false, Nat.reduceEqDiff, Nat.reduceLeDiff, Nat.reduceLT, Nat.reduceAdd, Nat.reduceMul]
      all_goals rfl
    · simp (disch := omega) only [Mo_isOtter_no hW' hz' h, zl_e, zs_e, li0, li1, li2, li3, li4, li5, li6, li7, li8, li9, li10, li11, li12, li13, li14, li15, li16, li17, li18, li19, li20, li21, li22, li23, li24, li25, li26, li27, li28, li29, li30, li31, li32, li37, li40, li41, li42, li43, li45, li47, li48, li57, li59, li60, li61, li63, li64, li75, li97, li98, li99, li100, li120, li122, li126, li200, li240, li255, li305, li306, li375, li400, li427, li428, li1000, li2000, li9999, neg_nI1, ↓reduceIte, nI_leI, nI_ltI, nI_eq, nI_add, nI_1, pk_mul, ix_nI, ib_nI, if_true, if_false, eq_self, true_and, and_true, not_false_eq_true, not_true_eq_false, Nat.reduceEqDiff, Nat.reduceLeDiff, Nat.reduceLT, Nat.reduceAdd, Nat.reduceMul]
      all_goals rfl

theorem q_writ {u v : zM} {t : Nat} {N S : Nat → Nat} {K : Nat → Nat → Nat} {E : Int32 → Int32 → Int32 → Int32 → Int32} (hW : Wf N K S) (hu : NowC u t N K E 54 S) (hz : NowM v N K E S) (x y : Int32) : ∃ r, OW_writ x y u = some (r, u) ∧ Mo_writ x y v = some (r, sI v 1 0 0) := by
  unfold Mo_writ
  dsimp only [zlet]
  have hz := hz.th hW.1
  generalize sI v 1 0 0 = v at *
  have hW' := hW
  have hu' := hu
  have hz' := hz
  obtain ⟨⟨n0, n1, n2, n3, n4, n5⟩, ⟨wp, wq, wo, ww, wi⟩, ⟨z0, zp, zq, zo, zw⟩⟩ := hW
  obtain ⟨rt, ht, ⟨⟨c0, c1, c2, c3, c4, c5⟩, cp, cq, co, cw, ci⟩, hl, ⟨s0, sp, sq, so, sw⟩⟩ := hu
  have lt := layT ht
  obtain ⟨⟨m0, mp, mq, mo, mw, mi⟩, hlm, ⟨x0, xp, xq, xo, xw⟩⟩ := hz
  simp only [Nat.zero_add] at x0 xp xq xo xw
  rcases arg_ix x (show N 4 < 2 ^ 31 by omega) with ⟨p, hp, rfl⟩ | h
  · have a1 := zw p hp
    rcases arg_ix y (show 3 < 2 ^ 31 by omega) with ⟨k, hk, rfl⟩ | hy
    · obtain rfl | rfl | rfl : k = 0 ∨ k = 1 ∨ k = 2 := by omega
      · refine ⟨nI (K 3 p), ?_, ?_⟩
        · simp (disch := omega) only [OW_writ, OW_isWrit_ok hW' hu' hp, zl_e, zs_e, li0, li1, li2, li3, li4, li5, li6, li7, li8, li9, li10, li11, li12, li13, li14, li15, li16, li17, li18, li19, li20, li21, li22, li23, li24, li25, li26, li27, li28, li29, li30, li31, li32, li37, li40, li41, li42, li43, li45, li47, li48, li57, li59, li60, li61, li63, li64, li75, li97, li98, li99, li100, li120, li122, li126, li200, li240, li255, li305, li306, li375, li400, li427, li428, li1000, li2000, li9999, neg_nI1, ↓reduceIte, nI_leI, nI_ltI, nI_eq, nI_add, nI_1, pk_mul, ix_nI, ib_nI, if_true, if_false, eq_self, true_and, and_true, not_false_eq_true, not_true_eq_false, Nat.reduceEqDiff, Nat.reduceLeDiff, Nat.reduceLT, Nat.reduceAdd, Nat.reduceMul, rt, lt, c0, c1, c2, c3, c4, c5, cp, cq, co, cw, ci, s0, sp, sq, so, sw]
          all_goals rfl
        · simp (disch := omega) only [Mo_isWrit_ok hW' hz' hp, Mo_within_ok, zl_e, zs_e, li0, li1, li2, li3, li4, li5, li6, li7, li8, li9, li10, li11, li12, li13, li14, li15, li16, li17, li18, li19, li20, li21, li22, li23, li24, li25, li26, li27, li28, li29, li30, li31, li32, li37, li40, li41, li42, li43, li45, li47, li48, li57, li59, li60, li61, li63, li64, li75, li97, li98, li99, li100, li120, li122, li126, li200, li240, li255, li305, li306, li375, li400, li427, li428, li1000, li2000, li9999, neg_nI1, ↓reduceIte, nI_leI, nI_ltI, nI_eq, nI_add, nI_1, pk_mul, ix_nI, ib_nI, if_true, if_false, eq_self, true_and, and_true, not_false_eq_true, not_true_eq_false, Nat.reduceEqDiff, Nat.reduceLeDiff, Nat.reduceLT, Nat.reduceAdd, Nat.reduceMul, m0, mp, mq, mo, mw, mi, x0, xp, xq, xo, xw]
          all_goals rfl
      · refine ⟨nI (K 4 p), ?_, ?_⟩
        · simp (disch := omega) only [OW_writ, OW_isWrit_ok hW' hu' hp, zl_e, zs_e, li0, li1, li2, li3, li4, li5, li6, li7, li8, li9, li10, li11, li12, li13, li14, li15, li16, li17, li18, li19, li20, li21, li22, li23, li24, li25, li26, li27, li28, li29, li30, li31, li32, li37, li40, li41, li42, li43, li45, li47, li48, li57, li59, li60, li61, li63, li64, li75, li97, li98, li99, li100, li120, li122, li126, li200, li240, li255, li305, li306, li375, li400, li427, li428, li1000, li2000, li9999, neg_nI1, ↓reduceIte, nI_leI, nI_ltI, nI_eq, nI_add, nI_1, pk_mul, ix_nI, ib_nI, if_true, if_false, eq_self, true_and, and_true, not_false_eq_true, not_true_eq_false, Nat.reduceEqDiff, Nat.reduceLeDiff, Nat.reduceLT, Nat.reduceAdd, Nat.reduceMul, rt, lt, c0, c1, c2, c3, c4, c5, cp, cq, co, cw, ci, s0, sp, sq, so, sw]
          all_goals rfl
        · simp (disch := omega) only [Mo_isWrit_ok hW' hz' hp, Mo_within_ok, zl_e, zs_e, li0, li1, li2, li3, li4, li5, li6, li7, li8, li9, li10, li11, li12, li13, li14, li15, li16, li17, li18, li19, li20, li21, li22, li23, li24, li25, li26, li27, li28, li29, li30, li31, li32, li37, li40, li41, li42, li43, li45, li47, li48, li57, li59, li60, li61, li63, li64, li75, li97, li98, li99, li100, li120, li122, li126, li200, li240, li255, li305, li306, li375, li400, li427, li428, li1000, li2000, li9999, neg_nI1, ↓reduceIte, nI_leI, nI_ltI, nI_eq, nI_add, nI_1, pk_mul, ix_nI, ib_nI, if_true, if_false, eq_self, true_and, and_true, not_false_eq_true, not_true_eq_false, Nat.reduceEqDiff, Nat.reduceLeDiff, Nat.reduceLT, Nat.reduceAdd, Nat.reduceMul, m0, mp, mq, mo, mw, mi, x0, xp, xq, xo, xw]
          all_goals rfl
      · refine ⟨hv (S (19 + p)), ?_, ?_⟩
        · simp (disch := omega) only [OW_writ, OW_isWrit_ok hW' hu' hp, zl_e, zs_e, li0, li1, li2, li3, li4, li5, li6, li7, li8, li9, li10, li11, li12, li13, li14, li15, li16, li17, li18, li19, li20, li21, li22, li23, li24, li25, li26, li27, li28, li29, li30, li31, li32, li37, li40, li41, li42, li43, li45, li47, li48, li57, li59, li60, li61, li63, li64, li75, li97, li98, li99, li100, li120, li122, li126, li200, li240, li255, li305, li306, li375, li400, li427, li428, li1000, li2000, li9999, neg_nI1, ↓reduceIte, nI_leI, nI_ltI, nI_eq, nI_add, nI_1, pk_mul, ix_nI, ib_nI, if_true, if_false, eq_self, true_and, and_true, not_false_eq_true, not_true_eq_false, Nat.reduceEqDiff, Nat.reduceLeDiff, Nat.reduceLT, Nat.reduceAdd, Nat.reduceMul, rt, lt, c0, c1, c2, c3, c4, c5, cp, cq, co, cw, ci, s0, sp, sq, so, sw]
          all_goals rfl
        · simp (disch := omega) only [Mo_isWrit_ok hW' hz' hp, Mo_within_ok, zl_e, zs_e, li0, li1, li2, li3, li4, li5, li6, li7, li8, li9, li10, li11, li12, li13, li14, li15, li16, li17, li18, li19, li20, li21, li22, li23, li24, li25, li26, li27, li28, li29, li30, li31, li32, li37, li40, li41, li42, li43, li45, li47, li48, li57, li59, li60, li61, li63, li64, li75, li97, li98, li99, li100, li120, li122, li126, li200, li240, li255, li305, li306, li375, li400, li427, li428, li1000, li2000, li9999, neg_nI1, ↓reduceIte, nI_leI, nI_ltI, nI_eq, nI_add, nI_1, pk_mul, ix_nI, ib_nI, if_true, if_false, eq_self, true_and, and_true, not_false_eq_true, not_true_eq_false, Nat.reduceEqDiff, Nat.reduceLeDiff, Nat.reduceLT, Nat.reduceAdd, Nat.reduceMul, m0, mp, mq, mo, mw, mi, x0, xp, xq, xo, xw]
          all_goals rfl
    · refine ⟨-nI 2, ?_, ?_⟩
      · simp (disch := omega) only [OW_writ, OW_isWrit_ok hW' hu' hp, zl_e, zs_e, li0, li1, li2, li3, li4, li5, li6, li7, li8, li9, li10, li11, li12, li13, li14, li15, li16, li17, li18, li19, li20, li21, li22, li23, li24, li25, li26, li27, li28, li29, li30, li31, li32, li37, li40, li41, li42, li43, li45, li47, li48, li57, li59, li60, li61, li63, li64, li75, li97, li98, li99, li100, li120, li122, li126, li200, li240, li255, li305, li306, li375, li400, li427, li428, li1000, li2000, li9999, neg_nI1, ↓reduceIte, nI_leI, nI_ltI, nI_eq, nI_add, nI_1, pk_mul, ix_nI, ib_nI, if_true, if_false, eq_self, true_and, and_true, not_false_eq_true, not_true_eq_false, Nat.reduceEqDiff, Nat.reduceLeDiff, Nat.reduceLT, Nat.reduceAdd, Nat.reduceMul, rt, lt, c0, c1, c2, c3, c4, c5, cp, cq, co, cw, ci, s0, sp, sq, so, sw, out_ne hy]
        all_goals rfl
      · simp (disch := omega) only [Mo_isWrit_ok hW' hz' hp, Mo_within_no hy, zl_e, zs_e, li0, li1, li2, li3, li4, li5, li6, li7, li8, li9, li10, li11, li12, li13, li14, li15, li16, li17, li18, li19, li20, li21, li22, li23, li24, li25, li26, li27, li28, li29, li30, li31, li32, li37, li40, li41, li42, li43, li45, li47, li48, li57, li59, li60, li61, li63, li64, li75, li97, li98, li99, li100, li120, li122, li126, li200, li240, li255, li305, li306, li375, li400, li427, li428, li1000, li2000, li9999, neg_nI1, ↓reduceIte, nI_leI, nI_ltI, nI_eq, nI_add, nI_1, pk_mul, ix_nI, ib_nI, if_true, if_false, eq_self, true_and, and_true, not_false_eq_true, not_true_eq_false, Nat.reduceEqDiff, Nat.reduceLeDiff, Nat.reduceLT, Nat.reduceAdd, Nat.reduceMul, m0, mp, mq, mo, mw, mi, x0, xp, xq, xo, xw]
        all_goals rfl
  · refine ⟨-nI 2, ?_, ?_⟩
    · simp (disch := omega) only [OW_writ, OW_isWrit_no hW' hu' h, zl_e, zs_e, li0, li1, li2, li3, li4, li5, li6, li7, li8, li9, li10, li11, li12, li13, li14, li15, li16, li17, li18, li19, li20, li21, li22, li23, li24, li25, li26, li27, li28, li29, li30, li31, li32, li37, li40, li41, li42, li43, li45, li47, li48, li57, li59, li60, li61, li63, li64, li75, li97, li98, li99, li100, li120, li122, li126, li200, li240, li255, li305, li306, li375, li400, li427, li428, li1000, li2000, li9999, neg_nI1, ↓reduceIte, nI_leI, nI_ltI, nI_eq, nI_add, nI_1, pk_mul, ix_nI, ib_nI, if_true, if_false, eq_self, true_and, and_true, not_false_eq_true, not_true_eq_false, Nat.reduceEqDiff, Nat.reduceLeDiff, Nat.reduceLT, Nat.reduceAdd, Nat.reduceMul]
      all_goals rfl
    · simp (disch := omega) only [Mo_isWrit_no hW' hz' h, zl_e, zs_e, li0, li1, li2, li3, li4, li5, li6, li7, li8, li9, li10, li11, li12, li13, li14, li15, li16, li17, li18, li19, li20, li21, li22, li23, li24, li25, li26, li27, li28, li29, li30, li31, li32, li37, li40, li41, li42, li43, li45, li47, li48, li57, li59, li60, li61, li63, li64, li75, li97, li98, li99, li100, li120, li122, li126, li200, li240, li255, li305, li306, li375, li400, li427, li428, li1000, li2000, li9999, neg_nI1, ↓reduceIte, nI_leI, nI_ltI, nI_eq, nI_add, nI_1, pk_mul, ix_nI, ib_nI, if_true, if_false, eq_self, true_and, and_true, not_false_eq_true, not_true_eq_false, Nat.reduceEqDiff, Nat.reduceLeDiff, Nat.reduceLT, Nat.reduceAdd, Nat.reduceMul]
      all_goals rfl

/-! what may be done -/
def pop (a : Nat) : Nat := cnt (fun k => a.testBit k) 10
theorem pop_le (a : Nat) : pop a ≤ 10 := cnt_le _ _
theorem bitCount_pop {a : Nat} (h : a < 1024) (u : zM) : Ji_bitCount (nI a) u = some (nI (pop a), u) := bitCount_N h u
theorem bits_pop {a : Nat} (h : a < 1024) (u : zM) : Mo_bits (nI a) u = some (nI (pop a), u) := bits_N h u
def rainS (N : Nat → Nat) (K : Nat → Nat → Nat) (d : Nat) : Nat := if N 5 = 0 then 1 else K 5 (d % N 5)
theorem rainS_le {N S : Nat → Nat} {K : Nat → Nat → Nat} (hW : Wf N K S) (d : Nat) : rainS N K d ≤ 9 := by
  obtain ⟨⟨n0, n1, n2, n3, n4, n5⟩, ⟨wp, wq, wo, ww, wi⟩, ⟨z0, zp, zq, zo, zw⟩⟩ := hW
  unfold rainS
  split
  · omega
  · exact wi _ (Nat.mod_lt _ (by omega))
theorem xor_pos : ∀ b, b < 13 → ∀ a, a < 64 → 0 ≤ (nI a ^^^ nI b) := by decide +kernel
theorem nI_xor_nn {a b : Nat} (ha : a < 2 ^ 31) (hb : b < 2 ^ 31) : nI 0 ≤ nI a ^^^ nI b := by
  rw [Int32.le_iff_toInt_le]
  show (0 : Int) ≤ ((nI a ^^^ nI b).toBitVec).toInt
  have e : (nI a ^^^ nI b).toBitVec = BitVec.ofNat 32 (a ^^^ b) := by
    show (BitVec.ofNat 32 a) ^^^ (BitVec.ofNat 32 b) = _
    apply BitVec.eq_of_toNat_eq
    rw [BitVec.toNat_xor, BitVec.toNat_ofNat, BitVec.toNat_ofNat, BitVec.toNat_ofNat, Nat.mod_eq_of_lt (by omega), Nat.mod_eq_of_lt (by omega), Nat.mod_eq_of_lt (Nat.lt_trans (Nat.xor_lt_two_pow ha hb) (by omega))]
  rw [e]
  have h : a ^^^ b < 2 ^ 31 := Nat.xor_lt_two_pow ha hb
  rw [BitVec.toInt_eq_toNat_of_lt (by rw [BitVec.toNat_ofNat, Nat.mod_eq_of_lt (by omega)]; omega)]
  exact Int.natCast_nonneg _
theorem Co_rainOf_eq {u : zM} {t a : Nat} {N S : Nat → Nat} {K : Nat → Nat → Nat} {E : Int32 → Int32 → Int32 → Int32 → Int32} (hW : Wf N K S) (hu : NowC u t N K E a S) {d : Nat} (hd : d < 2 ^ 31) : Co_rainOf t (nI d) u = some (nI (rainS N K d), u) := by
  obtain ⟨⟨n0, n1, n2, n3, n4, n5⟩, ⟨wp, wq, wo, ww, wi⟩, ⟨z0, zp, zq, zo, zw⟩⟩ := hW
  obtain ⟨rt, ht, ⟨⟨c0, c1, c2, c3, c4, c5⟩, cp, cq, co, cw, ci⟩, hl, ⟨s0, sp, sq, so, sw⟩⟩ := hu
  have lt := layT ht
  unfold rainS
  by_cases h : N 5 = 0
  · simp (disch := omega) only [Co_rainOf, zl_e, zs_e, li0, li1, li2, li3, li4, li5, li6, li7, li8, li9, li10, li11, li12, li13, li14, li15, li16, li17, li18, li19, li20, li21, li22, li23, li24, li25, li26, li27, li28, li29, li30, li31, li32, li37, li40, li41, li42, li43, li45, li47, li48, li57, li59, li60, li61, li63, li64, li75, li97, li98, li99, li100, li120, li122, li126, li200, li240, li255, li305, li306, li375, li400, li427, li428, li1000, li2000, li9999, neg_nI1, ↓reduceIte, nI_leI, nI_ltI, nI_eq, nI_add, nI_1, pk_mul, ix_nI, ib_nI, if_true, if_false, eq_self, true_and, and_true, not_false_eq_true, not_true_eq_false, Nat.reduceEqDiff, Nat.reduceLeDiff, Nat.reduceLT, Nat.reduceAdd, Nat.reduceMul, rt, lt, c0, c1, c2, c3, c4, c5, cp, cq, co, cw, ci, s0, sp, sq, so, sw, h]
    all_goals rfl
  · have hm : d % N 5 < N 5 := Nat.mod_lt _ (by omega)
    have hx := nI_xor_nn hd (show N 5 < 2 ^ 31 by omega)
    simp (disch := omega) only [Co_rainOf, Jm_floorMod, pk_rem, zl_e, zs_e, li0, li1, li2, li3, li4, li5, li6, li7, li8, li9, li10, li11, li12, li13, li14, li15, li16, li17, li18, li19, li20, li21, li22, li23, li24, li25, li26, li27, li28, li29, li30, li31, li32, li37, li40, li41, li42, li43, li45, li47, li48, li57, li59, li60, li61, li63, li64, li75, li97, li98, li99, li100, li120, li122, li126, li200, li240, li255, li305, li306, li375, li400, li427, li428, li1000, li2000, li9999, neg_nI1, ↓reduceIte, nI_leI, nI_ltI, nI_eq, nI_add, nI_1, pk_mul, ix_nI, ib_nI, if_true, if_false, eq_self, true_and, and_true, not_false_eq_true, not_true_eq_false, Nat.reduceEqDiff, Nat.reduceLeDiff, Nat.reduceLT, Nat.reduceAdd, Nat.reduceMul, rt, lt, c0, c1, c2, c3, c4, c5, cp, cq, co, cw, ci, s0, sp, sq, so, sw, h, hx, Nat.le_zero_eq]
theorem Mo_rainOf_eq {v : zM} {N S : Nat → Nat} {K : Nat → Nat → Nat} {E : Int32 → Int32 → Int32 → Int32 → Int32} (hW : Wf N K S) (hz : NowM v N K E S) {d : Nat} (hd : d < 2 ^ 31) : Mo_rainOf (nI d) v = some (nI (rainS N K d), v) := by
  obtain ⟨⟨n0, n1, n2, n3, n4, n5⟩, ⟨wp, wq, wo, ww, wi⟩, ⟨z0, zp, zq, zo, zw⟩⟩ := hW
  obtain ⟨⟨m0, mp, mq, mo, mw, mi⟩, hlm, ⟨x0, xp, xq, xo, xw⟩⟩ := hz
  simp only [Nat.zero_add] at x0 xp xq xo xw
  unfold rainS
  by_cases h : N 5 = 0
  · simp (disch := omega) only [Mo_rainOf, zl_e, zs_e, li0, li1, li2, li3, li4, li5, li6, li7, li8, li9, li10, li11, li12, li13, li14, li15, li16, li17, li18, li19, li20, li21, li22, li23, li24, li25, li26, li27, li28, li29, li30, li31, li32, li37, li40, li41, li42, li43, li45, li47, li48, li57, li59, li60, li61, li63, li64, li75, li97, li98, li99, li100, li120, li122, li126, li200, li240, li255, li305, li306, li375, li400, li427, li428, li1000, li2000, li9999, neg_nI1, ↓reduceIte, nI_leI, nI_ltI, nI_eq, nI_add, nI_1, pk_mul, ix_nI, ib_nI, if_true, if_false, eq_self, true_and, and_true, not_false_eq_true, not_true_eq_false, Nat.reduceEqDiff, Nat.reduceLeDiff, Nat.reduceLT, Nat.reduceAdd, Nat.reduceMul, m0, mp, mq, mo, mw, mi, x0, xp, xq, xo, xw, h]
  · have hm : d % N 5 < N 5 := Nat.mod_lt _ (by omega)
    simp (disch := omega) only [Mo_rainOf, pk_rem, zl_e, zs_e, li0, li1, li2, li3, li4, li5, li6, li7, li8, li9, li10, li11, li12, li13, li14, li15, li16, li17, li18, li19, li20, li21, li22, li23, li24, li25, li26, li27, li28, li29, li30, li31, li32, li37, li40, li41, li42, li43, li45, li47, li48, li57, li59, li60, li61, li63, li64, li75, li97, li98, li99, li100, li120, li122, li126, li200, li240, li255, li305, li306, li375, li400, li427, li428, li1000, li2000, li9999, neg_nI1, ↓reduceIte, nI_leI, nI_ltI, nI_eq, nI_add, nI_1, pk_mul, ix_nI, ib_nI, if_true, if_false, eq_self, true_and, and_true, not_false_eq_true, not_true_eq_false, Nat.reduceEqDiff, Nat.reduceLeDiff, Nat.reduceLT, Nat.reduceAdd, Nat.reduceMul, m0, mp, mq, mo, mw, mi, x0, xp, xq, xo, xw, h]
def StA (a : Nat) : Prop := layC a = (17, 6) ∧ layC (a + 1) = (1, 7) ∧ layC (a + 2) = (1, 5) ∧ layC (a + 3) = (1, 3) ∧ layC (a + 4) = (1, 3) ∧ layC (a + 5) = (1, 6)
theorem StA54 : StA 54 := ⟨rfl, rfl, rfl, rfl, rfl, rfl⟩
theorem StA60 : StA 60 := ⟨rfl, rfl, rfl, rfl, rfl, rfl⟩
theorem StA71 : StA 71 := ⟨rfl, rfl, rfl, rfl, rfl, rfl⟩
theorem St_wetBits_eq {u : zM} {t a : Nat} {N S : Nat → Nat} {K : Nat → Nat → Nat} {E : Int32 → Int32 → Int32 → Int32 → Int32} (hW : Wf N K S) (hu : NowC u t N K E a S) (hA : StA a) : St_wetBits a t u = some (nI (wetS N S), u) := by
  obtain ⟨⟨n0, n1, n2, n3, n4, n5⟩, ⟨wp, wq, wo, ww, wi⟩, ⟨z0, zp, zq, zo, zw⟩⟩ := hW
  obtain ⟨rt, ht, ⟨⟨c0, c1, c2, c3, c4, c5⟩, cp, cq, co, cw, ci⟩, hl, ⟨s0, sp, sq, so, sw⟩⟩ := hu
  have lt := layT ht
  have lA := hA.1
  unfold St_wetBits wetS
  rw [lA, lt, if_pos rfl, if_pos rfl]
  refine lpz (fun n (s : Int32 × Int32) => St_wetBits_4 n a t s.1 s.2 u) (fun k => (nI (mk (fun p => decide (1 ≤ S (1 + p))) k), nI k)) (N 0) _ (by omega) (fun n => ?_) (fun n k hk => ?_)
  · show St_wetBits_4b _ _ _ _ _ _ = _
    simp (disch := omega) only [St_wetBits_4b, lA, li0, li1, li2, li3, li4, li5, li6, li7, li8, li9, li10, li11, li12, li13, li14, li15, li16, li17, li18, li19, li20, li21, li22, li23, li24, li25, li26, li27, li28, li29, li30, li31, li32, li37, li40, li41, li42, li43, li45, li47, li48, li57, li59, li60, li61, li63, li64, li75, li97, li98, li99, li100, li120, li122, li126, li200, li240, li255, li305, li306, li375, li400, li427, li428, li1000, li2000, li9999, neg_nI1, ↓reduceIte, nI_leI, nI_ltI, nI_eq, nI_add, nI_1, pk_mul, ix_nI, ib_nI, if_true, if_false, eq_self, true_and, and_true, not_false_eq_true, not_true_eq_false, Nat.reduceEqDiff, Nat.reduceLeDiff, Nat.reduceLT, Nat.reduceAdd, Nat.reduceMul, rt, lt, c0, c1, c2, c3, c4, c5, cp, cq, co, cw, ci, s0, sp, sq, so, sw, Nat.le_refl]
  · show St_wetBits_4b _ _ _ _ _ _ = St_wetBits_4 _ _ _ _ _ _
    have h9 := zp k hk
    simp (disch := omega) only [St_wetBits_4b, lA, zl_e, zs_e, li0, li1, li2, li3, li4, li5, li6, li7, li8, li9, li10, li11, li12, li13, li14, li15, li16, li17, li18, li19, li20, li21, li22, li23, li24, li25, li26, li27, li28, li29, li30, li31, li32, li37, li40, li41, li42, li43, li45, li47, li48, li57, li59, li60, li61, li63, li64, li75, li97, li98, li99, li100, li120, li122, li126, li200, li240, li255, li305, li306, li375, li400, li427, li428, li1000, li2000, li9999, neg_nI1, ↓reduceIte, nI_leI, nI_ltI, nI_eq, nI_add, nI_1, pk_mul, ix_nI, ib_nI, if_true, if_false, eq_self, true_and, and_true, not_false_eq_true, not_true_eq_false, Nat.reduceEqDiff, Nat.reduceLeDiff, Nat.reduceLT, Nat.reduceAdd, Nat.reduceMul, rt, lt, c0, c1, c2, c3, c4, c5, cp, cq, co, cw, ci, s0, sp, sq, so, sw, Nat.not_le.mpr hk, bn_or (mk_lt10 _ (show k < 10 by omega))]
    by_cases h : S (1 + k) < 1
    · rw [if_pos h, mk_f (by simp; omega)]
    · rw [if_neg h, mk_t (by simp; omega)]
theorem Mo_wets_e {v : zM} {N S : Nat → Nat} {K : Nat → Nat → Nat} {E : Int32 → Int32 → Int32 → Int32 → Int32} (hW : Wf N K S) (hz : NowM v N K E S) : Mo_wets v = some (nI (wetS N S), v) := Mo_wets_eq hW.1 hz.1 hz.2.2 hW.2.2
theorem pw7 {n : Nat} (h : n ≤ 7) : 2 ^ n ≤ 128 := Nat.pow_le_pow_right (n := 2) (by decide) h
theorem bit_0 {b : Bool} : b.toNat = 0 ↔ b = false := by cases b <;> decide
theorem bit_1 {b : Bool} : b.toNat = 1 ↔ b = true := by cases b <;> decide
theorem bit_lt {b : Bool} : b.toNat < 2 ^ 31 := by cases b <;> decide
theorem Co_isLinked_eq {u : zM} {t a : Nat} {N S : Nat → Nat} {K : Nat → Nat → Nat} {E : Int32 → Int32 → Int32 → Int32 → Int32} (hW : Wf N K S) (hu : NowC u t N K E a S) {p q : Nat} (hp : p < N 0) (hq : q < 7) : Co_isLinked t (nI p) (nI q) u = some (bI ((K 0 p).testBit q), u) := by
  obtain ⟨⟨n0, n1, n2, n3, n4, n5⟩, ⟨wp, wq, wo, ww, wi⟩, ⟨z0, zp, zq, zo, zw⟩⟩ := hW
  obtain ⟨rt, ht, ⟨⟨c0, c1, c2, c3, c4, c5⟩, cp, cq, co, cw, ci⟩, hl, ⟨s0, sp, sq, so, sw⟩⟩ := hu
  have lt := layT ht
  have h1 := (wp p hp).1
  have h2 := pw7 n0
  simp (disch := omega) only [Co_isLinked, zl_e, zs_e, li0, li1, li2, li3, li4, li5, li6, li7, li8, li9, li10, li11, li12, li13, li14, li15, li16, li17, li18, li19, li20, li21, li22, li23, li24, li25, li26, li27, li28, li29, li30, li31, li32, li37, li40, li41, li42, li43, li45, li47, li48, li57, li59, li60, li61, li63, li64, li75, li97, li98, li99, li100, li120, li122, li126, li200, li240, li255, li305, li306, li375, li400, li427, li428, li1000, li2000, li9999, neg_nI1, ↓reduceIte, nI_leI, nI_ltI, nI_eq, nI_add, nI_1, pk_mul, ix_nI, ib_nI, if_true, if_false, eq_self, true_and, and_true, not_false_eq_true, not_true_eq_false, Nat.reduceEqDiff, Nat.reduceLeDiff, Nat.reduceLT, Nat.reduceAdd, Nat.reduceMul, rt, lt, c0, c1, c2, c3, c4, c5, cp, cq, co, cw, ci, s0, sp, sq, so, sw, bn_bit (show K 0 p < 1024 by omega) (show q < 10 by omega)]
  cases (K 0 p).testBit q
  · rw [if_pos (by rfl)]; rfl
  · rw [if_neg (by decide)]; rfl
def srv (k m : Nat) : Bool := decide (k = 3) || (if k = 1 then decide (3 ≤ m) else decide (1 ≤ m))
theorem St_isServable_eq {k m : Nat} {u : zM} (hk : k ≤ 3) (hm : m ≤ 9) : St_isServable (nI k) (nI m) u = some (bI (srv k m), u) := by
  unfold srv
  simp (disch := omega) only [St_isServable, zl_e, zs_e, li0, li1, li2, li3, li4, li5, li6, li7, li8, li9, li10, li11, li12, li13, li14, li15, li16, li17, li18, li19, li20, li21, li22, li23, li24, li25, li26, li27, li28, li29, li30, li31, li32, li37, li40, li41, li42, li43, li45, li47, li48, li57, li59, li60, li61, li63, li64, li75, li97, li98, li99, li100, li120, li122, li126, li200, li240, li255, li305, li306, li375, li400, li427, li428, li1000, li2000, li9999, neg_nI1, ↓reduceIte, nI_leI, nI_ltI, nI_eq, nI_add, nI_1, pk_mul, ix_nI, ib_nI, if_true, if_false, eq_self, true_and, and_true, not_false_eq_true, not_true_eq_false, Nat.reduceEqDiff, Nat.reduceLeDiff, Nat.reduceLT, Nat.reduceAdd, Nat.reduceMul]
  by_cases h3 : k = 3
  · rw [if_pos h3]; simp [h3, bI]
  · rw [if_neg h3]
    by_cases h1 : k = 1
    · rw [if_pos h1, if_pos h1]
      by_cases h2 : m < 3
      · rw [if_pos h2]; simp [h3, bI, Nat.not_le.mpr h2]
      · rw [if_neg h2]; simp [h3, bI, Nat.not_lt.mp h2]
    · rw [if_neg h1, if_neg h1]
      by_cases h2 : m < 1
      · rw [if_pos h2]; simp [h3, bI, Nat.not_le.mpr h2]
      · rw [if_neg h2]; simp [h3, bI, Nat.not_lt.mp h2]
theorem Mo_isServed_eq {v : zM} {N S : Nat → Nat} {K : Nat → Nat → Nat} {E : Int32 → Int32 → Int32 → Int32 → Int32} (hW : Wf N K S) (hz : NowM v N K E S) {p m : Nat} (hp : p < N 2) (hm : m ≤ 9) : Mo_isServed (nI p) (nI m) v = some (bI (srv (K 1 p) m), v) := by
  obtain ⟨⟨n0, n1, n2, n3, n4, n5⟩, ⟨wp, wq, wo, ww, wi⟩, ⟨z0, zp, zq, zo, zw⟩⟩ := hW
  obtain ⟨⟨m0, mp, mq, mo, mw, mi⟩, hlm, ⟨x0, xp, xq, xo, xw⟩⟩ := hz
  simp only [Nat.zero_add] at x0 xp xq xo xw
  have := wq p hp
  rw [← St_isServable_eq (u := v) this.1 hm]
  simp (disch := omega) only [Mo_isServed, St_isServable, zl_e, zs_e, li0, li1, li2, li3, li4, li5, li6, li7, li8, li9, li10, li11, li12, li13, li14, li15, li16, li17, li18, li19, li20, li21, li22, li23, li24, li25, li26, li27, li28, li29, li30, li31, li32, li37, li40, li41, li42, li43, li45, li47, li48, li57, li59, li60, li61, li63, li64, li75, li97, li98, li99, li100, li120, li122, li126, li200, li240, li255, li305, li306, li375, li400, li427, li428, li1000, li2000, li9999, neg_nI1, ↓reduceIte, nI_leI, nI_ltI, nI_eq, nI_add, nI_1, pk_mul, ix_nI, ib_nI, if_true, if_false, eq_self, true_and, and_true, not_false_eq_true, not_true_eq_false, Nat.reduceEqDiff, Nat.reduceLeDiff, Nat.reduceLT, Nat.reduceAdd, Nat.reduceMul, m0, mp, mq, mo, mw, mi, x0, xp, xq, xo, xw]
def tkB (N S : Nat → Nat) (o w : Nat) : Bool := decide (S (13 + o) = 0 ∧ S (19 + w) = 4 ∧ pop (wriS N S o) < 2)
def swB (K : Nat → Nat → Nat) (S : Nat → Nat) (o p : Nat) : Bool := (K 0 (S (13 + o))).testBit p && decide (1 ≤ S (1 + S (13 + o)) ∧ 1 ≤ S (1 + p) ∧ S (16 + o) < K 2 o)
def canS (N : Nat → Nat) (K : Nat → Nat → Nat) (S : Nat → Nat) (o : Nat) : Nat := if K 2 o ≤ S (16 + o) ∨ S (1 + S (13 + o)) < 1 then 0 else K 0 (S (13 + o)) &&& wetS N S
def svB (N : Nat → Nat) (K : Nat → Nat → Nat) (S : Nat → Nat) (w : Nat) : Bool := decide (S (19 + w) < N 3 ∧ S (13 + S (19 + w)) = S (8 + K 3 w)) && srv (K 1 (K 3 w)) (S (1 + S (8 + K 3 w)))
theorem wriS_lt {N S : Nat → Nat} (hN : WfN N) (h : Nat) : wriS N S h < 1024 := mk_1024 _ (by have := hN.2.2.2.2.1; omega)
theorem St_mayTake_ok {u : zM} {t a : Nat} {N S : Nat → Nat} {K : Nat → Nat → Nat} {E : Int32 → Int32 → Int32 → Int32 → Int32} (hW : Wf N K S) (hu : NowC u t N K E a S) (hA : StA a) {o w : Nat} (ho : o < N 3) (hw : w < N 4) : St_mayTake a t (nI o) (nI w) u = some (bI (tkB N S o w), u) := by
  have hW' := hW
  obtain ⟨⟨n0, n1, n2, n3, n4, n5⟩, ⟨wp, wq, wo, ww, wi⟩, ⟨z0, zp, zq, zo, zw⟩⟩ := hW
  obtain ⟨rt, ht, ⟨⟨c0, c1, c2, c3, c4, c5⟩, cp, cq, co, cw, ci⟩, hl, ⟨s0, sp, sq, so, sw⟩⟩ := hu
  have lt := layT ht
  have lA := hA.1
  have a1 := zo o ho
  have a2 := zw w hw
  have a3 := pop_le (wriS N S o)
  have e : OW_bitsOf (a + 5) (nI (N 4)) (nI o) u = some (nI (wriS N S o), u) := OW_bitsOf_eq hA.2.2.2.2.2 n4 (by omega) (fun q => decide (S (19 + q) = o)) (nI o) (fun i hi => by have := zw i hi; rw [sw i hi, hv_eq (by omega) (by omega)]; simp)
  have e2 : Ji_bitCount (nI (wriS N S o)) u = some (nI (pop (wriS N S o)), u) := bitCount_pop (wriS_lt hW'.1 o) u
  unfold tkB
  generalize pop (wriS N S o) = P at a3 e2 ⊢
  generalize wriS N S o = Q at e e2
  simp (disch := omega) only [St_mayTake, lA, within_ok, zl_e, zs_e, li0, li1, li2, li3, li4, li5, li6, li7, li8, li9, li10, li11, li12, li13, li14, li15, li16, li17, li18, li19, li20, li21, li22, li23, li24, li25, li26, li27, li28, li29, li30, li31, li32, li37, li40, li41, li42, li43, li45, li47, li48, li57, li59, li60, li61, li63, li64, li75, li97, li98, li99, li100, li120, li122, li126, li200, li240, li255, li305, li306, li375, li400, li427, li428, li1000, li2000, li9999, neg_nI1, ↓reduceIte, nI_leI, nI_ltI, nI_eq, nI_add, nI_1, pk_mul, ix_nI, ib_nI, if_true, if_false, eq_self, true_and, and_true, not_false_eq_true, not_true_eq_false, Nat.reduceEqDiff, Nat.reduceLeDiff, Nat.reduceLT, Nat.reduceAdd, Nat.reduceMul, rt, lt, c0, c1, c2, c3, c4, c5, cp, cq, co, cw, ci, s0, sp, sq, so, sw, hv_m, e, e2]
  by_cases h1 : S (13 + o) = 0
  · by_cases h2 : S (19 + w) = 4
    · by_cases h3 : 2 ≤ P
      · rw [if_pos h1, if_pos h2, if_pos h3]; simp [h1, h2, Nat.not_lt.mpr h3, bI]
      · rw [if_pos h1, if_pos h2, if_neg h3]; simp [h1, h2, Nat.not_le.mp h3, bI]
    · rw [if_pos h1, if_neg h2]; simp [h2, bI]
  · rw [if_neg h1]; simp [h1, bI]
theorem St_mayTake_no {u : zM} {t a : Nat} {N S : Nat → Nat} {K : Nat → Nat → Nat} {E : Int32 → Int32 → Int32 → Int32 → Int32} (hW : Wf N K S) (hu : NowC u t N K E a S) (hA : StA a) {x y : Int32} (h : (x < nI 0 ∨ nI (N 3) ≤ x) ∨ (y < nI 0 ∨ nI (N 4) ≤ y)) : St_mayTake a t x y u = some (nI 0, u) := by
  obtain ⟨⟨n0, n1, n2, n3, n4, n5⟩, ⟨wp, wq, wo, ww, wi⟩, ⟨z0, zp, zq, zo, zw⟩⟩ := hW
  obtain ⟨rt, ht, ⟨⟨c0, c1, c2, c3, c4, c5⟩, cp, cq, co, cw, ci⟩, hl, ⟨s0, sp, sq, so, sw⟩⟩ := hu
  have lt := layT ht
  unfold St_mayTake
  rw [if_pos hA.1, if_pos lt, c3]
  rcases arg_ix x (show N 3 < 2 ^ 31 by omega) with ⟨p, hp, rfl⟩ | h2
  · refine (zb_eq (within_ok hp (by omega))).trans ?_
    rw [if_neg (by decide), c4]
    exact (zb_eq (within_no (h.resolve_left (fun q => q.elim (inx_ok hp (by omega)).1 (inx_ok hp (by omega)).2)) (by omega))).trans (if_pos rfl)
  · exact (zb_eq (within_no h2 (by omega))).trans (if_pos rfl)
theorem Mo_canTake_eq {v : zM} {N S : Nat → Nat} {K : Nat → Nat → Nat} {E : Int32 → Int32 → Int32 → Int32 → Int32} (hW : Wf N K S) (hz : NowM v N K E S) {o w : Nat} (ho : o < N 3) (hw : w < N 4) : Mo_canTake (nI o) (nI w) v = some (bI (tkB N S o w), v) := by
  have hW' := hW
  have hz' := hz
  obtain ⟨⟨n0, n1, n2, n3, n4, n5⟩, ⟨wp, wq, wo, ww, wi⟩, ⟨z0, zp, zq, zo, zw⟩⟩ := hW
  obtain ⟨⟨m0, mp, mq, mo, mw, mi⟩, hlm, ⟨x0, xp, xq, xo, xw⟩⟩ := hz
  simp only [Nat.zero_add] at x0 xp xq xo xw
  have a1 := zo o ho
  have a2 := zw w hw
  have a3 := pop_le (wriS N S o)
  have e := Mo_writsOf_eq hW' hz' (show o < 4 by omega)
  have e2 : Mo_bits (nI (wriS N S o)) v = some (nI (pop (wriS N S o)), v) := bits_pop (wriS_lt hW'.1 o) v
  unfold tkB
  generalize pop (wriS N S o) = P at a3 e2 ⊢
  generalize wriS N S o = Q at e e2
  simp (disch := omega) only [Mo_canTake, zl_e, zs_e, li0, li1, li2, li3, li4, li5, li6, li7, li8, li9, li10, li11, li12, li13, li14, li15, li16, li17, li18, li19, li20, li21, li22, li23, li24, li25, li26, li27, li28, li29, li30, li31, li32, li37, li40, li41, li42, li43, li45, li47, li48, li57, li59, li60, li61, li63, li64, li75, li97, li98, li99, li100, li120, li122, li126, li200, li240, li255, li305, li306, li375, li400, li427, li428, li1000, li2000, li9999, neg_nI1, ↓reduceIte, nI_leI, nI_ltI, nI_eq, nI_add, nI_1, pk_mul, ix_nI, ib_nI, if_true, if_false, eq_self, true_and, and_true, not_false_eq_true, not_true_eq_false, Nat.reduceEqDiff, Nat.reduceLeDiff, Nat.reduceLT, Nat.reduceAdd, Nat.reduceMul, m0, mp, mq, mo, mw, mi, x0, xp, xq, xo, xw, hv_m, e, e2]
  by_cases h1 : S (13 + o) = 0
  · by_cases h2 : S (19 + w) = 4
    · by_cases h3 : 2 ≤ P
      · rw [if_pos h2, if_pos h1, if_pos h3]; simp [h1, h2, Nat.not_lt.mpr h3, bI]
      · rw [if_pos h2, if_pos h1, if_neg h3]; simp [h1, h2, Nat.not_le.mp h3, bI]
    · rw [if_neg h2]; simp [h2, bI]
  · by_cases h2 : S (19 + w) = 4
    · rw [if_pos h2, if_neg h1]; simp [h1, bI]
    · rw [if_neg h2]; simp [h2, bI]
theorem St_maySwim_ok {u : zM} {t a : Nat} {N S : Nat → Nat} {K : Nat → Nat → Nat} {E : Int32 → Int32 → Int32 → Int32 → Int32} (hW : Wf N K S) (hu : NowC u t N K E a S) (hA : StA a) {o p : Nat} (ho : o < N 3) (hp : p < N 0) : St_maySwim a t (nI o) (nI p) u = some (bI (swB K S o p), u) := by
  have hW' := hW
  have hu' := hu
  obtain ⟨⟨n0, n1, n2, n3, n4, n5⟩, ⟨wp, wq, wo, ww, wi⟩, ⟨z0, zp, zq, zo, zw⟩⟩ := hW
  obtain ⟨rt, ht, ⟨⟨c0, c1, c2, c3, c4, c5⟩, cp, cq, co, cw, ci⟩, hl, ⟨s0, sp, sq, so, sw⟩⟩ := hu
  have lt := layT ht
  have lA := hA.1
  have a1 := zo o ho
  have a2 := zp p hp
  have a3 := zp _ a1.1
  have a4 := wo o ho
  have e := Co_isLinked_eq hW' hu' a1.1 (show p < 7 by omega)
  unfold swB
  simp (disch := omega) only [St_maySwim, lA, within_ok, zl_e, zs_e, li0, li1, li2, li3, li4, li5, li6, li7, li8, li9, li10, li11, li12, li13, li14, li15, li16, li17, li18, li19, li20, li21, li22, li23, li24, li25, li26, li27, li28, li29, li30, li31, li32, li37, li40, li41, li42, li43, li45, li47, li48, li57, li59, li60, li61, li63, li64, li75, li97, li98, li99, li100, li120, li122, li126, li200, li240, li255, li305, li306, li375, li400, li427, li428, li1000, li2000, li9999, neg_nI1, ↓reduceIte, nI_leI, nI_ltI, nI_eq, nI_add, nI_1, pk_mul, ix_nI, ib_nI, if_true, if_false, eq_self, true_and, and_true, not_false_eq_true, not_true_eq_false, Nat.reduceEqDiff, Nat.reduceLeDiff, Nat.reduceLT, Nat.reduceAdd, Nat.reduceMul, rt, lt, c0, c1, c2, c3, c4, c5, cp, cq, co, cw, ci, s0, sp, sq, so, sw, e, bI_0]
  cases (K 0 (S (13 + o))).testBit p
  · rw [if_pos rfl]; rfl
  · rw [if_neg (by decide)]
    by_cases h1 : S (1 + S (13 + o)) < 1
    · rw [if_pos h1]; simp [Nat.not_le.mpr h1, bI]
    · rw [if_neg h1]
      by_cases h2 : S (1 + p) < 1
      · rw [if_pos h2]; simp [Nat.not_le.mpr h2, bI]
      · rw [if_neg h2]
        by_cases h3 : K 2 o ≤ S (16 + o)
        · rw [if_pos h3]; simp [Nat.not_lt.mpr h3, bI]
        · rw [if_neg h3]; simp [Nat.not_lt.mp h1, Nat.not_lt.mp h2, Nat.not_le.mp h3, bI]
theorem St_maySwim_no {u : zM} {t a : Nat} {N S : Nat → Nat} {K : Nat → Nat → Nat} {E : Int32 → Int32 → Int32 → Int32 → Int32} (hW : Wf N K S) (hu : NowC u t N K E a S) (hA : StA a) {x y : Int32} (h : (x < nI 0 ∨ nI (N 3) ≤ x) ∨ (y < nI 0 ∨ nI (N 0) ≤ y)) : St_maySwim a t x y u = some (nI 0, u) := by
  obtain ⟨⟨n0, n1, n2, n3, n4, n5⟩, ⟨wp, wq, wo, ww, wi⟩, ⟨z0, zp, zq, zo, zw⟩⟩ := hW
  obtain ⟨rt, ht, ⟨⟨c0, c1, c2, c3, c4, c5⟩, cp, cq, co, cw, ci⟩, hl, ⟨s0, sp, sq, so, sw⟩⟩ := hu
  have lt := layT ht
  unfold St_maySwim
  rw [if_pos hA.1, if_pos lt, c3]
  rcases arg_ix x (show N 3 < 2 ^ 31 by omega) with ⟨p, hp, rfl⟩ | h2
  · refine (zb_eq (within_ok hp (by omega))).trans ?_
    rw [if_neg (by decide), c0]
    exact (zb_eq (within_no (h.resolve_left (fun q => q.elim (inx_ok hp (by omega)).1 (inx_ok hp (by omega)).2)) (by omega))).trans (if_pos rfl)
  · exact (zb_eq (within_no h2 (by omega))).trans (if_pos rfl)
theorem wetS_lt {N S : Nat → Nat} (hN : WfN N) : wetS N S < 128 := mk_128 _ hN.1
theorem Mo_canSwim_eq {v : zM} {N S : Nat → Nat} {K : Nat → Nat → Nat} {E : Int32 → Int32 → Int32 → Int32 → Int32} (hW : Wf N K S) (hz : NowM v N K E S) {o : Nat} (ho : o < N 3) : Mo_canSwim (nI o) v = some (nI (canS N K S o), v) := by
  have hW' := hW
  have hz' := hz
  obtain ⟨⟨n0, n1, n2, n3, n4, n5⟩, ⟨wp, wq, wo, ww, wi⟩, ⟨z0, zp, zq, zo, zw⟩⟩ := hW
  obtain ⟨⟨m0, mp, mq, mo, mw, mi⟩, hlm, ⟨x0, xp, xq, xo, xw⟩⟩ := hz
  simp only [Nat.zero_add] at x0 xp xq xo xw
  have a1 := zo o ho
  have a3 := zp _ a1.1
  have a4 := wo o ho
  have a5 := (wp _ a1.1).1
  have a6 := pw7 n0
  have e := Mo_wets_e hW' hz'
  unfold canS
  simp (disch := omega) only [Mo_canSwim, zl_e, zs_e, li0, li1, li2, li3, li4, li5, li6, li7, li8, li9, li10, li11, li12, li13, li14, li15, li16, li17, li18, li19, li20, li21, li22, li23, li24, li25, li26, li27, li28, li29, li30, li31, li32, li37, li40, li41, li42, li43, li45, li47, li48, li57, li59, li60, li61, li63, li64, li75, li97, li98, li99, li100, li120, li122, li126, li200, li240, li255, li305, li306, li375, li400, li427, li428, li1000, li2000, li9999, neg_nI1, ↓reduceIte, nI_leI, nI_ltI, nI_eq, nI_add, nI_1, pk_mul, ix_nI, ib_nI, if_true, if_false, eq_self, true_and, and_true, not_false_eq_true, not_true_eq_false, Nat.reduceEqDiff, Nat.reduceLeDiff, Nat.reduceLT, Nat.reduceAdd, Nat.reduceMul, m0, mp, mq, mo, mw, mi, x0, xp, xq, xo, xw, e, bn_and (show K 0 (S (13 + o)) < 128 by omega) (wetS_lt hW'.1)]
  by_cases h1 : K 2 o ≤ S (16 + o)
  · rw [if_pos h1, if_pos (Or.inl h1)]
  · rw [if_neg h1]
    by_cases h2 : 1 ≤ S (1 + S (13 + o))
    · rw [if_pos h2, if_neg (by omega)]
    · rw [if_neg h2, if_pos (Or.inr (by omega))]
theorem canS_lt {N S : Nat → Nat} {K : Nat → Nat → Nat} (hN : WfN N) (o : Nat) : canS N K S o < 128 := by
  unfold canS
  split
  · omega
  · exact Nat.lt_of_le_of_lt (Nat.and_le_right) (wetS_lt hN)
theorem canS_bit {N S : Nat → Nat} {K : Nat → Nat → Nat} {o p : Nat} (hp : p < N 0) : (canS N K S o).testBit p = swB K S o p := by
  unfold canS swB
  by_cases h1 : K 2 o ≤ S (16 + o)
  · rw [if_pos (Or.inl h1)]; simp [Nat.not_lt.mpr h1]
  · by_cases h2 : S (1 + S (13 + o)) < 1
    · rw [if_pos (Or.inr h2)]; simp [Nat.not_le.mpr h2]
    · rw [if_neg (by omega), Nat.testBit_and]
      unfold wetS
      rw [mk_bit]
      simp [hp, Nat.not_le.mp h1, Nat.not_lt.mp h2]
theorem canS_mk {N S : Nat → Nat} {K : Nat → Nat → Nat} {o : Nat} : mk (fun p => swB K S o p) (N 0) = canS N K S o := by
  apply Nat.eq_of_testBit_eq
  intro i
  rw [mk_bit]
  by_cases h : i < N 0
  · rw [canS_bit h]; simp [h]
  · have : (canS N K S o).testBit i = false := by
      unfold canS
      split
      · simp
      · rw [Nat.testBit_and]; unfold wetS; rw [mk_bit]; simp [h]
    rw [this]; simp [h]
theorem St_mayServe_ok {u : zM} {t a : Nat} {N S : Nat → Nat} {K : Nat → Nat → Nat} {E : Int32 → Int32 → Int32 → Int32 → Int32} (hW : Wf N K S) (hu : NowC u t N K E a S) (hA : StA a) {w : Nat} (hw : w < N 4) : St_mayServe a t (nI w) u = some (bI (svB N K S w), u) := by
  obtain ⟨⟨n0, n1, n2, n3, n4, n5⟩, ⟨wp, wq, wo, ww, wi⟩, ⟨z0, zp, zq, zo, zw⟩⟩ := hW
  obtain ⟨rt, ht, ⟨⟨c0, c1, c2, c3, c4, c5⟩, cp, cq, co, cw, ci⟩, hl, ⟨s0, sp, sq, so, sw⟩⟩ := hu
  have lt := layT ht
  have lA := hA.1
  have a2 := zw w hw
  have a3 := ww w hw
  have a4 := zq _ a3.1
  have a5 := zp _ a4
  have a6 := (wq _ a3.1).1
  unfold svB St_mayServe
  rw [if_pos lA, if_pos lt, c4]
  refine (zb_eq (within_ok hw (by omega))).trans ?_
  rw [if_neg (by decide)]
  rcases a2 with h | h | h
  · have a7 := zo _ h
    simp (maxSteps := 1000000) (disch := omega) only [lA, within_ok, zl_e, zs_e, li0, li1, li2, li3, li4, li5, li6, li7, li8, li9, li10, li11, li12, li13, li14, li15, li16, li17, li18, li19, li20, li21, li22, li23, li24, li25, li26, li27, li28, li29, li30, li31, li32, li37, li40, li41, li42, li43, li45, li47, li48, li57, li59, li60, li61, li63, li64, li75, li97, li98, li99, li100, li120, li122, li126, li200, li240, li255, li305, li306, li375, li400, li427, li428, li1000, li2000, li9999, neg_nI1, ↓reduceIte, nI_leI, nI_ltI, nI_eq, nI_add, nI_1, pk_mul, ix_nI, ib_nI, if_true, if_false, eq_self, true_and, and_true, not_false_eq_true, not_true_eq_false, Nat.reduceEqDiff, Nat.reduceLeDiff, Nat.reduceLT, Nat.reduceAdd, Nat.reduceMul, rt, lt, c0, c1, c2, c3, c4, c5, cp, cq, co, cw, ci, s0, sp, sq, so, sw, hv_ne (show S (19 + w) ≠ 4 by omega), show ¬ S (19 + w) = 3 by omega, St_isServable_eq a6 a5]
    by_cases h2 : S (13 + S (19 + w)) = S (8 + K 3 w)
    · rw [if_pos h2]
      cases h3 : srv (K 1 (K 3 w)) (S (1 + S (8 + K 3 w)))
      · rw [if_pos (by decide)]; simp [bI]
      · rw [if_neg (by decide)]; simp [h, h2, bI]
    · rw [if_neg h2]; simp [h2, bI]
  · have e : hv (S (19 + w)) = nI 3 := by rw [h]; rfl
    have q : nI 3 < nI 0 ∨ nI (N 3) ≤ nI 3 := Or.inr (nI_le (by omega) (by omega))
    simp (maxSteps := 1000000) (disch := omega) only [lA, within_ok, within_no q, zl_e, zs_e, li0, li1, li2, li3, li4, li5, li6, li7, li8, li9, li10, li11, li12, li13, li14, li15, li16, li17, li18, li19, li20, li21, li22, li23, li24, li25, li26, li27, li28, li29, li30, li31, li32, li37, li40, li41, li42, li43, li45, li47, li48, li57, li59, li60, li61, li63, li64, li75, li97, li98, li99, li100, li120, li122, li126, li200, li240, li255, li305, li306, li375, li400, li427, li428, li1000, li2000, li9999, neg_nI1, ↓reduceIte, nI_leI, nI_ltI, nI_eq, nI_add, nI_1, pk_mul, ix_nI, ib_nI, if_true, if_false, eq_self, true_and, and_true, not_false_eq_true, not_true_eq_false, Nat.reduceEqDiff, Nat.reduceLeDiff, Nat.reduceLT, Nat.reduceAdd, Nat.reduceMul, rt, lt, c0, c1, c2, c3, c4, c5, cp, cq, co, cw, ci, s0, sp, sq, so, sw, e]
    simp [h, Nat.not_lt.mpr (show N 3 ≤ 3 by omega), bI]
  · have e : hv (S (19 + w)) = mI := by rw [h]; rfl
    have q : mI < nI 0 ∨ nI (N 3) ≤ mI := Or.inl (mI_lt (by omega))
    simp (maxSteps := 1000000) (disch := omega) only [lA, within_ok, within_no q, zl_e, zs_e, li0, li1, li2, li3, li4, li5, li6, li7, li8, li9, li10, li11, li12, li13, li14, li15, li16, li17, li18, li19, li20, li21, li22, li23, li24, li25, li26, li27, li28, li29, li30, li31, li32, li37, li40, li41, li42, li43, li45, li47, li48, li57, li59, li60, li61, li63, li64, li75, li97, li98, li99, li100, li120, li122, li126, li200, li240, li255, li305, li306, li375, li400, li427, li428, li1000, li2000, li9999, neg_nI1, ↓reduceIte, nI_leI, nI_ltI, nI_eq, nI_add, nI_1, pk_mul, ix_nI, ib_nI, if_true, if_false, eq_self, true_and, and_true, not_false_eq_true, not_true_eq_false, Nat.reduceEqDiff, Nat.reduceLeDiff, Nat.reduceLT, Nat.reduceAdd, Nat.reduceMul, rt, lt, c0, c1, c2, c3, c4, c5, cp, cq, co, cw, ci, s0, sp, sq, so, sw, e]
    simp [h, Nat.not_lt.mpr (show N 3 ≤ 4 by omega), bI]
theorem St_mayServe_no {u : zM} {t a : Nat} {N S : Nat → Nat} {K : Nat → Nat → Nat} {E : Int32 → Int32 → Int32 → Int32 → Int32} (hW : Wf N K S) (hu : NowC u t N K E a S) (hA : StA a) {x : Int32} (h : x < nI 0 ∨ nI (N 4) ≤ x) : St_mayServe a t x u = some (nI 0, u) := by
  obtain ⟨⟨n0, n1, n2, n3, n4, n5⟩, ⟨wp, wq, wo, ww, wi⟩, ⟨z0, zp, zq, zo, zw⟩⟩ := hW
  obtain ⟨rt, ht, ⟨⟨c0, c1, c2, c3, c4, c5⟩, cp, cq, co, cw, ci⟩, hl, ⟨s0, sp, sq, so, sw⟩⟩ := hu
  have lt := layT ht
  unfold St_mayServe
  rw [if_pos hA.1, if_pos lt, c4]
  exact (zb_eq (within_no h (by omega))).trans (if_pos rfl)
theorem Mo_canServe_eq {v : zM} {N S : Nat → Nat} {K : Nat → Nat → Nat} {E : Int32 → Int32 → Int32 → Int32 → Int32} (hW : Wf N K S) (hz : NowM v N K E S) {w : Nat} (hw : w < N 4) : Mo_canServe (nI w) v = some (bI (svB N K S w), v) := by
  have hW' := hW
  have hz' := hz
  obtain ⟨⟨n0, n1, n2, n3, n4, n5⟩, ⟨wp, wq, wo, ww, wi⟩, ⟨z0, zp, zq, zo, zw⟩⟩ := hW
  obtain ⟨⟨m0, mp, mq, mo, mw, mi⟩, hlm, ⟨x0, xp, xq, xo, xw⟩⟩ := hz
  simp only [Nat.zero_add] at x0 xp xq xo xw
  have a2 := zw w hw
  have a3 := ww w hw
  have a4 := zq _ a3.1
  have a5 := zp _ a4
  unfold svB
  rcases a2 with h | h
  · have a7 := zo _ h
    simp (disch := omega) only [Mo_canServe, zl_e, zs_e, li0, li1, li2, li3, li4, li5, li6, li7, li8, li9, li10, li11, li12, li13, li14, li15, li16, li17, li18, li19, li20, li21, li22, li23, li24, li25, li26, li27, li28, li29, li30, li31, li32, li37, li40, li41, li42, li43, li45, li47, li48, li57, li59, li60, li61, li63, li64, li75, li97, li98, li99, li100, li120, li122, li126, li200, li240, li255, li305, li306, li375, li400, li427, li428, li1000, li2000, li9999, neg_nI1, ↓reduceIte, nI_leI, nI_ltI, nI_eq, nI_add, nI_1, pk_mul, ix_nI, ib_nI, if_true, if_false, eq_self, true_and, and_true, not_false_eq_true, not_true_eq_false, Nat.reduceEqDiff, Nat.reduceLeDiff, Nat.reduceLT, Nat.reduceAdd, Nat.reduceMul, m0, mp, mq, mo, mw, mi, x0, xp, xq, xo, xw, hv_ne (show S (19 + w) ≠ 4 by omega), Mo_isOtter_ok hW' hz' h, Mo_isServed_eq hW' hz' a3.1 a5]
    by_cases h2 : S (13 + S (19 + w)) = S (8 + K 3 w)
    · rw [if_pos h2]
      cases h3 : srv (K 1 (K 3 w)) (S (1 + S (8 + K 3 w)))
      · rw [if_pos (by decide)]; simp [bI]
      · rw [if_neg (by decide)]; simp [h, h2, bI]
    · rw [if_neg h2]; simp [h2, bI]
  · have q : hv (S (19 + w)) < nI 0 ∨ nI (N 3) ≤ hv (S (19 + w)) := by
      rcases h with h | h
      · rw [h]; exact Or.inr (nI_le (by omega) (by omega))
      · rw [h]; exact Or.inl (mI_lt (by omega))
    simp (disch := omega) only [Mo_canServe, zl_e, zs_e, li0, li1, li2, li3, li4, li5, li6, li7, li8, li9, li10, li11, li12, li13, li14, li15, li16, li17, li18, li19, li20, li21, li22, li23, li24, li25, li26, li27, li28, li29, li30, li31, li32, li37, li40, li41, li42, li43, li45, li47, li48, li57, li59, li60, li61, li63, li64, li75, li97, li98, li99, li100, li120, li122, li126, li200, li240, li255, li305, li306, li375, li400, li427, li428, li1000, li2000, li9999, neg_nI1, ↓reduceIte, nI_leI, nI_ltI, nI_eq, nI_add, nI_1, pk_mul, ix_nI, ib_nI, if_true, if_false, eq_self, true_and, and_true, not_false_eq_true, not_true_eq_false, Nat.reduceEqDiff, Nat.reduceLeDiff, Nat.reduceLT, Nat.reduceAdd, Nat.reduceMul, m0, mp, mq, mo, mw, mi, x0, xp, xq, xo, xw, Mo_isOtter_no hW' hz' q]
    simp [show ¬ S (19 + w) < N 3 by omega, bI]

