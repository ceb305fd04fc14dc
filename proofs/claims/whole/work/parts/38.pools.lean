/-! ===== pools ===== -/
theorem fst1_k {P : Nat → Bool} {k : Nat} (hP : P k = true) : ∀ r j, j + r > k → j ≤ k → (∀ i, j ≤ i → i < k → P i = false) → fst1 P r j = nI k := by
  intro r
  induction r with
  | zero => intro j h1 h2; omega
  | succ r ih =>
    intro j h1 h2 h3
    rw [fst1_s]
    by_cases e : j = k
    · subst e; rw [if_pos hP]
    · rw [if_neg (by rw [h3 j (Nat.le_refl _) (by omega)]; decide)]
      exact ih (j + 1) (by omega) (by omega) (fun i a b => h3 i (by omega) b)
theorem Mo_lowest_eq {a : Nat} (ha : a < 128) (v : zM) : Mo_lowest (nI a) v = some (fst1 (fun k => a.testBit k) 10 0, v) := by
  unfold Mo_lowest
  refine lpd (fun n (s : Int32) => Mo_lowest_2 n (nI a) s v) (fun k => nI k) (fun k => some (fst1 (fun k => a.testBit k) (10 - k) k, v)) 10 (by omega) (fun n => ?_) (fun n k hk => ?_)
  · show Mo_lowest_2b _ _ _ _ = _
    simp (disch := omega) only [Mo_lowest_2b, li0, li1, li2, li3, li4, li5, li6, li7, li8, li9, li10, li11, li12, li13, li14, li15, li16, li17, li18, li19, li20, li21, li22, li23, li24, li25, li26, li27, li28, li29, li30, li31, li32, li37, li40, li41, li42, li43, li45, li47, li48, li57, li59, li60, li61, li63, li64, li75, li97, li98, li99, li100, li120, li122, li126, li200, li240, li255, li305, li306, li375, li400, li427, li428, li1000, li2000, li9999, neg_nI1, ↓reduceIte, nI_leI, nI_ltI, nI_eq, nI_add, nI_1, pk_mul, ix_nI, ib_nI, if_true, if_false, eq_self, true_and, and_true, not_false_eq_true, not_true_eq_false, Nat.reduceEqDiff, Nat.reduceLeDiff, Nat.reduceLT, Nat.reduceAdd, Nat.reduceMul, Nat.le_refl]
    rfl
  · have eb : Mo_lowest_2 (n + 1) (nI a) (nI k) v = Mo_lowest_2b (Mo_lowest_2 n) (nI a) (nI k) v := rfl
    rw [show 10 - k = (10 - (k + 1)) + 1 by omega, fst1_s, eb]
    cases hb : a.testBit k
    · right
      refine ⟨?_, by simp⟩
      simp (disch := omega) only [Mo_lowest_2b, zl_e, zs_e, li0, li1, li2, li3, li4, li5, li6, li7, li8, li9, li10, li11, li12, li13, li14, li15, li16, li17, li18, li19, li20, li21, li22, li23, li24, li25, li26, li27, li28, li29, li30, li31, li32, li37, li40, li41, li42, li43, li45, li47, li48, li57, li59, li60, li61, li63, li64, li75, li97, li98, li99, li100, li120, li122, li126, li200, li240, li255, li305, li306, li375, li400, li427, li428, li1000, li2000, li9999, neg_nI1, ↓reduceIte, nI_leI, nI_ltI, nI_eq, nI_add, nI_1, pk_mul, ix_nI, ib_nI, if_true, if_false, eq_self, true_and, and_true, not_false_eq_true, not_true_eq_false, Nat.reduceEqDiff, Nat.reduceLeDiff, Nat.reduceLT, Nat.reduceAdd, Nat.reduceMul, Nat.not_le.mpr hk, bn_bit (show a < 1024 by omega) (show k < 10 by omega), hb, bit_lt, bit_1]
      rfl
    · left
      simp (disch := omega) only [Mo_lowest_2b, zl_e, zs_e, li0, li1, li2, li3, li4, li5, li6, li7, li8, li9, li10, li11, li12, li13, li14, li15, li16, li17, li18, li19, li20, li21, li22, li23, li24, li25, li26, li27, li28, li29, li30, li31, li32, li37, li40, li41, li42, li43, li45, li47, li48, li57, li59, li60, li61, li63, li64, li75, li97, li98, li99, li100, li120, li122, li126, li200, li240, li255, li305, li306, li375, li400, li427, li428, li1000, li2000, li9999, neg_nI1, ↓reduceIte, nI_leI, nI_ltI, nI_eq, nI_add, nI_1, pk_mul, ix_nI, ib_nI, if_true, if_false, eq_self, true_and, and_true, not_false_eq_true, not_true_eq_false, Nat.reduceEqDiff, Nat.reduceLeDiff, Nat.reduceLT, Nat.reduceAdd, Nat.reduceMul, Nat.not_le.mpr hk, bn_bit (show a < 1024 by omega) (show k < 10 by omega), hb, bit_lt, bit_1]
      rfl
theorem bn_not {a b : Nat} (ha : a < 128) (hb : b < 128) : nI a &&& (nI b ^^^ mI) = nI (a ^^^ (a &&& b)) := by
  have h : ∀ a, a < 128 → ∀ b, b < 128 → nI a &&& (nI b ^^^ mI) = nI (a ^^^ (a &&& b)) := by decide +kernel
  exact h a ha b hb
theorem not_bit (a b i : Nat) : (a ^^^ (a &&& b)).testBit i = (a.testBit i && !b.testBit i) := by
  rw [Nat.testBit_xor, Nat.testBit_and]
  cases a.testBit i <;> cases b.testBit i <;> rfl
theorem xor128 {a b : Nat} (ha : a < 128) (hb : b < 128) : a ^^^ b < 128 := Nat.xor_lt_two_pow (n := 7) ha hb
theorem itr_mono {L : Nat → Nat} {n op f i : Nat} (h : f.testBit i = true) (k : Nat) : (itr L n op f k).testBit i = true := by
  induction k with
  | zero => exact h
  | succ k ih =>
    show (itr L n op f k ||| _).testBit i = true
    rw [Nat.testBit_or, ih]
    rfl
def plF (R : Nat → Nat) (w : Nat) : Nat → Nat × Nat
  | 0 => (0, 0)
  | k + 1 => if w.testBit k && !(plF R w k).1.testBit k then ((plF R w k).1 ||| R k, (plF R w k).2 + 1) else plF R w k
theorem plF_s (R : Nat → Nat) (w k : Nat) : plF R w (k + 1) = if w.testBit k && !(plF R w k).1.testBit k then ((plF R w k).1 ||| R k, (plF R w k).2 + 1) else plF R w k := rfl
theorem plF_p {R : Nat → Nat} {w : Nat} (hR : ∀ k, R k < 128) (hk : ∀ k, w.testBit k = true → (R k).testBit k = true) (k : Nat) : (plF R w k).1 < 128 ∧ (plF R w k).2 ≤ k ∧ ∀ i, i < k → w.testBit i = true → (plF R w k).1.testBit i = true := by
  induction k with
  | zero => exact ⟨(by decide : (0 : Nat) < 128), Nat.le_refl _, fun i hi => absurd hi (by omega)⟩
  | succ k ih =>
    rw [plF_s]
    obtain ⟨h1, h2, h3⟩ := ih
    cases hc : (w.testBit k && !(plF R w k).1.testBit k)
    · rw [if_neg (by decide)]
      refine ⟨h1, by omega, fun i hi hw => ?_⟩
      by_cases e : i = k
      · subst e
        rw [hw] at hc
        simpa using hc
      · exact h3 i (by omega) hw
    · rw [if_pos rfl]
      refine ⟨or128 h1 (hR k), by show _ + 1 ≤ _; omega, fun i hi hw => ?_⟩
      show ((plF R w k).1 ||| R k).testBit i = true
      rw [Nat.testBit_or]
      by_cases e : i = k
      · subst e
        rw [hk i hw]
        simp
      · rw [h3 i (by omega) hw]
        rfl
theorem q_pools {u v : zM} {t : Nat} {N S : Nat → Nat} {K : Nat → Nat → Nat} {E : Int32 → Int32 → Int32 → Int32 → Int32} (hW : Wf N K S) (hu : NowC u t N K E 54 S) (hz : NowM v N K E S) : ∃ r, OW_pools u = some (r, u) ∧ Mo_pools v = some (r, sI v 1 0 0) := by
  unfold Mo_pools OW_pools
  dsimp only [zlet]
  have hz := hz.th hW.1
  generalize sI v 1 0 0 = v at *
  have hW' := hW
  have hu' := hu
  have hz' := hz
  obtain ⟨⟨n0, n1, n2, n3, n4, n5⟩, ⟨wp, wq, wo, ww, wi⟩, ⟨z0, zp, zq, zo, zw⟩⟩ := hW
  obtain ⟨rt, ht, ⟨⟨c0, c1, c2, c3, c4, c5⟩, cp, cq, co, cw, ci⟩, hl, ⟨s0, sp, sq, so, sw⟩⟩ := hu
  have lt := layT ht
  obtain ⟨⟨m0, mp, mq, mo, mw, mi⟩, hlm, ⟨x0, xp, xq, xo, xw⟩⟩ := hz
  simp only [Nat.zero_add] at x0 xp xq xo xw
  have hw := wetS_lt (S := S) hW'.1
  have hwN : wetS N S < 2 ^ N 0 := mk_lt _ _
  have eW := Mo_wets_e hW' hz'
  have lkM := NowM.lk hW' hz'
  rw [rt, if_pos lt, zb_eq (St_wetBits_eq hW' hu' StA54), zb_eq eW]
  generalize wetS N S = w at hw hwN eW ⊢
  have hR : ∀ k, itr (K 0) (N 0) w (2 ^ k &&& w) 7 < 128 := fun k => itr_lt (fun p hp => (lkM.2.2 p hp).2) (by rw [Nat.and_comm]; exact and128 hw) 7
  have hk1 : ∀ k, w.testBit k = true → (itr (K 0) (N 0) w (2 ^ k &&& w) 7).testBit k = true := fun k hb => itr_mono (by rw [Nat.testBit_and, hb, Nat.testBit_two_pow]; simp) 7
  have hp := fun k => plF_p hR hk1 k
  refine ⟨nI (plF (fun k => itr (K 0) (N 0) w (2 ^ k &&& w) 7) w (N 0)).2, ?_, ?_⟩
  · refine lpz (fun n (s : Int32 × Int32 × Int32) => OW_pools_19 n (nI w) s.1 s.2.1 s.2.2 u) (fun k => (nI (plF (fun k => itr (K 0) (N 0) w (2 ^ k &&& w) 7) w k).1, nI (plF (fun k => itr (K 0) (N 0) w (2 ^ k &&& w) 7) w k).2, nI k)) (N 0) _ (by omega) (fun n => ?_) (fun n k hk => ?_)
    · show OW_pools_19b _ _ _ _ _ _ = _
      simp (disch := omega) only [OW_pools_19b, li0, li1, li2, li3, li4, li5, li6, li7, li8, li9, li10, li11, li12, li13, li14, li15, li16, li17, li18, li19, li20, li21, li22, li23, li24, li25, li26, li27, li28, li29, li30, li31, li32, li37, li40, li41, li42, li43, li45, li47, li48, li57, li59, li60, li61, li63, li64, li75, li97, li98, li99, li100, li120, li122, li126, li200, li240, li255, li305, li306, li375, li400, li427, li428, li1000, li2000, li9999, neg_nI1, ↓reduceIte, nI_leI, nI_ltI, nI_eq, nI_add, nI_1, pk_mul, ix_nI, ib_nI, if_true, if_false, eq_self, true_and, and_true, not_false_eq_true, not_true_eq_false, Nat.reduceEqDiff, Nat.reduceLeDiff, Nat.reduceLT, Nat.reduceAdd, Nat.reduceMul, rt, lt, c0, c1, c2, c3, c4, c5, cp, cq, co, cw, ci, s0, sp, sq, so, sw, Nat.le_refl]
    · show OW_pools_19b _ _ _ _ _ _ = OW_pools_19 _ _ _ _ _ _
      have h1 := hp k
      have e := OW_poolOf_eq hW' hu' (show k < 7 by omega) hw
      have h2 := hR k
      rw [plF_s]
      generalize plF (fun k => itr (K 0) (N 0) w (2 ^ k &&& w) 7) w k = A at h1 ⊢
      dsimp only
      generalize itr (K 0) (N 0) w (2 ^ k &&& w) 7 = R at e h2 ⊢
      simp (disch := omega) only [OW_pools_19b, zl_e, zs_e, li0, li1, li2, li3, li4, li5, li6, li7, li8, li9, li10, li11, li12, li13, li14, li15, li16, li17, li18, li19, li20, li21, li22, li23, li24, li25, li26, li27, li28, li29, li30, li31, li32, li37, li40, li41, li42, li43, li45, li47, li48, li57, li59, li60, li61, li63, li64, li75, li97, li98, li99, li100, li120, li122, li126, li200, li240, li255, li305, li306, li375, li400, li427, li428, li1000, li2000, li9999, neg_nI1, ↓reduceIte, nI_leI, nI_ltI, nI_eq, nI_add, nI_1, pk_mul, ix_nI, ib_nI, if_true, if_false, eq_self, true_and, and_true, not_false_eq_true, not_true_eq_false, Nat.reduceEqDiff, Nat.reduceLeDiff, Nat.reduceLT, Nat.reduceAdd, Nat.reduceMul, rt, lt, c0, c1, c2, c3, c4, c5, cp, cq, co, cw, ci, s0, sp, sq, so, sw, Nat.not_le.mpr hk, e, bn_not hw h1.1, bn_tst (xor128 hw (and128 hw)) (show k < 7 by omega), not_bit, bn_lor h1.1 h2]
      cases (w.testBit k && !A.1.testBit k) <;> rfl
  · have key : ∀ k, k ≤ N 0 → Mo_pools_12 zF (nI w) 0 v = Mo_pools_12 (zF - (plF (fun k => itr (K 0) (N 0) w (2 ^ k &&& w) 7) w k).2) (nI (w ^^^ (w &&& (plF (fun k => itr (K 0) (N 0) w (2 ^ k &&& w) 7) w k).1))) (nI (plF (fun k => itr (K 0) (N 0) w (2 ^ k &&& w) 7) w k).2) v := by
      intro k
      induction k with
      | zero =>
        intro _
        show _ = Mo_pools_12 (zF - 0) (nI (w ^^^ (w &&& 0))) (nI 0) v
        simp
        rfl
      | succ k ih =>
        intro hk
        rw [ih (by omega)]
        have h1 := hp k
        have h2 := hR k
        have es := Mo_spreads_eq lkM (p2_lt (show k < 7 by omega)) hw
        rw [plF_s]
        generalize plF (fun k => itr (K 0) (N 0) w (2 ^ k &&& w) 7) w k = A at h1 ⊢
        generalize itr (K 0) (N 0) w (2 ^ k &&& w) 7 = R at es h2 ⊢
        cases hc : (w.testBit k && !A.1.testBit k)
        · rw [if_neg (by decide)]
        · rw [if_pos rfl]
          have hl : (w ^^^ (w &&& A.1)).testBit k = true := by rw [not_bit]; exact hc
          have hlt : w ^^^ (w &&& A.1) < 128 := xor128 hw (and128 hw)
          have hlo := Mo_lowest_eq hlt v
          rw [fst1_k hl 10 0 (by omega) (by omega) (fun i _ hi => by
            show (w ^^^ (w &&& A.1)).testBit i = false
            rw [not_bit]
            cases hb : w.testBit i
            · rfl
            · rw [h1.2.2 i hi hb]; rfl)] at hlo
          have hne : ¬ (w ^^^ (w &&& A.1)) = 0 := fun e => by rw [e] at hl; simp at hl
          have ef : (w ^^^ (w &&& A.1)) ^^^ ((w ^^^ (w &&& A.1)) &&& R) = w ^^^ (w &&& (A.1 ||| R)) := by
            apply Nat.eq_of_testBit_eq
            intro i
            rw [not_bit, not_bit, not_bit, Nat.testBit_or]
            cases w.testBit i <;> cases A.1.testBit i <;> cases R.testBit i <;> rfl
          have ez : zF - A.2 = (zF - (A.2 + 1)) + 1 := by
            have : zF = 4096 := rfl
            omega
          rw [ez]
          show Mo_pools_12b _ _ _ _ = _
          dsimp only
          rw [← ef]
          generalize w ^^^ (w &&& A.1) = Q at hlo hne hlt ⊢
          simp (disch := omega) only [Mo_pools_12b, zl_e, zs_e, li0, li1, li2, li3, li4, li5, li6, li7, li8, li9, li10, li11, li12, li13, li14, li15, li16, li17, li18, li19, li20, li21, li22, li23, li24, li25, li26, li27, li28, li29, li30, li31, li32, li37, li40, li41, li42, li43, li45, li47, li48, li57, li59, li60, li61, li63, li64, li75, li97, li98, li99, li100, li120, li122, li126, li200, li240, li255, li305, li306, li375, li400, li427, li428, li1000, li2000, li9999, neg_nI1, ↓reduceIte, nI_leI, nI_ltI, nI_eq, nI_add, nI_1, pk_mul, ix_nI, ib_nI, if_true, if_false, eq_self, true_and, and_true, not_false_eq_true, not_true_eq_false, Nat.reduceEqDiff, Nat.reduceLeDiff, Nat.reduceLT, Nat.reduceAdd, Nat.reduceMul, hne, hlo, eW, bn_shl (show k < 10 by omega), es, bn_not hlt h2]
    rw [key (N 0) (Nat.le_refl _)]
    have h1 := hp (N 0)
    generalize plF (fun k => itr (K 0) (N 0) w (2 ^ k &&& w) 7) w (N 0) = A at h1 ⊢
    have e0 : w ^^^ (w &&& A.1) = 0 := by
      apply Nat.eq_of_testBit_eq
      intro i
      rw [not_bit, Nat.zero_testBit]
      by_cases hi : i < N 0
      · cases hb : w.testBit i
        · rfl
        · rw [h1.2.2 i hi hb]; rfl
      · rw [Nat.testBit_lt_two_pow (Nat.lt_of_lt_of_le hwN (Nat.pow_le_pow_right (by decide) (by omega)))]
        rfl
    have ez : zF - A.2 = (zF - (A.2 + 1)) + 1 := by
      have : zF = 4096 := rfl
      omega
    rw [e0, ez]
    show Mo_pools_12b _ _ _ _ = _
    simp (disch := omega) only [Mo_pools_12b, li0, li1, li2, li3, li4, li5, li6, li7, li8, li9, li10, li11, li12, li13, li14, li15, li16, li17, li18, li19, li20, li21, li22, li23, li24, li25, li26, li27, li28, li29, li30, li31, li32, li37, li40, li41, li42, li43, li45, li47, li48, li57, li59, li60, li61, li63, li64, li75, li97, li98, li99, li100, li120, li122, li126, li200, li240, li255, li305, li306, li375, li400, li427, li428, li1000, li2000, li9999, neg_nI1, ↓reduceIte, nI_leI, nI_ltI, nI_eq, nI_add, nI_1, pk_mul, ix_nI, ib_nI, if_true, if_false, eq_self, true_and, and_true, not_false_eq_true, not_true_eq_false, Nat.reduceEqDiff, Nat.reduceLeDiff, Nat.reduceLT, Nat.reduceAdd, Nat.reduceMul]
theorem c_pools {n : Nat} {u v : zM} (h : Inv n u v) (hn : n < 600) : ∃ r u' v', OW_pools u = some (r, u') ∧ Mo_pools v = some (r, v') ∧ Inv (n + 1) u' v' :=
  h.q hn (fun _ _ _ _ _ _ h => q_pools h.1 h.2.2.1 h.2.2.2.1)
