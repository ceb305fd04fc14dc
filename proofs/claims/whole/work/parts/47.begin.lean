/-! ===== a state at its beginning; lines ===== -/
/-- a row written -/
def wrM (u : zM) (c o : Nat) (f : Nat → Int32) : Nat → zM
  | 0 => u
  | k + 1 => sI (wrM u c o f k) c (o + k) (f k)
theorem wrM_s (u : zM) (c o : Nat) (f : Nat → Int32) (k : Nat) : wrM u c o f (k + 1) = sI (wrM u c o f k) c (o + k) (f k) := rfl
theorem wrM_g (u : zM) (c o : Nat) (f : Nat → Int32) (b j k : Nat) : gI (wrM u c o f k) b j = if b = c ∧ o ≤ j ∧ j < o + k then f (j - o) else gI u b j := by
  induction k with
  | zero => rw [if_neg (by omega)]; rfl
  | succ k ih =>
    rw [wrM_s, gI_sI, ih]
    by_cases h : b = c ∧ j = o + k
    · rw [if_pos h, if_pos (by omega)]
      congr 1
      omega
    · rw [if_neg h]
      by_cases h2 : b = c ∧ o ≤ j ∧ j < o + k
      · rw [if_pos h2, if_pos (by omega)]
      · rw [if_neg h2, if_neg (by omega)]
theorem wrM_in {u : zM} {c o : Nat} {f : Nat → Int32} {k j : Nat} (h : j < k) : gI (wrM u c o f k) c (o + j) = f j := by
  rw [wrM_g, if_pos ⟨rfl, by omega, by omega⟩]
  congr 1
  omega
theorem wrM_ne {u : zM} {c o : Nat} {f : Nat → Int32} {k b j : Nat} (h : ¬ (b = c ∧ o ≤ j ∧ j < o + k)) : gI (wrM u c o f k) b j = gI u b j := by rw [wrM_g, if_neg h]
theorem wrM_fr {A : Nat → Nat → Prop} (u : zM) (c o : Nat) (f : Nat → Int32) (k : Nat) (h : ∀ j, o ≤ j → j < o + k → A c j) : Fr A u (wrM u c o f k) := by
  induction k with
  | zero => exact Fr.rf
  | succ k ih => exact (ih (fun j h1 h2 => h j h1 (by omega))).tr (Fr.sI (h _ (by omega) (by omega)))
theorem St_rest_w {u : zM} {a : Nat} (hA : StA a) : St_rest a u = some ((), wrM u (a + 4) 0 (fun _ => nI 0) 3) := by
  unfold St_rest
  rw [if_pos hA.1]
  refine lpz (fun n (s : Int32 × zM) => St_rest_2 n a s.1 s.2) (fun k => (nI k, wrM u (a + 4) 0 (fun _ => nI 0) k)) 3 _ (by omega) (fun n => ?_) (fun n k hk => ?_)
  · show St_rest_2b _ _ _ _ = _
    simp (disch := omega) only [St_rest_2b, hA.1, li0, li1, li2, li3, li4, li5, li6, li7, li8, li9, li10, li11, li12, li13, li14, li15, li16, li17, li18, li19, li20, li21, li22, li23, li24, li25, li26, li27, li28, li29, li30, li31, li32, li37, li40, li41, li42, li43, li45, li47, li48, li57, li59, li60, li61, li63, li64, li75, li97, li98, li99, li100, li120, li122, li126, li200, li240, li255, li305, li306, li375, li400, li427, li428, li1000, li2000, li9999, neg_nI1, ↓reduceIte, nI_leI, nI_ltI, nI_eq, nI_add, nI_1, pk_mul, ix_nI, ib_nI, if_true, if_false, eq_self, true_and, and_true, not_false_eq_true, not_true_eq_false, Nat.reduceEqDiff, Nat.reduceLeDiff, Nat.reduceLT, Nat.reduceAdd, Nat.reduceMul, Nat.le_refl]
  · show St_rest_2b _ _ _ _ = St_rest_2 _ _ _ _
    simp (disch := omega) only [St_rest_2b, hA.1, zl_e, zs_e, li0, li1, li2, li3, li4, li5, li6, li7, li8, li9, li10, li11, li12, li13, li14, li15, li16, li17, li18, li19, li20, li21, li22, li23, li24, li25, li26, li27, li28, li29, li30, li31, li32, li37, li40, li41, li42, li43, li45, li47, li48, li57, li59, li60, li61, li63, li64, li75, li97, li98, li99, li100, li120, li122, li126, li200, li240, li255, li305, li306, li375, li400, li427, li428, li1000, li2000, li9999, neg_nI1, ↓reduceIte, nI_leI, nI_ltI, nI_eq, nI_add, nI_1, pk_mul, ix_nI, ib_nI, if_true, if_false, eq_self, true_and, and_true, not_false_eq_true, not_true_eq_false, Nat.reduceEqDiff, Nat.reduceLeDiff, Nat.reduceLT, Nat.reduceAdd, Nat.reduceMul, Nat.not_le.mpr hk, wrM_s, Nat.zero_add]
def begS (K : Nat → Nat → Nat) (i : Nat) : Nat := if i < 1 then 0 else if i < 8 then K 6 (i - 1) else if i < 13 then K 7 (i - 8) else if i < 16 then K 8 (i - 13) else if i < 19 then 0 else 4
theorem begS_0 (K : Nat → Nat → Nat) : begS K 0 = 0 := rfl
theorem begS_p {K : Nat → Nat → Nat} {p : Nat} (h : p < 7) : begS K (1 + p) = K 6 p := by
  unfold begS
  rw [if_neg (by omega), if_pos (by omega), Nat.add_sub_cancel_left]
theorem begS_q {K : Nat → Nat → Nat} {p : Nat} (h : p < 5) : begS K (8 + p) = K 7 p := by
  unfold begS
  rw [if_neg (by omega), if_neg (by omega), if_pos (by omega), Nat.add_sub_cancel_left]
theorem begS_o {K : Nat → Nat → Nat} {p : Nat} (h : p < 3) : begS K (13 + p) = K 8 p := by
  unfold begS
  rw [if_neg (by omega), if_neg (by omega), if_neg (by omega), if_pos (by omega), Nat.add_sub_cancel_left]
theorem begS_m {K : Nat → Nat → Nat} {p : Nat} (h : p < 3) : begS K (16 + p) = 0 := by
  unfold begS
  rw [if_neg (by omega), if_neg (by omega), if_neg (by omega), if_neg (by omega), if_pos (by omega)]
theorem begS_h {K : Nat → Nat → Nat} {p : Nat} : begS K (19 + p) = 4 := by
  unfold begS
  rw [if_neg (by omega), if_neg (by omega), if_neg (by omega), if_neg (by omega), if_neg (by omega)]
theorem begS_wf {N : Nat → Nat} {K : Nat → Nat → Nat} (hN : WfN N) (hK : WfK N K) : Wf N K (begS K) := by
  obtain ⟨n0, n1, n2, n3, n4, n5⟩ := hN
  refine ⟨⟨n0, n1, n2, n3, n4, n5⟩, hK, by rw [begS_0]; omega, fun p hp => ?_, fun q hq => ?_, fun o ho => ?_, fun w hw => ?_⟩
  · rw [begS_p (by omega)]; exact (hK.1 p hp).2.1
  · rw [begS_q (by omega)]; exact (hK.2.1 q hq).2
  · rw [begS_o (by omega), begS_m (by omega)]; exact ⟨(hK.2.2.1 o ho).2.2, by omega⟩
  · rw [begS_h]; exact Or.inr (Or.inr rfl)
theorem St_begin_eq {u : zM} {t a : Nat} {N : Nat → Nat} {K : Nat → Nat → Nat} (hN : WfN N) (ht : t = 4 ∨ t = 25) (hc : CtyC u t N K) (hA : StA a) (ha : 54 ≤ a) : ∃ u', St_begin a t u = some ((), u') ∧ StC u' a N (begS K) ∧ Fr (fun c _ => a ≤ c ∧ c ≤ a + 5) u u' := by
  have lt := layT ht
  obtain ⟨n0, n1, n2, n3, n4, n5⟩ := hN
  obtain ⟨⟨c0, c1, c2, c3, c4, c5⟩, cp, cq, co, cw, ci⟩ := hc
  let u3 := sC (sC (sC u (t + 9) 0 (a + 1) 0 7) (t + 12) 0 (a + 2) 0 5) (t + 13) 0 (a + 3) 0 3
  let u4 := wrM u3 (a + 4) 0 (fun _ => nI 0) 3
  let u5 := wrM u4 (a + 5) 0 (fun _ => mI) 6
  have e1 : St_begin_49 zF a 0 u4 = some ((), sI u5 a 5 0) := by
    refine lpz (fun n (s : Int32 × zM) => St_begin_49 n a s.1 s.2) (fun k => (nI k, wrM u4 (a + 5) 0 (fun _ => mI) k)) 6 _ (by omega) (fun n => ?_) (fun n k hk => ?_)
    · show St_begin_49b _ _ _ _ = _
      simp (disch := omega) only [St_begin_49b, hA.1, zl_e, zs_e, li0, li1, li2, li3, li4, li5, li6, li7, li8, li9, li10, li11, li12, li13, li14, li15, li16, li17, li18, li19, li20, li21, li22, li23, li24, li25, li26, li27, li28, li29, li30, li31, li32, li37, li40, li41, li42, li43, li45, li47, li48, li57, li59, li60, li61, li63, li64, li75, li97, li98, li99, li100, li120, li122, li126, li200, li240, li255, li305, li306, li375, li400, li427, li428, li1000, li2000, li9999, neg_nI1, ↓reduceIte, nI_leI, nI_ltI, nI_eq, nI_add, nI_1, pk_mul, ix_nI, ib_nI, if_true, if_false, eq_self, true_and, and_true, not_false_eq_true, not_true_eq_false, Nat.reduceEqDiff, Nat.reduceLeDiff, Nat.reduceLT, Nat.reduceAdd, Nat.reduceMul, Nat.le_refl]
      rfl
    · show St_begin_49b _ _ _ _ = St_begin_49 _ _ _ _
      simp (disch := omega) only [St_begin_49b, hA.1, zl_e, zs_e, li0, li1, li2, li3, li4, li5, li6, li7, li8, li9, li10, li11, li12, li13, li14, li15, li16, li17, li18, li19, li20, li21, li22, li23, li24, li25, li26, li27, li28, li29, li30, li31, li32, li37, li40, li41, li42, li43, li45, li47, li48, li57, li59, li60, li61, li63, li64, li75, li97, li98, li99, li100, li120, li122, li126, li200, li240, li255, li305, li306, li375, li400, li427, li428, li1000, li2000, li9999, neg_nI1, ↓reduceIte, nI_leI, nI_ltI, nI_eq, nI_add, nI_1, pk_mul, ix_nI, ib_nI, if_true, if_false, eq_self, true_and, and_true, not_false_eq_true, not_true_eq_false, Nat.reduceEqDiff, Nat.reduceLeDiff, Nat.reduceLT, Nat.reduceAdd, Nat.reduceMul, Nat.not_le.mpr hk, wrM_s, Nat.zero_add]
  have f3 : Fr (fun c _ => a ≤ c ∧ c ≤ a + 5) u u3 := ((Fr.sC (fun _ _ _ => by omega)).tr (Fr.sC (fun _ _ _ => by omega))).tr (Fr.sC (fun _ _ _ => by omega))
  refine ⟨sI u5 a 5 0, ?_, ⟨gs_eq ⟨rfl, rfl⟩, fun p hp => ?_, fun q hq => ?_, fun o ho => ⟨?_, ?_⟩, fun w hw => ?_⟩, ((f3.tr (wrM_fr _ _ _ _ _ (fun _ _ _ => by omega))).tr (wrM_fr _ _ _ _ _ (fun _ _ _ => by omega))).tr (Fr.sI (by omega))⟩
  · unfold St_begin
    rw [if_pos hA.1, if_pos lt]
    rw [zl_e, zl_e, zl_e, zb_eq (St_rest_w hA)]
    exact e1
  · rw [gs_ne (by omega), wrM_ne (by omega), wrM_ne (by omega), gc_ne (by omega), gc_ne (by omega), gc_in (by omega), begS_p (by omega)]
    have := (cp p hp).2
    rwa [Nat.sub_zero, Nat.zero_add]
  · rw [gs_ne (by omega), wrM_ne (by omega), wrM_ne (by omega), gc_ne (by omega), gc_in (by omega), gc_ne (by omega), begS_q (by omega)]
    have := (cq q hq).2
    rwa [Nat.sub_zero, Nat.zero_add]
  · rw [gs_ne (by omega), wrM_ne (by omega), wrM_ne (by omega), gc_in (by omega), gc_ne (by omega), gc_ne (by omega), begS_o (by omega)]
    have := (co o ho).2
    rwa [Nat.sub_zero, Nat.zero_add]
  · rw [gs_ne (by omega), wrM_ne (by omega), wrM_g, if_pos (by omega), begS_m (by omega)]
  · rw [gs_ne (by omega), wrM_g, if_pos (by omega), begS_h]
    rfl
/-- the reference's -/
def frI (k : Nat) : Int32 := if (8 ≤ k ∧ k < 16) ∨ 19 ≤ k then mI else nI 0
theorem Mo_fresh0_eq {v : zM} {N : Nat → Nat} {K : Nat → Nat → Nat} (hN : WfN N) (hc : CtyM v N K) : ∃ v', Mo_fresh0 v = some ((), v') ∧ StM v' 40 0 N (begS K) ∧ Fr (fun c _ => c = 40) v v' := by
  obtain ⟨n0, n1, n2, n3, n4, n5⟩ := hN
  obtain ⟨m0, mp, mq, mo, mw, mi⟩ := hc
  let v1 := wrM v 40 0 frI 25
  let v2 := wrM v1 40 1 (fun p => nI (K 6 p)) (N 0)
  let v3 := wrM v2 40 8 (fun p => nI (K 7 p)) (N 2)
  let v4 := wrM v3 40 13 (fun p => nI (K 8 p)) (N 3)
  have e4 : Mo_fresh0_110 zF 0 v3 = some ((), v4) := by
    refine lpz (fun n (s : Int32 × zM) => Mo_fresh0_110 n s.1 s.2) (fun k => (nI k, wrM v3 40 13 (fun p => nI (K 8 p)) k)) (N 3) _ (by omega) (fun n => ?_) (fun n k hk => ?_)
    · show Mo_fresh0_110b _ _ _ = _
      have h0 : gI (wrM v3 40 13 (fun p => nI (K 8 p)) (N 3)) 3 3 = nI (N 3) := by rw [wrM_ne (by omega), wrM_ne (by omega), wrM_ne (by omega), wrM_ne (by omega)]; exact m0 3 (by omega)
      simp (disch := omega) only [Mo_fresh0_110b, h0, li0, li1, li2, li3, li4, li5, li6, li7, li8, li9, li10, li11, li12, li13, li14, li15, li16, li17, li18, li19, li20, li21, li22, li23, li24, li25, li26, li27, li28, li29, li30, li31, li32, li37, li40, li41, li42, li43, li45, li47, li48, li57, li59, li60, li61, li63, li64, li75, li97, li98, li99, li100, li120, li122, li126, li200, li240, li255, li305, li306, li375, li400, li427, li428, li1000, li2000, li9999, neg_nI1, ↓reduceIte, nI_leI, nI_ltI, nI_eq, nI_add, nI_1, pk_mul, ix_nI, ib_nI, if_true, if_false, eq_self, true_and, and_true, not_false_eq_true, not_true_eq_false, Nat.reduceEqDiff, Nat.reduceLeDiff, Nat.reduceLT, Nat.reduceAdd, Nat.reduceMul, Nat.le_refl]
      rfl
    · show Mo_fresh0_110b _ _ _ = Mo_fresh0_110 _ _ _
      have h0 : gI (wrM v3 40 13 (fun p => nI (K 8 p)) k) 3 3 = nI (N 3) := by rw [wrM_ne (by omega), wrM_ne (by omega), wrM_ne (by omega), wrM_ne (by omega)]; exact m0 3 (by omega)
      have h1 : gI (wrM v3 40 13 (fun p => nI (K 8 p)) k) 12 k = nI (K 8 k) := by rw [wrM_ne (by omega), wrM_ne (by omega), wrM_ne (by omega), wrM_ne (by omega)]; exact (mo k hk).2
      simp (disch := omega) only [Mo_fresh0_110b, h0, h1, zl_e, zs_e, li0, li1, li2, li3, li4, li5, li6, li7, li8, li9, li10, li11, li12, li13, li14, li15, li16, li17, li18, li19, li20, li21, li22, li23, li24, li25, li26, li27, li28, li29, li30, li31, li32, li37, li40, li41, li42, li43, li45, li47, li48, li57, li59, li60, li61, li63, li64, li75, li97, li98, li99, li100, li120, li122, li126, li200, li240, li255, li305, li306, li375, li400, li427, li428, li1000, li2000, li9999, neg_nI1, ↓reduceIte, nI_leI, nI_ltI, nI_eq, nI_add, nI_1, pk_mul, ix_nI, ib_nI, if_true, if_false, eq_self, true_and, and_true, not_false_eq_true, not_true_eq_false, Nat.reduceEqDiff, Nat.reduceLeDiff, Nat.reduceLT, Nat.reduceAdd, Nat.reduceMul, Nat.not_le.mpr hk, wrM_s]
  have e3 : Mo_fresh0_77 zF 0 v2 = some ((), v4) := by
    refine lpz (fun n (s : Int32 × zM) => Mo_fresh0_77 n s.1 s.2) (fun k => (nI k, wrM v2 40 8 (fun p => nI (K 7 p)) k)) (N 2) _ (by omega) (fun n => ?_) (fun n k hk => ?_)
    · show Mo_fresh0_77b _ _ _ = _
      have h0 : gI (wrM v2 40 8 (fun p => nI (K 7 p)) (N 2)) 3 2 = nI (N 2) := by rw [wrM_ne (by omega), wrM_ne (by omega), wrM_ne (by omega)]; exact m0 2 (by omega)
      unfold Mo_fresh0_77b
      dsimp only
      rw [h0, if_pos (nI_le (Nat.le_refl _) (by omega))]
      exact e4
    · show Mo_fresh0_77b _ _ _ = Mo_fresh0_77 _ _ _
      have h0 : gI (wrM v2 40 8 (fun p => nI (K 7 p)) k) 3 2 = nI (N 2) := by rw [wrM_ne (by omega), wrM_ne (by omega), wrM_ne (by omega)]; exact m0 2 (by omega)
      have h1 : gI (wrM v2 40 8 (fun p => nI (K 7 p)) k) 11 k = nI (K 7 k) := by rw [wrM_ne (by omega), wrM_ne (by omega), wrM_ne (by omega)]; exact (mq k hk).2
      simp (disch := omega) only [Mo_fresh0_77b, h0, h1, zl_e, zs_e, li0, li1, li2, li3, li4, li5, li6, li7, li8, li9, li10, li11, li12, li13, li14, li15, li16, li17, li18, li19, li20, li21, li22, li23, li24, li25, li26, li27, li28, li29, li30, li31, li32, li37, li40, li41, li42, li43, li45, li47, li48, li57, li59, li60, li61, li63, li64, li75, li97, li98, li99, li100, li120, li122, li126, li200, li240, li255, li305, li306, li375, li400, li427, li428, li1000, li2000, li9999, neg_nI1, ↓reduceIte, nI_leI, nI_ltI, nI_eq, nI_add, nI_1, pk_mul, ix_nI, ib_nI, if_true, if_false, eq_self, true_and, and_true, not_false_eq_true, not_true_eq_false, Nat.reduceEqDiff, Nat.reduceLeDiff, Nat.reduceLT, Nat.reduceAdd, Nat.reduceMul, Nat.not_le.mpr hk, wrM_s]
  have e2 : Mo_fresh0_45 zF 0 v1 = some ((), v4) := by
    refine lpz (fun n (s : Int32 × zM) => Mo_fresh0_45 n s.1 s.2) (fun k => (nI k, wrM v1 40 1 (fun p => nI (K 6 p)) k)) (N 0) _ (by omega) (fun n => ?_) (fun n k hk => ?_)
    · show Mo_fresh0_45b _ _ _ = _
      have h0 : gI (wrM v1 40 1 (fun p => nI (K 6 p)) (N 0)) 3 0 = nI (N 0) := by rw [wrM_ne (by omega), wrM_ne (by omega)]; exact m0 0 (by omega)
      unfold Mo_fresh0_45b
      dsimp only
      rw [h0, if_pos (nI_le (Nat.le_refl _) (by omega))]
      exact e3
    · show Mo_fresh0_45b _ _ _ = Mo_fresh0_45 _ _ _
      have h0 : gI (wrM v1 40 1 (fun p => nI (K 6 p)) k) 3 0 = nI (N 0) := by rw [wrM_ne (by omega), wrM_ne (by omega)]; exact m0 0 (by omega)
      have h1 : gI (wrM v1 40 1 (fun p => nI (K 6 p)) k) 8 k = nI (K 6 k) := by rw [wrM_ne (by omega), wrM_ne (by omega)]; exact (mp k hk).2
      simp (disch := omega) only [Mo_fresh0_45b, h0, h1, zl_e, zs_e, li0, li1, li2, li3, li4, li5, li6, li7, li8, li9, li10, li11, li12, li13, li14, li15, li16, li17, li18, li19, li20, li21, li22, li23, li24, li25, li26, li27, li28, li29, li30, li31, li32, li37, li40, li41, li42, li43, li45, li47, li48, li57, li59, li60, li61, li63, li64, li75, li97, li98, li99, li100, li120, li122, li126, li200, li240, li255, li305, li306, li375, li400, li427, li428, li1000, li2000, li9999, neg_nI1, ↓reduceIte, nI_leI, nI_ltI, nI_eq, nI_add, nI_1, pk_mul, ix_nI, ib_nI, if_true, if_false, eq_self, true_and, and_true, not_false_eq_true, not_true_eq_false, Nat.reduceEqDiff, Nat.reduceLeDiff, Nat.reduceLT, Nat.reduceAdd, Nat.reduceMul, Nat.not_le.mpr hk, wrM_s]
  have e1 : Mo_fresh0_2 zF 0 v = some ((), v4) := by
    refine lpz (fun n (s : Int32 × zM) => Mo_fresh0_2 n s.1 s.2) (fun k => (nI k, wrM v 40 0 frI k)) 25 _ (by omega) (fun n => ?_) (fun n k hk => ?_)
    · show Mo_fresh0_2b _ _ _ = _
      unfold Mo_fresh0_2b
      dsimp only
      rw [if_pos (show (25 : Int32) ≤ nI 25 by decide)]
      exact e2
    · show Mo_fresh0_2b _ _ _ = Mo_fresh0_2 _ _ _
      have e5 : frI k = if k < 8 then nI 0 else if k < 16 then mI else if k < 19 then nI 0 else mI := by
        unfold frI
        by_cases h1 : k < 8
        · rw [if_neg (by omega), if_pos h1]
        · by_cases h2 : k < 16
          · rw [if_pos (by omega), if_neg h1, if_pos h2]
          · by_cases h3 : k < 19
            · rw [if_neg (by omega), if_neg h1, if_neg h2, if_pos h3]
            · rw [if_pos (by omega), if_neg h1, if_neg h2, if_neg h3]
      simp (disch := omega) only [Mo_fresh0_2b, Mo_fresh0_25, zl_e, zs_e, li0, li1, li2, li3, li4, li5, li6, li7, li8, li9, li10, li11, li12, li13, li14, li15, li16, li17, li18, li19, li20, li21, li22, li23, li24, li25, li26, li27, li28, li29, li30, li31, li32, li37, li40, li41, li42, li43, li45, li47, li48, li57, li59, li60, li61, li63, li64, li75, li97, li98, li99, li100, li120, li122, li126, li200, li240, li255, li305, li306, li375, li400, li427, li428, li1000, li2000, li9999, neg_nI1, ↓reduceIte, nI_leI, nI_ltI, nI_eq, nI_add, nI_1, pk_mul, ix_nI, ib_nI, if_true, if_false, eq_self, true_and, and_true, not_false_eq_true, not_true_eq_false, Nat.reduceEqDiff, Nat.reduceLeDiff, Nat.reduceLT, Nat.reduceAdd, Nat.reduceMul, Nat.not_le.mpr hk, wrM_s, e5, Nat.zero_add]
      by_cases h1 : k < 8
      · have h3 : k < 19 := by omega
        simp only [h1, h3, if_true]
      · by_cases h2 : k < 16
        · simp only [h1, h2, if_true, if_false]
        · simp only [h1, h2, if_false]
          by_cases h3 : k < 19
          · simp only [h3, if_true]
          · simp only [h3, if_false]
  have f1 : Fr (fun c _ => c = 40) v v4 := (((wrM_fr _ _ _ _ _ (fun _ _ _ => rfl)).tr (wrM_fr _ _ _ _ _ (fun _ _ _ => rfl))).tr (wrM_fr _ _ _ _ _ (fun _ _ _ => rfl))).tr (wrM_fr _ _ _ _ _ (fun _ _ _ => rfl))
  refine ⟨v4, e1, ⟨?_, fun p hp => ?_, fun q hq => ?_, fun o ho => ⟨?_, ?_⟩, fun w hw => ?_⟩, f1⟩
  · rw [wrM_ne (by omega), wrM_ne (by omega), wrM_ne (by omega), wrM_g, if_pos (by omega)]
    rfl
  · rw [Nat.zero_add, wrM_ne (by omega), wrM_ne (by omega), wrM_in hp, begS_p (by omega)]
  · rw [Nat.zero_add, wrM_ne (by omega), wrM_in hq, begS_q (by omega)]
  · rw [Nat.zero_add, wrM_in ho, begS_o (by omega)]
  · rw [Nat.zero_add, wrM_ne (by omega), wrM_ne (by omega), wrM_ne (by omega), wrM_g, if_pos (by omega), begS_m (by omega)]
    unfold frI
    rw [if_neg (by omega)]
  · rw [Nat.zero_add, wrM_ne (by omega), wrM_ne (by omega), wrM_ne (by omega), wrM_g, if_pos (by omega), begS_h]
    unfold frI
    rw [if_pos (by omega)]
    rfl
