/-! ===== rains of the reference ===== -/
def rnA (c _k : Nat) : Prop := (22 ≤ c ∧ c ≤ 31) ∨ c = 50
def RnM (v m : zM) (N : Nat → Nat) (K : Nat → Nat → Nat) (E : Int32 → Int32 → Int32 → Int32 → Int32) (S : Nat → Nat) (a b : Nat) : Prop := NowM m N K E S ∧ (∀ r p, p < N 0 → (r < a ∨ (r = a ∧ p < b)) → gI m 50 (7 * r + p) = nI (wbS E K p (S (1 + p)) r (S 0))) ∧ Fr rnA v m
theorem laysRains_in {v m : zM} {N S : Nat → Nat} {K : Nat → Nat → Nat} {E : Int32 → Int32 → Int32 → Int32 → Int32} (hW : Wf N K S) {k : Nat} (hk : k < 10) (h : RnM v m N K E S k 0) (zr : Int32 → zM → Option (Unit × zM)) : ∃ m', Mo_laysRains_10 zF zr (nI k) 0 m = zr (nI (k + 1)) m' ∧ RnM v m' N K E S (k + 1) 0 := by
  have hn0 : N 0 ≤ 7 := hW.1.1
  refine lprz (fun n (s : Int32 × zM) => Mo_laysRains_10 n zr (nI k) s.1 s.2) (fun j s => s.1 = nI j ∧ RnM v s.2 N K E S k j) (fun y => ∃ m', y = zr (nI (k + 1)) m' ∧ RnM v m' N K E S (k + 1) 0) (N 0) (0, m) (by omega) ⟨rfl, h⟩ (fun n s hh => ?_) (fun n j s hj hh => Or.inr ?_)
  · obtain ⟨x, m⟩ := s
    obtain ⟨e, h1⟩ := hh
    dsimp only at e h1
    subst e
    have m0 : gI m 3 0 = nI (N 0) := h1.1.1.1 0 (by omega)
    refine ⟨m, ?_, h1.1, fun r p hp hr => h1.2.1 r p hp (by omega), h1.2.2⟩
    show Mo_laysRains_10b _ _ _ _ _ = _
    simp (disch := omega) only [Mo_laysRains_10b, m0, li0, li1, li2, li3, li4, li5, li6, li7, li8, li9, li10, li11, li12, li13, li14, li15, li16, li17, li18, li19, li20, li21, li22, li23, li24, li25, li26, li27, li28, li29, li30, li31, li32, li37, li40, li41, li42, li43, li45, li47, li48, li57, li59, li60, li61, li63, li64, li75, li97, li98, li99, li100, li120, li122, li126, li200, li240, li255, li305, li306, li375, li400, li427, li428, li1000, li2000, li9999, neg_nI1, ↓reduceIte, nI_leI, nI_ltI, nI_eq, nI_add, nI_1, pk_mul, ix_nI, ib_nI, if_true, if_false, eq_self, true_and, and_true, not_false_eq_true, not_true_eq_false, Nat.reduceEqDiff, Nat.reduceLeDiff, Nat.reduceLT, Nat.reduceAdd, Nat.reduceMul, Nat.le_refl]
  · obtain ⟨x, m⟩ := s
    obtain ⟨e, h1⟩ := hh
    dsimp only at e h1
    subst e
    have m0 : gI m 3 0 = nI (N 0) := h1.1.1.1 0 (by omega)
    obtain ⟨m', f1, f2⟩ := Mo_wetBy_eq hW h1.1 (f := k) hj
    have n1 := h1.1.sc hW.1 f2
    refine ⟨(nI (j + 1), sI m' 50 (7 * k + j) (nI (wbS E K j (S (1 + j)) k (S 0)))), ⟨rfl, ?_, fun r p hp hr => ?_, ?_⟩, ?_⟩
    · exact n1.st hW.1 (fun c i _ _ => gs_ne (by omega)) (n1.2.2.fr hW.1 (fun i _ => gs_ne (by omega)))
    · show gI (sI _ _ _ _) _ _ = _
      by_cases hq : r = k ∧ p = j
      · obtain ⟨rfl, rfl⟩ := hq
        exact gs_eq ⟨rfl, rfl⟩
      · rw [gs_ne (by omega), f2.i (by omega)]
        exact h1.2.1 r p hp (by omega)
    · exact (h1.2.2.tr (f2.mono (fun c i h => Or.inl h))).tr (Fr.sI (Or.inr rfl))
    · show Mo_laysRains_10b _ _ _ _ _ = Mo_laysRains_10 _ _ _ _ _
      simp (disch := omega) only [Mo_laysRains_10b, m0, f1, zl_e, zs_e, li0, li1, li2, li3, li4, li5, li6, li7, li8, li9, li10, li11, li12, li13, li14, li15, li16, li17, li18, li19, li20, li21, li22, li23, li24, li25, li26, li27, li28, li29, li30, li31, li32, li37, li40, li41, li42, li43, li45, li47, li48, li57, li59, li60, li61, li63, li64, li75, li97, li98, li99, li100, li120, li122, li126, li200, li240, li255, li305, li306, li375, li400, li427, li428, li1000, li2000, li9999, neg_nI1, ↓reduceIte, nI_leI, nI_ltI, nI_eq, nI_add, nI_1, pk_mul, ix_nI, ib_nI, if_true, if_false, eq_self, true_and, and_true, not_false_eq_true, not_true_eq_false, Nat.reduceEqDiff, Nat.reduceLeDiff, Nat.reduceLT, Nat.reduceAdd, Nat.reduceMul, Nat.not_le.mpr hj]
theorem laysRains_eq {v : zM} {N S : Nat → Nat} {K : Nat → Nat → Nat} {E : Int32 → Int32 → Int32 → Int32 → Int32} (hW : Wf N K S) (hz : NowM v N K E S) : ∃ m, Mo_laysRains v = some ((), m) ∧ RnM v m N K E S 10 0 := by
  unfold Mo_laysRains
  refine lprz (fun n (s : Int32 × zM) => Mo_laysRains_2 n s.1 s.2) (fun k s => s.1 = nI k ∧ RnM v s.2 N K E S k 0) (fun y => ∃ m, y = some ((), m) ∧ RnM v m N K E S 10 0) 10 (0, v) (by omega) ⟨rfl, hz, fun r p hp hr => absurd hr (by omega), Fr.rf⟩ (fun n s hh => ?_) (fun n k s hk hh => Or.inr ?_)
  · obtain ⟨x, m⟩ := s
    obtain ⟨e, h1⟩ := hh
    dsimp only at e h1
    subst e
    refine ⟨m, ?_, h1⟩
    show Mo_laysRains_2b _ _ _ = _
    simp (disch := omega) only [Mo_laysRains_2b, li0, li1, li2, li3, li4, li5, li6, li7, li8, li9, li10, li11, li12, li13, li14, li15, li16, li17, li18, li19, li20, li21, li22, li23, li24, li25, li26, li27, li28, li29, li30, li31, li32, li37, li40, li41, li42, li43, li45, li47, li48, li57, li59, li60, li61, li63, li64, li75, li97, li98, li99, li100, li120, li122, li126, li200, li240, li255, li305, li306, li375, li400, li427, li428, li1000, li2000, li9999, neg_nI1, ↓reduceIte, nI_leI, nI_ltI, nI_eq, nI_add, nI_1, pk_mul, ix_nI, ib_nI, if_true, if_false, eq_self, true_and, and_true, not_false_eq_true, not_true_eq_false, Nat.reduceEqDiff, Nat.reduceLeDiff, Nat.reduceLT, Nat.reduceAdd, Nat.reduceMul, Nat.le_refl]
  · obtain ⟨x, m⟩ := s
    obtain ⟨e, h1⟩ := hh
    dsimp only at e h1
    subst e
    obtain ⟨m', f1, f2⟩ := laysRains_in hW hk h1 (Mo_laysRains_2 n)
    refine ⟨(nI (k + 1), m'), ⟨rfl, f2⟩, ?_⟩
    have f3 : Mo_laysRains_10 zF (Mo_laysRains_2 n) (nI k) (nI 0) m = Mo_laysRains_2 n (nI (k + 1)) m' := f1
    show Mo_laysRains_2b _ _ _ = Mo_laysRains_2 _ _ _
    simp (disch := omega) only [Mo_laysRains_2b, f3, li0, li1, li2, li3, li4, li5, li6, li7, li8, li9, li10, li11, li12, li13, li14, li15, li16, li17, li18, li19, li20, li21, li22, li23, li24, li25, li26, li27, li28, li29, li30, li31, li32, li37, li40, li41, li42, li43, li45, li47, li48, li57, li59, li60, li61, li63, li64, li75, li97, li98, li99, li100, li120, li122, li126, li200, li240, li255, li305, li306, li375, li400, li427, li428, li1000, li2000, li9999, neg_nI1, ↓reduceIte, nI_leI, nI_ltI, nI_eq, nI_add, nI_1, pk_mul, ix_nI, ib_nI, if_true, if_false, eq_self, true_and, and_true, not_false_eq_true, not_true_eq_false, Nat.reduceEqDiff, Nat.reduceLeDiff, Nat.reduceLT, Nat.reduceAdd, Nat.reduceMul, Nat.not_le.mpr hk]
theorem isAsSeenM {v m : zM} {N S : Nat → Nat} {K : Nat → Nat → Nat} {E : Int32 → Int32 → Int32 → Int32 → Int32} (hW : Wf N K S) (h : RnM v m N K E S 10 0) {c : Nat} {P M : Nat → Nat} {X : Nat → Bool} (hs : SnM m N c P M X) {r : Nat} (hr : r ≤ 9) : Mo_isAsSeen (nI r) m = some (bI (alB (snB E K S P M X r) c), m) := by
  unfold Mo_isAsSeen
  have h8 := hs.1
  have h5 := hs.2.1
  have hn0 : N 0 ≤ 7 := hW.1.1
  refine lprz (fun n (s : Int32) => Mo_isAsSeen_2 n (nI r) s m) (fun k s => s = nI k ∧ alB (snB E K S P M X r) k = true) (fun y => y = some (bI (alB (snB E K S P M X r) c), m)) c 0 (by omega) ⟨rfl, rfl⟩ (fun n s hh => ?_) (fun n k s hk hh => ?_)
  · obtain ⟨e, h1⟩ := hh
    subst e
    rw [h1]
    show Mo_isAsSeen_2b _ _ _ _ = _
    simp (disch := omega) only [Mo_isAsSeen_2b, h5, li0, li1, li2, li3, li4, li5, li6, li7, li8, li9, li10, li11, li12, li13, li14, li15, li16, li17, li18, li19, li20, li21, li22, li23, li24, li25, li26, li27, li28, li29, li30, li31, li32, li37, li40, li41, li42, li43, li45, li47, li48, li57, li59, li60, li61, li63, li64, li75, li97, li98, li99, li100, li120, li122, li126, li200, li240, li255, li305, li306, li375, li400, li427, li428, li1000, li2000, li9999, neg_nI1, ↓reduceIte, nI_leI, nI_ltI, nI_eq, nI_add, nI_1, pk_mul, ix_nI, ib_nI, if_true, if_false, eq_self, true_and, and_true, not_false_eq_true, not_true_eq_false, Nat.reduceEqDiff, Nat.reduceLeDiff, Nat.reduceLT, Nat.reduceAdd, Nat.reduceMul, Nat.le_refl]
    rfl
  · obtain ⟨e, h1⟩ := hh
    subst e
    obtain ⟨r1, r2, r3, r4, r5⟩ := hs.2.2 k hk
    have w1 := h.2.1 r (P k) r1 (by omega)
    have wl : wbS E K (P k) (S (1 + P k)) r (S 0) ≤ 9 := clN_le _
    have e6 : ∀ s, Mo_isAsSeen_2 (n + 1) (nI r) s m = Mo_isAsSeen_2b (Mo_isAsSeen_2 n) (nI r) s m := fun _ => rfl
    have e7 : Mo_isAsSeen_2b (Mo_isAsSeen_2 n) (nI r) (nI k) m = if snB E K S P M X r k = true then Mo_isAsSeen_2 n (nI r) (nI (k + 1)) m else some (nI 0, m) := by
      unfold snB
      generalize wbS E K (P k) (S (1 + P k)) r (S 0) = Y at w1 wl ⊢
      simp (disch := omega) only [Mo_isAsSeen_2b, h5, r3, r4, r5, w1, zl_e, zs_e, li0, li1, li2, li3, li4, li5, li6, li7, li8, li9, li10, li11, li12, li13, li14, li15, li16, li17, li18, li19, li20, li21, li22, li23, li24, li25, li26, li27, li28, li29, li30, li31, li32, li37, li40, li41, li42, li43, li45, li47, li48, li57, li59, li60, li61, li63, li64, li75, li97, li98, li99, li100, li120, li122, li126, li200, li240, li255, li305, li306, li375, li400, li427, li428, li1000, li2000, li9999, neg_nI1, ↓reduceIte, nI_leI, nI_ltI, nI_eq, nI_add, nI_1, pk_mul, ix_nI, ib_nI, if_true, if_false, eq_self, true_and, and_true, not_false_eq_true, not_true_eq_false, Nat.reduceEqDiff, Nat.reduceLeDiff, Nat.reduceLT, Nat.reduceAdd, Nat.reduceMul, Nat.not_le.mpr hk]
      by_cases hc : Y < M k
      · rw [if_pos hc, decide_eq_false (by omega)]
        cases X k <;> rfl
      · rw [if_neg hc, decide_eq_true (by omega)]
        cases X k <;> rfl
    rw [e6, e7]
    cases hb : snB E K S P M X r k
    · left
      rw [if_neg (by decide), alB_f hb c hk]
      rfl
    · right
      rw [if_pos rfl]
      exact ⟨nI (k + 1), ⟨rfl, by rw [alB_s, h1, hb]; rfl⟩, rfl⟩
theorem rainsM {v : zM} {N S : Nat → Nat} {K : Nat → Nat → Nat} {E : Int32 → Int32 → Int32 → Int32 → Int32} (hW : Wf N K S) (hz : NowM v N K E S) {c : Nat} {P M : Nat → Nat} {X : Nat → Bool} (hs : SnM v N c P M X) : ∃ m, Mo_rains v = some (nI (mk (fun r => alB (snB E K S P M X r) c) 10), m) ∧ RnM (sI v 1 0 0) m N K E S 10 0 := by
  unfold Mo_rains
  rw [zl_e]
  obtain ⟨m, e1, h1⟩ := laysRains_eq hW (hz.th hW.1)
  refine ⟨m, ?_, h1⟩
  rw [zb_eq e1]
  have hs' : SnM m N c P M X := by
    obtain ⟨a1, a2, a3⟩ := hs
    have fr : ∀ a k, 36 ≤ a → a ≤ 39 → gI m a k = gI v a k := fun a k _ _ => (h1.2.2.i (by unfold rnA; omega)).trans (gs_ne (by omega))
    refine ⟨a1, (fr _ _ (by omega) (by omega)).trans a2, fun i hi => ?_⟩
    obtain ⟨r1, r2, r3, r4, r5⟩ := a3 i hi
    exact ⟨r1, r2, (fr _ _ (by omega) (by omega)).trans r3, (fr _ _ (by omega) (by omega)).trans r4, (fr _ _ (by omega) (by omega)).trans r5⟩
  refine lpz (fun n (s : Int32 × Int32) => Mo_rains_13 n s.1 s.2 m) (fun k => (nI (mk (fun r => alB (snB E K S P M X r) c) k), nI k)) 10 _ (by omega) (fun n => ?_) (fun n k hk => ?_)
  · show Mo_rains_13b _ _ _ _ = _
    simp (disch := omega) only [Mo_rains_13b, li0, li1, li2, li3, li4, li5, li6, li7, li8, li9, li10, li11, li12, li13, li14, li15, li16, li17, li18, li19, li20, li21, li22, li23, li24, li25, li26, li27, li28, li29, li30, li31, li32, li37, li40, li41, li42, li43, li45, li47, li48, li57, li59, li60, li61, li63, li64, li75, li97, li98, li99, li100, li120, li122, li126, li200, li240, li255, li305, li306, li375, li400, li427, li428, li1000, li2000, li9999, neg_nI1, ↓reduceIte, nI_leI, nI_ltI, nI_eq, nI_add, nI_1, pk_mul, ix_nI, ib_nI, if_true, if_false, eq_self, true_and, and_true, not_false_eq_true, not_true_eq_false, Nat.reduceEqDiff, Nat.reduceLeDiff, Nat.reduceLT, Nat.reduceAdd, Nat.reduceMul, Nat.le_refl]
  · show Mo_rains_13b _ _ _ _ = Mo_rains_13 _ _ _ _
    have f1 := isAsSeenM hW h1 hs' (show k ≤ 9 by omega)
    simp (disch := omega) only [Mo_rains_13b, f1, bI_0, zl_e, zs_e, li0, li1, li2, li3, li4, li5, li6, li7, li8, li9, li10, li11, li12, li13, li14, li15, li16, li17, li18, li19, li20, li21, li22, li23, li24, li25, li26, li27, li28, li29, li30, li31, li32, li37, li40, li41, li42, li43, li45, li47, li48, li57, li59, li60, li61, li63, li64, li75, li97, li98, li99, li100, li120, li122, li126, li200, li240, li255, li305, li306, li375, li400, li427, li428, li1000, li2000, li9999, neg_nI1, ↓reduceIte, nI_leI, nI_ltI, nI_eq, nI_add, nI_1, pk_mul, ix_nI, ib_nI, if_true, if_false, eq_self, true_and, and_true, not_false_eq_true, not_true_eq_false, Nat.reduceEqDiff, Nat.reduceLeDiff, Nat.reduceLT, Nat.reduceAdd, Nat.reduceMul, Nat.not_le.mpr hk, bn_or0, bn_or (mk_lt10 _ (show k < 10 by omega))]
    cases hb : alB (snB E K S P M X k) c
    · rw [if_pos rfl, mk_f (P := fun r => alB (snB E K S P M X r) c) (k := k) hb]
    · rw [if_neg (by decide), mk_t (P := fun r => alB (snB E K S P M X r) c) (k := k) hb]
theorem c_rains {n : Nat} {u v : zM} (h : Inv n u v) (hn : n < 600) : ∃ r u' v', OW_rains u = some (r, u') ∧ Mo_rains v = some (r, v') ∧ Inv (n + 1) u' v' := by
  obtain ⟨h6, t, l, N, K, E, S, h⟩ := h
  obtain ⟨c, P, M, X, s1, s2⟩ := h.2.2.2.2.2.2.1.two
  obtain ⟨u', e1, f1, f2⟩ := rainsC h.1 h.2.2.1 s1
  obtain ⟨v', e2, g1⟩ := rainsM h.1 h.2.2.2.1 s2
  refine ⟨_, u', v', e1, e2, by omega, t, l, N, K, E, S, h.scr (by omega) (f2.mono (fun c k h => by unfold scrC; omega)) ((Fr.sI (by unfold scrM; omega)).tr (g1.2.2.mono (fun c k h => by unfold rnA at h; unfold scrM; omega)))⟩
