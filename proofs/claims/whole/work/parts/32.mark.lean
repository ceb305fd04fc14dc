/-! ===== mark ===== -/
theorem Se_copy_eq {u : zM} {a b c : Nat} (hA : layC a = (15, 4)) (hB : layC b = (15, 4)) (hab : a + 3 < b ∨ b + 3 < a) (hx : ∀ k, k < 8 → k < c → vp_nar .boolean (gI u (a + 3) k) = gI u (a + 3) k) : ∃ u', Se_copy b a u = some ((), u') ∧ gI u' b 3 = gI u a 3 ∧ (∀ j k, 1 ≤ j → j ≤ 3 → k < 8 → k < c → gI u' (b + j) k = gI u (a + j) k) ∧ Fr (fun x k => b ≤ x ∧ x ≤ b + 3) u u' := by
  unfold Se_copy
  rw [if_pos hB, if_pos hA]
  refine lprz (fun n (s : Int32 × zM) => Se_copy_2 n b a s.1 s.2) (fun k s => s.1 = nI k ∧ (∀ j q, 1 ≤ j → j ≤ 3 → q < k → q < c → gI s.2 (b + j) q = gI u (a + j) q) ∧ Fr (fun x _ => b + 1 ≤ x ∧ x ≤ b + 3) u s.2) (fun r => ∃ u', r = some ((), u') ∧ gI u' b 3 = gI u a 3 ∧ (∀ j k, 1 ≤ j → j ≤ 3 → k < 8 → k < c → gI u' (b + j) k = gI u (a + j) k) ∧ Fr (fun x k => b ≤ x ∧ x ≤ b + 3) u u') 8 (0, u) (by omega) ⟨rfl, fun j q _ _ hq => absurd hq (by omega), Fr.rf⟩ (fun n s hs => ?_) (fun n k s hk hs => Or.inr ?_)
  · obtain ⟨x, m⟩ := s
    obtain ⟨e, h1, h2⟩ := hs
    dsimp only at e h1 h2
    subst e
    refine ⟨sI m b 3 (gI m a 3), ?_, ?_, fun j k j1 j2 k1 k2 => ?_, (h2.mono (fun c k h => by omega)).tr (Fr.sI (by omega))⟩
    · show Se_copy_2b _ _ _ _ _ = _
      simp (disch := omega) only [Se_copy_2b, hA, hB, zl_e, zs_e, li0, li1, li2, li3, li4, li5, li6, li7, li8, li9, li10, li11, li12, li13, li14, li15, li16, li17, li18, li19, li20, li21, li22, li23, li24, li25, li26, li27, li28, li29, li30, li31, li32, li37, li40, li41, li42, li43, li45, li47, li48, li57, li59, li60, li61, li63, li64, li75, li97, li98, li99, li100, li120, li122, li126, li200, li240, li255, li305, li306, li375, li400, li427, li428, li1000, li2000, li9999, neg_nI1, ↓reduceIte, nI_leI, nI_ltI, nI_eq, nI_add, nI_1, pk_mul, ix_nI, ib_nI, if_true, if_false, eq_self, true_and, and_true, not_false_eq_true, not_true_eq_false, Nat.reduceEqDiff, Nat.reduceLeDiff, Nat.reduceLT, Nat.reduceAdd, Nat.reduceMul, Nat.le_refl]
    · rw [gs_eq ⟨rfl, rfl⟩, h2.i (by omega)]
    · rw [gs_ne (by omega)]; exact h1 j k j1 j2 k1 k2
  · obtain ⟨x, m⟩ := s
    obtain ⟨e, h1, h2⟩ := hs
    dsimp only at e h1 h2
    subst e
    refine ⟨(nI (k + 1), sI (sI (sI m (b + 1) k (gI m (a + 1) k)) (b + 2) k (gI m (a + 2) k)) (b + 3) k (vp_nar .boolean (gI m (a + 3) k))), ⟨rfl, fun j q j1 j2 hq hc => ?_, ((h2.tr (Fr.sI (by omega))).tr (Fr.sI (by omega))).tr (Fr.sI (by omega))⟩, ?_⟩
    · show gI (sI _ _ _ _) _ _ = _
      by_cases h : q = k
      · subst h
        obtain rfl | rfl | rfl : j = 1 ∨ j = 2 ∨ j = 3 := by omega
        · rw [gs_ne (by omega), gs_ne (by omega), gs_eq ⟨rfl, rfl⟩, h2.i (by omega)]
        · rw [gs_ne (by omega), gs_eq ⟨rfl, rfl⟩, h2.i (by omega)]
        · rw [gs_eq ⟨rfl, rfl⟩, h2.i (by omega), hx q (by omega) hc]
      · rw [gs_ne (by omega), gs_ne (by omega), gs_ne (by omega), h1 j q j1 j2 (by omega) hc]
    · show Se_copy_2b _ _ _ _ _ = Se_copy_2 _ _ _ _ _
      simp (disch := omega) only [Se_copy_2b, hA, hB, gs_ne, zl_e, zs_e, li0, li1, li2, li3, li4, li5, li6, li7, li8, li9, li10, li11, li12, li13, li14, li15, li16, li17, li18, li19, li20, li21, li22, li23, li24, li25, li26, li27, li28, li29, li30, li31, li32, li37, li40, li41, li42, li43, li45, li47, li48, li57, li59, li60, li61, li63, li64, li75, li97, li98, li99, li100, li120, li122, li126, li200, li240, li255, li305, li306, li375, li400, li427, li428, li1000, li2000, li9999, neg_nI1, ↓reduceIte, nI_leI, nI_ltI, nI_eq, nI_add, nI_1, pk_mul, ix_nI, ib_nI, if_true, if_false, eq_self, true_and, and_true, not_false_eq_true, not_true_eq_false, Nat.reduceEqDiff, Nat.reduceLeDiff, Nat.reduceLT, Nat.reduceAdd, Nat.reduceMul, Nat.not_le.mpr hk]
theorem Ss_copy_eq {u : zM} {a b : Nat} (hA : layC a = (16, 4)) (hB : layC b = (16, 4)) (hab : a + 3 < b ∨ b + 3 < a) : ∃ u', Ss_copy b a u = some ((), u') ∧ gI u' b 3 = gI u a 3 ∧ (∀ j k, 1 ≤ j → j ≤ 3 → k < 40 → gI u' (b + j) k = gI u (a + j) k) ∧ Fr (fun x k => b ≤ x ∧ x ≤ b + 3) u u' := by
  unfold Ss_copy
  rw [if_pos hB, if_pos hA]
  refine ⟨_, rfl, ?_, fun j k j1 j2 hk => ?_, ?_⟩
  · simp (disch := omega) only [zlet, gs_eq, gs_ne, gc_ne, gc_in]
  · obtain rfl | rfl | rfl : j = 1 ∨ j = 2 ∨ j = 3 := by omega
    all_goals simp (disch := omega) only [zlet, gs_ne, gc_ne, gc_in, Nat.zero_add, Nat.sub_zero]
  · refine (((Fr.sC ?_).tr (Fr.sC ?_)).tr (Fr.sC ?_)).tr (Fr.sI ?_) <;> intros <;> omega
theorem Mo_laysLines_eq {v : zM} {r r' : Nat} (hr : r < 6) (hr' : r' < 6) (hne : r ≠ r') : ∃ v', Mo_laysLines (nI r) (nI r') v = some ((), v') ∧ gI v' 32 r' = gI v 32 r ∧ (∀ c k, 33 ≤ c → c ≤ 35 → k < 40 → gI v' c (40 * r' + k) = gI v c (40 * r + k)) ∧ Fr (fun c k => (c = 32 ∧ k = r') ∨ (33 ≤ c ∧ c ≤ 35 ∧ 40 * r' ≤ k ∧ k < 40 * r' + 40)) v v' := by
  unfold Mo_laysLines
  rw [if_pos (ib_nI hr (by omega)), if_pos (ib_nI hr' (by omega)), ix_nI (by omega), ix_nI (by omega)]
  dsimp only [zlet]
  refine lprz (fun n (s : Int32 × zM) => Mo_laysLines_14 n (nI r) (nI r') s.1 s.2) (fun k s => s.1 = nI k ∧ gI s.2 32 r' = gI v 32 r ∧ (∀ c q, 33 ≤ c → c ≤ 35 → q < k → gI s.2 c (40 * r' + q) = gI v c (40 * r + q)) ∧ Fr (fun c k => (c = 32 ∧ k = r') ∨ (33 ≤ c ∧ c ≤ 35 ∧ 40 * r' ≤ k ∧ k < 40 * r' + 40)) v s.2) (fun x => ∃ v', x = some ((), v') ∧ gI v' 32 r' = gI v 32 r ∧ (∀ c k, 33 ≤ c → c ≤ 35 → k < 40 → gI v' c (40 * r' + k) = gI v c (40 * r + k)) ∧ Fr (fun c k => (c = 32 ∧ k = r') ∨ (33 ≤ c ∧ c ≤ 35 ∧ 40 * r' ≤ k ∧ k < 40 * r' + 40)) v v') 40 (0, sI v 32 r' (gI v 32 r)) (by omega) ⟨rfl, gs_eq ⟨rfl, rfl⟩, fun c q _ _ hq => absurd hq (by omega), Fr.sI (by omega)⟩ (fun n s hs => ?_) (fun n k s hk hs => Or.inr ?_)
  · obtain ⟨x, m⟩ := s
    obtain ⟨e, h0, h1, h2⟩ := hs
    dsimp only at e h0 h1 h2
    subst e
    refine ⟨m, ?_, h0, h1, h2⟩
    show Mo_laysLines_14b _ _ _ _ _ = _
    simp (disch := omega) only [Mo_laysLines_14b, zl_e, zs_e, li0, li1, li2, li3, li4, li5, li6, li7, li8, li9, li10, li11, li12, li13, li14, li15, li16, li17, li18, li19, li20, li21, li22, li23, li24, li25, li26, li27, li28, li29, li30, li31, li32, li37, li40, li41, li42, li43, li45, li47, li48, li57, li59, li60, li61, li63, li64, li75, li97, li98, li99, li100, li120, li122, li126, li200, li240, li255, li305, li306, li375, li400, li427, li428, li1000, li2000, li9999, neg_nI1, ↓reduceIte, nI_leI, nI_ltI, nI_eq, nI_add, nI_1, pk_mul, ix_nI, ib_nI, if_true, if_false, eq_self, true_and, and_true, not_false_eq_true, not_true_eq_false, Nat.reduceEqDiff, Nat.reduceLeDiff, Nat.reduceLT, Nat.reduceAdd, Nat.reduceMul, Nat.le_refl]
  · obtain ⟨x, m⟩ := s
    obtain ⟨e, h0, h1, h2⟩ := hs
    dsimp only at e h0 h1 h2
    subst e
    refine ⟨(nI (k + 1), sI (sI (sI m 33 (40 * r' + k) (gI m 33 (40 * r + k))) 34 (40 * r' + k) (gI m 34 (40 * r + k))) 35 (40 * r' + k) (gI m 35 (40 * r + k))), ⟨rfl, ?_, fun c q c1 c2 hq => ?_, ((h2.tr (Fr.sI (by omega))).tr (Fr.sI (by omega))).tr (Fr.sI (by omega))⟩, ?_⟩
    · show gI (sI _ _ _ _) _ _ = _
      rw [gs_ne (by omega), gs_ne (by omega), gs_ne (by omega), h0]
    · show gI (sI _ _ _ _) _ _ = _
      by_cases h : q = k
      · subst h
        obtain rfl | rfl | rfl : c = 33 ∨ c = 34 ∨ c = 35 := by omega
        · rw [gs_ne (by omega), gs_ne (by omega), gs_eq ⟨rfl, rfl⟩, h2.i (by omega)]
        · rw [gs_ne (by omega), gs_eq ⟨rfl, rfl⟩, h2.i (by omega)]
        · rw [gs_eq ⟨rfl, rfl⟩, h2.i (by omega)]
      · rw [gs_ne (by omega), gs_ne (by omega), gs_ne (by omega), h1 c q c1 c2 (by omega)]
    · show Mo_laysLines_14b _ _ _ _ _ = Mo_laysLines_14 _ _ _ _ _
      simp (disch := omega) only [Mo_laysLines_14b, gs_ne, zl_e, zs_e, li0, li1, li2, li3, li4, li5, li6, li7, li8, li9, li10, li11, li12, li13, li14, li15, li16, li17, li18, li19, li20, li21, li22, li23, li24, li25, li26, li27, li28, li29, li30, li31, li32, li37, li40, li41, li42, li43, li45, li47, li48, li57, li59, li60, li61, li63, li64, li75, li97, li98, li99, li100, li120, li122, li126, li200, li240, li255, li305, li306, li375, li400, li427, li428, li1000, li2000, li9999, neg_nI1, ↓reduceIte, nI_leI, nI_ltI, nI_eq, nI_add, nI_1, pk_mul, ix_nI, ib_nI, if_true, if_false, eq_self, true_and, and_true, not_false_eq_true, not_true_eq_false, Nat.reduceEqDiff, Nat.reduceLeDiff, Nat.reduceLT, Nat.reduceAdd, Nat.reduceMul, Nat.not_le.mpr hk]
theorem Mo_laysSeen_eq {v : zM} {r r' c : Nat} (hr : r < 5) (hr' : r' < 5) (hne : r ≠ r') (hx : ∀ k, k < 8 → k < c → vp_nar .boolean (gI v 39 (8 * r + k)) = gI v 39 (8 * r + k)) : ∃ v', Mo_laysSeen (nI r) (nI r') v = some ((), v') ∧ gI v' 36 r' = gI v 36 r ∧ (∀ x k, 37 ≤ x → x ≤ 39 → k < 8 → k < c → gI v' x (8 * r' + k) = gI v x (8 * r + k)) ∧ Fr (fun x k => (x = 36 ∧ k = r') ∨ (37 ≤ x ∧ x ≤ 39 ∧ 8 * r' ≤ k ∧ k < 8 * r' + 8)) v v' := by
  unfold Mo_laysSeen
  rw [if_pos (ib_nI hr (by omega)), if_pos (ib_nI hr' (by omega)), ix_nI (by omega), ix_nI (by omega)]
  dsimp only [zlet]
  refine lprz (fun n (s : Int32 × zM) => Mo_laysSeen_14 n (nI r) (nI r') s.1 s.2) (fun k s => s.1 = nI k ∧ gI s.2 36 r' = gI v 36 r ∧ (∀ x q, 37 ≤ x → x ≤ 39 → q < k → q < c → gI s.2 x (8 * r' + q) = gI v x (8 * r + q)) ∧ Fr (fun x k => (x = 36 ∧ k = r') ∨ (37 ≤ x ∧ x ≤ 39 ∧ 8 * r' ≤ k ∧ k < 8 * r' + 8)) v s.2) (fun y => ∃ v', y = some ((), v') ∧ gI v' 36 r' = gI v 36 r ∧ (∀ x k, 37 ≤ x → x ≤ 39 → k < 8 → k < c → gI v' x (8 * r' + k) = gI v x (8 * r + k)) ∧ Fr (fun x k => (x = 36 ∧ k = r') ∨ (37 ≤ x ∧ x ≤ 39 ∧ 8 * r' ≤ k ∧ k < 8 * r' + 8)) v v') 8 (0, sI v 36 r' (gI v 36 r)) (by omega) ⟨rfl, gs_eq ⟨rfl, rfl⟩, fun x q _ _ hq => absurd hq (by omega), Fr.sI (by omega)⟩ (fun n s hs => ?_) (fun n k s hk hs => Or.inr ?_)
  · obtain ⟨x, m⟩ := s
    obtain ⟨e, h0, h1, h2⟩ := hs
    dsimp only at e h0 h1 h2
    subst e
    refine ⟨m, ?_, h0, h1, h2⟩
    show Mo_laysSeen_14b _ _ _ _ _ = _
    simp (disch := omega) only [Mo_laysSeen_14b, zl_e, zs_e, li0, li1, li2, li3, li4, li5, li6, li7, li8, li9, li10, li11, li12, li13, li14, li15, li16, li17, li18, li19, li20, li21, li22, li23, li24, li25, li26, li27, li28, li29, li30, li31, li32, li37, li40, li41, li42, li43, li45, li47, li48, li57, li59, li60, li61, li63, li64, li75, li97, li98, li99, li100, li120, li122, li126, li200, li240, li255, li305, li306, li375, li400, li427, li428, li1000, li2000, li9999, neg_nI1, ↓reduceIte, nI_leI, nI_ltI, nI_eq, nI_add, nI_1, pk_mul, ix_nI, ib_nI, if_true, if_false, eq_self, true_and, and_true, not_false_eq_true, not_true_eq_false, Nat.reduceEqDiff, Nat.reduceLeDiff, Nat.reduceLT, Nat.reduceAdd, Nat.reduceMul, Nat.le_refl]
  · obtain ⟨x, m⟩ := s
    obtain ⟨e, h0, h1, h2⟩ := hs
    dsimp only at e h0 h1 h2
    subst e
    refine ⟨(nI (k + 1), sI (sI (sI m 37 (8 * r' + k) (gI m 37 (8 * r + k))) 38 (8 * r' + k) (gI m 38 (8 * r + k))) 39 (8 * r' + k) (vp_nar .boolean (gI m 39 (8 * r + k)))), ⟨rfl, ?_, fun x q c1 c2 hq hc => ?_, ((h2.tr (Fr.sI (by omega))).tr (Fr.sI (by omega))).tr (Fr.sI (by omega))⟩, ?_⟩
    · show gI (sI _ _ _ _) _ _ = _
      rw [gs_ne (by omega), gs_ne (by omega), gs_ne (by omega), h0]
    · show gI (sI _ _ _ _) _ _ = _
      by_cases h : q = k
      · subst h
        obtain rfl | rfl | rfl : x = 37 ∨ x = 38 ∨ x = 39 := by omega
        · rw [gs_ne (by omega), gs_ne (by omega), gs_eq ⟨rfl, rfl⟩, h2.i (by omega)]
        · rw [gs_ne (by omega), gs_eq ⟨rfl, rfl⟩, h2.i (by omega)]
        · rw [gs_eq ⟨rfl, rfl⟩, h2.i (by omega), hx q (by omega) hc]
      · rw [gs_ne (by omega), gs_ne (by omega), gs_ne (by omega), h1 x q c1 c2 (by omega) hc]
    · show Mo_laysSeen_14b _ _ _ _ _ = Mo_laysSeen_14 _ _ _ _ _
      simp (disch := omega) only [Mo_laysSeen_14b, gs_ne, zl_e, zs_e, li0, li1, li2, li3, li4, li5, li6, li7, li8, li9, li10, li11, li12, li13, li14, li15, li16, li17, li18, li19, li20, li21, li22, li23, li24, li25, li26, li27, li28, li29, li30, li31, li32, li37, li40, li41, li42, li43, li45, li47, li48, li57, li59, li60, li61, li63, li64, li75, li97, li98, li99, li100, li120, li122, li126, li200, li240, li255, li305, li306, li375, li400, li427, li428, li1000, li2000, li9999, neg_nI1, ↓reduceIte, nI_leI, nI_ltI, nI_eq, nI_add, nI_1, pk_mul, ix_nI, ib_nI, if_true, if_false, eq_self, true_and, and_true, not_false_eq_true, not_true_eq_false, Nat.reduceEqDiff, Nat.reduceLeDiff, Nat.reduceLT, Nat.reduceAdd, Nat.reduceMul, Nat.not_le.mpr hk]
theorem StAm {k : Nat} (h : k < 4) : layC (181 + 15 * k) = (12, 4) ∧ StA (182 + 15 * k) ∧ layC (188 + 15 * k) = (16, 4) ∧ layC (192 + 15 * k) = (15, 4) := by
  obtain rfl | rfl | rfl | rfl : k = 0 ∨ k = 1 ∨ k = 2 ∨ k = 3 := by omega
  all_goals exact ⟨rfl, ⟨rfl, rfl, rfl, rfl, rfl, rfl⟩, rfl, rfl⟩
theorem SenI.cnt {u v : zM} {b r : Nat} {N : Nat → Nat} (h : SenI u v b r N) : ∃ c, c ≤ 8 ∧ ix (gI u b 3) = c ∧ ix (gI v 36 r) = c ∧ (∀ k, k < 8 → k < c → vp_nar .boolean (gI u (b + 3) k) = gI u (b + 3) k) ∧ (∀ k, k < 8 → k < c → vp_nar .boolean (gI v 39 (8 * r + k)) = gI v 39 (8 * r + k)) := by
  obtain ⟨c, P, M, X, h8, hc, hm, hi⟩ := h
  refine ⟨c, h8, by rw [hc, ix_nI (by omega)], by rw [hm, ix_nI (by omega)], fun k _ hk => ?_, fun k _ hk => ?_⟩
  · obtain ⟨r1, r2, r3, r4, r5, r6, r7, r8⟩ := hi k hk
    rw [r5, nar_bI]
  · obtain ⟨r1, r2, r3, r4, r5, r6, r7, r8⟩ := hi k hk
    rw [r8, nar_bI]
theorem MrkI.one {u u' v v' : zM} {N : Nat → Nat} {K : Nat → Nat → Nat} {n n' k : Nat} (h : MrkI u v N K n) (hk : k < 4) (hn : n ≤ n') (h2 : ∀ c j, 181 + 15 * k ≤ c → c ≤ 195 + 15 * k → gI u' c j = gI u c j) (h3 : ∀ c j, (c = 45 ∧ j = k) ∨ (c = 32 ∧ j = 1 + k) ∨ (c = 36 ∧ j = 1 + k) ∨ (33 ≤ c ∧ c ≤ 35 ∧ 40 * (1 + k) ≤ j ∧ j < 40 * (1 + k) + 40) ∨ (37 ≤ c ∧ c ≤ 39 ∧ 8 * (1 + k) ≤ j ∧ j < 8 * (1 + k) + 8) ∨ (c = 43 ∧ 25 * k ≤ j ∧ j < 25 * k + 25) → gI v' c j = gI v c j) : ∃ b : Bool, gI u' (181 + 15 * k) 3 = bI b ∧ gI v' 45 k = bI b ∧ (b = true → ∃ S, Wf N K S ∧ S 0 ≤ n' ∧ StC u' (182 + 15 * k) N S ∧ StM v' 43 (25 * k) N S ∧ LinI u' v' (188 + 15 * k) (1 + k) N ∧ SenI u' v' (192 + 15 * k) (1 + k) N) := by
  obtain ⟨b, a1, a2, a3⟩ := h k hk
  refine ⟨b, (h2 _ _ (by omega) (by omega)).trans a1, (h3 _ _ (by omega)).trans a2, fun hb => ?_⟩
  obtain ⟨S, b1, b2, b3, b4, b5, b6⟩ := a3 hb
  exact ⟨S, b1, by omega, b3.fr b1.1 (fun i k hi _ _ => h2 _ _ (by omega) (by omega)), b4.fr b1.1 (fun k _ => h3 _ _ (by omega)), b5.fr (h2 _ _ (by omega) (by omega)) (fun j k _ _ _ => h2 _ _ (by omega) (by omega)) (h3 _ _ (by omega)) (fun c k _ _ _ => h3 _ _ (by omega)), b6.fr (h2 _ _ (by omega) (by omega)) (fun j k _ _ _ _ => h2 _ _ (by omega) (by omega)) (h3 _ _ (by omega)) (fun c k _ _ _ _ => h3 _ _ (by omega))⟩
theorem c_mark {n : Nat} {u v : zM} (h : Inv n u v) (hn : n < 600) (x : Int32) (b : Bool) : ∃ r u' v', OW_mark x (bI b) u = some (r, u') ∧ Mo_mark x (bI b) v = some (r, v') ∧ Inv (n + 1) u' v' := by
  obtain ⟨h6, t, l, N, K, E, S, h⟩ := h
  have h0 := h
  unfold Mo_mark OW_mark
  dsimp only [zlet]
  have h := h.th
  generalize sI v 1 0 0 = v at *
  have rt := h.2.2.1.1
  have lt := layT h.2.2.1.2.1
  have n0 : N 0 ≤ 7 := h.1.1.1
  have n3 : N 3 ≤ 3 := h.1.1.2.2.2.1
  have n4 : N 4 ≤ 6 := h.1.1.2.2.2.2.1
  have ht := h.2.2.1.2.1
  have hl := h.2.2.2.2.1.2.2.1
  have h1 := h
  obtain ⟨a1, a2, a3, a4, a5, a6, a7, a8, a9, b1, b2, b3⟩ := h
  have rl := a5.2.1
  have ll : layC l = (16, 4) := by rcases hl with h | h <;> subst h <;> rfl
  rcases arg_ix x (show 4 < 2 ^ 31 by omega) with ⟨k, hk, rfl⟩ | hx
  · have w1 : OW_within (nI k) 0 3 u = some (nI 1, u) := OW_within_ok (n := 0) (m := 3) (Nat.zero_le k) (by omega) (by omega)
    have w2 : Mo_within (nI k) 0 3 v = some (nI 1, v) := Mo_within_ok (n := 0) (m := 3) (Nat.zero_le k) (by omega) (by omega)
    rw [zb_eq w1, if_neg one_ne, zb_eq w2, if_neg one_ne, if_pos (ib_nI hk (by omega)), if_pos (ib_nI hk (by omega)), ix_nI (by omega)]
    have e5 : 83 + (98 + 15 * k) = 181 + 15 * k := by omega
    have e6 : 181 + 15 * k + 1 = 182 + 15 * k := by omega
    have e7 : 181 + 15 * k + 7 = 188 + 15 * k := by omega
    have e8 : 181 + 15 * k + 11 = 192 + 15 * k := by omega
    obtain ⟨m1, m2, m3, m4⟩ := StAm hk
    have n1 : vp_nar .boolean 1 = bI true := by decide
    have hk1 : (1 : Int32) + nI k = nI (1 + k) := nI_add 1 k
    have hk25 : (25 : Int32) * nI k = nI (25 * k) := pk_mul 25 k
    rw [e5, e6, e7, e8, rl]
    cases b
    · rw [if_pos (show bI false = (0 : Int32) from rfl), if_pos (show bI false = (0 : Int32) from rfl), if_pos ll]
      obtain ⟨c, c8, c1, c2, c3, c4⟩ := a7.cnt
      obtain ⟨u1, p1, p2, p3⟩ := St_copy_eq (u := u) (a := 54) (b := 182 + 15 * k) StA54 m2 (by omega)
      obtain ⟨u2, p4, p5, p6, p7⟩ := Ss_copy_eq (u := u1) (a := l) (b := 188 + 15 * k) ll m3 (by omega)
      obtain ⟨u3, p8, p9, q1, q2⟩ := Se_copy_eq (u := u2) (a := 66) (b := 192 + 15 * k) (c := c) rfl m4 (by omega) (fun j h1 h2 => by rw [p7.i (by omega), p3.i (by omega)]; exact c3 j h1 h2)
      have eC : Mk_lay (181 + 15 * k) 54 l 66 u = some ((), sI u3 (181 + 15 * k) 3 1) := by
        unfold Mk_lay
        rw [if_pos m1, if_pos StA54.1, if_pos ll, if_pos (show layC 66 = (15, 4) from rfl), e6, e7, e8, zb_eq p1, zb_eq p4, zb_eq p8]
        rfl
      obtain ⟨v2, q4, q5, q6, q7⟩ := Mo_laysLines_eq (v := sI v 45 k (bI true)) (r := 0) (r' := 1 + k) (by omega) (by omega) (by omega)
      obtain ⟨v3, q8, q9, s1, s2⟩ := Mo_laysSeen_eq (v := v2) (r := 0) (r' := 1 + k) (c := c) (by omega) (by omega) (by omega) (fun j h1 h2 => by rw [q7.i (by omega), gs_ne (by omega)]; exact c4 j h1 h2)
      obtain ⟨v4, s3, s4, s5⟩ := Mo_copies_eq (v := v3) (A := 40) (B := 43) (i := 0) (j := 25 * k) (la := 25) (lb := 100) rfl rfl (by omega) (by omega) (by omega) (by omega) (by omega)
      have eM : Mo_mark_29 (nI k) (bI false) v = some (1, v4) := by
        unfold Mo_mark_29 Mo_mark_47 Mo_mark_59
        dsimp only [zlet]
        have q4' : Mo_laysLines 0 (nI (1 + k)) (sI v 45 k (bI true)) = some ((), v2) := q4
        have q8' : Mo_laysSeen 0 (nI (1 + k)) v2 = some ((), v3) := q8
        have s3' : Mo_copies 40 0 43 (nI (25 * k)) v3 = some ((), v4) := s3
        rw [if_pos (ib_nI hk (by omega)), ix_nI (by omega), n1, if_pos (show bI false = (0 : Int32) from rfl), if_pos (show bI false = (0 : Int32) from rfl), hk1, zb_eq q4', zb_eq q8', if_pos (show bI false = (0 : Int32) from rfl), hk25, zb_eq s3']
      rw [zb_eq eC, eM]
      have FC : Fr (fun c j => 181 + 15 * k ≤ c ∧ c ≤ 195 + 15 * k) u (sI u3 (181 + 15 * k) 3 1) := (((p3.mono (fun c j h => by omega)).tr (p7.mono (fun c j h => by omega))).tr (q2.mono (fun c j h => by omega))).tr (Fr.sI (by omega))
      have FM : Fr (fun c j => (c = 45 ∧ j = k) ∨ (c = 32 ∧ j = 1 + k) ∨ (c = 36 ∧ j = 1 + k) ∨ (33 ≤ c ∧ c ≤ 35 ∧ 40 * (1 + k) ≤ j ∧ j < 40 * (1 + k) + 40) ∨ (37 ≤ c ∧ c ≤ 39 ∧ 8 * (1 + k) ≤ j ∧ j < 8 * (1 + k) + 8) ∨ (c = 43 ∧ 25 * k ≤ j ∧ j < 25 * k + 25)) v v4 := (((Fr.sI (by omega)).tr (q7.mono (fun c j h => by omega))).tr (s2.mono (fun c j h => by omega))).tr (s5.mono (fun c j h => by omega))
      refine ⟨1, _, v4, rfl, rfl, by omega, t, l, N, K, E, S, InvR.re h1 (FC.mono (fun c k h => by unfold reC; omega)) (FM.mono (fun c k h => by unfold reM; omega)) a1 (by omega) (a3.2.2.2.2.fr a1.1 (fun j k _ _ _ => FC.i (by omega))) (a4.2.2.fr a1.1 (fun k _ => FM.i (by omega))) (a6.fr (FC.i (by omega)) (fun j k _ _ _ => FC.i (by omega)) (FM.i (by omega)) (fun c k _ _ _ => FM.i (by omega))) (a7.fr (FC.i (by omega)) (fun j k _ _ _ _ => FC.i (by omega)) (FM.i (by omega)) (fun c k _ _ _ _ => FM.i (by omega))) (a8.fr (by omega) (fun k _ _ => FC.i (by omega)) (fun c k _ _ => FC.i (by omega)) (FM.i (by omega)) (fun k => FM.i (by omega))) ?_ (b1.fr (fun _ _ => rfl) (FC.i (by omega)) (fun c k _ _ => FC.i (by omega))) (b2.fr (FC.i (by omega)) (fun k => FC.i (by omega)) (FM.i (by omega)) (fun k => FM.i (by omega)))⟩
      intro k' hk'
      by_cases hkk : k' = k
      · subst hkk
        refine ⟨true, gs_eq ⟨rfl, rfl⟩, ?_, fun _ => ⟨S, a1, by omega, ?_, ?_, ?_, ?_⟩⟩
        · rw [s5.i (by omega), s2.i (by omega), q7.i (by omega), gs_eq ⟨rfl, rfl⟩]
        · exact a3.2.2.2.2.fr a1.1 (fun j i hj hi h5 => by rw [gs_ne (by omega), q2.i (by omega), p7.i (by omega), p2 j i hj hi h5])
        · exact a4.2.2.fr a1.1 (fun i hi => by rw [s4 i hi, s2.i (by omega), q7.i (by omega), gs_ne (by omega)])
        · refine a6.fr ?_ (fun j i j1 j2 hi => ?_) ?_ (fun c i c1 c2 hi => ?_)
          · rw [gs_ne (by omega), q2.i (by omega), p5, p3.i (by omega)]
          · rw [gs_ne (by omega), q2.i (by omega), p6 j i j1 j2 hi, p3.i (by omega)]
          · rw [s5.i (by omega), s2.i (by omega), q5, gs_ne (by omega)]
          · rw [s5.i (by omega), s2.i (by omega), q6 c i c1 c2 hi, gs_ne (by omega)]
        · refine a7.fr ?_ (fun j i j1 j2 hi hc => ?_) ?_ (fun c' i d1 d2 hi hc => ?_)
          · rw [gs_ne (by omega), p9, p7.i (by omega), p3.i (by omega)]
          · rw [c1] at hc
            rw [gs_ne (by omega), q1 j i j1 j2 hi hc, p7.i (by omega), p3.i (by omega)]
          · rw [s5.i (by omega), q9, q7.i (by omega), gs_ne (by omega)]
          · rw [c2] at hc
            rw [s5.i (by omega), s1 c' i d1 d2 hi hc, q7.i (by omega), gs_ne (by omega)]
      · exact a9.one hk' (by omega) (fun c j _ _ => FC.i (by omega)) (fun c j _ => FM.i (by omega))
    · obtain ⟨bb, r1, r2, r3⟩ := a9 k hk
      rw [if_neg bIt_ne, if_neg bIt_ne, r1, r2]
      cases bb
      · exact ⟨0, u, v, rfl, rfl, by omega, t, l, N, K, E, S, h1.up⟩
      · obtain ⟨S', t1, t2, t3, t4, t5, t6⟩ := r3 rfl
        rw [if_neg bIt_ne, if_neg bIt_ne]
        obtain ⟨c, c8, c1, c2, c3, c4⟩ := t6.cnt
        obtain ⟨u1, p1, p2, p3⟩ := St_copy_eq (u := u) (a := 182 + 15 * k) (b := 54) m2 StA54 (by omega)
        obtain ⟨u2, p4, p5, p6, p7⟩ := Ss_copy_eq (u := u1) (a := 188 + 15 * k) (b := l) m3 ll (by omega)
        obtain ⟨u3, p8, p9, q1, q2⟩ := Se_copy_eq (u := u2) (a := 192 + 15 * k) (b := 66) (c := c) m4 rfl (by omega) (fun j h1 h2 => by rw [p7.i (by omega), p3.i (by omega)]; exact c3 j h1 h2)
        have rl1 : gR u1 1 3 = l := (p3.r 1 3).trans rl
        have eF : OW_forgetPast u3 = some ((), sI (sI u3 1 12 (nI 0)) 1 13 (nI 0)) := rfl
        have eO : Ou_forget (sI (sI u3 1 12 (nI 0)) 1 13 (nI 0)) = some ((), sI (sI (sI u3 1 12 (nI 0)) 1 13 (nI 0)) 70 6 (nI 0)) := rfl
        rw [zb_eq p1, rl1, if_pos ll, zb_eq p4, zb_eq p8, zb_eq eF, zb_eq eO]
        obtain ⟨v2, q4, q5, q6, q7⟩ := Mo_laysLines_eq (v := sI v 45 k (bI true)) (r := 1 + k) (r' := 0) (by omega) (by omega) (by omega)
        obtain ⟨v3, q8, q9, s1, s2⟩ := Mo_laysSeen_eq (v := v2) (r := 1 + k) (r' := 0) (c := c) (by omega) (by omega) (by omega) (fun j h1 h2 => by rw [q7.i (by omega), gs_ne (by omega)]; exact c4 j h1 h2)
        obtain ⟨v4, s3, s4, s5⟩ := Mo_copies_eq (v := v3) (A := 43) (B := 40) (i := 25 * k) (j := 0) (la := 100) (lb := 25) rfl rfl (by omega) (by omega) (by omega) (by omega) (by omega)
        have eM : Mo_mark_29 (nI k) (bI true) v = some (1, sI v4 1 56 (nI 0)) := by
          unfold Mo_mark_29 Mo_mark_47 Mo_mark_59
          dsimp only [zlet]
          have q4' : Mo_laysLines (nI (1 + k)) 0 (sI v 45 k (bI true)) = some ((), v2) := q4
          have q8' : Mo_laysSeen (nI (1 + k)) 0 v2 = some ((), v3) := q8
          have s3' : Mo_copies 43 (nI (25 * k)) 40 0 v3 = some ((), v4) := s3
          rw [if_pos (ib_nI hk (by omega)), ix_nI (by omega), n1, if_neg bIt_ne, if_neg bIt_ne, hk1, zb_eq q4', zb_eq q8', if_neg bIt_ne, hk25, zb_eq s3']
          rfl
        rw [eM]
        have FC : Fr (fun c j => (l ≤ c ∧ c ≤ l + 3) ∨ (54 ≤ c ∧ c ≤ 59) ∨ (66 ≤ c ∧ c ≤ 69) ∨ (c = 70 ∧ j = 6) ∨ (c = 1 ∧ (j = 12 ∨ j = 13))) u (sI (sI (sI u3 1 12 (nI 0)) 1 13 (nI 0)) 70 6 (nI 0)) := (((((p3.mono (fun c j h => by omega)).tr (p7.mono (fun c j h => by omega))).tr (q2.mono (fun c j h => by omega))).tr (Fr.sI (by omega))).tr (Fr.sI (by omega))).tr (Fr.sI (by omega))
        have FM : Fr (fun c j => (c = 45 ∧ j = k) ∨ (c = 32 ∧ j = 0) ∨ (c = 36 ∧ j = 0) ∨ (33 ≤ c ∧ c ≤ 35 ∧ j < 40) ∨ (37 ≤ c ∧ c ≤ 39 ∧ j < 8) ∨ c = 40 ∨ (c = 1 ∧ j = 56)) v (sI v4 1 56 (nI 0)) := ((((Fr.sI (by omega)).tr (q7.mono (fun c j h => by omega))).tr (s2.mono (fun c j h => by omega))).tr (s5.mono (fun c j h => by omega))).tr (Fr.sI (by omega))
        refine ⟨1, _, _, rfl, rfl, by omega, t, l, N, K, E, S', InvR.re h1 (FC.mono (fun c k h => by unfold reC; omega)) (FM.mono (fun c k h => by unfold reM; omega)) t1 (by omega) ?_ ?_ ?_ ?_ ⟨0, 0, fun _ => S, by omega, by omega, rfl, rfl, rfl, fun j hj => absurd hj (by omega)⟩ ?_ (OutI.none rfl) (b2.fr (FC.i (by omega)) (fun k => FC.i (by omega)) (FM.i (by omega)) (fun k => FM.i (by omega)))⟩
        · exact t3.fr t1.1 (fun j i hj hi h5 => by rw [gs_ne (by omega), gs_ne (by omega), gs_ne (by omega), q2.i (by omega), p7.i (by omega), p2 j i hj hi h5])
        · exact t4.fr t1.1 (fun i hi => by rw [gs_ne (by omega), s4 i hi, s2.i (by omega), q7.i (by omega), gs_ne (by omega)])
        · refine t5.fr ?_ (fun j i j1 j2 hi => ?_) ?_ (fun c i d1 d2 hi => ?_)
          · rw [gs_ne (by omega), gs_ne (by omega), gs_ne (by omega), q2.i (by omega), p5, p3.i (by omega)]
          · rw [gs_ne (by omega), gs_ne (by omega), gs_ne (by omega), q2.i (by omega), p6 j i j1 j2 hi, p3.i (by omega)]
          · rw [gs_ne (by omega), s5.i (by omega), s2.i (by omega), q5, gs_ne (by omega)]
          · rw [gs_ne (by omega), s5.i (by omega), s2.i (by omega), q6 c i d1 d2 hi, gs_ne (by omega)]
        · refine t6.fr ?_ (fun j i j1 j2 hi hc => ?_) ?_ (fun c' i d1 d2 hi hc => ?_)
          · rw [gs_ne (by omega), gs_ne (by omega), gs_ne (by omega), p9, p7.i (by omega), p3.i (by omega)]
          · rw [c1] at hc
            rw [gs_ne (by omega), gs_ne (by omega), gs_ne (by omega), q1 j i j1 j2 hi hc, p7.i (by omega), p3.i (by omega)]
          · rw [gs_ne (by omega), s5.i (by omega), q9, q7.i (by omega), gs_ne (by omega)]
          · rw [c2] at hc
            rw [gs_ne (by omega), s5.i (by omega), s1 c' i d1 d2 hi hc, q7.i (by omega), gs_ne (by omega)]
        · intro k' hk'
          by_cases hkk : k' = k
          · subst hkk
            refine ⟨true, (FC.i (by omega)).trans r1, ?_, fun _ => ⟨S', t1, by omega, t3.fr t1.1 (fun i j hi _ _ => FC.i (by omega)), t4.fr t1.1 (fun j _ => FM.i (by omega)), t5.fr (FC.i (by omega)) (fun j i _ _ _ => FC.i (by omega)) (FM.i (by omega)) (fun c i _ _ _ => FM.i (by omega)), t6.fr (FC.i (by omega)) (fun j i _ _ _ _ => FC.i (by omega)) (FM.i (by omega)) (fun c i _ _ _ _ => FM.i (by omega))⟩⟩
            rw [gs_ne (by omega), s5.i (by omega), s2.i (by omega), q7.i (by omega), gs_eq ⟨rfl, rfl⟩]
          · exact a9.one hk' (by omega) (fun c j _ _ => FC.i (by omega)) (fun c j _ => FM.i (by omega))
  · have w1 : OW_within x 0 3 u = some (nI 0, u) := OW_within_no (m := 3) hx (by omega)
    have w2 : Mo_within x 0 3 v = some (nI 0, v) := Mo_within_no (m := 3) hx (by omega)
    rw [zb_eq w1, zb_eq w2]
    exact ⟨0, u, v, rfl, rfl, by omega, t, l, N, K, E, S, h1.up⟩
