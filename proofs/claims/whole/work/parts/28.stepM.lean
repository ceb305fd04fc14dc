/-! ===== a day of the reference ===== -/
theorem NowM.set {v : zM} {N S : Nat → Nat} {K : Nat → Nat → Nat} {E : Int32 → Int32 → Int32 → Int32 → Int32} (hN : WfN N) (h : NowM v N K E S) {i : Nat} (x : Nat) (hi : i < 19) : NowM (sI v 40 i (nI x)) N K E (upN S i x) := by
  have h1 := h.2.2.set hN x hi
  rw [Nat.zero_add] at h1
  exact h.st hN (fun c k _ _ => by rw [gI_sI, if_neg (by omega)]) h1
theorem NowM.setH {v : zM} {N S : Nat → Nat} {K : Nat → Nat → Nat} {E : Int32 → Int32 → Int32 → Int32 → Int32} (hN : WfN N) (h : NowM v N K E S) {w : Nat} (x : Nat) : NowM (sI v 40 (19 + w) (hv x)) N K E (upN S (19 + w) x) := by
  have h1 := h.2.2.setH hN (w := w) x
  rw [Nat.zero_add] at h1
  exact h.st hN (fun c k _ _ => by rw [gI_sI, if_neg (by omega)]) h1
def pasA (c _k : Nat) : Prop := (22 ≤ c ∧ c ≤ 31) ∨ c = 46 ∨ c = 40
theorem NowM.sc {v v' : zM} {N S : Nat → Nat} {K : Nat → Nat → Nat} {E : Int32 → Int32 → Int32 → Int32 → Int32} (hN : WfN N) (h : NowM v N K E S) (hF : Fr (fun c _ => 22 ≤ c ∧ c ≤ 31) v v') : NowM v' N K E S :=
  h.st hN (fun c k _ _ => hF.i (by omega)) (h.2.2.fr hN (fun k _ => hF.i (by omega)))
theorem Mo_passes_96_eq {v : zM} {N S : Nat → Nat} {K : Nat → Nat → Nat} {E : Int32 → Int32 → Int32 → Int32 → Int32} (hW : Wf N K S) (hz : NowM v N K E S) : ∃ v', Mo_passes_96 zF 0 v = some ((), v') ∧ NowM v' N K E (upN (rS S 3) 0 (S 0 + 1)) ∧ Fr pasA v v' := by
  refine lprz (fun n (s : Int32 × zM) => Mo_passes_96 n s.1 s.2) (fun k s => s.1 = nI k ∧ NowM s.2 N K E (rS S k) ∧ Fr pasA v s.2) (fun r => ∃ v', r = some ((), v') ∧ NowM v' N K E (upN (rS S 3) 0 (S 0 + 1)) ∧ Fr pasA v v') 3 (0, v) (by omega) ⟨rfl, by rw [rS_0]; exact hz, Fr.rf⟩ (fun n s hs => ?_) (fun n k s hk hs => Or.inr ?_)
  · obtain ⟨i, m⟩ := s
    obtain ⟨e, h1, h2⟩ := hs
    dsimp only at e h1 h2
    subst e
    have e0 : gI m 40 0 = nI (S 0) := h1.2.2.1
    refine ⟨sI m 40 0 (nI (S 0 + 1)), ?_, h1.set hW.1 _ (by omega), h2.tr (Fr.sI (by unfold pasA; omega))⟩
    show Mo_passes_96b _ _ _ = _
    simp (disch := omega) only [Mo_passes_96b, zl_e, zs_e, li0, li1, li2, li3, li4, li5, li6, li7, li8, li9, li10, li11, li12, li13, li14, li15, li16, li17, li18, li19, li20, li21, li22, li23, li24, li25, li26, li27, li28, li29, li30, li31, li32, li37, li40, li41, li42, li43, li45, li47, li48, li57, li59, li60, li61, li63, li64, li75, li97, li98, li99, li100, li120, li122, li126, li200, li240, li255, li305, li306, li375, li400, li427, li428, li1000, li2000, li9999, neg_nI1, ↓reduceIte, nI_leI, nI_ltI, nI_eq, nI_add, nI_1, pk_mul, ix_nI, ib_nI, if_true, if_false, eq_self, true_and, and_true, not_false_eq_true, not_true_eq_false, Nat.reduceEqDiff, Nat.reduceLeDiff, Nat.reduceLT, Nat.reduceAdd, Nat.reduceMul, Nat.le_refl, e0]
  · obtain ⟨i, m⟩ := s
    obtain ⟨e, h1, h2⟩ := hs
    dsimp only at e h1 h2
    subst e
    refine ⟨(nI (k + 1), sI m 40 (16 + k) (nI 0)), ⟨rfl, ?_, h2.tr (Fr.sI (by unfold pasA; omega))⟩, ?_⟩
    · rw [rS_s]
      exact h1.set hW.1 0 (by omega)
    · show Mo_passes_96b _ _ _ = Mo_passes_96 _ _ _
      simp (disch := omega) only [Mo_passes_96b, zl_e, zs_e, li0, li1, li2, li3, li4, li5, li6, li7, li8, li9, li10, li11, li12, li13, li14, li15, li16, li17, li18, li19, li20, li21, li22, li23, li24, li25, li26, li27, li28, li29, li30, li31, li32, li37, li40, li41, li42, li43, li45, li47, li48, li57, li59, li60, li61, li63, li64, li75, li97, li98, li99, li100, li120, li122, li126, li200, li240, li255, li305, li306, li375, li400, li427, li428, li1000, li2000, li9999, neg_nI1, ↓reduceIte, nI_leI, nI_ltI, nI_eq, nI_add, nI_1, pk_mul, ix_nI, ib_nI, if_true, if_false, eq_self, true_and, and_true, not_false_eq_true, not_true_eq_false, Nat.reduceEqDiff, Nat.reduceLeDiff, Nat.reduceLT, Nat.reduceAdd, Nat.reduceMul, Nat.not_le.mpr hk]
theorem Mo_passes_64_eq {v : zM} {N S : Nat → Nat} {K : Nat → Nat → Nat} {E : Int32 → Int32 → Int32 → Int32 → Int32} (hW : Wf N K S) (hz : NowM v N K E S) : ∃ v', Mo_passes_64 zF 0 v = some ((), v') ∧ NowM v' N K E (upN (rS (gS N K S (N 2)) 3) 0 (S 0 + 1)) ∧ Fr pasA v v' := by
  have hn2 : N 2 ≤ 5 := hW.1.2.2.1
  refine lprz (fun n (s : Int32 × zM) => Mo_passes_64 n s.1 s.2) (fun k s => s.1 = nI k ∧ NowM s.2 N K E (gS N K S k) ∧ Fr pasA v s.2) (fun r => ∃ v', r = some ((), v') ∧ NowM v' N K E (upN (rS (gS N K S (N 2)) 3) 0 (S 0 + 1)) ∧ Fr pasA v v') (N 2) (0, v) (by omega) ⟨rfl, by rw [gS_0]; exact hz, Fr.rf⟩ (fun n s hs => ?_) (fun n k s hk hs => Or.inr ?_)
  · obtain ⟨i, m⟩ := s
    obtain ⟨e, h1, h2⟩ := hs
    dsimp only at e h1 h2
    subst e
    obtain ⟨m', e1, h3, h4⟩ := Mo_passes_96_eq (gS_wf hW _ (Nat.le_refl _)) h1
    refine ⟨m', ?_, h3, h2.tr h4⟩
    have e2 : Mo_passes_96 zF (nI 0) m = some ((), m') := e1
    have m0 := h1.1.1
    show Mo_passes_64b _ _ _ = _
    simp (disch := omega) only [Mo_passes_64b, zl_e, zs_e, li0, li1, li2, li3, li4, li5, li6, li7, li8, li9, li10, li11, li12, li13, li14, li15, li16, li17, li18, li19, li20, li21, li22, li23, li24, li25, li26, li27, li28, li29, li30, li31, li32, li37, li40, li41, li42, li43, li45, li47, li48, li57, li59, li60, li61, li63, li64, li75, li97, li98, li99, li100, li120, li122, li126, li200, li240, li255, li305, li306, li375, li400, li427, li428, li1000, li2000, li9999, neg_nI1, ↓reduceIte, nI_leI, nI_ltI, nI_eq, nI_add, nI_1, pk_mul, ix_nI, ib_nI, if_true, if_false, eq_self, true_and, and_true, not_false_eq_true, not_true_eq_false, Nat.reduceEqDiff, Nat.reduceLeDiff, Nat.reduceLT, Nat.reduceAdd, Nat.reduceMul, Nat.le_refl, m0, e2]
  · obtain ⟨i, m⟩ := s
    obtain ⟨e, h1, h2⟩ := hs
    dsimp only at e h1 h2
    subst e
    have e1 := Mo_goesTo_eq (gS_wf hW k (by omega)) h1 hk
    rw [goS_gS hW hk] at e1
    refine ⟨(nI (k + 1), sI m 40 (8 + k) (nI (goS N K S k))), ⟨rfl, ?_, h2.tr (Fr.sI (by unfold pasA; omega))⟩, ?_⟩
    · rw [gS_s]
      exact h1.set hW.1 _ (by omega)
    · have m0 := h1.1.1
      show Mo_passes_64b _ _ _ = Mo_passes_64 _ _ _
      simp (disch := omega) only [Mo_passes_64b, zl_e, zs_e, li0, li1, li2, li3, li4, li5, li6, li7, li8, li9, li10, li11, li12, li13, li14, li15, li16, li17, li18, li19, li20, li21, li22, li23, li24, li25, li26, li27, li28, li29, li30, li31, li32, li37, li40, li41, li42, li43, li45, li47, li48, li57, li59, li60, li61, li63, li64, li75, li97, li98, li99, li100, li120, li122, li126, li200, li240, li255, li305, li306, li375, li400, li427, li428, li1000, li2000, li9999, neg_nI1, ↓reduceIte, nI_leI, nI_ltI, nI_eq, nI_add, nI_1, pk_mul, ix_nI, ib_nI, if_true, if_false, eq_self, true_and, and_true, not_false_eq_true, not_true_eq_false, Nat.reduceEqDiff, Nat.reduceLeDiff, Nat.reduceLT, Nat.reduceAdd, Nat.reduceMul, Nat.not_le.mpr hk, m0, e1]
theorem Mo_passes_32_eq {v : zM} {N S : Nat → Nat} {K : Nat → Nat → Nat} {E : Int32 → Int32 → Int32 → Int32 → Int32} (hW : Wf N K S) (hz : NowM v N K E S) (f : Nat) (hr : ∀ p, p < N 0 → gI v 46 p = nI (wbS E K p (S (1 + p)) f (S 0))) : ∃ v', Mo_passes_32 zF 0 v = some ((), v') ∧ NowM v' N K E (nextS E N K f S) ∧ Fr pasA v v' := by
  have hn0 : N 0 ≤ 7 := hW.1.1
  refine lprz (fun n (s : Int32 × zM) => Mo_passes_32 n s.1 s.2) (fun k s => s.1 = nI k ∧ NowM s.2 N K E (wS E K f S k) ∧ (∀ p, p < N 0 → gI s.2 46 p = nI (wbS E K p (S (1 + p)) f (S 0))) ∧ Fr pasA v s.2) (fun r => ∃ v', r = some ((), v') ∧ NowM v' N K E (nextS E N K f S) ∧ Fr pasA v v') (N 0) (0, v) (by omega) ⟨rfl, by rw [wS_0]; exact hz, hr, Fr.rf⟩ (fun n s hs => ?_) (fun n k s hk hs => Or.inr ?_)
  · obtain ⟨i, m⟩ := s
    obtain ⟨e, h1, h5, h2⟩ := hs
    dsimp only at e h1 h2
    subst e
    obtain ⟨m', e1, h3, h4⟩ := Mo_passes_64_eq (wS_wf hW f _ (Nat.le_refl _)) h1
    refine ⟨m', ?_, h3, h2.tr h4⟩
    have e2 : Mo_passes_64 zF (nI 0) m = some ((), m') := e1
    have m0 := h1.1.1
    show Mo_passes_32b _ _ _ = _
    simp (disch := omega) only [Mo_passes_32b, zl_e, zs_e, li0, li1, li2, li3, li4, li5, li6, li7, li8, li9, li10, li11, li12, li13, li14, li15, li16, li17, li18, li19, li20, li21, li22, li23, li24, li25, li26, li27, li28, li29, li30, li31, li32, li37, li40, li41, li42, li43, li45, li47, li48, li57, li59, li60, li61, li63, li64, li75, li97, li98, li99, li100, li120, li122, li126, li200, li240, li255, li305, li306, li375, li400, li427, li428, li1000, li2000, li9999, neg_nI1, ↓reduceIte, nI_leI, nI_ltI, nI_eq, nI_add, nI_1, pk_mul, ix_nI, ib_nI, if_true, if_false, eq_self, true_and, and_true, not_false_eq_true, not_true_eq_false, Nat.reduceEqDiff, Nat.reduceLeDiff, Nat.reduceLT, Nat.reduceAdd, Nat.reduceMul, Nat.le_refl, m0, e2]
  · obtain ⟨i, m⟩ := s
    obtain ⟨e, h1, h5, h2⟩ := hs
    dsimp only at e h1 h2 h5
    subst e
    refine ⟨(nI (k + 1), sI m 40 (1 + k) (nI (wbS E K k (S (1 + k)) f (S 0)))), ⟨rfl, ?_, fun p hp => ?_, h2.tr (Fr.sI (by unfold pasA; omega))⟩, ?_⟩
    · rw [wS_s]
      exact h1.set hW.1 _ (by omega)
    · show gI (sI _ _ _ _) _ _ = _
      rw [gI_sI, if_neg (by omega), h5 p hp]
    · have m0 := h1.1.1
      show Mo_passes_32b _ _ _ = Mo_passes_32 _ _ _
      simp (disch := omega) only [Mo_passes_32b, zl_e, zs_e, li0, li1, li2, li3, li4, li5, li6, li7, li8, li9, li10, li11, li12, li13, li14, li15, li16, li17, li18, li19, li20, li21, li22, li23, li24, li25, li26, li27, li28, li29, li30, li31, li32, li37, li40, li41, li42, li43, li45, li47, li48, li57, li59, li60, li61, li63, li64, li75, li97, li98, li99, li100, li120, li122, li126, li200, li240, li255, li305, li306, li375, li400, li427, li428, li1000, li2000, li9999, neg_nI1, ↓reduceIte, nI_leI, nI_ltI, nI_eq, nI_add, nI_1, pk_mul, ix_nI, ib_nI, if_true, if_false, eq_self, true_and, and_true, not_false_eq_true, not_true_eq_false, Nat.reduceEqDiff, Nat.reduceLeDiff, Nat.reduceLT, Nat.reduceAdd, Nat.reduceMul, Nat.not_le.mpr hk, m0, h5]
theorem Mo_passes_eq {v : zM} {N S : Nat → Nat} {K : Nat → Nat → Nat} {E : Int32 → Int32 → Int32 → Int32 → Int32} (hW : Wf N K S) (hz : NowM v N K E S) (f : Nat) : ∃ v', Mo_passes (nI f) v = some ((), v') ∧ NowM v' N K E (nextS E N K f S) ∧ Fr pasA v v' := by
  have hn0 : N 0 ≤ 7 := hW.1.1
  unfold Mo_passes
  refine lprz (fun n (s : Int32 × zM) => Mo_passes_2 n (nI f) s.1 s.2) (fun k s => s.1 = nI k ∧ NowM s.2 N K E S ∧ (∀ p, p < k → gI s.2 46 p = nI (wbS E K p (S (1 + p)) f (S 0))) ∧ Fr pasA v s.2) (fun r => ∃ v', r = some ((), v') ∧ NowM v' N K E (nextS E N K f S) ∧ Fr pasA v v') (N 0) (0, v) (by omega) ⟨rfl, hz, fun p hp => absurd hp (by omega), Fr.rf⟩ (fun n s hs => ?_) (fun n k s hk hs => Or.inr ?_)
  · obtain ⟨i, m⟩ := s
    obtain ⟨e, h1, h5, h2⟩ := hs
    dsimp only at e h1 h2
    subst e
    obtain ⟨m', e1, h3, h4⟩ := Mo_passes_32_eq hW h1 f h5
    refine ⟨m', ?_, h3, h2.tr h4⟩
    have e2 : Mo_passes_32 zF (nI 0) m = some ((), m') := e1
    have m0 := h1.1.1
    show Mo_passes_2b _ _ _ _ = _
    simp (disch := omega) only [Mo_passes_2b, zl_e, zs_e, li0, li1, li2, li3, li4, li5, li6, li7, li8, li9, li10, li11, li12, li13, li14, li15, li16, li17, li18, li19, li20, li21, li22, li23, li24, li25, li26, li27, li28, li29, li30, li31, li32, li37, li40, li41, li42, li43, li45, li47, li48, li57, li59, li60, li61, li63, li64, li75, li97, li98, li99, li100, li120, li122, li126, li200, li240, li255, li305, li306, li375, li400, li427, li428, li1000, li2000, li9999, neg_nI1, ↓reduceIte, nI_leI, nI_ltI, nI_eq, nI_add, nI_1, pk_mul, ix_nI, ib_nI, if_true, if_false, eq_self, true_and, and_true, not_false_eq_true, not_true_eq_false, Nat.reduceEqDiff, Nat.reduceLeDiff, Nat.reduceLT, Nat.reduceAdd, Nat.reduceMul, Nat.le_refl, m0, e2]
  · obtain ⟨i, m⟩ := s
    obtain ⟨e, h1, h5, h2⟩ := hs
    dsimp only at e h1 h2 h5
    subst e
    obtain ⟨m', e1, hF⟩ := Mo_wetBy_eq hW h1 (f := f) hk
    have hF' : Fr pasA m m' := hF.mono (fun c _ h => Or.inl h)
    refine ⟨(nI (k + 1), sI m' 46 k (nI (wbS E K k (S (1 + k)) f (S 0)))), ⟨rfl, ?_, fun p hp => ?_, (h2.tr hF').tr (Fr.sI (by unfold pasA; omega))⟩, ?_⟩
    · exact (h1.sc hW.1 hF).st hW.1 (fun c j _ _ => by rw [gI_sI, if_neg (by omega)]) ((h1.sc hW.1 hF).2.2.fr hW.1 (fun j _ => by rw [gI_sI, if_neg (by omega)]))
    · show gI (sI _ _ _ _) _ _ = _
      rw [gI_sI]
      by_cases h : p = k
      · subst h
        rw [if_pos ⟨rfl, rfl⟩]
      · rw [if_neg (by omega), hF.i (by omega), h5 p (by omega)]
    · have m0 := h1.1.1
      show Mo_passes_2b _ _ _ _ = Mo_passes_2 _ _ _ _
      simp (disch := omega) only [Mo_passes_2b, zl_e, zs_e, li0, li1, li2, li3, li4, li5, li6, li7, li8, li9, li10, li11, li12, li13, li14, li15, li16, li17, li18, li19, li20, li21, li22, li23, li24, li25, li26, li27, li28, li29, li30, li31, li32, li37, li40, li41, li42, li43, li45, li47, li48, li57, li59, li60, li61, li63, li64, li75, li97, li98, li99, li100, li120, li122, li126, li200, li240, li255, li305, li306, li375, li400, li427, li428, li1000, li2000, li9999, neg_nI1, ↓reduceIte, nI_leI, nI_ltI, nI_eq, nI_add, nI_1, pk_mul, ix_nI, ib_nI, if_true, if_false, eq_self, true_and, and_true, not_false_eq_true, not_true_eq_false, Nat.reduceEqDiff, Nat.reduceLeDiff, Nat.reduceLT, Nat.reduceAdd, Nat.reduceMul, Nat.not_le.mpr hk, m0, e1]
theorem Mo_passesAsTold_eq {v : zM} {N S : Nat → Nat} {K : Nat → Nat → Nat} {E : Int32 → Int32 → Int32 → Int32 → Int32} (hW : Wf N K S) (hz : NowM v N K E S) : ∃ v', Mo_passesAsTold v = some ((), v') ∧ NowM v' N K E (nextS E N K (rainS N K (S 0)) S) ∧ Fr pasA v v' := by
  have hz0 : S 0 < 2 ^ 20 := hW.2.2.1
  obtain ⟨v', e, h1, h2⟩ := Mo_passes_eq hW hz (rainS N K (S 0))
  refine ⟨v', ?_, h1, h2⟩
  unfold Mo_passesAsTold
  have e0 : gI v 40 0 = nI (S 0) := hz.2.2.1
  rw [e0, zb_eq (Mo_rainOf_eq hW hz (by omega)), zb_eq e]
/-! ===== copies ===== -/
theorem Mo_copies_eq {v : zM} {A B i j la lb : Nat} (hA : layM A = (1, la)) (hB : layM B = (1, lb)) (hi : i + 25 ≤ la) (hj : j + 25 ≤ lb) (hla : la < 2 ^ 20) (hlb : lb < 2 ^ 20) (hAB : A ≠ B) : ∃ v', Mo_copies A (nI i) B (nI j) v = some ((), v') ∧ (∀ k, k < 25 → gI v' B (j + k) = gI v A (i + k)) ∧ Fr (fun c k => c = B ∧ j ≤ k ∧ k < j + 25) v v' := by
  unfold Mo_copies
  rw [hA, hB, if_pos rfl, if_pos rfl]
  refine lprz (fun n (s : Int32 × zM) => Mo_copies_3 n A (nI i) B (nI j) s.1 s.2) (fun k s => s.1 = nI k ∧ (∀ q, q < k → gI s.2 B (j + q) = gI v A (i + q)) ∧ Fr (fun c k => c = B ∧ j ≤ k ∧ k < j + 25) v s.2) (fun r => ∃ v', r = some ((), v') ∧ (∀ k, k < 25 → gI v' B (j + k) = gI v A (i + k)) ∧ Fr (fun c k => c = B ∧ j ≤ k ∧ k < j + 25) v v') 25 (0, v) (by omega) ⟨rfl, fun q hq => absurd hq (by omega), Fr.rf⟩ (fun n s hs => ?_) (fun n k s hk hs => Or.inr ?_)
  · obtain ⟨x, m⟩ := s
    obtain ⟨e, h1, h2⟩ := hs
    dsimp only at e h1 h2
    subst e
    refine ⟨m, ?_, h1, h2⟩
    show Mo_copies_3b _ _ _ _ _ _ _ = _
    simp (disch := omega) only [Mo_copies_3b, hA, hB, zl_e, zs_e, li0, li1, li2, li3, li4, li5, li6, li7, li8, li9, li10, li11, li12, li13, li14, li15, li16, li17, li18, li19, li20, li21, li22, li23, li24, li25, li26, li27, li28, li29, li30, li31, li32, li37, li40, li41, li42, li43, li45, li47, li48, li57, li59, li60, li61, li63, li64, li75, li97, li98, li99, li100, li120, li122, li126, li200, li240, li255, li305, li306, li375, li400, li427, li428, li1000, li2000, li9999, neg_nI1, ↓reduceIte, nI_leI, nI_ltI, nI_eq, nI_add, nI_1, pk_mul, ix_nI, ib_nI, if_true, if_false, eq_self, true_and, and_true, not_false_eq_true, not_true_eq_false, Nat.reduceEqDiff, Nat.reduceLeDiff, Nat.reduceLT, Nat.reduceAdd, Nat.reduceMul, Nat.le_refl]
  · obtain ⟨x, m⟩ := s
    obtain ⟨e, h1, h2⟩ := hs
    dsimp only at e h1 h2
    subst e
    refine ⟨(nI (k + 1), sI m B (j + k) (gI m A (i + k))), ⟨rfl, fun q hq => ?_, h2.tr (Fr.sI (by omega))⟩, ?_⟩
    · show gI (sI _ _ _ _) _ _ = _
      rw [gI_sI]
      by_cases h : q = k
      · subst h
        rw [if_pos ⟨rfl, rfl⟩, h2.i (fun h => hAB h.1)]
      · rw [if_neg (by omega), h1 q (by omega)]
    · show Mo_copies_3b _ _ _ _ _ _ _ = Mo_copies_3 _ _ _ _ _ _ _
      simp (disch := omega) only [Mo_copies_3b, hA, hB, zl_e, zs_e, li0, li1, li2, li3, li4, li5, li6, li7, li8, li9, li10, li11, li12, li13, li14, li15, li16, li17, li18, li19, li20, li21, li22, li23, li24, li25, li26, li27, li28, li29, li30, li31, li32, li37, li40, li41, li42, li43, li45, li47, li48, li57, li59, li60, li61, li63, li64, li75, li97, li98, li99, li100, li120, li122, li126, li200, li240, li255, li305, li306, li375, li400, li427, li428, li1000, li2000, li9999, neg_nI1, ↓reduceIte, nI_leI, nI_ltI, nI_eq, nI_add, nI_1, pk_mul, ix_nI, ib_nI, if_true, if_false, eq_self, true_and, and_true, not_false_eq_true, not_true_eq_false, Nat.reduceEqDiff, Nat.reduceLeDiff, Nat.reduceLT, Nat.reduceAdd, Nat.reduceMul, Nat.not_le.mpr hk]
theorem St_copy_eq {u : zM} {a b : Nat} (hA : StA a) (hB : StA b) (hab : a + 5 < b ∨ b + 5 < a) : ∃ u', St_copy b a u = some ((), u') ∧ (∀ j k, j < 6 → k < stn j → (j = 0 → k = 5) → gI u' (b + j) k = gI u (a + j) k) ∧ Fr (fun c k => b ≤ c ∧ c ≤ b + 5 ∧ k < 7) u u' := by
  unfold St_copy
  rw [if_pos hB.1, if_pos hA.1]
  refine ⟨_, rfl, fun j k hj hk h5 => ?_, ?_⟩
  · obtain rfl | rfl | rfl | rfl | rfl | rfl : j = 0 ∨ j = 1 ∨ j = 2 ∨ j = 3 ∨ j = 4 ∨ j = 5 := by omega
    · have := h5 rfl
      subst this
      simp (disch := omega) only [zlet, gs_eq, gs_ne, gc_ne, gc_in]
      rfl
    · have hk : k < 7 := hk
      simp (disch := omega) only [zlet, gs_ne, gc_ne, gc_in, Nat.zero_add, Nat.sub_zero]
    · have hk : k < 5 := hk
      simp (disch := omega) only [zlet, gs_ne, gc_ne, gc_in, Nat.zero_add, Nat.sub_zero]
    · have hk : k < 3 := hk
      simp (disch := omega) only [zlet, gs_ne, gc_ne, gc_in, Nat.zero_add, Nat.sub_zero]
    · have hk : k < 3 := hk
      simp (disch := omega) only [zlet, gs_ne, gc_ne, gc_in, Nat.zero_add, Nat.sub_zero]
    · have hk : k < 6 := hk
      simp (disch := omega) only [zlet, gs_ne, gc_ne, gc_in, Nat.zero_add, Nat.sub_zero]
  · refine (((((Fr.sC ?_).tr (Fr.sC ?_)).tr (Fr.sC ?_)).tr (Fr.sC ?_)).tr (Fr.sC ?_)).tr (Fr.sI ?_) <;> intros <;> omega
