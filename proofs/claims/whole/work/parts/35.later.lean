/-! ===== later, where, dry, wet, flood ===== -/
def GoM (v m : zM) (N : Nat → Nat) (K : Nat → Nat → Nat) (E : Int32 → Int32 → Int32 → Int32 → Int32) (S : Nat → Nat) (d : Nat) : Prop := NowM m N K E (itS E N K S d) ∧ (∀ k, k < 25 → gI m 42 k = gI v 40 k) ∧ Fr goA v m
theorem go_start {v : zM} {N S : Nat → Nat} {K : Nat → Nat → Nat} {E : Int32 → Int32 → Int32 → Int32 → Int32} (hW : Wf N K S) (hz : NowM v N K E S) : ∃ m, Mo_copies 40 0 42 0 v = some ((), m) ∧ GoM v m N K E S 0 := by
  obtain ⟨m, e, h1, h2⟩ := Mo_copies_eq (v := v) (A := 40) (B := 42) (i := 0) (j := 0) (la := 25) (lb := 25) rfl rfl (by omega) (by omega) (by omega) (by omega) (by omega)
  refine ⟨m, e, hz.st hW.1 (fun c k _ _ => h2.i (by omega)) (hz.2.2.fr hW.1 (fun k _ => h2.i (by omega))), fun k hk => ?_, h2.mono (fun c k h => by unfold goA; omega)⟩
  have := h1 k hk
  rwa [Nat.zero_add] at this
theorem go_step {v m : zM} {N S : Nat → Nat} {K : Nat → Nat → Nat} {E : Int32 → Int32 → Int32 → Int32 → Int32} {d : Nat} (hW : Wf N K S) (hS : S 0 + d < 2 ^ 20) (h : GoM v m N K E S d) : ∃ m', Mo_passesAsTold m = some ((), m') ∧ GoM v m' N K E S (d + 1) := by
  obtain ⟨m', e, h1, h2⟩ := Mo_passesAsTold_eq (itS_wf hW d hS) h.1
  exact ⟨m', e, h1, fun k hk => (h2.i (by unfold pasA; omega)).trans (h.2.1 k hk), h.2.2.tr (h2.mono (fun c k h => by unfold pasA at h; unfold goA; omega))⟩
theorem go_back {v m : zM} {N S : Nat → Nat} {K : Nat → Nat → Nat} {E : Int32 → Int32 → Int32 → Int32 → Int32} {d : Nat} (h : GoM v m N K E S d) : ∃ v', Mo_copies 42 0 40 0 m = some ((), v') ∧ (∀ k, k < 25 → gI v' 40 k = gI v 40 k) ∧ Fr goA v v' := by
  obtain ⟨m', e, h1, h2⟩ := Mo_copies_eq (v := m) (A := 42) (B := 40) (i := 0) (j := 0) (la := 25) (lb := 25) rfl rfl (by omega) (by omega) (by omega) (by omega) (by omega)
  refine ⟨m', e, fun k hk => ?_, h.2.2.tr (h2.mono (fun c k h => by unfold goA; omega))⟩
  have := h1 k hk
  rw [Nat.zero_add] at this
  rw [this]
  exact h.2.1 k hk
theorem Mo_later_40_eq {v m : zM} {N S : Nat → Nat} {K : Nat → Nat → Nat} {E : Int32 → Int32 → Int32 → Int32 → Int32} (hW : Wf N K S) (hS : S 0 ≤ 600) (h : GoM v m N K E S 0) {p D : Nat} (hp : p < N 0) (hD : D ≤ 60) : ∃ v', Mo_later_40 zF (nI p) (nI D) 0 m = some (nI (itS E N K S D (1 + p)), v') ∧ (∀ k, k < 25 → gI v' 40 k = gI v 40 k) ∧ Fr goA v v' := by
  have nn : N 0 ≤ 7 := hW.1.1
  refine lprz (fun n (s : Int32 × zM) => Mo_later_40 n (nI p) (nI D) s.1 s.2) (fun k s => s.1 = nI k ∧ GoM v s.2 N K E S k) (fun r => ∃ v', r = some (nI (itS E N K S D (1 + p)), v') ∧ (∀ k, k < 25 → gI v' 40 k = gI v 40 k) ∧ Fr goA v v') D (0, m) (by omega) ⟨rfl, h⟩ (fun n s hs => ?_) (fun n k s hk hs => Or.inr ?_)
  · obtain ⟨x, m⟩ := s
    obtain ⟨e, h1⟩ := hs
    dsimp only at e h1
    subst e
    obtain ⟨v', e1, g1, g2⟩ := go_back h1
    refine ⟨v', ?_, g1, g2⟩
    have e2 := h1.1.2.2.2.1 p hp
    rw [Nat.zero_add] at e2
    have e3 : Mo_copies 42 (nI 0) 40 (nI 0) m = some ((), v') := e1
    show Mo_later_40b _ _ _ _ _ = _
    simp (disch := omega) only [Mo_later_40b, e2, e3, zl_e, zs_e, li0, li1, li2, li3, li4, li5, li6, li7, li8, li9, li10, li11, li12, li13, li14, li15, li16, li17, li18, li19, li20, li21, li22, li23, li24, li25, li26, li27, li28, li29, li30, li31, li32, li37, li40, li41, li42, li43, li45, li47, li48, li57, li59, li60, li61, li63, li64, li75, li97, li98, li99, li100, li120, li122, li126, li200, li240, li255, li305, li306, li375, li400, li427, li428, li1000, li2000, li9999, neg_nI1, ↓reduceIte, nI_leI, nI_ltI, nI_eq, nI_add, nI_1, pk_mul, ix_nI, ib_nI, if_true, if_false, eq_self, true_and, and_true, not_false_eq_true, not_true_eq_false, Nat.reduceEqDiff, Nat.reduceLeDiff, Nat.reduceLT, Nat.reduceAdd, Nat.reduceMul, Nat.le_refl]
  · obtain ⟨x, m⟩ := s
    obtain ⟨e, h1⟩ := hs
    dsimp only at e h1
    subst e
    obtain ⟨m', e1, g1⟩ := go_step hW (show S 0 + k < 2 ^ 20 by omega) h1
    refine ⟨(nI (k + 1), m'), ⟨rfl, g1⟩, ?_⟩
    show Mo_later_40b _ _ _ _ _ = Mo_later_40 _ _ _ _ _
    simp (disch := omega) only [Mo_later_40b, e1, zl_e, zs_e, li0, li1, li2, li3, li4, li5, li6, li7, li8, li9, li10, li11, li12, li13, li14, li15, li16, li17, li18, li19, li20, li21, li22, li23, li24, li25, li26, li27, li28, li29, li30, li31, li32, li37, li40, li41, li42, li43, li45, li47, li48, li57, li59, li60, li61, li63, li64, li75, li97, li98, li99, li100, li120, li122, li126, li200, li240, li255, li305, li306, li375, li400, li427, li428, li1000, li2000, li9999, neg_nI1, ↓reduceIte, nI_leI, nI_ltI, nI_eq, nI_add, nI_1, pk_mul, ix_nI, ib_nI, if_true, if_false, eq_self, true_and, and_true, not_false_eq_true, not_true_eq_false, Nat.reduceEqDiff, Nat.reduceLeDiff, Nat.reduceLT, Nat.reduceAdd, Nat.reduceMul, Nat.not_le.mpr hk]
theorem c_later {n : Nat} {u v : zM} (h : Inv n u v) (hn : n < 600) (x y : Int32) : ∃ r u' v', OW_later x y u = some (r, u') ∧ Mo_later x y v = some (r, v') ∧ Inv (n + 1) u' v' := by
  obtain ⟨h6, t, l, N, K, E, S, h⟩ := h
  have h0 := h
  unfold Mo_later OW_later
  dsimp only [zlet]
  have h := h.th
  generalize sI v 1 0 0 = v at *
  have rt := h.2.2.1.1
  have lt := layT h.2.2.1.2.1
  have n0 : N 0 ≤ 7 := h.1.1.1
  have n3 : N 3 ≤ 3 := h.1.1.2.2.2.1
  have n4 : N 4 ≤ 6 := h.1.1.2.2.2.2.1
  have n2 : N 2 ≤ 5 := h.1.1.2.2.1
  rcases arg_ix x (show N 0 < 2 ^ 31 by omega) with ⟨p, hp, rfl⟩ | hx
  · rw [zb_eq (OW_isPlace_ok h.1 h.2.2.1 hp), if_neg one_ne, zb_eq (Mo_isPlace_ok h.1 h.2.2.2.1 hp), if_neg one_ne]
    rcases arg_ix y (show 61 < 2 ^ 31 by omega) with ⟨D, hD, rfl⟩ | hy
    · have w1 : OW_within (nI D) 0 60 u = some (nI 1, u) := OW_within_ok (n := 0) (m := 60) (Nat.zero_le D) (by omega) (by omega)
      have w2 : Mo_within (nI D) 0 60 v = some (nI 1, v) := Mo_within_ok (n := 0) (m := 60) (Nat.zero_le D) (by omega) (by omega)
      have hS := h.2.1
      obtain ⟨u', e1, o1, o2, o3, o4⟩ := foretell_eq h.1 h.2.2.1 (by omega) h.2.2.2.2.2.2.2.2.2.1 (show D ≤ 60 by omega)
      obtain ⟨m, e2, g0⟩ := go_start h.1 h.2.2.2.1
      obtain ⟨v', e3, g1, g2⟩ := Mo_later_40_eq h.1 (by omega) g0 hp (show D ≤ 60 by omega)
      rw [zb_eq w1, if_neg one_ne, zb_eq w2, if_neg one_ne, rt, if_pos lt, zb_eq e1, zb_eq e2, e3]
      have e4 : Ou_waterOn (nI D) (nI p) u' = some (nI (itS E N K S D (1 + p)), u') := by
        have e5 := (o4 D (Nat.le_refl _)).1 p hp
        rw [Nat.mul_comm] at e5
        simp (disch := omega) only [Ou_waterOn, e5, zl_e, zs_e, li0, li1, li2, li3, li4, li5, li6, li7, li8, li9, li10, li11, li12, li13, li14, li15, li16, li17, li18, li19, li20, li21, li22, li23, li24, li25, li26, li27, li28, li29, li30, li31, li32, li37, li40, li41, li42, li43, li45, li47, li48, li57, li59, li60, li61, li63, li64, li75, li97, li98, li99, li100, li120, li122, li126, li200, li240, li255, li305, li306, li375, li400, li427, li428, li1000, li2000, li9999, neg_nI1, ↓reduceIte, nI_leI, nI_ltI, nI_eq, nI_add, nI_1, pk_mul, ix_nI, ib_nI, if_true, if_false, eq_self, true_and, and_true, not_false_eq_true, not_true_eq_false, Nat.reduceEqDiff, Nat.reduceLeDiff, Nat.reduceLT, Nat.reduceAdd, Nat.reduceMul]
      rw [zb_eq e4]
      exact ⟨_, u', v', rfl, rfl, by omega, t, l, N, K, E, S, h.out (o3.mono (fun c k h => Or.inl h)) g2 g1 o1⟩
    · have w1 : OW_within y 0 60 u = some (nI 0, u) := OW_within_no (m := 60) hy (by omega)
      have w2 : Mo_within y 0 60 v = some (nI 0, v) := Mo_within_no (m := 60) hy (by omega)
      rw [zb_eq w1, zb_eq w2]
      exact ⟨mI, u, v, rfl, rfl, by omega, t, l, N, K, E, S, h.up⟩
  · rw [zb_eq (OW_isPlace_no h.1 h.2.2.1 hx), zb_eq (Mo_isPlace_no h.1 h.2.2.2.1 hx)]
    exact ⟨mI, u, v, rfl, rfl, by omega, t, l, N, K, E, S, h.up⟩
theorem Mo_where_40_eq {v m : zM} {N S : Nat → Nat} {K : Nat → Nat → Nat} {E : Int32 → Int32 → Int32 → Int32 → Int32} (hW : Wf N K S) (hS : S 0 ≤ 600) (h : GoM v m N K E S 0) {p D : Nat} (hp : p < N 2) (hD : D ≤ 60) : ∃ v', Mo_where_40 zF (nI p) (nI D) 0 m = some (nI (itS E N K S D (8 + p)), v') ∧ (∀ k, k < 25 → gI v' 40 k = gI v 40 k) ∧ Fr goA v v' := by
  have nn : N 2 ≤ 5 := hW.1.2.2.1
  refine lprz (fun n (s : Int32 × zM) => Mo_where_40 n (nI p) (nI D) s.1 s.2) (fun k s => s.1 = nI k ∧ GoM v s.2 N K E S k) (fun r => ∃ v', r = some (nI (itS E N K S D (8 + p)), v') ∧ (∀ k, k < 25 → gI v' 40 k = gI v 40 k) ∧ Fr goA v v') D (0, m) (by omega) ⟨rfl, h⟩ (fun n s hs => ?_) (fun n k s hk hs => Or.inr ?_)
  · obtain ⟨x, m⟩ := s
    obtain ⟨e, h1⟩ := hs
    dsimp only at e h1
    subst e
    obtain ⟨v', e1, g1, g2⟩ := go_back h1
    refine ⟨v', ?_, g1, g2⟩
    have e2 := h1.1.2.2.2.2.1 p hp
    rw [Nat.zero_add] at e2
    have e3 : Mo_copies 42 (nI 0) 40 (nI 0) m = some ((), v') := e1
    show Mo_where_40b _ _ _ _ _ = _
    simp (disch := omega) only [Mo_where_40b, e2, e3, zl_e, zs_e, li0, li1, li2, li3, li4, li5, li6, li7, li8, li9, li10, li11, li12, li13, li14, li15, li16, li17, li18, li19, li20, li21, li22, li23, li24, li25, li26, li27, li28, li29, li30, li31, li32, li37, li40, li41, li42, li43, li45, li47, li48, li57, li59, li60, li61, li63, li64, li75, li97, li98, li99, li100, li120, li122, li126, li200, li240, li255, li305, li306, li375, li400, li427, li428, li1000, li2000, li9999, neg_nI1, ↓reduceIte, nI_leI, nI_ltI, nI_eq, nI_add, nI_1, pk_mul, ix_nI, ib_nI, if_true, if_false, eq_self, true_and, and_true, not_false_eq_true, not_true_eq_false, Nat.reduceEqDiff, Nat.reduceLeDiff, Nat.reduceLT, Nat.reduceAdd, Nat.reduceMul, Nat.le_refl]
  · obtain ⟨x, m⟩ := s
    obtain ⟨e, h1⟩ := hs
    dsimp only at e h1
    subst e
    obtain ⟨m', e1, g1⟩ := go_step hW (show S 0 + k < 2 ^ 20 by omega) h1
    refine ⟨(nI (k + 1), m'), ⟨rfl, g1⟩, ?_⟩
    show Mo_where_40b _ _ _ _ _ = Mo_where_40 _ _ _ _ _
    simp (disch := omega) only [Mo_where_40b, e1, zl_e, zs_e, li0, li1, li2, li3, li4, li5, li6, li7, li8, li9, li10, li11, li12, li13, li14, li15, li16, li17, li18, li19, li20, li21, li22, li23, li24, li25, li26, li27, li28, li29, li30, li31, li32, li37, li40, li41, li42, li43, li45, li47, li48, li57, li59, li60, li61, li63, li64, li75, li97, li98, li99, li100, li120, li122, li126, li200, li240, li255, li305, li306, li375, li400, li427, li428, li1000, li2000, li9999, neg_nI1, ↓reduceIte, nI_leI, nI_ltI, nI_eq, nI_add, nI_1, pk_mul, ix_nI, ib_nI, if_true, if_false, eq_self, true_and, and_true, not_false_eq_true, not_true_eq_false, Nat.reduceEqDiff, Nat.reduceLeDiff, Nat.reduceLT, Nat.reduceAdd, Nat.reduceMul, Nat.not_le.mpr hk]
theorem c_where {n : Nat} {u v : zM} (h : Inv n u v) (hn : n < 600) (x y : Int32) : ∃ r u' v', OW_where x y u = some (r, u') ∧ Mo_where x y v = some (r, v') ∧ Inv (n + 1) u' v' := by
  obtain ⟨h6, t, l, N, K, E, S, h⟩ := h
  have h0 := h
  unfold Mo_where OW_where
  dsimp only [zlet]
  have h := h.th
  generalize sI v 1 0 0 = v at *
  have rt := h.2.2.1.1
  have lt := layT h.2.2.1.2.1
  have n0 : N 0 ≤ 7 := h.1.1.1
  have n3 : N 3 ≤ 3 := h.1.1.2.2.2.1
  have n4 : N 4 ≤ 6 := h.1.1.2.2.2.2.1
  have n2 : N 2 ≤ 5 := h.1.1.2.2.1
  rcases arg_ix x (show N 2 < 2 ^ 31 by omega) with ⟨p, hp, rfl⟩ | hx
  · rw [zb_eq (OW_isPerson_ok h.1 h.2.2.1 hp), if_neg one_ne, zb_eq (Mo_isPerson_ok h.1 h.2.2.2.1 hp), if_neg one_ne]
    rcases arg_ix y (show 61 < 2 ^ 31 by omega) with ⟨D, hD, rfl⟩ | hy
    · have w1 : OW_within (nI D) 0 60 u = some (nI 1, u) := OW_within_ok (n := 0) (m := 60) (Nat.zero_le D) (by omega) (by omega)
      have w2 : Mo_within (nI D) 0 60 v = some (nI 1, v) := Mo_within_ok (n := 0) (m := 60) (Nat.zero_le D) (by omega) (by omega)
      have hS := h.2.1
      obtain ⟨u', e1, o1, o2, o3, o4⟩ := foretell_eq h.1 h.2.2.1 (by omega) h.2.2.2.2.2.2.2.2.2.1 (show D ≤ 60 by omega)
      obtain ⟨m, e2, g0⟩ := go_start h.1 h.2.2.2.1
      obtain ⟨v', e3, g1, g2⟩ := Mo_where_40_eq h.1 (by omega) g0 hp (show D ≤ 60 by omega)
      rw [zb_eq w1, if_neg one_ne, zb_eq w2, if_neg one_ne, rt, if_pos lt, zb_eq e1, zb_eq e2, e3]
      have e4 : Ou_placeOn (nI D) (nI p) u' = some (nI (itS E N K S D (8 + p)), u') := by
        have e5 := (o4 D (Nat.le_refl _)).2.1 p hp
        rw [Nat.mul_comm] at e5
        simp (disch := omega) only [Ou_placeOn, e5, zl_e, zs_e, li0, li1, li2, li3, li4, li5, li6, li7, li8, li9, li10, li11, li12, li13, li14, li15, li16, li17, li18, li19, li20, li21, li22, li23, li24, li25, li26, li27, li28, li29, li30, li31, li32, li37, li40, li41, li42, li43, li45, li47, li48, li57, li59, li60, li61, li63, li64, li75, li97, li98, li99, li100, li120, li122, li126, li200, li240, li255, li305, li306, li375, li400, li427, li428, li1000, li2000, li9999, neg_nI1, ↓reduceIte, nI_leI, nI_ltI, nI_eq, nI_add, nI_1, pk_mul, ix_nI, ib_nI, if_true, if_false, eq_self, true_and, and_true, not_false_eq_true, not_true_eq_false, Nat.reduceEqDiff, Nat.reduceLeDiff, Nat.reduceLT, Nat.reduceAdd, Nat.reduceMul]
      rw [zb_eq e4]
      exact ⟨_, u', v', rfl, rfl, by omega, t, l, N, K, E, S, h.out (o3.mono (fun c k h => Or.inl h)) g2 g1 o1⟩
    · have w1 : OW_within y 0 60 u = some (nI 0, u) := OW_within_no (m := 60) hy (by omega)
      have w2 : Mo_within y 0 60 v = some (nI 0, v) := Mo_within_no (m := 60) hy (by omega)
      rw [zb_eq w1, zb_eq w2]
      exact ⟨mI, u, v, rfl, rfl, by omega, t, l, N, K, E, S, h.up⟩
  · rw [zb_eq (OW_isPerson_no h.1 h.2.2.1 hx), zb_eq (Mo_isPerson_no h.1 h.2.2.2.1 hx)]
    exact ⟨mI, u, v, rfl, rfl, by omega, t, l, N, K, E, S, h.up⟩
/-- the day on which just these of some places are wet -/
def dayP (E : Int32 → Int32 → Int32 → Int32 → Int32) (N : Nat → Nat) (K : Nat → Nat → Nat) (S : Nat → Nat) (a b d : Nat) : Bool := decide (wetS N (itS E N K S d) &&& a = b)
theorem firstDay_eq {u : zM} {t : Nat} {N S : Nat → Nat} {K : Nat → Nat → Nat} {E : Int32 → Int32 → Int32 → Int32 → Int32} (hW : Wf N K S) (hu : NowC u t N K E 54 S) (hS : S 0 ≤ 600) (ho : OutI u N K E S) {a b : Nat} (ha : a < 128) (hb : b < 128) : ∃ u', OW_firstDay (nI a) (nI b) u = some (fst1 (dayP E N K S a b) 61 0, u') ∧ OutI u' N K E S ∧ Fr (outA t) u u' := by
  unfold OW_firstDay
  have lt := layT hu.2.1
  refine lprz (fun n (s : Int32 × zM) => OW_firstDay_2 n (nI a) (nI b) s.1 s.2) (fun k s => s.1 = nI k ∧ fst1 (dayP E N K S a b) 61 0 = fst1 (dayP E N K S a b) (61 - k) k ∧ OutI s.2 N K E S ∧ NowC s.2 t N K E 54 S ∧ Fr (outA t) u s.2) (fun r => ∃ u', r = some (fst1 (dayP E N K S a b) 61 0, u') ∧ OutI u' N K E S ∧ Fr (outA t) u u') 61 (0, u) (by omega) ⟨rfl, rfl, ho, hu, Fr.rf⟩ (fun n s hs => ?_) (fun n k s hk hs => ?_)
  · obtain ⟨x, m⟩ := s
    obtain ⟨e, h0, h1, h2, h3⟩ := hs
    dsimp only at e h0 h1 h2 h3
    subst e
    refine ⟨m, ?_, h1, h3⟩
    rw [h0]
    show OW_firstDay_2b _ _ _ _ _ = _
    simp (disch := omega) only [OW_firstDay_2b, zl_e, zs_e, li0, li1, li2, li3, li4, li5, li6, li7, li8, li9, li10, li11, li12, li13, li14, li15, li16, li17, li18, li19, li20, li21, li22, li23, li24, li25, li26, li27, li28, li29, li30, li31, li32, li37, li40, li41, li42, li43, li45, li47, li48, li57, li59, li60, li61, li63, li64, li75, li97, li98, li99, li100, li120, li122, li126, li200, li240, li255, li305, li306, li375, li400, li427, li428, li1000, li2000, li9999, neg_nI1, ↓reduceIte, nI_leI, nI_ltI, nI_eq, nI_add, nI_1, pk_mul, ix_nI, ib_nI, if_true, if_false, eq_self, true_and, and_true, not_false_eq_true, not_true_eq_false, Nat.reduceEqDiff, Nat.reduceLeDiff, Nat.reduceLT, Nat.reduceAdd, Nat.reduceMul]
    rfl
  · obtain ⟨x, m⟩ := s
    obtain ⟨e, h0, h1, h2, h3⟩ := hs
    dsimp only at e h0 h1 h2 h3
    subst e
    obtain ⟨u', e1, o1, o2, o3, o4⟩ := foretell_eq hW h2 hS h1 (show k ≤ 60 by omega)
    have e2 := (o4 k (Nat.le_refl _)).2.2
    have hw := wetS_lt (S := itS E N K S k) hW.1
    have rt := h2.1
    rw [show 61 - k = (61 - (k + 1)) + 1 by omega, fst1_s _ (61 - (k + 1)) k] at h0
    have e6 : OW_firstDay_2 (n + 1) (nI a) (nI b) (nI k) m = OW_firstDay_2b (OW_firstDay_2 n) (nI a) (nI b) (nI k) m := rfl
    have ha2 : wetS N (itS E N K S k) &&& a < 128 := and128 hw
    have e7 : OW_firstDay_2b (OW_firstDay_2 n) (nI a) (nI b) (nI k) m = if wetS N (itS E N K S k) &&& a = b then some (nI k, u') else OW_firstDay_2 n (nI a) (nI b) (nI (k + 1)) u' := by
      simp (disch := omega) only [OW_firstDay_2b, Ou_wetOn, rt, lt, e1, e2, show ¬ 60 < k by omega, bn_and hw ha, zl_e, zs_e, li0, li1, li2, li3, li4, li5, li6, li7, li8, li9, li10, li11, li12, li13, li14, li15, li16, li17, li18, li19, li20, li21, li22, li23, li24, li25, li26, li27, li28, li29, li30, li31, li32, li37, li40, li41, li42, li43, li45, li47, li48, li57, li59, li60, li61, li63, li64, li75, li97, li98, li99, li100, li120, li122, li126, li200, li240, li255, li305, li306, li375, li400, li427, li428, li1000, li2000, li9999, neg_nI1, ↓reduceIte, nI_leI, nI_ltI, nI_eq, nI_add, nI_1, pk_mul, ix_nI, ib_nI, if_true, if_false, eq_self, true_and, and_true, not_false_eq_true, not_true_eq_false, Nat.reduceEqDiff, Nat.reduceLeDiff, Nat.reduceLT, Nat.reduceAdd, Nat.reduceMul]
    dsimp only
    rw [e6, e7]
    by_cases hd : wetS N (itS E N K S k) &&& a = b
    · left
      rw [if_pos hd, h0, if_pos (by simp [dayP, hd])]
      exact ⟨u', rfl, o1, h3.tr o3⟩
    · right
      rw [if_neg hd]
      rw [if_neg (by simp [dayP, hd])] at h0
      exact ⟨(nI (k + 1), u'), ⟨rfl, h0, o1, o2, h3.tr o3⟩, rfl⟩
theorem comes_eq {v : zM} {N S : Nat → Nat} {K : Nat → Nat → Nat} {E : Int32 → Int32 → Int32 → Int32 → Int32} (hW : Wf N K S) (hz : NowM v N K E S) (hS : S 0 ≤ 600) {a : Nat} (ha : a < 128) (w : Bool) : ∃ v', Mo_comes (nI a) (bI w) v = some (fst1 (dayP E N K S a (if w then a else 0)) 61 0, v') ∧ (∀ k, k < 25 → gI v' 40 k = gI v 40 k) ∧ Fr goA v v' := by
  obtain ⟨m, e2, g0⟩ := go_start hW hz
  unfold Mo_comes
  rw [zb_eq e2]
  generalize hb : (if w then a else 0) = b
  have hb2 : b < 128 := by cases w <;> simp at hb <;> omega
  refine lprz (fun n (s : Int32 × zM) => Mo_comes_15 n (nI a) (bI w) s.1 s.2) (fun k s => s.1 = nI k ∧ fst1 (dayP E N K S a b) 61 0 = fst1 (dayP E N K S a b) (61 - k) k ∧ GoM v s.2 N K E S k) (fun r => ∃ v', r = some (fst1 (dayP E N K S a b) 61 0, v') ∧ (∀ k, k < 25 → gI v' 40 k = gI v 40 k) ∧ Fr goA v v') 61 (0, m) (by omega) ⟨rfl, rfl, g0⟩ (fun n s hs => ?_) (fun n k s hk hs => ?_)
  · obtain ⟨x, m⟩ := s
    obtain ⟨e, h0, h1⟩ := hs
    dsimp only at e h0 h1
    subst e
    obtain ⟨v', e1, g1, g2⟩ := go_back h1
    refine ⟨v', ?_, g1, g2⟩
    rw [h0]
    have e3 : Mo_copies 42 (nI 0) 40 (nI 0) m = some ((), v') := e1
    show Mo_comes_15b _ _ _ _ _ = _
    simp (disch := omega) only [Mo_comes_15b, Mo_comes_49, e3, zl_e, zs_e, li0, li1, li2, li3, li4, li5, li6, li7, li8, li9, li10, li11, li12, li13, li14, li15, li16, li17, li18, li19, li20, li21, li22, li23, li24, li25, li26, li27, li28, li29, li30, li31, li32, li37, li40, li41, li42, li43, li45, li47, li48, li57, li59, li60, li61, li63, li64, li75, li97, li98, li99, li100, li120, li122, li126, li200, li240, li255, li305, li306, li375, li400, li427, li428, li1000, li2000, li9999, neg_nI1, ↓reduceIte, nI_leI, nI_ltI, nI_eq, nI_add, nI_1, pk_mul, ix_nI, ib_nI, if_true, if_false, eq_self, true_and, and_true, not_false_eq_true, not_true_eq_false, Nat.reduceEqDiff, Nat.reduceLeDiff, Nat.reduceLT, Nat.reduceAdd, Nat.reduceMul]
    rfl
  · obtain ⟨x, m⟩ := s
    obtain ⟨e, h0, h1⟩ := hs
    dsimp only at e h0 h1
    subst e
    have hWk : Wf N K (itS E N K S k) := itS_wf hW k (by omega)
    have ew := Mo_wets_e hWk h1.1
    have hw := wetS_lt (S := itS E N K S k) hW.1
    have ha2 : wetS N (itS E N K S k) &&& a < 128 := and128 hw
    obtain ⟨v', e1, g1, g2⟩ := go_back h1
    obtain ⟨m', e5, g5⟩ := go_step hW (show S 0 + k < 2 ^ 20 by omega) h1
    have e3 : Mo_copies 42 (nI 0) 40 (nI 0) m = some ((), v') := e1
    rw [show 61 - k = (61 - (k + 1)) + 1 by omega, fst1_s _ (61 - (k + 1)) k] at h0
    have e6 : Mo_comes_15 (n + 1) (nI a) (bI w) (nI k) m = Mo_comes_15b (Mo_comes_15 n) (nI a) (bI w) (nI k) m := rfl
    have e7 : Mo_comes_15b (Mo_comes_15 n) (nI a) (bI w) (nI k) m = if wetS N (itS E N K S k) &&& a = b then some (nI k, v') else Mo_comes_15 n (nI a) (bI w) (nI (k + 1)) m' := by
      cases w
      · have hb3 : 0 = b := by simpa using hb
        subst hb3
        simp (disch := omega) only [Mo_comes_15b, Mo_comes_36, Mo_comes_49, bI_f, ew, e3, e5, show ¬ 60 < k by omega, show k ≤ 60 by omega, bn_and hw ha, zl_e, zs_e, li0, li1, li2, li3, li4, li5, li6, li7, li8, li9, li10, li11, li12, li13, li14, li15, li16, li17, li18, li19, li20, li21, li22, li23, li24, li25, li26, li27, li28, li29, li30, li31, li32, li37, li40, li41, li42, li43, li45, li47, li48, li57, li59, li60, li61, li63, li64, li75, li97, li98, li99, li100, li120, li122, li126, li200, li240, li255, li305, li306, li375, li400, li427, li428, li1000, li2000, li9999, neg_nI1, ↓reduceIte, nI_leI, nI_ltI, nI_eq, nI_add, nI_1, pk_mul, ix_nI, ib_nI, if_true, if_false, eq_self, true_and, and_true, not_false_eq_true, not_true_eq_false, Nat.reduceEqDiff, Nat.reduceLeDiff, Nat.reduceLT, Nat.reduceAdd, Nat.reduceMul]
      · have hb3 : a = b := by simpa using hb
        subst hb3
        simp (disch := omega) only [Mo_comes_15b, Mo_comes_36, Mo_comes_49, bI_t, ew, e3, e5, show ¬ 60 < k by omega, show k ≤ 60 by omega, bn_and hw ha, zl_e, zs_e, li0, li1, li2, li3, li4, li5, li6, li7, li8, li9, li10, li11, li12, li13, li14, li15, li16, li17, li18, li19, li20, li21, li22, li23, li24, li25, li26, li27, li28, li29, li30, li31, li32, li37, li40, li41, li42, li43, li45, li47, li48, li57, li59, li60, li61, li63, li64, li75, li97, li98, li99, li100, li120, li122, li126, li200, li240, li255, li305, li306, li375, li400, li427, li428, li1000, li2000, li9999, neg_nI1, ↓reduceIte, nI_leI, nI_ltI, nI_eq, nI_add, nI_1, pk_mul, ix_nI, ib_nI, if_true, if_false, eq_self, true_and, and_true, not_false_eq_true, not_true_eq_false, Nat.reduceEqDiff, Nat.reduceLeDiff, Nat.reduceLT, Nat.reduceAdd, Nat.reduceMul]
    dsimp only
    rw [e6, e7]
    by_cases hd : wetS N (itS E N K S k) &&& a = b
    · left
      rw [if_pos hd, h0, if_pos (by simp [dayP, hd])]
      exact ⟨v', rfl, g1, g2⟩
    · right
      rw [if_neg hd]
      rw [if_neg (by simp [dayP, hd])] at h0
      exact ⟨(nI (k + 1), m'), ⟨rfl, h0, g5⟩, rfl⟩
theorem c_dry {n : Nat} {u v : zM} (h : Inv n u v) (hn : n < 600) (x : Int32) : ∃ r u' v', OW_dry x u = some (r, u') ∧ Mo_dry x v = some (r, v') ∧ Inv (n + 1) u' v' := by
  obtain ⟨h6, t, l, N, K, E, S, h⟩ := h
  have h0 := h
  unfold Mo_dry OW_dry
  dsimp only [zlet]
  have h := h.th
  generalize sI v 1 0 0 = v at *
  have rt := h.2.2.1.1
  have lt := layT h.2.2.1.2.1
  have n0 : N 0 ≤ 7 := h.1.1.1
  have n3 : N 3 ≤ 3 := h.1.1.2.2.2.1
  have n4 : N 4 ≤ 6 := h.1.1.2.2.2.2.1
  rcases arg_ix x (show N 0 < 2 ^ 31 by omega) with ⟨p, hp, rfl⟩ | hx
  · rw [zb_eq (OW_isPlace_ok h.1 h.2.2.1 hp), if_neg one_ne, zb_eq (Mo_isPlace_ok h.1 h.2.2.2.1 hp), if_neg one_ne]
    have hS := h.2.1
    have e1 : (1 : Int32) <<< (nI p &&& 31) = nI (2 ^ p) := b_shl p (by omega)
    have hp7 := p2_lt (show p < 7 by omega)
    obtain ⟨u', f1, f2, f3⟩ := firstDay_eq h.1 h.2.2.1 (by omega) h.2.2.2.2.2.2.2.2.2.1 (a := 2 ^ p) (b := 0) hp7 (by omega)
    obtain ⟨v', f4, f5, f6⟩ := comes_eq h.1 h.2.2.2.1 (by omega) hp7 false
    have f4' : Mo_comes (nI (2 ^ p)) 0 v = some (fst1 (dayP E N K S (2 ^ p) 0) 61 0, v') := f4
    have f1' : OW_firstDay (nI (2 ^ p)) 0 u = some (fst1 (dayP E N K S (2 ^ p) 0) 61 0, u') := f1
    rw [e1, zb_eq f1', zb_eq f4']
    exact ⟨_, u', v', rfl, rfl, by omega, t, l, N, K, E, S, h.out (f3.mono (fun c k h => Or.inl h)) f6 f5 f2⟩
  · rw [zb_eq (OW_isPlace_no h.1 h.2.2.1 hx), zb_eq (Mo_isPlace_no h.1 h.2.2.2.1 hx)]
    exact ⟨mI, u, v, rfl, rfl, by omega, t, l, N, K, E, S, h.up⟩
theorem c_wet {n : Nat} {u v : zM} (h : Inv n u v) (hn : n < 600) (x : Int32) : ∃ r u' v', OW_wet x u = some (r, u') ∧ Mo_wet x v = some (r, v') ∧ Inv (n + 1) u' v' := by
  obtain ⟨h6, t, l, N, K, E, S, h⟩ := h
  have h0 := h
  unfold Mo_wet OW_wet
  dsimp only [zlet]
  have h := h.th
  generalize sI v 1 0 0 = v at *
  have rt := h.2.2.1.1
  have lt := layT h.2.2.1.2.1
  have n0 : N 0 ≤ 7 := h.1.1.1
  have n3 : N 3 ≤ 3 := h.1.1.2.2.2.1
  have n4 : N 4 ≤ 6 := h.1.1.2.2.2.2.1
  rcases arg_ix x (show N 0 < 2 ^ 31 by omega) with ⟨p, hp, rfl⟩ | hx
  · rw [zb_eq (OW_isPlace_ok h.1 h.2.2.1 hp), if_neg one_ne, zb_eq (Mo_isPlace_ok h.1 h.2.2.2.1 hp), if_neg one_ne]
    have hS := h.2.1
    have e1 : (1 : Int32) <<< (nI p &&& 31) = nI (2 ^ p) := b_shl p (by omega)
    have hp7 := p2_lt (show p < 7 by omega)
    obtain ⟨u', f1, f2, f3⟩ := firstDay_eq h.1 h.2.2.1 (by omega) h.2.2.2.2.2.2.2.2.2.1 (a := 2 ^ p) (b := 2 ^ p) hp7 hp7
    obtain ⟨v', f4, f5, f6⟩ := comes_eq h.1 h.2.2.2.1 (by omega) hp7 true
    have f4' : Mo_comes (nI (2 ^ p)) 1 v = some (fst1 (dayP E N K S (2 ^ p) (2 ^ p)) 61 0, v') := f4
    have f1' : OW_firstDay (nI (2 ^ p)) (nI (2 ^ p)) u = some (fst1 (dayP E N K S (2 ^ p) (2 ^ p)) 61 0, u') := f1
    rw [e1, zb_eq f1', zb_eq f4']
    exact ⟨_, u', v', rfl, rfl, by omega, t, l, N, K, E, S, h.out (f3.mono (fun c k h => Or.inl h)) f6 f5 f2⟩
  · rw [zb_eq (OW_isPlace_no h.1 h.2.2.1 hx), zb_eq (Mo_isPlace_no h.1 h.2.2.2.1 hx)]
    exact ⟨mI, u, v, rfl, rfl, by omega, t, l, N, K, E, S, h.up⟩
theorem c_flood {n : Nat} {u v : zM} (h : Inv n u v) (hn : n < 600) : ∃ r u' v', OW_flood u = some (r, u') ∧ Mo_flood v = some (r, v') ∧ Inv (n + 1) u' v' := by
  obtain ⟨h6, t, l, N, K, E, S, h⟩ := h
  have h0 := h
  unfold Mo_flood OW_flood
  dsimp only [zlet]
  have h := h.th
  generalize sI v 1 0 0 = v at *
  have rt := h.2.2.1.1
  have lt := layT h.2.2.1.2.1
  have n0 : N 0 ≤ 7 := h.1.1.1
  have n3 : N 3 ≤ 3 := h.1.1.2.2.2.1
  have n4 : N 4 ≤ 6 := h.1.1.2.2.2.2.1
  have hS := h.2.1
  have ha := all_lt n0
  obtain ⟨u', f1, f2, f3⟩ := firstDay_eq h.1 h.2.2.1 (by omega) h.2.2.2.2.2.2.2.2.2.1 (a := 2 ^ N 0 - 1) (b := 2 ^ N 0 - 1) ha ha
  obtain ⟨v', f4, f5, f6⟩ := comes_eq h.1 h.2.2.2.1 (by omega) ha true
  have f4' : Mo_comes (nI (2 ^ N 0 - 1)) (nI 1) v = some (fst1 (dayP E N K S (2 ^ N 0 - 1) (2 ^ N 0 - 1)) 61 0, v') := f4
  have c0 : gI u (t + 1) 1 = nI (N 0) := h.2.2.1.2.2.1.1.1
  have m0 : gI v 3 0 = nI (N 0) := h.2.2.2.1.1.1 0 (by omega)
  have e1 : (if layC (gR u 1 1) = (10, 16) then zb (Co_allPlaces (gR u 1 1) u) (fun c1 u1 => if layC (gR u1 1 1) = (10, 16) then zb (Co_allPlaces (gR u1 1 1) u1) (fun c2 u2 => zb (OW_firstDay c1 c2 u2) (fun c3 u3 => some (c3, u3))) else none) else none) = some (fst1 (dayP E N K S (2 ^ N 0 - 1) (2 ^ N 0 - 1)) 61 0, u') := by
    simp (disch := omega) only [Co_allPlaces, rt, lt, c0, all_eq n0, f1, zl_e, zs_e, li0, li1, li2, li3, li4, li5, li6, li7, li8, li9, li10, li11, li12, li13, li14, li15, li16, li17, li18, li19, li20, li21, li22, li23, li24, li25, li26, li27, li28, li29, li30, li31, li32, li37, li40, li41, li42, li43, li45, li47, li48, li57, li59, li60, li61, li63, li64, li75, li97, li98, li99, li100, li120, li122, li126, li200, li240, li255, li305, li306, li375, li400, li427, li428, li1000, li2000, li9999, neg_nI1, ↓reduceIte, nI_leI, nI_ltI, nI_eq, nI_add, nI_1, pk_mul, ix_nI, ib_nI, if_true, if_false, eq_self, true_and, and_true, not_false_eq_true, not_true_eq_false, Nat.reduceEqDiff, Nat.reduceLeDiff, Nat.reduceLT, Nat.reduceAdd, Nat.reduceMul]
  have e2 : zb (Mo_comes ((1 <<< ((gI v 3 0) &&& 31)) - 1) 1 v) (fun c1 u2 => some (c1, u2)) = some (fst1 (dayP E N K S (2 ^ N 0 - 1) (2 ^ N 0 - 1)) 61 0, v') := by
    simp (disch := omega) only [m0, all_eq n0, f4', zl_e, zs_e, li0, li1, li2, li3, li4, li5, li6, li7, li8, li9, li10, li11, li12, li13, li14, li15, li16, li17, li18, li19, li20, li21, li22, li23, li24, li25, li26, li27, li28, li29, li30, li31, li32, li37, li40, li41, li42, li43, li45, li47, li48, li57, li59, li60, li61, li63, li64, li75, li97, li98, li99, li100, li120, li122, li126, li200, li240, li255, li305, li306, li375, li400, li427, li428, li1000, li2000, li9999, neg_nI1, ↓reduceIte, nI_leI, nI_ltI, nI_eq, nI_add, nI_1, pk_mul, ix_nI, ib_nI, if_true, if_false, eq_self, true_and, and_true, not_false_eq_true, not_true_eq_false, Nat.reduceEqDiff, Nat.reduceLeDiff, Nat.reduceLT, Nat.reduceAdd, Nat.reduceMul]
  rw [e1, e2]
  exact ⟨_, u', v', rfl, rfl, by omega, t, l, N, K, E, S, h.out (f3.mono (fun c k h => Or.inl h)) f6 f5 f2⟩
