/-! ===== sessions: the days ===== -/
def seF (D : Nat → Nat) (Q : Nat → Nat → Nat) (E : Int32 → Int32 → Int32 → Int32 → Int32) (N : Nat → Nat) (K : Nat → Nat → Nat) (st : Nat × (Nat → Nat) × Nat) : Nat × (Nat → Nat) × Nat :=
  ((drO D Q N st.1).2.2.2, nextS E N K (rainS N K (lnS N K st.2.1 (drO D Q N st.1).1 (drO D Q N st.1).2.1 (drO D Q N st.1).2.2.1 0)) (lnS N K st.2.1 (drO D Q N st.1).1 (drO D Q N st.1).2.1 (drO D Q N st.1).2.2.1), st.2.2 + (decide ((drO D Q N st.1).1 = 3) && lnB N K st.2.1 (drO D Q N st.1).1 (drO D Q N st.1).2.1 (drO D Q N st.1).2.2.1).toNat)
def seI (D : Nat → Nat) (Q : Nat → Nat → Nat) (E : Int32 → Int32 → Int32 → Int32 → Int32) (N : Nat → Nat) (K : Nat → Nat → Nat) (G : Nat) (S : Nat → Nat) : Nat → Nat × (Nat → Nat) × Nat
  | 0 => (G, S, 0)
  | k + 1 => seF D Q E N K (seI D Q E N K G S k)
theorem seI_s (D : Nat → Nat) (Q : Nat → Nat → Nat) (E : Int32 → Int32 → Int32 → Int32 → Int32) (N : Nat → Nat) (K : Nat → Nat → Nat) (G : Nat) (S : Nat → Nat) (k : Nat) : seI D Q E N K G S (k + 1) = seF D Q E N K (seI D Q E N K G S k) := rfl
theorem seI_ok {D : Nat → Nat} {Q : Nat → Nat → Nat} (D_lt : ∀ G, D G < 2 ^ 31) (Q_lt : ∀ x m, 0 < m → Q x m < m) {E : Int32 → Int32 → Int32 → Int32 → Int32} {N S : Nat → Nat} {K : Nat → Nat → Nat} (hW : Wf N K S) (hS : S 0 ≤ 600) {G : Nat} (hG : G < 2 ^ 31) : ∀ k, k ≤ 99 → (seI D Q E N K G S k).1 < 2 ^ 31 ∧ Wf N K (seI D Q E N K G S k).2.1 ∧ (seI D Q E N K G S k).2.1 0 = S 0 + k ∧ sv3 N (seI D Q E N K G S k).2.1 = sv3 N S + (seI D Q E N K G S k).2.2 := by
  have h30 : N 3 = 0 ∨ 0 < N 0 := by
    by_cases h : N 3 = 0
    · exact Or.inl h
    · exact Or.inr (Nat.lt_of_le_of_lt (Nat.zero_le _) (hW.2.1.2.2.1 0 (by omega)).2.2)
  intro k
  induction k with
  | zero => intro _; exact ⟨hG, hW, rfl, rfl⟩
  | succ k ih =>
    intro hk
    obtain ⟨i1, i2, i3, i4⟩ := ih (by omega)
    rw [seI_s]
    generalize seI D Q E N K G S k = st at *
    obtain ⟨d1, d2, d3, d4⟩ := drO_ok D_lt Q_lt h30 i1
    unfold seF
    dsimp only
    have w1 := lnS_wf i2 d1 d2
    have w2 : lnS N K st.2.1 (drO D Q N st.1).1 (drO D Q N st.1).2.1 (drO D Q N st.1).2.2.1 0 = S 0 + k := lnS_day.trans i3
    refine ⟨d4, nextS_wf w1 _ (by omega), by rw [nextS_0, w2]; omega, ?_⟩
    rw [sv3_next hW.1, sv3_ln i2 d1 d2 d3, i4, Bool.and_comm]
    omega
theorem St_water_eq {u : zM} {t a : Nat} {N S : Nat → Nat} {K : Nat → Nat → Nat} {E : Int32 → Int32 → Int32 → Int32 → Int32} (hW : Wf N K S) (hu : NowC u t N K E a S) (hA : StA a) : St_waterTogether a t u = some (nI (smN (fun p => S (1 + p)) (N 0)), u) := by
  have n0 := hW.1.1
  have lt := layT hu.2.1
  have c0 := hu.2.2.1.1.1
  have hs := hu.2.2.2.2.2.1
  have hle := hW.2.2.2.1
  unfold St_waterTogether
  rw [if_pos hA.1, if_pos lt]
  refine lpz (fun n (s : Int32 × Int32) => St_waterTogether_4 n a t s.1 s.2 u) (fun k => (nI (smN (fun p => S (1 + p)) k), nI k)) (N 0) _ (by omega) (fun n => ?_) (fun n k hk => ?_)
  · show St_waterTogether_4b _ _ _ _ _ _ = _
    simp (disch := omega) only [St_waterTogether_4b, hA.1, lt, c0, li0, li1, li2, li3, li4, li5, li6, li7, li8, li9, li10, li11, li12, li13, li14, li15, li16, li17, li18, li19, li20, li21, li22, li23, li24, li25, li26, li27, li28, li29, li30, li31, li32, li37, li40, li41, li42, li43, li45, li47, li48, li57, li59, li60, li61, li63, li64, li75, li97, li98, li99, li100, li120, li122, li126, li200, li240, li255, li305, li306, li375, li400, li427, li428, li1000, li2000, li9999, neg_nI1, ↓reduceIte, nI_leI, nI_ltI, nI_eq, nI_add, nI_1, pk_mul, ix_nI, ib_nI, if_true, if_false, eq_self, true_and, and_true, not_false_eq_true, not_true_eq_false, Nat.reduceEqDiff, Nat.reduceLeDiff, Nat.reduceLT, Nat.reduceAdd, Nat.reduceMul, Nat.le_refl]
  · show St_waterTogether_4b _ _ _ _ _ _ = St_waterTogether_4 _ _ _ _ _ _
    have h9 : smN (fun p => S (1 + p)) k ≤ 9 * k := smN_le k (fun p hp => hle p (by omega))
    have hk9 := hle k hk
    simp (disch := omega) only [St_waterTogether_4b, hA.1, lt, c0, hs, zl_e, zs_e, li0, li1, li2, li3, li4, li5, li6, li7, li8, li9, li10, li11, li12, li13, li14, li15, li16, li17, li18, li19, li20, li21, li22, li23, li24, li25, li26, li27, li28, li29, li30, li31, li32, li37, li40, li41, li42, li43, li45, li47, li48, li57, li59, li60, li61, li63, li64, li75, li97, li98, li99, li100, li120, li122, li126, li200, li240, li255, li305, li306, li375, li400, li427, li428, li1000, li2000, li9999, neg_nI1, ↓reduceIte, nI_leI, nI_ltI, nI_eq, nI_add, nI_1, pk_mul, ix_nI, ib_nI, if_true, if_false, eq_self, true_and, and_true, not_false_eq_true, not_true_eq_false, Nat.reduceEqDiff, Nat.reduceLeDiff, Nat.reduceLT, Nat.reduceAdd, Nat.reduceMul, Nat.not_le.mpr hk]
    rw [smN_s]
theorem sesC {u : zM} {t : Nat} {N S : Nat → Nat} {K : Nat → Nat → Nat} {E : Int32 → Int32 → Int32 → Int32 → Int32} {D : Nat → Nat} {Q : Nat → Nat → Nat} (D_lt : ∀ G, D G < 2 ^ 31) (Q_lt : ∀ x m, 0 < m → Q x m < m) (OW_d : ∀ {u : zM} {G m : Nat}, gL u 1 14 = nL G → G < 2 ^ 31 → 0 < m → m < 2 ^ 31 → OW_draw (nI m) u = some (nI (Q (D G) m), sL u 1 14 (nL (D G)))) (hW : Wf N K S) (hS : S 0 ≤ 600) (hu : NowC u t N K E 60 S) {G d w : Nat} (hG : G < 2 ^ 31) (hg : gL u 1 14 = nL G) (hd : d ≤ 99) (hw : w ≤ 2) : ∃ u', OW_sessions_55 zF (nI d) (nI w) 0 0 u = some (if w = 0 then nI (seI D Q E N K G S d).2.2 else if w = 1 then nI (smN (fun p => (seI D Q E N K G S d).2.1 (1 + p)) (N 0)) else nI (whoS N (seI D Q E N K G S d).2.1 0), u') ∧ Fr (seA t) u u' := by
  have ht := hu.2.1
  have lt := layT ht
  obtain ⟨n0, n1, n2, n3, n4, n5⟩ := hW.1
  refine lprz (fun n (s : Int32 × Int32 × zM) => OW_sessions_55 n (nI d) (nI w) s.1 s.2.1 s.2.2) (fun k s => s.1 = nI (seI D Q E N K G S k).2.2 ∧ s.2.1 = nI k ∧ NowC s.2.2 t N K E 60 (seI D Q E N K G S k).2.1 ∧ gL s.2.2 1 14 = nL (seI D Q E N K G S k).1 ∧ Fr (seA t) u s.2.2) (fun r => ∃ u', r = some (if w = 0 then nI (seI D Q E N K G S d).2.2 else if w = 1 then nI (smN (fun p => (seI D Q E N K G S d).2.1 (1 + p)) (N 0)) else nI (whoS N (seI D Q E N K G S d).2.1 0), u') ∧ Fr (seA t) u u') d (nI 0, nI 0, u) (by omega) ⟨rfl, rfl, hu, hg, Fr.rf⟩ ?_ ?_
  · rintro n ⟨x1, x2, m⟩ ⟨h1, h2, h3, h4, h5⟩
    dsimp only at h1 h2 h3 h4 h5 ⊢
    subst h1 h2
    refine ⟨m, ?_, h5⟩
    obtain ⟨o1, o2, o3, o4⟩ := seI_ok (E := E) D_lt Q_lt hW hS hG d hd
    show OW_sessions_55b _ _ _ _ _ _ = _
    unfold OW_sessions_55b
    rw [if_pos (nI_le (Nat.le_refl _) (by omega)), h3.1, if_pos lt, if_pos lt]
    generalize seI D Q E N K G S d = st at *
    have q : w = 0 ∨ w = 1 ∨ w = 2 := by omega
    rcases q with rfl | rfl | rfl
    · rfl
    · rw [zb_eq (St_water_eq o2 h3 StA60)]
      rfl
    · have e1 := OW_bitsOf_eq (u := m) (r := 62) (len := 5) (n := N 2) rfl n2 (by omega) (fun q => decide (st.2.1 (8 + q) = 0)) 0 (fun i hi => by
        have e := h3.2.2.2.2.2.2.1 i hi
        have e2 := o2.2.2.2.2.1 i hi
        rw [show gI m 62 i = nI (st.2.1 (8 + i)) from e, decide_eq_true_eq]
        exact nI_eq (b := 0) (by omega) (by omega))
      rw [show gI m (t + 3) 1 = nI (N 2) from h3.2.2.1.1.2.2.1, zb_eq e1]
      rfl
  · rintro n k ⟨x1, x2, m⟩ hk ⟨h1, h2, h3, h4, h5⟩
    dsimp only at h1 h2 h3 h4 h5 ⊢
    subst h1 h2
    right
    obtain ⟨o1, o2, o3, o4⟩ := seI_ok (E := E) D_lt Q_lt hW hS hG k (by omega)
    have h30 : N 3 = 0 ∨ 0 < N 0 := by
      by_cases h : N 3 = 0
      · exact Or.inl h
      · exact Or.inr (Nat.lt_of_le_of_lt (Nat.zero_le _) (hW.2.1.2.2.1 0 (by omega)).2.2)
    obtain ⟨d1, d2, d3, d4⟩ := drO_ok D_lt Q_lt h30 o1
    rw [seI_s]
    generalize seI D Q E N K G S k = st at *
    have w1 := lnS_wf o2 d1 d2
    have key : ∃ m1, (∀ zr : Int32 → Int32 → Int32 → Int32 → zM → Option (Int32 × zM), OW_sessions_55b zr (nI d) (nI w) (nI st.2.2) (nI k) m = zb (St_nextDay 60 t m1) (fun _ u3 => zr (nI d) (nI w) (nI (st.2.2 + (decide ((drO D Q N st.1).1 = 3) && lnB N K st.2.1 (drO D Q N st.1).1 (drO D Q N st.1).2.1 (drO D Q N st.1).2.2.1).toNat)) (nI (k + 1)) u3)) ∧ NowC m1 t N K E 60 (lnS N K st.2.1 (drO D Q N st.1).1 (drO D Q N st.1).2.1 (drO D Q N st.1).2.2.1) ∧ gL m1 1 14 = nL (drO D Q N st.1).2.2.2 ∧ Fr (seA t) m m1 := by
      by_cases h : N 3 = 0
      · have e0 : drO D Q N st.1 = (0, 0, 0, st.1) := by unfold drO; rw [if_pos h]
        rw [e0]
        refine ⟨m, fun zr => ?_, h3, h4, Fr.rf⟩
        unfold OW_sessions_55b
        rw [if_neg (nI_ge hk (by omega)), h3.1, if_pos lt, show gI m (t + 5) 1 = nI (N 3) from h3.2.2.1.1.2.2.2.1, if_pos (show nI (N 3) ≤ (0 : Int32) by rw [h]; decide), if_pos lt, show nI k + 1 = nI (k + 1) from nI_1 k]
        rfl
      · obtain ⟨m1, f1, f2, f3, f4⟩ := OW_doDrawn_eq D_lt Q_lt OW_d o2 h3 h4 o1 (by omega)
        refine ⟨m1, fun zr => ?_, f2, f3, f4⟩
        unfold OW_sessions_55b
        rw [if_neg (nI_ge hk (by omega)), h3.1, if_pos lt, show gI m (t + 5) 1 = nI (N 3) from h3.2.2.1.1.2.2.2.1, if_neg (show ¬ nI (N 3) ≤ (0 : Int32) from nI_ge (show 0 < N 3 by omega) (by omega)), zb_eq f1, show nI k + 1 = nI (k + 1) from nI_1 k, f2.1, if_pos lt, if_pos lt, show nI st.2.2 + 1 = nI (st.2.2 + 1) from nI_1 _]
        cases (decide ((drO D Q N st.1).1 = 3) && lnB N K st.2.1 (drO D Q N st.1).1 (drO D Q N st.1).2.1 (drO D Q N st.1).2.2.1)
        · rw [if_pos (show bI false = (0 : Int32) from rfl)]
          rfl
        · rw [if_neg bIt_ne]
          rfl
    obtain ⟨m1, f1, f2, f3, f4⟩ := key
    obtain ⟨m2, g1, g2, g3⟩ := St_nextDay_eq w1 f2 StA60 (by omega)
    refine ⟨(_, nI (k + 1), m2), ⟨rfl, rfl, g2, (g3.l (by unfold stepA; omega)).trans f3, (h5.tr f4).tr (g3.mono (fun c k => seA_st))⟩, ?_⟩
    show OW_sessions_55b _ _ _ _ _ _ = _
    rw [f1, zb_eq g1]
    rfl
theorem sesM {v : zM} {N S : Nat → Nat} {K : Nat → Nat → Nat} {E : Int32 → Int32 → Int32 → Int32 → Int32} {D : Nat → Nat} {Q : Nat → Nat → Nat} (D_lt : ∀ G, D G < 2 ^ 31) (Q_lt : ∀ x m, 0 < m → Q x m < m) (Mo_d : ∀ {v : zM} {G m : Nat}, gL v 1 66 = nL G → G < 2 ^ 31 → 0 < m → m < 2 ^ 31 → Mo_draws (nI m) v = some (nI (Q (D G) m), sL v 1 66 (nL (D G)))) (hW : Wf N K S) (hS : S 0 ≤ 600) (hz : NowM v N K E S) {G d w : Nat} (hG : G < 2 ^ 31) (hg : gL v 1 66 = nL G) (hd : d ≤ 99) (hw : w ≤ 2) : ∃ v', Mo_sessions_69 zF (nI d) (nI w) (nI (sv3 N S)) 0 v = some (if w = 0 then nI (seI D Q E N K G S d).2.2 else if w = 1 then nI (smN (fun p => (seI D Q E N K G S d).2.1 (1 + p)) (N 0)) else nI (whoS N (seI D Q E N K G S d).2.1 0), v') ∧ (∀ k, k < 25 → gI v' 40 k = gI v 41 k) ∧ Fr seM v v' := by
  obtain ⟨n0, n1, n2, n3, n4, n5⟩ := hW.1
  refine lprz (fun n (s : Int32 × zM) => Mo_sessions_69 n (nI d) (nI w) (nI (sv3 N S)) s.1 s.2) (fun k s => s.1 = nI k ∧ NowM s.2 N K E (seI D Q E N K G S k).2.1 ∧ gL s.2 1 66 = nL (seI D Q E N K G S k).1 ∧ Fr seM v s.2) (fun r => ∃ v', r = some (if w = 0 then nI (seI D Q E N K G S d).2.2 else if w = 1 then nI (smN (fun p => (seI D Q E N K G S d).2.1 (1 + p)) (N 0)) else nI (whoS N (seI D Q E N K G S d).2.1 0), v') ∧ (∀ k, k < 25 → gI v' 40 k = gI v 41 k) ∧ Fr seM v v') d (nI 0, v) (by omega) ⟨rfl, hz, hg, Fr.rf⟩ ?_ ?_
  · rintro n ⟨x2, m⟩ ⟨h2, h3, h4, h5⟩
    dsimp only at h2 h3 h4 h5 ⊢
    subst h2
    obtain ⟨o1, o2, o3, o4⟩ := seI_ok (E := E) D_lt Q_lt hW hS hG d hd
    have hsv := sv3_le N (seI D Q E N K G S d).2.1
    generalize seI D Q E N K G S d = st at *
    obtain ⟨m', c1, c2, c3⟩ := Mo_copies_eq (v := m) (A := 41) (B := 40) (i := 0) (j := 0) (la := 25) (lb := 25) rfl rfl (by omega) (by omega) (by omega) (by omega) (by omega)
    have c1 : Mo_copies 41 0 40 0 m = some ((), m') := c1
    refine ⟨m', ?_, fun k hk => ?_, h5.tr (c3.mono (fun c k h => Or.inl (by unfold pasA; omega)))⟩
    · have e5 : Mo_writsOf 3 m = _ := Mo_writsOf_eq o2 h3 (p := 3) (by omega)
      have e6 : nI (sv3 N st.2.1) - nI (sv3 N S) = nI st.2.2 := by
        rw [o4]
        apply Int32.toInt.inj
        rw [Int32.toInt_sub, nI_toInt (by omega), nI_toInt (by omega), nI_toInt (by omega), show ((sv3 N S + st.2.2 : Nat) : Int) - (sv3 N S : Int) = (st.2.2 : Int) by omega, bm32 (by omega) (by omega)]
      have e7 : Mo_whoAt 0 m = _ := Mo_whoAt_eq o2 h3 (p := 0) (by omega)
      show Mo_sessions_69b _ _ _ _ _ _ = _
      unfold Mo_sessions_69b
      rw [if_pos (nI_le (Nat.le_refl _) (by omega)), zb_eq e5, zb_eq (bits_pop (wriS_lt hW.1 3) m), wriS_3 hW.1, zl_e, e6]
      have m0 := h3.1.1 0 (by omega)
      have hs : ∀ p, p < N 0 → gI m 40 (1 + p) = nI (st.2.1 (1 + p)) := fun p hp => by have := h3.2.2.2.1 p hp; rwa [Nat.zero_add] at this
      have hle := o2.2.2.2.1
      refine lpz (fun n (s : Int32 × Int32) => Mo_sessions_104 n (nI w) (nI st.2.2) s.1 s.2 m) (fun k => (nI (smN (fun p => st.2.1 (1 + p)) k), nI k)) (N 0) _ (by omega) (fun n => ?_) (fun n k hk => ?_)
      · show Mo_sessions_104b _ _ _ _ _ _ = _
        unfold Mo_sessions_104b
        dsimp only
        rw [m0, if_pos (nI_le (Nat.le_refl _) (by omega)), zb_eq e7, zb_eq c1]
        have q : w = 0 ∨ w = 1 ∨ w = 2 := by omega
        rcases q with rfl | rfl | rfl <;> rfl
      · show Mo_sessions_104b _ _ _ _ _ _ = Mo_sessions_104 _ _ _ _ _ _
        have h9 : smN (fun p => st.2.1 (1 + p)) k ≤ 9 * k := smN_le k (fun p hp => hle p (by omega))
        have hk9 := hle k hk
        have hsk := hs k hk
        simp (disch := omega) only [Mo_sessions_104b, m0, hsk, zl_e, zs_e, li0, li1, li2, li3, li4, li5, li6, li7, li8, li9, li10, li11, li12, li13, li14, li15, li16, li17, li18, li19, li20, li21, li22, li23, li24, li25, li26, li27, li28, li29, li30, li31, li32, li37, li40, li41, li42, li43, li45, li47, li48, li57, li59, li60, li61, li63, li64, li75, li97, li98, li99, li100, li120, li122, li126, li200, li240, li255, li305, li306, li375, li400, li427, li428, li1000, li2000, li9999, neg_nI1, ↓reduceIte, nI_leI, nI_ltI, nI_eq, nI_add, nI_1, pk_mul, ix_nI, ib_nI, if_true, if_false, eq_self, true_and, and_true, not_false_eq_true, not_true_eq_false, Nat.reduceEqDiff, Nat.reduceLeDiff, Nat.reduceLT, Nat.reduceAdd, Nat.reduceMul, Nat.not_le.mpr hk]
        rw [smN_s]
    · have := c2 k hk
      rw [Nat.zero_add] at this
      rw [this]
      exact h5.i (by unfold seM pasA; omega)
  · rintro n k ⟨x2, m⟩ hk ⟨h2, h3, h4, h5⟩
    dsimp only at h2 h3 h4 h5 ⊢
    subst h2
    right
    obtain ⟨o1, o2, o3, o4⟩ := seI_ok (E := E) D_lt Q_lt hW hS hG k (by omega)
    rw [seI_s]
    generalize seI D Q E N K G S k = st at *
    obtain ⟨m1, f1, f2, f3, f4⟩ := Mo_livesDay_eq D_lt Q_lt Mo_d o2 h3 h4 o1
    refine ⟨(nI (k + 1), m1), ⟨rfl, f2, f3, h5.tr f4⟩, ?_⟩
    show Mo_sessions_69b _ _ _ _ _ _ = _
    unfold Mo_sessions_69b
    rw [if_neg (nI_ge hk (by omega)), zb_eq f1, show nI k + 1 = nI (k + 1) from nI_1 k]
theorem c_sessions {n : Nat} {u v : zM} (h : Inv n u v) (hn : n < 600) (x y z : Int32) : ∃ r u' v', OW_sessions x y z u = some (r, u') ∧ Mo_sessions x y z v = some (r, v') ∧ Inv (n + 1) u' v' := by
  obtain ⟨h6, t, l, N, K, E, S, h⟩ := h
  have ht := h.2.2.1.2.1
  have hz := h.2.2.2.1.th h.1.1
  have hS : S 0 ≤ 600 := Nat.le_trans h.2.1 h6
  rcases wth x (a := 0) (b := 9999) (by omega) (by omega) with ⟨j, _, hj, rfl, ex⟩ | ex
  · rcases wth y (a := 1) (b := 99) (by omega) (by omega) with ⟨d, _, hd, rfl, ey⟩ | ey
    · rcases wth z (a := 0) (b := 2) (by omega) (by omega) with ⟨w, _, hw, rfl, ez⟩ | ez
      · obtain ⟨u1, a1, a2, a3⟩ := St_copy_eq (u := u) (a := 54) (b := 60) StA54 StA60 (by omega)
        have hu1 : NowC u1 t N K E 60 S := h.2.2.1.st (fun c k h1 h2 h3 => a3.i (by omega)) a3.2 (h.2.2.1.2.2.2.2.fr h.1.1 (fun j k hj hk h0 => a2 j k hj hk h0))
        have hu2 : NowC (sL u1 1 14 (nL j)) t N K E 60 S := hu1
        obtain ⟨u', b1, b2⟩ := sesC drw_lt (Q := fun a b => a / 65536 % b) (fun x m hm => Nat.mod_lt _ hm) OW_draw_eq h.1 hS hu2 (G := j) (by omega) sl_g hd hw
        have hv1 : NowM (sL (sI v 1 0 0) 1 66 (nL j)) N K E S := hz
        obtain ⟨v1, c1, c2, c3⟩ := Mo_copies_eq (v := sL (sI v 1 0 0) 1 66 (nL j)) (A := 40) (B := 41) (i := 0) (j := 0) (la := 25) (lb := 25) rfl rfl (by omega) (by omega) (by omega) (by omega) (by omega)
        have c1 : Mo_copies 40 0 41 0 (sL (sI v 1 0 0) 1 66 (nL j)) = some ((), v1) := c1
        have hv2 : NowM v1 N K E S := hv1.st h.1.1 (fun c k h1 h2 => c3.i (by omega)) (hv1.2.2.fr h.1.1 (fun k hk => c3.i (by omega)))
        have g1 : gL v1 1 66 = nL j := (c3.l (by omega)).trans sl_g
        obtain ⟨v', d1, d2, d3⟩ := sesM drw_lt (Q := fun a b => a / 65536 % b) (fun x m hm => Nat.mod_lt _ hm) Mo_draws_eq h.1 hS hv2 (G := j) (d := d) (w := w) (by omega) g1 hd hw
        have B1 : OW_sessions (nI j) (nI d) (nI w) u = OW_sessions_55 zF (nI d) (nI w) 0 0 (sL u1 1 14 (nL j)) := by
          unfold OW_sessions
          rw [zb_eq (show OW_within (nI j) 0 9999 u = _ from ex u), if_neg one_ne, zb_eq (show OW_within (nI d) 1 99 u = _ from ey u), if_neg one_ne, zb_eq (show OW_within (nI w) 0 2 u = _ from ez u), if_neg one_ne, zb_eq a1, zl_e, toL_nI (by omega)]
        have D1 : Mo_sessions (nI j) (nI d) (nI w) v = Mo_sessions_69 zF (nI d) (nI w) (nI (sv3 N S)) 0 v1 := by
          unfold Mo_sessions
          have e5 : Mo_writsOf 3 v1 = _ := Mo_writsOf_eq h.1 hv2 (p := 3) (by omega)
          rw [zl_e, zb_eq (show Mo_within (nI j) 0 9999 (sI v 1 0 0) = _ from ex _), if_neg one_ne, zb_eq (show Mo_within (nI d) 1 99 (sI v 1 0 0) = _ from ey _), if_neg one_ne, zb_eq (show Mo_within (nI w) 0 2 (sI v 1 0 0) = _ from ez _), if_neg one_ne, zl_e, toL_nI (by omega), zb_eq c1, zb_eq e5, zb_eq (bits_pop (wriS_lt h.1.1 3) v1), wriS_3 h.1.1]
        have F1 : Fr (scrC t) u u' := ((a3.mono (fun c k q => by unfold scrC; omega)).tr (Fr.sL (by unfold scrC; omega))).tr (b2.mono (fun c k q => by unfold seA at q; unfold scrC; omega))
        have F2 : Fr asM v v' := (((Fr.sI (by unfold asM scrM; omega)).tr (Fr.sL (by unfold asM scrM; omega))).tr (c3.mono (fun c k q => by unfold asM scrM; omega))).tr (d3.mono (fun c k q => by unfold seM pasA at q; unfold asM scrM; omega))
        have F3 : ∀ k, k < 25 → gI v' 40 k = gI v 40 k := by
          intro k hk
          rw [d2 k hk]
          have := c2 k hk
          rw [Nat.zero_add] at this
          rw [this]
          show gI (sI v 1 0 0) 40 k = gI v 40 k
          exact gs_ne (by omega)
        exact ⟨_, u', v', B1.trans b1, D1.trans d1, by omega, t, l, N, K, E, S, h.asd F1 F2 F3⟩
      · refine ⟨-1, u, sI v 1 0 0, ?_, ?_, by omega, t, l, N, K, E, S, h.th.up⟩
        · unfold OW_sessions
          rw [zb_eq (show OW_within (nI j) 0 9999 u = _ from ex u), if_neg one_ne, zb_eq (show OW_within (nI d) 1 99 u = _ from ey u), if_neg one_ne, zb_eq (show OW_within z 0 2 u = _ from ez u)]
          rfl
        · unfold Mo_sessions
          rw [zl_e, zb_eq (show Mo_within (nI j) 0 9999 (sI v 1 0 0) = _ from ex _), if_neg one_ne, zb_eq (show Mo_within (nI d) 1 99 (sI v 1 0 0) = _ from ey _), if_neg one_ne, zb_eq (show Mo_within z 0 2 (sI v 1 0 0) = _ from ez _)]
          rfl
    · refine ⟨-1, u, sI v 1 0 0, ?_, ?_, by omega, t, l, N, K, E, S, h.th.up⟩
      · unfold OW_sessions
        rw [zb_eq (show OW_within (nI j) 0 9999 u = _ from ex u), if_neg one_ne, zb_eq (show OW_within y 1 99 u = _ from ey u)]
        rfl
      · unfold Mo_sessions
        rw [zl_e, zb_eq (show Mo_within (nI j) 0 9999 (sI v 1 0 0) = _ from ex _), if_neg one_ne, zb_eq (show Mo_within y 1 99 (sI v 1 0 0) = _ from ey _)]
        rfl
  · refine ⟨-1, u, sI v 1 0 0, ?_, ?_, by omega, t, l, N, K, E, S, h.th.up⟩
    · unfold OW_sessions
      rw [zb_eq (show OW_within x 0 9999 u = _ from ex u)]
      rfl
    · unfold Mo_sessions
      rw [zl_e, zb_eq (show Mo_within x 0 9999 (sI v 1 0 0) = _ from ex _)]
      rfl
