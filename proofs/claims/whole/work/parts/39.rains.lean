/-! ===== rains ===== -/
/-- one thing seen is so, by a rain -/
def snB (E : Int32 → Int32 → Int32 → Int32 → Int32) (K : Nat → Nat → Nat) (S P M : Nat → Nat) (X : Nat → Bool) (r i : Nat) : Bool := decide (M i ≤ wbS E K (P i) (S (1 + P i)) r (S 0)) == X i
def SnC (u : zM) (N : Nat → Nat) (c : Nat) (P M : Nat → Nat) (X : Nat → Bool) : Prop := c ≤ 8 ∧ gI u 66 3 = nI c ∧ ∀ i, i < c → P i < N 0 ∧ M i ≤ 9 ∧ gI u 67 i = nI (P i) ∧ gI u 68 i = nI (M i) ∧ gI u 69 i = bI (X i)
def SnM (v : zM) (N : Nat → Nat) (c : Nat) (P M : Nat → Nat) (X : Nat → Bool) : Prop := c ≤ 8 ∧ gI v 36 0 = nI c ∧ ∀ i, i < c → P i < N 0 ∧ M i ≤ 9 ∧ gI v 37 i = nI (P i) ∧ gI v 38 i = nI (M i) ∧ gI v 39 i = bI (X i)
theorem SenI.two {u v : zM} {N : Nat → Nat} (h : SenI u v 66 0 N) : ∃ c P M X, SnC u N c P M X ∧ SnM v N c P M X := by
  obtain ⟨c, P, M, X, h8, hc, hm, hi⟩ := h
  refine ⟨c, P, M, X, ⟨h8, hc, fun i hl => ?_⟩, ⟨h8, hm, fun i hl => ?_⟩⟩
  · obtain ⟨r1, r2, r3, r4, r5, r6, r7, r8⟩ := hi i hl
    exact ⟨r1, r2, r3, r4, r5⟩
  · obtain ⟨r1, r2, r3, r4, r5, r6, r7, r8⟩ := hi i hl
    rw [Nat.mul_zero, Nat.zero_add] at r6 r7 r8
    exact ⟨r1, r2, r6, r7, r8⟩
theorem SnC.fr {u u' : zM} {N : Nat → Nat} {c : Nat} {P M : Nat → Nat} {X : Nat → Bool} (h : SnC u N c P M X) (hf : ∀ a k, 66 ≤ a → a ≤ 69 → gI u' a k = gI u a k) : SnC u' N c P M X := by
  obtain ⟨h1, h2, h3⟩ := h
  refine ⟨h1, (hf _ _ (by omega) (by omega)).trans h2, fun i hi => ?_⟩
  obtain ⟨r1, r2, r3, r4, r5⟩ := h3 i hi
  exact ⟨r1, r2, (hf _ _ (by omega) (by omega)).trans r3, (hf _ _ (by omega) (by omega)).trans r4, (hf _ _ (by omega) (by omega)).trans r5⟩
theorem isAsSeenC {u : zM} {t : Nat} {N S : Nat → Nat} {K : Nat → Nat → Nat} {E : Int32 → Int32 → Int32 → Int32 → Int32} (hW : Wf N K S) (hu : NowC u t N K E 54 S) {c : Nat} {P M : Nat → Nat} {X : Nat → Bool} (hs : SnC u N c P M X) {r : Nat} (hr : r ≤ 9) : ∃ u', OW_isAsSeen (nI r) u = some (bI (alB (snB E K S P M X r) c), u') ∧ NowC u' t N K E 54 S ∧ Fr (fun a _ => a = t + 20) u u' := by
  unfold OW_isAsSeen
  have h8 := hs.1
  have lt := layT hu.2.1
  have ht := hu.2.1
  refine lprz (fun n (s : Int32 × zM) => OW_isAsSeen_2 n (nI r) s.1 s.2) (fun k s => s.1 = nI k ∧ alB (snB E K S P M X r) k = true ∧ NowC s.2 t N K E 54 S ∧ SnC s.2 N c P M X ∧ Fr (fun a _ => a = t + 20) u s.2) (fun y => ∃ u', y = some (bI (alB (snB E K S P M X r) c), u') ∧ NowC u' t N K E 54 S ∧ Fr (fun a _ => a = t + 20) u u') c (0, u) (by omega) ⟨rfl, rfl, hu, hs, Fr.rf⟩ (fun n s hh => ?_) (fun n k s hk hh => ?_)
  · obtain ⟨x, m⟩ := s
    obtain ⟨e, h1, h2, h3, h4⟩ := hh
    dsimp only at e h1 h2 h3 h4
    subst e
    refine ⟨m, ?_, h2, h4⟩
    rw [h1]
    have h5 := h3.2.1
    show OW_isAsSeen_2b _ _ _ _ = _
    simp (disch := omega) only [OW_isAsSeen_2b, h5, li0, li1, li2, li3, li4, li5, li6, li7, li8, li9, li10, li11, li12, li13, li14, li15, li16, li17, li18, li19, li20, li21, li22, li23, li24, li25, li26, li27, li28, li29, li30, li31, li32, li37, li40, li41, li42, li43, li45, li47, li48, li57, li59, li60, li61, li63, li64, li75, li97, li98, li99, li100, li120, li122, li126, li200, li240, li255, li305, li306, li375, li400, li427, li428, li1000, li2000, li9999, neg_nI1, ↓reduceIte, nI_leI, nI_ltI, nI_eq, nI_add, nI_1, pk_mul, ix_nI, ib_nI, if_true, if_false, eq_self, true_and, and_true, not_false_eq_true, not_true_eq_false, Nat.reduceEqDiff, Nat.reduceLeDiff, Nat.reduceLT, Nat.reduceAdd, Nat.reduceMul, Nat.le_refl]
    rfl
  · obtain ⟨x, m⟩ := s
    obtain ⟨e, h1, h2, h3, h4⟩ := hh
    dsimp only at e h1 h2 h3 h4
    subst e
    obtain ⟨r1, r2, r3, r4, r5⟩ := h3.2.2 k hk
    have h5 := h3.2.1
    have hn0 : N 0 ≤ 7 := hW.1.1
    obtain ⟨m', f1, f2⟩ := Co_waterBehind_eq hW h2 (l := S (1 + P k)) (f := r) (d := S 0) r1
    have rt := h2.1
    have s0 : gI m 54 5 = nI (S 0) := h2.2.2.2.2.1
    have sp : gI m 55 (P k) = nI (S (1 + P k)) := h2.2.2.2.2.2.1 _ r1
    have g4 : gI m' 68 k = nI (M k) := (f2.i (by omega)).trans r4
    have g5 : gI m' 69 k = bI (X k) := (f2.i (by omega)).trans r5
    have wl : wbS E K (P k) (S (1 + P k)) r (S 0) ≤ 9 := clN_le _
    have e6 : OW_isAsSeen_2 (n + 1) (nI r) (nI k) m = OW_isAsSeen_2b (OW_isAsSeen_2 n) (nI r) (nI k) m := rfl
    have e7 : OW_isAsSeen_2b (OW_isAsSeen_2 n) (nI r) (nI k) m = if snB E K S P M X r k = true then OW_isAsSeen_2 n (nI r) (nI (k + 1)) m' else some (nI 0, m') := by
      unfold snB
      generalize wbS E K (P k) (S (1 + P k)) r (S 0) = Y at f1 wl ⊢
      simp (disch := omega) only [OW_isAsSeen_2b, OW_isAsSeen_69, h5, r3, rt, lt, s0, sp, f1, g4, g5, zl_e, zs_e, li0, li1, li2, li3, li4, li5, li6, li7, li8, li9, li10, li11, li12, li13, li14, li15, li16, li17, li18, li19, li20, li21, li22, li23, li24, li25, li26, li27, li28, li29, li30, li31, li32, li37, li40, li41, li42, li43, li45, li47, li48, li57, li59, li60, li61, li63, li64, li75, li97, li98, li99, li100, li120, li122, li126, li200, li240, li255, li305, li306, li375, li400, li427, li428, li1000, li2000, li9999, neg_nI1, ↓reduceIte, nI_leI, nI_ltI, nI_eq, nI_add, nI_1, pk_mul, ix_nI, ib_nI, if_true, if_false, eq_self, true_and, and_true, not_false_eq_true, not_true_eq_false, Nat.reduceEqDiff, Nat.reduceLeDiff, Nat.reduceLT, Nat.reduceAdd, Nat.reduceMul, Nat.not_le.mpr hk]
      by_cases hc : Y < M k
      · rw [if_pos hc, decide_eq_false (by omega)]
        cases X k <;> rfl
      · rw [if_neg hc, decide_eq_true (by omega)]
        cases X k <;> rfl
    have n1 : NowC m' t N K E 54 S := h2.st (fun c k _ _ _ => f2.i (by omega)) f2.2 (h2.2.2.2.2.fr hW.1 (fun j k _ _ _ => f2.i (by omega)))
    dsimp only
    rw [e6, e7]
    cases hb : snB E K S P M X r k
    · left
      rw [if_neg (by decide), alB_f hb c hk]
      exact ⟨m', rfl, n1, h4.tr f2⟩
    · right
      rw [if_pos rfl]
      exact ⟨(nI (k + 1), m'), ⟨rfl, by rw [alB_s, h1, hb]; rfl, n1, h3.fr (fun a k _ _ => f2.i (by omega)), h4.tr f2⟩, rfl⟩
theorem rainsC {u : zM} {t : Nat} {N S : Nat → Nat} {K : Nat → Nat → Nat} {E : Int32 → Int32 → Int32 → Int32 → Int32} (hW : Wf N K S) (hu : NowC u t N K E 54 S) {c : Nat} {P M : Nat → Nat} {X : Nat → Bool} (hs : SnC u N c P M X) : ∃ u', OW_rains u = some (nI (mk (fun r => alB (snB E K S P M X r) c) 10), u') ∧ NowC u' t N K E 54 S ∧ Fr (fun a _ => a = t + 20) u u' := by
  unfold OW_rains
  have ht := hu.2.1
  refine lprz (fun n (s : Int32 × Int32 × zM) => OW_rains_4 n s.1 s.2.1 s.2.2) (fun k s => s.1 = nI (mk (fun r => alB (snB E K S P M X r) c) k) ∧ s.2.1 = nI k ∧ NowC s.2.2 t N K E 54 S ∧ SnC s.2.2 N c P M X ∧ Fr (fun a _ => a = t + 20) u s.2.2) (fun y => ∃ u', y = some (nI (mk (fun r => alB (snB E K S P M X r) c) 10), u') ∧ NowC u' t N K E 54 S ∧ Fr (fun a _ => a = t + 20) u u') 10 (0, 0, u) (by omega) ⟨rfl, rfl, hu, hs, Fr.rf⟩ (fun n s hh => ?_) (fun n k s hk hh => Or.inr ?_)
  · obtain ⟨b, x, m⟩ := s
    obtain ⟨e, e', h2, h3, h4⟩ := hh
    dsimp only at e e' h2 h3 h4
    subst e e'
    refine ⟨m, ?_, h2, h4⟩
    show OW_rains_4b _ _ _ _ = _
    simp (disch := omega) only [OW_rains_4b, li0, li1, li2, li3, li4, li5, li6, li7, li8, li9, li10, li11, li12, li13, li14, li15, li16, li17, li18, li19, li20, li21, li22, li23, li24, li25, li26, li27, li28, li29, li30, li31, li32, li37, li40, li41, li42, li43, li45, li47, li48, li57, li59, li60, li61, li63, li64, li75, li97, li98, li99, li100, li120, li122, li126, li200, li240, li255, li305, li306, li375, li400, li427, li428, li1000, li2000, li9999, neg_nI1, ↓reduceIte, nI_leI, nI_ltI, nI_eq, nI_add, nI_1, pk_mul, ix_nI, ib_nI, if_true, if_false, eq_self, true_and, and_true, not_false_eq_true, not_true_eq_false, Nat.reduceEqDiff, Nat.reduceLeDiff, Nat.reduceLT, Nat.reduceAdd, Nat.reduceMul]
  · obtain ⟨b, x, m⟩ := s
    obtain ⟨e, e', h2, h3, h4⟩ := hh
    dsimp only at e e' h2 h3 h4
    subst e e'
    obtain ⟨m', f1, f2, f3⟩ := isAsSeenC hW h2 h3 (show k ≤ 9 by omega)
    refine ⟨(nI (mk (fun r => alB (snB E K S P M X r) c) (k + 1)), nI (k + 1), m'), ⟨rfl, rfl, f2, h3.fr (fun a k _ _ => f3.i (by omega)), h4.tr f3⟩, ?_⟩
    show OW_rains_4b _ _ _ _ = OW_rains_4 _ _ _ _
    simp (disch := omega) only [OW_rains_4b, f1, bI_0, show ¬ 9 < k by omega, zl_e, zs_e, li0, li1, li2, li3, li4, li5, li6, li7, li8, li9, li10, li11, li12, li13, li14, li15, li16, li17, li18, li19, li20, li21, li22, li23, li24, li25, li26, li27, li28, li29, li30, li31, li32, li37, li40, li41, li42, li43, li45, li47, li48, li57, li59, li60, li61, li63, li64, li75, li97, li98, li99, li100, li120, li122, li126, li200, li240, li255, li305, li306, li375, li400, li427, li428, li1000, li2000, li9999, neg_nI1, ↓reduceIte, nI_leI, nI_ltI, nI_eq, nI_add, nI_1, pk_mul, ix_nI, ib_nI, if_true, if_false, eq_self, true_and, and_true, not_false_eq_true, not_true_eq_false, Nat.reduceEqDiff, Nat.reduceLeDiff, Nat.reduceLT, Nat.reduceAdd, Nat.reduceMul, bn_or (mk_lt10 _ (show k < 10 by omega))]
    cases hb : alB (snB E K S P M X k) c
    · rw [if_pos rfl, mk_f (P := fun r => alB (snB E K S P M X r) c) (k := k) hb]
    · rw [if_neg (by decide), mk_t (P := fun r => alB (snB E K S P M X r) c) (k := k) hb]
