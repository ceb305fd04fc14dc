/-! ===== the days ahead ===== -/
theorem nextS_13 {E : Int32 → Int32 → Int32 → Int32 → Int32} {N : Nat → Nat} {K : Nat → Nat → Nat} {A B : Nat → Nat} (hA : Wf N K A) (h : ∀ i, i < 13 → A i = B i) (f : Nat) : ∀ i, i < 13 → nextS E N K f A i = nextS E N K f B i := by
  have hq := hA.2.2.2.2.1
  have n0 : N 0 ≤ 7 := hA.1.1
  have n2 : N 2 ≤ 5 := hA.1.2.2.1
  have hw : ∀ i, i < 13 → wS E K f A (N 0) i = wS E K f B (N 0) i := fun i hi => by
    unfold wS
    rw [h i hi, h 0 (by omega)]
  have hg : ∀ q, q < N 2 → goS N K (wS E K f A (N 0)) q = goS N K (wS E K f B (N 0)) q := fun q hq' => by
    have e : wS E K f A (N 0) (8 + q) = A (8 + q) := if_neg (by omega)
    have e' : wS E K f B (N 0) (8 + q) = A (8 + q) := (if_neg (by omega)).trans (h _ (by omega)).symm
    unfold goS
    rw [e, e', bp_congr (hq q hq') (fun p hp => hw (1 + p) (by omega)) _ (Nat.le_refl _), bp_congr (hq q hq') (fun p hp => hw (1 + p) (by omega)) _ (Nat.le_refl _)]
  intro i hi
  unfold nextS upN
  by_cases h0 : i = 0
  · rw [if_pos h0, if_pos h0, h 0 (by omega)]
  · rw [if_neg h0, if_neg h0]
    unfold rS
    rw [if_neg (by omega), if_neg (by omega)]
    unfold gS
    by_cases h1 : 8 ≤ i ∧ i < 8 + N 2
    · rw [if_pos h1, if_pos h1, hg _ (by omega)]
    · rw [if_neg h1, if_neg h1, hw i hi]
theorem itS_13 {E : Int32 → Int32 → Int32 → Int32 → Int32} {N : Nat → Nat} {K : Nat → Nat → Nat} {A B : Nat → Nat} (hA : Wf N K A) (h : ∀ i, i < 13 → A i = B i) (d : Nat) (hd : A 0 + d < 2 ^ 20) : ∀ i, i < 13 → itS E N K A d i = itS E N K B d i := by
  induction d with
  | zero => exact h
  | succ d ih =>
    intro i hi
    have ih' := ih (by omega)
    show nextS E N K _ _ i = nextS E N K _ _ i
    rw [ih' 0 (by omega)]
    exact nextS_13 (itS_wf hA d (by omega)) ih' _ i hi
theorem wetS_13 {N : Nat → Nat} (hN : WfN N) {A B : Nat → Nat} (h : ∀ i, i < 13 → A i = B i) : wetS N A = wetS N B := mk_congr (fun k hk => by have := hN.1; rw [h (1 + k) (by omega)])
/-- what the class has of the days ahead -/
def OutP (u : zM) (N : Nat → Nat) (K : Nat → Nat → Nat) (E : Int32 → Int32 → Int32 → Int32 → Int32) (B : Nat → Nat) (k : Nat) : Prop := gI u 70 6 = nI k ∧ (0 < k → StC u 71 N (itS E N K B (k - 1))) ∧ ∀ d, d < k → (∀ p, p < N 0 → gI u 77 (7 * d + p) = nI (itS E N K B d (1 + p))) ∧ (∀ q, q < N 2 → gI u 78 (5 * d + q) = nI (itS E N K B d (8 + q))) ∧ gI u 79 d = nI (wetS N (itS E N K B d))
def outA (t : Nat) (c k : Nat) : Prop := c = t + 20 ∨ (c = 70 ∧ k = 6) ∨ (71 ≤ c ∧ c ≤ 79)
theorem fore_43 {u : zM} {t : Nat} {N S : Nat → Nat} {K : Nat → Nat → Nat} {E : Int32 → Int32 → Int32 → Int32 → Int32} {F : Nat → Nat} (hF : Wf N K F) (hu : NowC u t N K E 71 F) {D j : Nat} (hj : j ≤ 60) (zr : Nat → Nat → Int32 → Int32 → zM → Option (Unit × zM)) : ∃ u', Ou_foretell_43 zr t 54 (nI D) (nI j) u = zr t 54 (nI D) (nI (j + 1)) u' ∧ gI u' 70 6 = nI (j + 1) ∧ StC u' 71 N F ∧ ((∀ p, p < N 0 → gI u' 77 (7 * j + p) = nI (F (1 + p))) ∧ (∀ q, q < N 2 → gI u' 78 (5 * j + q) = nI (F (8 + q))) ∧ gI u' 79 j = nI (wetS N F)) ∧ (∀ k, k < 7 * j → gI u' 77 k = gI u 77 k) ∧ (∀ k, k < 5 * j → gI u' 78 k = gI u 78 k) ∧ (∀ k, k < j → gI u' 79 k = gI u 79 k) ∧ Fr (outA t) u u' := by
  have ht := hu.2.1
  have lt := layT ht
  have l54 : layC 54 = (17, 6) := rfl
  have n0 : N 0 ≤ 7 := hF.1.1
  have n2 : N 2 ≤ 5 := hF.1.2.2.1
  have h5 := hu.2.2.2.2
  have hu2 : NowC (sC (sC u 72 0 77 (j * 7) 7) 73 0 78 (j * 5) 5) t N K E 71 F := hu.st (fun c k _ _ _ => by rw [gc_ne (by omega), gc_ne (by omega)]) rfl (h5.fr hF.1 (fun i k hi _ _ => by rw [gc_ne (by omega), gc_ne (by omega)]))
  have ew := St_wetBits_eq hF hu2 StA71
  have g1 : j * 7 + 7 ≤ 427 := by omega
  have g2 : j * 5 + 5 ≤ 305 := by omega
  refine ⟨sI (sI (sC (sC u 72 0 77 (j * 7) 7) 73 0 78 (j * 5) 5) 79 j (nI (wetS N F))) 70 6 (nI (j + 1)), ?_, gs_eq ⟨rfl, rfl⟩, ?_, ⟨fun p hp => ?_, fun q hq => ?_, ?_⟩, fun k hk => ?_, fun k hk => ?_, fun k hk => ?_, ?_⟩
  · simp (disch := omega) only [Ou_foretell_43, lt, l54, ew, g1, g2, zl_e, zs_e, li0, li1, li2, li3, li4, li5, li6, li7, li8, li9, li10, li11, li12, li13, li14, li15, li16, li17, li18, li19, li20, li21, li22, li23, li24, li25, li26, li27, li28, li29, li30, li31, li32, li37, li40, li41, li42, li43, li45, li47, li48, li57, li59, li60, li61, li63, li64, li75, li97, li98, li99, li100, li120, li122, li126, li200, li240, li255, li305, li306, li375, li400, li427, li428, li1000, li2000, li9999, neg_nI1, ↓reduceIte, nI_leI, nI_ltI, nI_eq, nI_add, nI_1, pk_mul, ix_nI, ib_nI, if_true, if_false, eq_self, true_and, and_true, not_false_eq_true, not_true_eq_false, Nat.reduceEqDiff, Nat.reduceLeDiff, Nat.reduceLT, Nat.reduceAdd, Nat.reduceMul]
  · exact hu2.2.2.2.2.fr hF.1 (fun i k hi _ _ => by rw [gs_ne (by omega), gs_ne (by omega)])
  · rw [gs_ne (by omega), gs_ne (by omega), gc_ne (by omega), gc_in (by omega), show 0 + (7 * j + p - j * 7) = p by omega]
    exact h5.2.1 p hp
  · rw [gs_ne (by omega), gs_ne (by omega), gc_in (by omega), gc_ne (by omega), show 0 + (5 * j + q - j * 5) = q by omega]
    exact h5.2.2.1 q hq
  · rw [gs_ne (by omega), gs_eq ⟨rfl, rfl⟩]
  · rw [gs_ne (by omega), gs_ne (by omega), gc_ne (by omega), gc_ne (by omega)]
  · rw [gs_ne (by omega), gs_ne (by omega), gc_ne (by omega), gc_ne (by omega)]
  · rw [gs_ne (by omega), gs_ne (by omega), gc_ne (by omega), gc_ne (by omega)]
  · exact (((Fr.sC (fun k _ _ => by unfold outA; omega)).tr (Fr.sC (fun k _ _ => by unfold outA; omega))).tr (Fr.sI (by unfold outA; omega))).tr (Fr.sI (by unfold outA; omega))
theorem foretell_P {u : zM} {t : Nat} {N S : Nat → Nat} {K : Nat → Nat → Nat} {E : Int32 → Int32 → Int32 → Int32 → Int32} {B : Nat → Nat} (hW : Wf N K S) (hu : NowC u t N K E 54 S) (hB : Wf N K B) (hS : S 0 ≤ 600) (hBS : ∀ i, i < 13 → B i = S i) {k D : Nat} (hD : D ≤ 60) (hk61 : k ≤ 61) (h0 : k = 0 → B = S) (hP : OutP u N K E B k) : ∃ u' k', Ou_foretell t 54 (nI D) u = some ((), u') ∧ D < k' ∧ k' ≤ 61 ∧ OutP u' N K E B k' ∧ NowC u' t N K E 54 S ∧ Fr (outA t) u u' := by
  have ht := hu.2.1
  have lt := layT ht
  have l54 : layC 54 = (17, 6) := rfl
  have hB0 := hBS 0 (by omega)
  unfold Ou_foretell
  rw [if_pos lt, if_pos l54, zl_e, hP.1]
  by_cases hkD : D < k
  · refine ⟨u, k, ?_, hkD, hk61, hP, hu, Fr.rf⟩
    show Ou_foretell_6b _ _ _ _ _ _ = _
    simp (disch := omega) only [Ou_foretell_6b, lt, l54, hkD, li0, li1, li2, li3, li4, li5, li6, li7, li8, li9, li10, li11, li12, li13, li14, li15, li16, li17, li18, li19, li20, li21, li22, li23, li24, li25, li26, li27, li28, li29, li30, li31, li32, li37, li40, li41, li42, li43, li45, li47, li48, li57, li59, li60, li61, li63, li64, li75, li97, li98, li99, li100, li120, li122, li126, li200, li240, li255, li305, li306, li375, li400, li427, li428, li1000, li2000, li9999, neg_nI1, ↓reduceIte, nI_leI, nI_ltI, nI_eq, nI_add, nI_1, pk_mul, ix_nI, ib_nI, if_true, if_false, eq_self, true_and, and_true, not_false_eq_true, not_true_eq_false, Nat.reduceEqDiff, Nat.reduceLeDiff, Nat.reduceLT, Nat.reduceAdd, Nat.reduceMul]
  · refine lpr (fun n (s : Int32 × zM) => Ou_foretell_6 n t 54 (nI D) s.1 s.2) (fun j s => s.1 = nI j ∧ (j = 0 → B = S) ∧ OutP s.2 N K E B j ∧ NowC s.2 t N K E 54 S ∧ Fr (outA t) u s.2) (fun r => ∃ u' k', r = some ((), u') ∧ D < k' ∧ k' ≤ 61 ∧ OutP u' N K E B k' ∧ NowC u' t N K E 54 S ∧ Fr (outA t) u u') (D + 1) (fun n s hs => ?_) (fun n j s hj hs => Or.inr ?_) (D + 1 - k) k zF (nI k, u) (by omega) (show _ < 4096 by omega) ⟨rfl, h0, hP, hu, Fr.rf⟩
    · obtain ⟨x, m⟩ := s
      obtain ⟨e, h1, h2, h3, h4⟩ := hs
      dsimp only at e h1 h2 h3 h4
      subst e
      refine ⟨m, D + 1, ?_, by omega, by omega, h2, h3, h4⟩
      show Ou_foretell_6b _ _ _ _ _ _ = _
      simp (disch := omega) only [Ou_foretell_6b, lt, l54, show D < D + 1 by omega, li0, li1, li2, li3, li4, li5, li6, li7, li8, li9, li10, li11, li12, li13, li14, li15, li16, li17, li18, li19, li20, li21, li22, li23, li24, li25, li26, li27, li28, li29, li30, li31, li32, li37, li40, li41, li42, li43, li45, li47, li48, li57, li59, li60, li61, li63, li64, li75, li97, li98, li99, li100, li120, li122, li126, li200, li240, li255, li305, li306, li375, li400, li427, li428, li1000, li2000, li9999, neg_nI1, ↓reduceIte, nI_leI, nI_ltI, nI_eq, nI_add, nI_1, pk_mul, ix_nI, ib_nI, if_true, if_false, eq_self, true_and, and_true, not_false_eq_true, not_true_eq_false, Nat.reduceEqDiff, Nat.reduceLeDiff, Nat.reduceLT, Nat.reduceAdd, Nat.reduceMul]
    · obtain ⟨x, m⟩ := s
      obtain ⟨e, h1, h2, h3, h4⟩ := hs
      dsimp only at e h1 h2 h3 h4
      subst e
      have hWj : Wf N K (itS E N K B j) := itS_wf hB j (by omega)
      have fin : ∀ m1 : zM, Fr (fun c _ => c = t + 20 ∨ (71 ≤ c ∧ c ≤ 76)) m m1 → StC m1 71 N (itS E N K B j) → ∃ s' : Int32 × zM, (s'.1 = nI (j + 1) ∧ (j + 1 = 0 → B = S) ∧ OutP s'.2 N K E B (j + 1) ∧ NowC s'.2 t N K E 54 S ∧ Fr (outA t) u s'.2) ∧ Ou_foretell_43 (Ou_foretell_6 n) t 54 (nI D) (nI j) m1 = Ou_foretell_6 n t 54 (nI D) s'.1 s'.2 := by
        intro m1 hf hs
        have hf1 : Fr (outA t) m m1 := hf.mono (fun c k h => by unfold outA; omega)
        obtain ⟨m2, e1, a1, a2, a3, a4, a5, a6, a7⟩ := fore_43 (S := S) (D := D) hWj (h3.st (fun c k _ _ _ => hf.i (by omega)) hf.2 hs) (show j ≤ 60 by omega) (Ou_foretell_6 n)
        refine ⟨(nI (j + 1), m2), ⟨rfl, fun h => absurd h (by omega), ⟨a1, fun _ => a2, fun d hd => ?_⟩, ?_, (h4.tr hf1).tr a7⟩, e1⟩
        · by_cases hdj : d = j
          · subst hdj; exact a3
          · have b := h2.2.2 d (by omega)
            have n0 : N 0 ≤ 7 := hW.1.1
            have n2 : N 2 ≤ 5 := hW.1.2.2.1
            refine ⟨fun p hp => ?_, fun q hq => ?_, ?_⟩
            · rw [a4 _ (by omega), hf.i (by omega)]; exact b.1 p hp
            · rw [a5 _ (by omega), hf.i (by omega)]; exact b.2.1 q hq
            · rw [a6 _ (by omega), hf.i (by omega)]; exact b.2.2
        · have fx := hf1.tr a7
          exact h3.st (fun c k _ _ _ => fx.i (by unfold outA; omega)) fx.2 (h3.2.2.2.2.fr hW.1 (fun i k hi _ _ => fx.i (by unfold outA; omega)))
      have e6 : ∀ x, Ou_foretell_6 (n + 1) t 54 (nI D) x m = Ou_foretell_6b (Ou_foretell_6 n) t 54 (nI D) x m := fun _ => rfl
      dsimp only
      rw [e6]
      by_cases hj0 : j = 0
      · subst hj0
        have hBeq := h1 rfl
        obtain ⟨m1, e1, c1, c2⟩ := St_copy_eq (u := m) (a := 54) (b := 71) StA54 StA71 (by omega)
        obtain ⟨s', hs', e2⟩ := fin m1 (c2.mono (fun c k h => by omega)) (by show StC m1 71 N B; rw [hBeq]; exact h3.2.2.2.2.fr hW.1 c1)
        refine ⟨s', hs', ?_⟩
        rw [← e2]
        simp (disch := omega) only [Ou_foretell_6b, lt, l54, e1, show ¬ D < 0 by omega, zl_e, zs_e, li0, li1, li2, li3, li4, li5, li6, li7, li8, li9, li10, li11, li12, li13, li14, li15, li16, li17, li18, li19, li20, li21, li22, li23, li24, li25, li26, li27, li28, li29, li30, li31, li32, li37, li40, li41, li42, li43, li45, li47, li48, li57, li59, li60, li61, li63, li64, li75, li97, li98, li99, li100, li120, li122, li126, li200, li240, li255, li305, li306, li375, li400, li427, li428, li1000, li2000, li9999, neg_nI1, ↓reduceIte, nI_leI, nI_ltI, nI_eq, nI_add, nI_1, pk_mul, ix_nI, ib_nI, if_true, if_false, eq_self, true_and, and_true, not_false_eq_true, not_true_eq_false, Nat.reduceEqDiff, Nat.reduceLeDiff, Nat.reduceLT, Nat.reduceAdd, Nat.reduceMul]
      · have hs71 := h2.2.1 (by omega)
        have hW1 : Wf N K (itS E N K B (j - 1)) := itS_wf hB (j - 1) (by omega)
        obtain ⟨m1, e1, c1, c2⟩ := St_nextDay_eq hW1 (h3.st (fun c k _ _ _ => rfl) rfl hs71) StA71 (by omega)
        have ej : nextS E N K (rainS N K (itS E N K B (j - 1) 0)) (itS E N K B (j - 1)) = itS E N K B j := by
          obtain ⟨i, rfl⟩ : ∃ i, j = i + 1 := ⟨j - 1, by omega⟩
          rfl
        rw [ej] at c1
        obtain ⟨s', hs', e2⟩ := fin m1 (c2.mono (fun c k h => by unfold stepA at h; omega)) c1.2.2.2.2
        refine ⟨s', hs', ?_⟩
        rw [← e2]
        simp (disch := omega) only [Ou_foretell_6b, lt, l54, e1, hj0, show ¬ D < j by omega, show ¬ 60 < j by omega, zl_e, zs_e, li0, li1, li2, li3, li4, li5, li6, li7, li8, li9, li10, li11, li12, li13, li14, li15, li16, li17, li18, li19, li20, li21, li22, li23, li24, li25, li26, li27, li28, li29, li30, li31, li32, li37, li40, li41, li42, li43, li45, li47, li48, li57, li59, li60, li61, li63, li64, li75, li97, li98, li99, li100, li120, li122, li126, li200, li240, li255, li305, li306, li375, li400, li427, li428, li1000, li2000, li9999, neg_nI1, ↓reduceIte, nI_leI, nI_ltI, nI_eq, nI_add, nI_1, pk_mul, ix_nI, ib_nI, if_true, if_false, eq_self, true_and, and_true, not_false_eq_true, not_true_eq_false, Nat.reduceEqDiff, Nat.reduceLeDiff, Nat.reduceLT, Nat.reduceAdd, Nat.reduceMul]
/-- the class: so many days are known, as the reference would tell them -/
theorem foretell_eq {u : zM} {t : Nat} {N S : Nat → Nat} {K : Nat → Nat → Nat} {E : Int32 → Int32 → Int32 → Int32 → Int32} (hW : Wf N K S) (hu : NowC u t N K E 54 S) (hS : S 0 ≤ 600) (ho : OutI u N K E S) {D : Nat} (hD : D ≤ 60) : ∃ u', Ou_foretell t 54 (nI D) u = some ((), u') ∧ OutI u' N K E S ∧ NowC u' t N K E 54 S ∧ Fr (outA t) u u' ∧ ∀ d, d ≤ D → (∀ p, p < N 0 → gI u' 77 (7 * d + p) = nI (itS E N K S d (1 + p))) ∧ (∀ q, q < N 2 → gI u' 78 (5 * d + q) = nI (itS E N K S d (8 + q))) ∧ gI u' 79 d = nI (wetS N (itS E N K S d)) := by
  have n0 : N 0 ≤ 7 := hW.1.1
  have n2 : N 2 ≤ 5 := hW.1.2.2.1
  have key : ∃ B k, Wf N K B ∧ (∀ i, i < 13 → B i = S i) ∧ k ≤ 61 ∧ (k = 0 → B = S) ∧ OutP u N K E B k := by
    obtain ⟨k, a1, a2, a3⟩ := ho
    by_cases h0 : k = 0
    · subst h0
      exact ⟨S, 0, hW, fun _ _ => rfl, by omega, fun _ => rfl, a2, fun h => absurd h (by omega), fun d hd => absurd hd (by omega)⟩
    · obtain ⟨B, b1, b2, b3, b4⟩ := a3 (by omega)
      exact ⟨B, k, b1, b2, a1, fun h => absurd h h0, a2, fun _ => b3, b4⟩
  obtain ⟨B, k, hB, hBS, hk, h0, hP⟩ := key
  obtain ⟨u', k', e, g1, g2, g3, g4, g5⟩ := foretell_P hW hu hB hS hBS hD hk h0 hP
  have hB0 := hBS 0 (by omega)
  refine ⟨u', e, ⟨k', g2, g3.1, fun h => ⟨B, hB, hBS, g3.2.1 h, g3.2.2⟩⟩, g4, g5, fun d hd => ?_⟩
  have hi := itS_13 (E := E) hB hBS d (by omega)
  have c := g3.2.2 d (by omega)
  refine ⟨fun p hp => ?_, fun q hq => ?_, ?_⟩
  · rw [c.1 p hp, hi _ (by omega)]
  · rw [c.2.1 q hq, hi _ (by omega)]
  · rw [c.2.2, wetS_13 hW.1 hi]
/-- the reference goes forth and comes back -/
def goA (c k : Nat) : Prop := (c = 1 ∧ k ≠ 1 ∧ k ≠ 56) ∨ (20 ≤ c ∧ c ≤ 31) ∨ c = 40 ∨ c = 42 ∨ c = 46
theorem InvR.out {n : Nat} {u u' v v' : zM} {t l : Nat} {N : Nat → Nat} {K : Nat → Nat → Nat} {E : Int32 → Int32 → Int32 → Int32 → Int32} {S : Nat → Nat} (h : InvR n u v t l N K E S) (hu : Fr (fun c k => outA t c k ∨ scrC t c k) u u') (hv : Fr goA v v') (hs : ∀ k, k < 25 → gI v' 40 k = gI v 40 k) (ho : OutI u' N K E S) : InvR (n + 1) u' v' t l N K E S := by
  have h1 := h
  obtain ⟨a1, a2, a3, a4, a5, a6, a7, a8, a9, b1, b2, b3⟩ := h
  have ht := a3.2.1
  have hl := a5.2.2.1
  exact InvR.re h1 (hu.mono (fun c k h => by unfold outA scrC at h; unfold reC; omega)) (hv.mono (fun c k h => by unfold goA at h; unfold reM; omega)) a1 (by omega) (a3.2.2.2.2.fr a1.1 (fun j k _ _ _ => hu.i (by unfold outA scrC; omega))) (a4.2.2.fr a1.1 (fun k hk => by rw [Nat.zero_add]; exact hs k hk)) (a6.fr (hu.i (by unfold outA scrC; omega)) (fun j k _ _ _ => hu.i (by unfold outA scrC; omega)) (hv.i (by unfold goA; omega)) (fun c k _ _ _ => hv.i (by unfold goA; omega))) (a7.fr (hu.i (by unfold outA scrC; omega)) (fun j k _ _ _ _ => hu.i (by unfold outA scrC; omega)) (hv.i (by unfold goA; omega)) (fun c k _ _ _ _ => hv.i (by unfold goA; omega))) (a8.fr (by omega) (fun k _ _ => hu.i (by unfold outA scrC; omega)) (fun c k _ _ => hu.i (by unfold outA scrC; omega)) (hv.i (by unfold goA; omega)) (fun k => hv.i (by unfold goA; omega))) (a9.fr (by omega) (fun c k _ => hu.i (by unfold outA scrC; omega)) (fun c k _ => hv.i (by unfold goA; omega))) ho (b2.fr (hu.i (by unfold outA scrC; omega)) (fun k => hu.i (by unfold outA scrC; omega)) (hv.i (by unfold goA; omega)) (fun k => hv.i (by unfold goA; omega)))
