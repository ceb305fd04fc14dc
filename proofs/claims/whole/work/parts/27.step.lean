/-! ===== a day ===== -/
/-- the water of the first k places is tomorrow's -/
def wS (E : Int32 → Int32 → Int32 → Int32 → Int32) (K : Nat → Nat → Nat) (f : Nat) (S : Nat → Nat) (k : Nat) : Nat → Nat := fun i => if 1 ≤ i ∧ i < 1 + k then wbS E K (i - 1) (S i) f (S 0) else S i
theorem wS_0 (E : Int32 → Int32 → Int32 → Int32 → Int32) (K : Nat → Nat → Nat) (f : Nat) (S : Nat → Nat) : wS E K f S 0 = S := by
  funext i
  exact if_neg (by omega)
theorem wS_s (E : Int32 → Int32 → Int32 → Int32 → Int32) (K : Nat → Nat → Nat) (f : Nat) (S : Nat → Nat) (k : Nat) : wS E K f S (k + 1) = upN (wS E K f S k) (1 + k) (wbS E K k (S (1 + k)) f (S 0)) := by
  funext i
  unfold wS upN
  dsimp only
  by_cases h : i = 1 + k
  · subst h
    rw [if_pos (by omega), if_pos rfl, show 1 + k - 1 = k by omega]
  · rw [if_neg h]
    by_cases h2 : 1 ≤ i ∧ i < 1 + k
    · rw [if_pos h2, if_pos (by omega)]
    · rw [if_neg h2, if_neg (by omega)]
/-- the first k persons have gone -/
def gS (N : Nat → Nat) (K : Nat → Nat → Nat) (S : Nat → Nat) (k : Nat) : Nat → Nat := fun i => if 8 ≤ i ∧ i < 8 + k then goS N K S (i - 8) else S i
theorem gS_0 (N : Nat → Nat) (K : Nat → Nat → Nat) (S : Nat → Nat) : gS N K S 0 = S := by
  funext i
  exact if_neg (by omega)
theorem gS_s (N : Nat → Nat) (K : Nat → Nat → Nat) (S : Nat → Nat) (k : Nat) : gS N K S (k + 1) = upN (gS N K S k) (8 + k) (goS N K S k) := by
  funext i
  unfold gS upN
  dsimp only
  by_cases h : i = 8 + k
  · subst h
    rw [if_pos (by omega), if_pos rfl, show 8 + k - 8 = k by omega]
  · rw [if_neg h]
    by_cases h2 : 8 ≤ i ∧ i < 8 + k
    · rw [if_pos h2, if_pos (by omega)]
    · rw [if_neg h2, if_neg (by omega)]
def rS (S : Nat → Nat) (k : Nat) : Nat → Nat := fun i => if 16 ≤ i ∧ i < 16 + k then 0 else S i
theorem rS_0 (S : Nat → Nat) : rS S 0 = S := by
  funext i
  exact if_neg (by omega)
theorem rS_s (S : Nat → Nat) (k : Nat) : rS S (k + 1) = upN (rS S k) (16 + k) 0 := by
  funext i
  unfold rS upN
  dsimp only
  by_cases h : i = 16 + k
  · subst h
    rw [if_pos (by omega), if_pos rfl]
  · rw [if_neg h]
    by_cases h2 : 16 ≤ i ∧ i < 16 + k
    · rw [if_pos h2, if_pos (by omega)]
    · rw [if_neg h2, if_neg (by omega)]
def nextS (E : Int32 → Int32 → Int32 → Int32 → Int32) (N : Nat → Nat) (K : Nat → Nat → Nat) (f : Nat) (S : Nat → Nat) : Nat → Nat := upN (rS (gS N K (wS E K f S (N 0)) (N 2)) 3) 0 (S 0 + 1)
theorem wS_wf {E : Int32 → Int32 → Int32 → Int32 → Int32} {N S : Nat → Nat} {K : Nat → Nat → Nat} (hW : Wf N K S) (f k : Nat) (hk : k ≤ N 0) : Wf N K (wS E K f S k) := by
  have hW' := hW
  obtain ⟨⟨n0, n1, n2, n3, n4, n5⟩, ⟨wp, wq, wo, ww, wi⟩, ⟨z0, zp, zq, zo, zw⟩⟩ := hW
  refine ⟨hW'.1, hW'.2.1, ?_, fun p hp => ?_, fun q hq => ?_, fun o ho => ⟨?_, ?_⟩, fun w hw => ?_⟩
  · show (if _ then _ else S 0) < _
    rw [if_neg (by omega)]
    exact z0
  · unfold wS
    split
    · exact clN_le _
    · exact zp p hp
  · show (if _ then _ else S _) < _
    rw [if_neg (by omega)]
    exact zq q hq
  · show (if _ then _ else S _) < _
    rw [if_neg (by omega)]
    exact (zo o ho).1
  · show (if _ then _ else S _) ≤ _
    rw [if_neg (by omega)]
    exact (zo o ho).2
  · have e : wS E K f S k (19 + w) = S (19 + w) := if_neg (by omega)
    rw [e]
    exact zw w hw
theorem gS_wf {N S : Nat → Nat} {K : Nat → Nat → Nat} (hW : Wf N K S) (k : Nat) (hk : k ≤ N 2) : Wf N K (gS N K S k) := by
  have hW' := hW
  obtain ⟨⟨n0, n1, n2, n3, n4, n5⟩, ⟨wp, wq, wo, ww, wi⟩, ⟨z0, zp, zq, zo, zw⟩⟩ := hW
  refine ⟨hW'.1, hW'.2.1, ?_, fun p hp => ?_, fun q hq => ?_, fun o ho => ⟨?_, ?_⟩, fun w hw => ?_⟩
  · show (if _ then _ else S 0) < _
    rw [if_neg (by omega)]
    exact z0
  · show (if _ then _ else S _) ≤ _
    rw [if_neg (by omega)]
    exact zp p hp
  · unfold gS
    split
    · rw [show 8 + q - 8 = q by omega]
      exact goS_lt hW' hq
    · exact zq q hq
  · show (if _ then _ else S _) < _
    rw [if_neg (by omega)]
    exact (zo o ho).1
  · show (if _ then _ else S _) ≤ _
    rw [if_neg (by omega)]
    exact (zo o ho).2
  · have e : gS N K S k (19 + w) = S (19 + w) := if_neg (by omega)
    rw [e]
    exact zw w hw
theorem rS_wf {N S : Nat → Nat} {K : Nat → Nat → Nat} (hW : Wf N K S) (k : Nat) (hk : k ≤ 3) : Wf N K (rS S k) := by
  have hW' := hW
  obtain ⟨⟨n0, n1, n2, n3, n4, n5⟩, ⟨wp, wq, wo, ww, wi⟩, ⟨z0, zp, zq, zo, zw⟩⟩ := hW
  refine ⟨hW'.1, hW'.2.1, ?_, fun p hp => ?_, fun q hq => ?_, fun o ho => ⟨?_, ?_⟩, fun w hw => ?_⟩
  · show (if _ then _ else S 0) < _
    rw [if_neg (by omega)]
    exact z0
  · show (if _ then _ else S _) ≤ _
    rw [if_neg (by omega)]
    exact zp p hp
  · show (if _ then _ else S _) < _
    rw [if_neg (by omega)]
    exact zq q hq
  · show (if _ then _ else S _) < _
    rw [if_neg (by omega)]
    exact (zo o ho).1
  · unfold rS
    split
    · omega
    · exact (zo o ho).2
  · have e : rS S k (19 + w) = S (19 + w) := if_neg (by omega)
    rw [e]
    exact zw w hw
theorem Wf.day {N S : Nat → Nat} {K : Nat → Nat → Nat} (hW : Wf N K S) {x : Nat} (hx : x < 2 ^ 20) : Wf N K (upN S 0 x) := by
  have hW' := hW
  obtain ⟨⟨n0, n1, n2, n3, n4, n5⟩, ⟨wp, wq, wo, ww, wi⟩, ⟨z0, zp, zq, zo, zw⟩⟩ := hW
  refine ⟨hW'.1, hW'.2.1, ?_, fun p hp => ?_, fun q hq => ?_, fun o ho => ⟨?_, ?_⟩, fun w hw => ?_⟩
  · rw [upN_eq]; exact hx
  · rw [upN_ne (by omega)]; exact zp p hp
  · rw [upN_ne (by omega)]; exact zq q hq
  · rw [upN_ne (by omega)]; exact (zo o ho).1
  · rw [upN_ne (by omega)]; exact (zo o ho).2
  · rw [upN_ne (by omega)]; exact zw w hw
theorem nextS_wf {E : Int32 → Int32 → Int32 → Int32 → Int32} {N S : Nat → Nat} {K : Nat → Nat → Nat} (hW : Wf N K S) (f : Nat) (h : S 0 + 1 < 2 ^ 20) : Wf N K (nextS E N K f S) :=
  (rS_wf (gS_wf (wS_wf hW f _ (Nat.le_refl _)) _ (Nat.le_refl _)) 3 (Nat.le_refl _)).day h
theorem nextS_0 {E : Int32 → Int32 → Int32 → Int32 → Int32} {N S : Nat → Nat} {K : Nat → Nat → Nat} (f : Nat) : nextS E N K f S 0 = S 0 + 1 := upN_eq
/-- the class's step: cells of the state, and the law's stack -/
def stepA (a t : Nat) (c _k : Nat) : Prop := (a ≤ c ∧ c ≤ a + 5) ∨ c = t + 20
theorem NowC.fr {u u' : zM} {t : Nat} {N S S' : Nat → Nat} {K : Nat → Nat → Nat} {E : Int32 → Int32 → Int32 → Int32 → Int32} {a : Nat} (h : NowC u t N K E a S) (ha : 54 ≤ a) (hF : Fr (stepA a t) u u') (hs : StC u' a N S') : NowC u' t N K E a S' :=
  h.st (fun c k h1 h2 h3 => hF.i (by unfold stepA; omega)) hF.2 hs
theorem StC.sc {u u' : zM} {t : Nat} {N S : Nat → Nat} {a : Nat} (h : StC u a N S) (hN : WfN N) (ha : 54 ≤ a) (ht : t = 4 ∨ t = 25) (hF : Fr (fun c _ => c = t + 20) u u') : StC u' a N S :=
  h.fr hN (fun j k _ _ _ => hF.i (by omega))
theorem St_rest_eq {u : zM} {t a : Nat} {N S : Nat → Nat} {K : Nat → Nat → Nat} {E : Int32 → Int32 → Int32 → Int32 → Int32} (hW : Wf N K S) (hu : NowC u t N K E a S) (hA : StA a) (ha : 54 ≤ a) : ∃ u', St_rest a u = some ((), u') ∧ NowC u' t N K E a (rS S 3) ∧ Fr (stepA a t) u u' := by
  have lA := hA.1
  unfold St_rest
  rw [if_pos lA]
  refine lprz (fun n (s : Int32 × zM) => St_rest_2 n a s.1 s.2) (fun k s => s.1 = nI k ∧ NowC s.2 t N K E a (rS S k) ∧ Fr (stepA a t) u s.2) (fun r => ∃ u', r = some ((), u') ∧ NowC u' t N K E a (rS S 3) ∧ Fr (stepA a t) u u') 3 (0, u) (by omega) ⟨rfl, by rw [rS_0]; exact hu, Fr.rf⟩ (fun n s hs => ?_) (fun n k s hk hs => Or.inr ?_)
  · obtain ⟨i, m⟩ := s
    obtain ⟨e, h1, h2⟩ := hs
    dsimp only at e h1 h2
    subst e
    refine ⟨m, ?_, h1, h2⟩
    show St_rest_2b _ _ _ _ = _
    simp (disch := omega) only [St_rest_2b, lA, li0, li1, li2, li3, li4, li5, li6, li7, li8, li9, li10, li11, li12, li13, li14, li15, li16, li17, li18, li19, li20, li21, li22, li23, li24, li25, li26, li27, li28, li29, li30, li31, li32, li37, li40, li41, li42, li43, li45, li47, li48, li57, li59, li60, li61, li63, li64, li75, li97, li98, li99, li100, li120, li122, li126, li200, li240, li255, li305, li306, li375, li400, li427, li428, li1000, li2000, li9999, neg_nI1, ↓reduceIte, nI_leI, nI_ltI, nI_eq, nI_add, nI_1, pk_mul, ix_nI, ib_nI, if_true, if_false, eq_self, true_and, and_true, not_false_eq_true, not_true_eq_false, Nat.reduceEqDiff, Nat.reduceLeDiff, Nat.reduceLT, Nat.reduceAdd, Nat.reduceMul, Nat.le_refl]
  · obtain ⟨i, m⟩ := s
    obtain ⟨e, h1, h2⟩ := hs
    dsimp only at e h1 h2
    subst e
    refine ⟨(nI (k + 1), sI m (a + 4) k (nI 0)), ⟨rfl, ?_, h2.tr (Fr.sI (by unfold stepA; omega))⟩, ?_⟩
    · rw [rS_s]
      exact h1.fr ha (Fr.sI (by unfold stepA; omega)) (h1.2.2.2.2.setM hW.1 0 hk)
    · show St_rest_2b _ _ _ _ = St_rest_2 _ _ _ _
      simp (disch := omega) only [St_rest_2b, lA, zl_e, zs_e, li0, li1, li2, li3, li4, li5, li6, li7, li8, li9, li10, li11, li12, li13, li14, li15, li16, li17, li18, li19, li20, li21, li22, li23, li24, li25, li26, li27, li28, li29, li30, li31, li32, li37, li40, li41, li42, li43, li45, li47, li48, li57, li59, li60, li61, li63, li64, li75, li97, li98, li99, li100, li120, li122, li126, li200, li240, li255, li305, li306, li375, li400, li427, li428, li1000, li2000, li9999, neg_nI1, ↓reduceIte, nI_leI, nI_ltI, nI_eq, nI_add, nI_1, pk_mul, ix_nI, ib_nI, if_true, if_false, eq_self, true_and, and_true, not_false_eq_true, not_true_eq_false, Nat.reduceEqDiff, Nat.reduceLeDiff, Nat.reduceLT, Nat.reduceAdd, Nat.reduceMul, Nat.not_le.mpr hk]
theorem goS_gS {N S : Nat → Nat} {K : Nat → Nat → Nat} (hW : Wf N K S) {k : Nat} (hk : k < N 2) : goS N K (gS N K S k) k = goS N K S k := by
  obtain ⟨⟨n0, n1, n2, n3, n4, n5⟩, ⟨wp, wq, wo, ww, wi⟩, ⟨z0, zp, zq, zo, zw⟩⟩ := hW
  have h1 := zq k hk
  have e : gS N K S k (8 + k) = S (8 + k) := if_neg (by omega)
  have e2 : ∀ p, p < N 0 → gS N K S k (1 + p) = S (1 + p) := fun p hp => if_neg (by omega)
  unfold goS
  rw [e, bp_congr h1 e2 _ (Nat.le_refl _), bp_congr h1 e2 _ (Nat.le_refl _)]
theorem St_nextDay_52_eq {u : zM} {t a : Nat} {N S : Nat → Nat} {K : Nat → Nat → Nat} {E : Int32 → Int32 → Int32 → Int32 → Int32} (hW : Wf N K S) (hu : NowC u t N K E a S) (hA : StA a) (ha : 54 ≤ a) : ∃ u', St_nextDay_52 zF a t 0 u = some ((), u') ∧ NowC u' t N K E a (upN (rS (gS N K S (N 2)) 3) 0 (S 0 + 1)) ∧ Fr (stepA a t) u u' := by
  have hn2 : N 2 ≤ 5 := hW.1.2.2.1
  have lA := hA.1
  refine lprz (fun n (s : Int32 × zM) => St_nextDay_52 n a t s.1 s.2) (fun k s => s.1 = nI k ∧ NowC s.2 t N K E a (gS N K S k) ∧ Fr (stepA a t) u s.2) (fun r => ∃ u', r = some ((), u') ∧ NowC u' t N K E a (upN (rS (gS N K S (N 2)) 3) 0 (S 0 + 1)) ∧ Fr (stepA a t) u u') (N 2) (0, u) (by omega) ⟨rfl, by rw [gS_0]; exact hu, Fr.rf⟩ (fun n s hs => ?_) (fun n k s hk hs => Or.inr ?_)
  · obtain ⟨i, m⟩ := s
    obtain ⟨e, h1, h2⟩ := hs
    dsimp only at e h1 h2
    subst e
    obtain ⟨m', e1, h3, h4⟩ := St_rest_eq (gS_wf hW _ (Nat.le_refl _)) h1 hA ha
    have e0 : gI m' a 5 = nI (S 0) := h3.2.2.2.2.1
    refine ⟨sI m' a 5 (nI (S 0 + 1)), ?_, h3.fr ha (Fr.sI (by unfold stepA; omega)) (h3.2.2.2.2.setD (S 0 + 1)), (h2.tr h4).tr (Fr.sI (by unfold stepA; omega))⟩
    have hu := h1
    obtain ⟨rt, ht, ⟨⟨c0, c1, c2, c3, c4, c5⟩, cp, cq, co, cw, ci⟩, hl, ⟨s0, sp, sq, so, sw⟩⟩ := hu
    have lt := layT ht
    show St_nextDay_52b _ _ _ _ _ = _
    simp (disch := omega) only [St_nextDay_52b, lA, zl_e, zs_e, li0, li1, li2, li3, li4, li5, li6, li7, li8, li9, li10, li11, li12, li13, li14, li15, li16, li17, li18, li19, li20, li21, li22, li23, li24, li25, li26, li27, li28, li29, li30, li31, li32, li37, li40, li41, li42, li43, li45, li47, li48, li57, li59, li60, li61, li63, li64, li75, li97, li98, li99, li100, li120, li122, li126, li200, li240, li255, li305, li306, li375, li400, li427, li428, li1000, li2000, li9999, neg_nI1, ↓reduceIte, nI_leI, nI_ltI, nI_eq, nI_add, nI_1, pk_mul, ix_nI, ib_nI, if_true, if_false, eq_self, true_and, and_true, not_false_eq_true, not_true_eq_false, Nat.reduceEqDiff, Nat.reduceLeDiff, Nat.reduceLT, Nat.reduceAdd, Nat.reduceMul, rt, lt, c0, c1, c2, c3, c4, c5, cp, cq, co, cw, ci, s0, sp, sq, so, sw, Nat.le_refl, e1, e0]
  · obtain ⟨i, m⟩ := s
    obtain ⟨e, h1, h2⟩ := hs
    dsimp only at e h1 h2
    subst e
    have hg := goS_gS hW hk
    have hWk := gS_wf hW k (by omega)
    have b1 := St_bestPlace_eq hWk h1 hA (hWk.2.2.2.2.1 k hk) false
    have b2 := St_bestPlace_eq hWk h1 hA (hWk.2.2.2.2.1 k hk) true
    have b3 : lkI false = mI := rfl
    have b4 : lkI true = nI 1 := rfl
    rw [b3] at b1
    rw [b4] at b2
    have hh : ∀ y, y = goS N K S k → NowC (sI m (a + 2) k (nI y)) t N K E a (gS N K S (k + 1)) ∧ Fr (stepA a t) u (sI m (a + 2) k (nI y)) := fun y hy => by
      subst hy
      refine ⟨?_, h2.tr (Fr.sI (by unfold stepA; omega))⟩
      rw [gS_s]
      exact h1.fr ha (Fr.sI (by unfold stepA; omega)) (h1.2.2.2.2.setQ hW.1 _ (by omega))
    have hk3 := (hW.2.1.2.1 k hk).1
    have hu := h1
    have hW' := hWk
    obtain ⟨rt, ht, ⟨⟨c0, c1, c2, c3, c4, c5⟩, cp, cq, co, cw, ci⟩, hl, ⟨s0, sp, sq, so, sw⟩⟩ := hu
    have lt := layT ht
    have e52 : ∀ x, St_nextDay_52 (n + 1) a t x m = St_nextDay_52b (St_nextDay_52 n) a t x m := fun _ => rfl
    unfold goS at hg hh
    rw [e52]
    by_cases g1 : K 1 k = 1
    · rw [if_pos g1, if_pos g1] at hg
      refine ⟨(nI (k + 1), sI m (a + 2) k (nI (bp K (gS N K S k) false (gS N K S k (8 + k)) (N 0)))), ⟨rfl, hh _ (by rw [if_pos g1, hg])⟩, ?_⟩
      simp (maxSteps := 1000000) (disch := omega) only [St_nextDay_52b, lA, zl_e, zs_e, li0, li1, li2, li3, li4, li5, li6, li7, li8, li9, li10, li11, li12, li13, li14, li15, li16, li17, li18, li19, li20, li21, li22, li23, li24, li25, li26, li27, li28, li29, li30, li31, li32, li37, li40, li41, li42, li43, li45, li47, li48, li57, li59, li60, li61, li63, li64, li75, li97, li98, li99, li100, li120, li122, li126, li200, li240, li255, li305, li306, li375, li400, li427, li428, li1000, li2000, li9999, neg_nI1, ↓reduceIte, nI_leI, nI_ltI, nI_eq, nI_add, nI_1, pk_mul, ix_nI, ib_nI, if_true, if_false, eq_self, true_and, and_true, not_false_eq_true, not_true_eq_false, Nat.reduceEqDiff, Nat.reduceLeDiff, Nat.reduceLT, Nat.reduceAdd, Nat.reduceMul, rt, lt, c0, c1, c2, c3, c4, c5, cp, cq, co, cw, ci, s0, sp, sq, so, sw, Nat.not_le.mpr hk, g1, b1]
    · by_cases g2 : K 1 k = 2
      · rw [if_neg g1, if_neg g1, if_pos g2, if_pos g2] at hg
        refine ⟨(nI (k + 1), sI m (a + 2) k (nI (bp K (gS N K S k) true (gS N K S k (8 + k)) (N 0)))), ⟨rfl, hh _ (by rw [if_neg g1, if_pos g2, hg])⟩, ?_⟩
        simp (maxSteps := 1000000) (disch := omega) only [St_nextDay_52b, lA, zl_e, zs_e, li0, li1, li2, li3, li4, li5, li6, li7, li8, li9, li10, li11, li12, li13, li14, li15, li16, li17, li18, li19, li20, li21, li22, li23, li24, li25, li26, li27, li28, li29, li30, li31, li32, li37, li40, li41, li42, li43, li45, li47, li48, li57, li59, li60, li61, li63, li64, li75, li97, li98, li99, li100, li120, li122, li126, li200, li240, li255, li305, li306, li375, li400, li427, li428, li1000, li2000, li9999, neg_nI1, ↓reduceIte, nI_leI, nI_ltI, nI_eq, nI_add, nI_1, pk_mul, ix_nI, ib_nI, if_true, if_false, eq_self, true_and, and_true, not_false_eq_true, not_true_eq_false, Nat.reduceEqDiff, Nat.reduceLeDiff, Nat.reduceLT, Nat.reduceAdd, Nat.reduceMul, rt, lt, c0, c1, c2, c3, c4, c5, cp, cq, co, cw, ci, s0, sp, sq, so, sw, Nat.not_le.mpr hk, g1, g2, b2]
      · refine ⟨(nI (k + 1), m), ⟨rfl, ?_, h2⟩, ?_⟩
        · rw [gS_s]
          have e : upN (gS N K S k) (8 + k) (goS N K S k) = gS N K S k := by
            funext i
            unfold upN
            by_cases h : i = 8 + k
            · subst h
              rw [if_pos rfl]
              unfold goS
              rw [if_neg g1, if_neg g2]
              exact (if_neg (by omega)).symm
            · rw [if_neg h]
          rw [e]
          exact h1
        · simp (maxSteps := 1000000) (disch := omega) only [St_nextDay_52b, lA, zl_e, zs_e, li0, li1, li2, li3, li4, li5, li6, li7, li8, li9, li10, li11, li12, li13, li14, li15, li16, li17, li18, li19, li20, li21, li22, li23, li24, li25, li26, li27, li28, li29, li30, li31, li32, li37, li40, li41, li42, li43, li45, li47, li48, li57, li59, li60, li61, li63, li64, li75, li97, li98, li99, li100, li120, li122, li126, li200, li240, li255, li305, li306, li375, li400, li427, li428, li1000, li2000, li9999, neg_nI1, ↓reduceIte, nI_leI, nI_ltI, nI_eq, nI_add, nI_1, pk_mul, ix_nI, ib_nI, if_true, if_false, eq_self, true_and, and_true, not_false_eq_true, not_true_eq_false, Nat.reduceEqDiff, Nat.reduceLeDiff, Nat.reduceLT, Nat.reduceAdd, Nat.reduceMul, rt, lt, c0, c1, c2, c3, c4, c5, cp, cq, co, cw, ci, s0, sp, sq, so, sw, Nat.not_le.mpr hk, g1, g2]
theorem St_nextDay_eq {u : zM} {t a : Nat} {N S : Nat → Nat} {K : Nat → Nat → Nat} {E : Int32 → Int32 → Int32 → Int32 → Int32} (hW : Wf N K S) (hu : NowC u t N K E a S) (hA : StA a) (ha : 54 ≤ a) : ∃ u', St_nextDay a t u = some ((), u') ∧ NowC u' t N K E a (nextS E N K (rainS N K (S 0)) S) ∧ Fr (stepA a t) u u' := by
  have hn0 : N 0 ≤ 7 := hW.1.1
  have hz0 : S 0 < 2 ^ 20 := hW.2.2.1
  have lA := hA.1
  have e0 : gI u a 5 = nI (S 0) := hu.2.2.2.2.1
  unfold St_nextDay
  rw [if_pos lA, if_pos (layT hu.2.1), e0, zb_eq (Co_rainOf_eq hW hu (by omega))]
  generalize rainS N K (S 0) = f
  refine lprz (fun n (s : Int32 × zM) => St_nextDay_11 n a t (nI f) s.1 s.2) (fun k s => s.1 = nI k ∧ NowC s.2 t N K E a (wS E K f S k) ∧ Fr (stepA a t) u s.2) (fun r => ∃ u', r = some ((), u') ∧ NowC u' t N K E a (nextS E N K f S) ∧ Fr (stepA a t) u u') (N 0) (0, u) (by omega) ⟨rfl, by rw [wS_0]; exact hu, Fr.rf⟩ (fun n s hs => ?_) (fun n k s hk hs => Or.inr ?_)
  · obtain ⟨i, m⟩ := s
    obtain ⟨e, h1, h2⟩ := hs
    dsimp only at e h1 h2
    subst e
    obtain ⟨m', e1, h3, h4⟩ := St_nextDay_52_eq (wS_wf hW f _ (Nat.le_refl _)) h1 hA ha
    refine ⟨m', ?_, h3, h2.tr h4⟩
    have hu := h1
    obtain ⟨rt, ht, ⟨⟨c0, c1, c2, c3, c4, c5⟩, cp, cq, co, cw, ci⟩, hl, ⟨s0, sp, sq, so, sw⟩⟩ := hu
    have lt := layT ht
    have e2 : St_nextDay_52 zF a t (nI 0) m = some ((), m') := e1
    show St_nextDay_11b _ _ _ _ _ _ = _
    simp (disch := omega) only [St_nextDay_11b, lA, zl_e, zs_e, li0, li1, li2, li3, li4, li5, li6, li7, li8, li9, li10, li11, li12, li13, li14, li15, li16, li17, li18, li19, li20, li21, li22, li23, li24, li25, li26, li27, li28, li29, li30, li31, li32, li37, li40, li41, li42, li43, li45, li47, li48, li57, li59, li60, li61, li63, li64, li75, li97, li98, li99, li100, li120, li122, li126, li200, li240, li255, li305, li306, li375, li400, li427, li428, li1000, li2000, li9999, neg_nI1, ↓reduceIte, nI_leI, nI_ltI, nI_eq, nI_add, nI_1, pk_mul, ix_nI, ib_nI, if_true, if_false, eq_self, true_and, and_true, not_false_eq_true, not_true_eq_false, Nat.reduceEqDiff, Nat.reduceLeDiff, Nat.reduceLT, Nat.reduceAdd, Nat.reduceMul, rt, lt, c0, c1, c2, c3, c4, c5, cp, cq, co, cw, ci, s0, sp, sq, so, sw, Nat.le_refl, e2]
  · obtain ⟨i, m⟩ := s
    obtain ⟨e, h1, h2⟩ := hs
    dsimp only at e h1 h2
    subst e
    have hWk := wS_wf (E := E) hW f k (by omega)
    obtain ⟨m', e1, hF⟩ := Co_waterBehind_eq hWk h1 (l := S (1 + k)) (f := f) (d := S 0) hk
    have hF' : Fr (stepA a t) m m' := hF.mono (fun c k h => Or.inr h)
    have ew : wS E K f S k (1 + k) = S (1 + k) := if_neg (by omega)
    have ed : wS E K f S k 0 = S 0 := if_neg (by omega)
    refine ⟨(nI (k + 1), sI m' (a + 1) k (nI (wbS E K k (S (1 + k)) f (S 0)))), ⟨rfl, ?_, (h2.tr hF').tr (Fr.sI (by unfold stepA; omega))⟩, ?_⟩
    · rw [wS_s]
      exact h1.fr ha (hF'.tr (Fr.sI (by unfold stepA; omega))) ((h1.2.2.2.2.sc hW.1 ha h1.2.1 hF).setW hW.1 _ (by omega))
    · have hu := h1
      obtain ⟨rt, ht, ⟨⟨c0, c1, c2, c3, c4, c5⟩, cp, cq, co, cw, ci⟩, hl, ⟨s0, sp, sq, so, sw⟩⟩ := hu
      have lt := layT ht
      rw [ed] at s0
      have sp' := sp k hk
      rw [ew] at sp'
      show St_nextDay_11b _ _ _ _ _ _ = St_nextDay_11 _ _ _ _ _ _
      simp (disch := omega) only [St_nextDay_11b, lA, lt, c0, s0, sp', zl_e, zs_e, li0, li1, li2, li3, li4, li5, li6, li7, li8, li9, li10, li11, li12, li13, li14, li15, li16, li17, li18, li19, li20, li21, li22, li23, li24, li25, li26, li27, li28, li29, li30, li31, li32, li37, li40, li41, li42, li43, li45, li47, li48, li57, li59, li60, li61, li63, li64, li75, li97, li98, li99, li100, li120, li122, li126, li200, li240, li255, li305, li306, li375, li400, li427, li428, li1000, li2000, li9999, neg_nI1, ↓reduceIte, nI_leI, nI_ltI, nI_eq, nI_add, nI_1, pk_mul, ix_nI, ib_nI, if_true, if_false, eq_self, true_and, and_true, not_false_eq_true, not_true_eq_false, Nat.reduceEqDiff, Nat.reduceLeDiff, Nat.reduceLT, Nat.reduceAdd, Nat.reduceMul, Nat.not_le.mpr hk, e1]
