/-! ===== bundles; the first questions ===== -/
theorem layT {t : Nat} (h : t = 4 ∨ t = 25) : layC t = (10, 16) := by rcases h with h | h <;> subst h <;> rfl
/-- what is told by wets: the class's law at t, the reference's -/
def LwC (u : zM) (t : Nat) (E : Int32 → Int32 → Int32 → Int32 → Int32) : Prop :=
  ∀ u', (∀ k, gI u' (t + 18) k = gI u (t + 18) k ∧ gI u' (t + 19) k = gI u (t + 19) k) → ∀ l f w d, ∃ u'', La_tells (t + 18) l f w d u' = some (E l f w d, u'') ∧ Fr (fun a _ => a = t + 20) u' u''
def LwM (v : zM) (E : Int32 → Int32 → Int32 → Int32 → Int32) : Prop :=
  ∀ v', (gI v' 17 0 = gI v 17 0 ∧ gI v' 18 0 = gI v 18 0 ∧ ∀ k, k < 1000 → gI v' 19 k = gI v 19 k) →
    (gI v' 18 0 ≤ gI v' 17 0 → ∀ l f w d, E l f w d = l + f - 1) ∧
    (¬ gI v' 18 0 ≤ gI v' 17 0 → ∃ v'', Mo_worked 0 v' = some (E (gI v' 31 1) (gI v' 31 2) (gI v' 31 3) (gI v' 31 4), v'') ∧ Fr (fun a _ => 22 ≤ a ∧ a ≤ 30) v' v'')
def Wf (N : Nat → Nat) (K : Nat → Nat → Nat) (S : Nat → Nat) : Prop := WfN N ∧ WfK N K ∧ WfS N S
def NowC (u : zM) (t : Nat) (N : Nat → Nat) (K : Nat → Nat → Nat) (E : Int32 → Int32 → Int32 → Int32 → Int32) (a : Nat) (S : Nat → Nat) : Prop :=
  gR u 1 1 = t ∧ (t = 4 ∨ t = 25) ∧ CtyC u t N K ∧ LwC u t E ∧ StC u a N S
def NowM (v : zM) (N : Nat → Nat) (K : Nat → Nat → Nat) (E : Int32 → Int32 → Int32 → Int32 → Int32) (S : Nat → Nat) : Prop :=
  CtyM v N K ∧ LwM v E ∧ StM v 40 0 N S
/-- frames of the parts -/
theorem LwC.fr {u u' : zM} {t : Nat} {E : Int32 → Int32 → Int32 → Int32 → Int32} (h : LwC u t E) (hf : ∀ k, gI u' (t + 18) k = gI u (t + 18) k ∧ gI u' (t + 19) k = gI u (t + 19) k) : LwC u' t E :=
  fun w hw => h w (fun k => ⟨((hw k).1).trans (hf k).1, ((hw k).2).trans (hf k).2⟩)
theorem LwM.fr {v v' : zM} {E : Int32 → Int32 → Int32 → Int32 → Int32} (h : LwM v E) (hf : gI v' 17 0 = gI v 17 0 ∧ gI v' 18 0 = gI v 18 0 ∧ ∀ k, k < 1000 → gI v' 19 k = gI v 19 k) : LwM v' E :=
  fun w hw => h w ⟨hw.1.trans hf.1, hw.2.1.trans hf.2.1, fun k hk => (hw.2.2 k hk).trans (hf.2.2 k hk)⟩
theorem CtyM.fr {v v' : zM} {N : Nat → Nat} {K : Nat → Nat → Nat} (h : CtyM v N K) (hN : WfN N) (hf : ∀ a k, (a = 3 ∧ k < 6) ∨ (8 ≤ a ∧ a ≤ 16 ∧ k < 12) → gI v' a k = gI v a k) : CtyM v' N K := by
  obtain ⟨n0, n1, n2, n3, n4, n5⟩ := hN
  obtain ⟨h0, h1, h2, h3, h4, h5⟩ := h
  refine ⟨fun i hi => ?_, fun p hp => ⟨?_, ?_⟩, fun p hp => ⟨?_, ?_⟩, fun p hp => ⟨?_, ?_⟩, fun p hp => ⟨?_, ?_⟩, fun i hi => ?_⟩
  · rw [hf _ _ (by omega), h0 i hi]
  · rw [hf _ _ (by omega), (h1 p hp).1]
  · rw [hf _ _ (by omega), (h1 p hp).2]
  · rw [hf _ _ (by omega), (h2 p hp).1]
  · rw [hf _ _ (by omega), (h2 p hp).2]
  · rw [hf _ _ (by omega), (h3 p hp).1]
  · rw [hf _ _ (by omega), (h3 p hp).2]
  · rw [hf _ _ (by omega), (h4 p hp).1]
  · rw [hf _ _ (by omega), (h4 p hp).2]
  · rw [hf _ _ (by omega), h5 i hi]
theorem CtyC.fr {u u' : zM} {t : Nat} {N : Nat → Nat} {K : Nat → Nat → Nat} (h : CtyC u t N K) (hf : ∀ a k, t ≤ a ∧ a ≤ t + 17 → gI u' a k = gI u a k) : CtyC u' t N K := by
  obtain ⟨⟨a0, a1, a2, a3, a4, a5⟩, h1, h2, h3, h4, h5⟩ := h
  refine ⟨⟨?_, ?_, ?_, ?_, ?_, ?_⟩, fun p hp => ⟨?_, ?_⟩, fun p hp => ⟨?_, ?_⟩, fun p hp => ⟨?_, ?_⟩, fun p hp => ⟨?_, ?_⟩, fun i hi => ?_⟩
  · rw [hf _ _ (by omega), a0]
  · rw [hf _ _ (by omega), a1]
  · rw [hf _ _ (by omega), a2]
  · rw [hf _ _ (by omega), a3]
  · rw [hf _ _ (by omega), a4]
  · rw [hf _ _ (by omega), a5]
  · rw [hf _ _ (by omega), (h1 p hp).1]
  · rw [hf _ _ (by omega), (h1 p hp).2]
  · rw [hf _ _ (by omega), (h2 p hp).1]
  · rw [hf _ _ (by omega), (h2 p hp).2]
  · rw [hf _ _ (by omega), (h3 p hp).1]
  · rw [hf _ _ (by omega), (h3 p hp).2]
  · rw [hf _ _ (by omega), (h4 p hp).1]
  · rw [hf _ _ (by omega), (h4 p hp).2]
  · rw [hf _ _ (by omega), h5 i hi]
theorem StM.fr {v v' : zM} {A o B o' : Nat} {N S : Nat → Nat} (h : StM v A o N S) (hN : WfN N) (hf : ∀ k, k < 25 → gI v' B (o' + k) = gI v A (o + k)) : StM v' B o' N S := by
  obtain ⟨n0, n1, n2, n3, n4, n5⟩ := hN
  obtain ⟨h0, h1, h2, h3, h4⟩ := h
  refine ⟨?_, fun p hp => ?_, fun p hp => ?_, fun p hp => ⟨?_, ?_⟩, fun p hp => ?_⟩
  · have := hf 0 (by omega)
    rw [Nat.add_zero, Nat.add_zero] at this
    rw [this, h0]
  · rw [hf _ (by omega), h1 p hp]
  · rw [hf _ (by omega), h2 p hp]
  · rw [hf _ (by omega), (h3 p hp).1]
  · rw [hf _ (by omega), (h3 p hp).2]
  · rw [hf _ (by omega), h4 p hp]
/-- the slots of a state of the class that count: so many of each row -/
def stn (j : Nat) : Nat := ([6, 7, 5, 3, 3, 6] : List Nat).getD j 0
theorem StC.fr {u u' : zM} {a b : Nat} {N S : Nat → Nat} (h : StC u a N S) (hN : WfN N) (hf : ∀ j k, j < 6 → k < stn j → (j = 0 → k = 5) → gI u' (b + j) k = gI u (a + j) k) : StC u' b N S := by
  obtain ⟨n0, n1, n2, n3, n4, n5⟩ := hN
  obtain ⟨h0, h1, h2, h3, h4⟩ := h
  refine ⟨?_, fun p hp => ?_, fun p hp => ?_, fun p hp => ⟨?_, ?_⟩, fun p hp => ?_⟩
  · have := hf 0 5 (by omega) (by decide) (fun _ => rfl)
    rw [Nat.add_zero, Nat.add_zero] at this
    rw [this, h0]
  · rw [hf 1 p (by omega) (by show p < 7; omega) (by omega), h1 p hp]
  · rw [hf 2 p (by omega) (by show p < 5; omega) (by omega), h2 p hp]
  · rw [hf 3 p (by omega) (by show p < 3; omega) (by omega), (h3 p hp).1]
  · rw [hf 4 p (by omega) (by show p < 3; omega) (by omega), (h3 p hp).2]
  · rw [hf 5 p (by omega) (by show p < 6; omega) (by omega), h4 p hp]
/-- truths as numbers -/
def bI (b : Bool) : Int32 := if b = true then nI 1 else nI 0
theorem bI_t : bI true = nI 1 := rfl
theorem bI_f : bI false = nI 0 := rfl
theorem bI_0 {b : Bool} : bI b = nI 0 ↔ b = false := by cases b <;> decide
theorem bI_1 {b : Bool} : bI b = nI 1 ↔ b = true := by cases b <;> decide
theorem zbo_bI (b : Bool) (u : zM) : zbo (bI b) u = some (bI b, u) := by cases b <;> rfl
/-- an argument that is one of n, or isn't -/
theorem inx_ok {j n : Nat} (h : j < n) (hn : n < 2 ^ 31) : ¬ nI j < nI 0 ∧ ¬ nI n ≤ nI j := ⟨nI_nlt (Nat.zero_le _) (by omega), nI_ge h hn⟩
theorem sub1_le {x : Int32} {n : Nat} (hn : n < 2 ^ 31) : nI n - nI 1 < x ↔ nI n ≤ x := by
  rw [Int32.lt_iff_toInt_lt, Int32.le_iff_toInt_le]
  have e : (nI n - nI 1).toInt = (n : Int) - 1 := by
    rw [Int32.toInt_sub, nI_toInt hn, nI_toInt (by omega)]
    exact Int.bmod_eq_of_le (by omega) (by omega)
  rw [e, nI_toInt hn]
  omega
theorem within_ok {j n : Nat} {u : zM} (h : j < n) (hn : n < 2 ^ 31) : OW_within (nI j) (nI 0) (nI n - nI 1) u = some (nI 1, u) := by
  unfold OW_within
  rw [if_neg (inx_ok h hn).1, if_neg (by rw [sub1_le hn]; exact (inx_ok h hn).2)]
  rfl
theorem within_no {x : Int32} {n : Nat} {u : zM} (h : x < nI 0 ∨ nI n ≤ x) (hn : n < 2 ^ 31) : OW_within x (nI 0) (nI n - nI 1) u = some (nI 0, u) := by
  unfold OW_within
  rcases h with h | h
  · rw [if_pos h]
    rfl
  · by_cases h0 : x < nI 0
    · rw [if_pos h0]; rfl
    · rw [if_neg h0, if_pos (by rw [sub1_le hn]; exact h)]
      rfl
/-- bits of a row -/
theorem OW_bitsOf_eq {u : zM} {r len n : Nat} (hl : layC r = (1, len)) (hn : n ≤ len) (h10 : len ≤ 10) (P : Nat → Bool) (x : Int32) (hf : ∀ i, i < n → (gI u r i = x ↔ P i = true)) : OW_bitsOf r (nI n) x u = some (nI (mk P n), u) := by
  unfold OW_bitsOf
  rw [hl]
  rw [if_pos rfl]
  refine lpz (fun n' (s : Int32 × Int32) => OW_bitsOf_5 n' r (nI n) x s.1 s.2 u) (fun k => (nI (mk P k), nI k)) n _ (by omega) (fun n' => ?_) (fun n' k hk => ?_)
  · show OW_bitsOf_5b _ _ _ _ _ _ _ = _
    simp (disch := omega) only [OW_bitsOf_5b, hl, li0, li1, li2, li3, li4, li5, li6, li7, li8, li9, li10, li11, li12, li13, li14, li15, li16, li17, li18, li19, li20, li21, li22, li23, li24, li25, li26, li27, li28, li29, li30, li31, li32, li37, li40, li41, li42, li43, li45, li47, li48, li57, li59, li60, li61, li63, li64, li75, li97, li98, li99, li100, li120, li122, li126, li200, li240, li255, li305, li306, li375, li400, li427, li428, li1000, li2000, li9999, neg_nI1, ↓reduceIte, nI_leI, nI_ltI, nI_eq, nI_add, nI_1, pk_mul, ix_nI, ib_nI, if_true, if_false, eq_self, true_and, and_true, not_false_eq_true, not_true_eq_false, Nat.reduceEqDiff, Nat.reduceLeDiff, Nat.reduceLT, Nat.reduceAdd, Nat.reduceMul, Nat.le_refl]
  · show OW_bitsOf_5b _ _ _ _ _ _ _ = OW_bitsOf_5 _ _ _ _ _ _ _
    have h3 : Nat.toInt32 len = nI len := rfl
    simp (disch := omega) only [OW_bitsOf_5b, hl, h3, zl_e, zs_e, li0, li1, li2, li3, li4, li5, li6, li7, li8, li9, li10, li11, li12, li13, li14, li15, li16, li17, li18, li19, li20, li21, li22, li23, li24, li25, li26, li27, li28, li29, li30, li31, li32, li37, li40, li41, li42, li43, li45, li47, li48, li57, li59, li60, li61, li63, li64, li75, li97, li98, li99, li100, li120, li122, li126, li200, li240, li255, li305, li306, li375, li400, li427, li428, li1000, li2000, li9999, neg_nI1, ↓reduceIte, nI_leI, nI_ltI, nI_eq, nI_add, nI_1, pk_mul, ix_nI, ib_nI, if_true, if_false, eq_self, true_and, and_true, not_false_eq_true, not_true_eq_false, Nat.reduceEqDiff, Nat.reduceLeDiff, Nat.reduceLT, Nat.reduceAdd, Nat.reduceMul, Nat.not_le.mpr hk, Nat.not_le.mpr (Nat.lt_of_lt_of_le hk hn), hf k hk, bn_or (mk_lt10 _ (show k < 10 by omega))]
    cases h : P k
    · rw [if_neg (by decide), mk_f h]
    · rw [if_pos rfl, mk_t h]
/-! the reference's sets -/
def whoS (N S : Nat → Nat) (p : Nat) : Nat := mk (fun q => decide (S (8 + q) = p)) (N 2)
def ottS (N S : Nat → Nat) (p : Nat) : Nat := mk (fun o => decide (S (13 + o) = p)) (N 3)
def wriS (N S : Nat → Nat) (h : Nat) : Nat := mk (fun w => decide (S (19 + w) = h)) (N 4)
theorem Mo_whoAt_eq {v : zM} {N S : Nat → Nat} {K : Nat → Nat → Nat} {E : Int32 → Int32 → Int32 → Int32 → Int32} (hW : Wf N K S) (hz : NowM v N K E S) {p : Nat} (hp : p < 7) : Mo_whoAt (nI p) v = some (nI (whoS N S p), v) := by
  obtain ⟨⟨n0, n1, n2, n3, n4, n5⟩, ⟨wp, wq, wo, ww, wi⟩, ⟨z0, zp, zq, zo, zw⟩⟩ := hW
  obtain ⟨⟨m0, mp, mq, mo, mw, mi⟩, hlm, ⟨x0, xp, xq, xo, xw⟩⟩ := hz
  simp only [Nat.zero_add] at x0 xp xq xo xw
  unfold Mo_whoAt whoS
  refine lpz (fun n (s : Int32 × Int32) => Mo_whoAt_4 n (nI p) s.1 s.2 v) (fun k => (nI (mk (fun q => decide (S (8 + q) = p)) k), nI k)) (N 2) _ (by omega) (fun n => ?_) (fun n k hk => ?_)
  · show Mo_whoAt_4b _ _ _ _ _ = _
    simp (disch := omega) only [Mo_whoAt_4b, li0, li1, li2, li3, li4, li5, li6, li7, li8, li9, li10, li11, li12, li13, li14, li15, li16, li17, li18, li19, li20, li21, li22, li23, li24, li25, li26, li27, li28, li29, li30, li31, li32, li37, li40, li41, li42, li43, li45, li47, li48, li57, li59, li60, li61, li63, li64, li75, li97, li98, li99, li100, li120, li122, li126, li200, li240, li255, li305, li306, li375, li400, li427, li428, li1000, li2000, li9999, neg_nI1, ↓reduceIte, nI_leI, nI_ltI, nI_eq, nI_add, nI_1, pk_mul, ix_nI, ib_nI, if_true, if_false, eq_self, true_and, and_true, not_false_eq_true, not_true_eq_false, Nat.reduceEqDiff, Nat.reduceLeDiff, Nat.reduceLT, Nat.reduceAdd, Nat.reduceMul, m0, mp, mq, mo, mw, mi, x0, xp, xq, xo, xw, Nat.le_refl]
  · show Mo_whoAt_4b _ _ _ _ _ = Mo_whoAt_4 _ _ _ _ _
    have h9 := zq k hk
    simp (disch := omega) only [Mo_whoAt_4b, zl_e, zs_e, li0, li1, li2, li3, li4, li5, li6, li7, li8, li9, li10, li11, li12, li13, li14, li15, li16, li17, li18, li19, li20, li21, li22, li23, li24, li25, li26, li27, li28, li29, li30, li31, li32, li37, li40, li41, li42, li43, li45, li47, li48, li57, li59, li60, li61, li63, li64, li75, li97, li98, li99, li100, li120, li122, li126, li200, li240, li255, li305, li306, li375, li400, li427, li428, li1000, li2000, li9999, neg_nI1, ↓reduceIte, nI_leI, nI_ltI, nI_eq, nI_add, nI_1, pk_mul, ix_nI, ib_nI, if_true, if_false, eq_self, true_and, and_true, not_false_eq_true, not_true_eq_false, Nat.reduceEqDiff, Nat.reduceLeDiff, Nat.reduceLT, Nat.reduceAdd, Nat.reduceMul, m0, mp, mq, mo, mw, mi, x0, xp, xq, xo, xw, Nat.not_le.mpr hk, bn_or0, bn_or (mk_lt10 _ (show k < 10 by omega))]
    by_cases h : S (8 + k) = p
    · rw [if_pos h, mk_t (by simp [h])]
    · rw [if_neg h, mk_f (by simp [h])]
theorem Mo_writsOf_eq {v : zM} {N S : Nat → Nat} {K : Nat → Nat → Nat} {E : Int32 → Int32 → Int32 → Int32 → Int32} (hW : Wf N K S) (hz : NowM v N K E S) {p : Nat} (hp : p < 4) : Mo_writsOf (nI p) v = some (nI (wriS N S p), v) := by
  obtain ⟨⟨n0, n1, n2, n3, n4, n5⟩, ⟨wp, wq, wo, ww, wi⟩, ⟨z0, zp, zq, zo, zw⟩⟩ := hW
  obtain ⟨⟨m0, mp, mq, mo, mw, mi⟩, hlm, ⟨x0, xp, xq, xo, xw⟩⟩ := hz
  simp only [Nat.zero_add] at x0 xp xq xo xw
  unfold Mo_writsOf wriS
  refine lpz (fun n (s : Int32 × Int32) => Mo_writsOf_4 n (nI p) s.1 s.2 v) (fun k => (nI (mk (fun q => decide (S (19 + q) = p)) k), nI k)) (N 4) _ (by omega) (fun n => ?_) (fun n k hk => ?_)
  · show Mo_writsOf_4b _ _ _ _ _ = _
    simp (disch := omega) only [Mo_writsOf_4b, li0, li1, li2, li3, li4, li5, li6, li7, li8, li9, li10, li11, li12, li13, li14, li15, li16, li17, li18, li19, li20, li21, li22, li23, li24, li25, li26, li27, li28, li29, li30, li31, li32, li37, li40, li41, li42, li43, li45, li47, li48, li57, li59, li60, li61, li63, li64, li75, li97, li98, li99, li100, li120, li122, li126, li200, li240, li255, li305, li306, li375, li400, li427, li428, li1000, li2000, li9999, neg_nI1, ↓reduceIte, nI_leI, nI_ltI, nI_eq, nI_add, nI_1, pk_mul, ix_nI, ib_nI, if_true, if_false, eq_self, true_and, and_true, not_false_eq_true, not_true_eq_false, Nat.reduceEqDiff, Nat.reduceLeDiff, Nat.reduceLT, Nat.reduceAdd, Nat.reduceMul, m0, mp, mq, mo, mw, mi, x0, xp, xq, xo, xw, Nat.le_refl]
  · show Mo_writsOf_4b _ _ _ _ _ = Mo_writsOf_4 _ _ _ _ _
    have h9 := zw k hk
    simp (disch := omega) only [Mo_writsOf_4b, zl_e, zs_e, li0, li1, li2, li3, li4, li5, li6, li7, li8, li9, li10, li11, li12, li13, li14, li15, li16, li17, li18, li19, li20, li21, li22, li23, li24, li25, li26, li27, li28, li29, li30, li31, li32, li37, li40, li41, li42, li43, li45, li47, li48, li57, li59, li60, li61, li63, li64, li75, li97, li98, li99, li100, li120, li122, li126, li200, li240, li255, li305, li306, li375, li400, li427, li428, li1000, li2000, li9999, neg_nI1, ↓reduceIte, nI_leI, nI_ltI, nI_eq, nI_add, nI_1, pk_mul, ix_nI, ib_nI, if_true, if_false, eq_self, true_and, and_true, not_false_eq_true, not_true_eq_false, Nat.reduceEqDiff, Nat.reduceLeDiff, Nat.reduceLT, Nat.reduceAdd, Nat.reduceMul, m0, mp, mq, mo, mw, mi, x0, xp, xq, xo, xw, hv_eq, Nat.not_le.mpr hk, bn_or0, bn_or (mk_lt10 _ (show k < 10 by omega))]
    by_cases h : S (19 + k) = p
    · rw [if_pos h, mk_t (by simp [h])]
    · rw [if_neg h, mk_f (by simp [h])]
theorem Mo_place_69_eq {v : zM} {N S : Nat → Nat} {K : Nat → Nat → Nat} {E : Int32 → Int32 → Int32 → Int32 → Int32} (hW : Wf N K S) (hz : NowM v N K E S) {p : Nat} (hp : p < 7) : Mo_place_69 zF (nI p) (nI 0) (nI 0) v = some (nI (ottS N S p), v) := by
  obtain ⟨⟨n0, n1, n2, n3, n4, n5⟩, ⟨wp, wq, wo, ww, wi⟩, ⟨z0, zp, zq, zo, zw⟩⟩ := hW
  obtain ⟨⟨m0, mp, mq, mo, mw, mi⟩, hlm, ⟨x0, xp, xq, xo, xw⟩⟩ := hz
  simp only [Nat.zero_add] at x0 xp xq xo xw
  unfold ottS
  refine lpz (fun n (s : Int32 × Int32) => Mo_place_69 n (nI p) s.1 s.2 v) (fun k => (nI (mk (fun q => decide (S (13 + q) = p)) k), nI k)) (N 3) _ (by omega) (fun n => ?_) (fun n k hk => ?_)
  · show Mo_place_69b _ _ _ _ _ = _
    simp (disch := omega) only [Mo_place_69b, li0, li1, li2, li3, li4, li5, li6, li7, li8, li9, li10, li11, li12, li13, li14, li15, li16, li17, li18, li19, li20, li21, li22, li23, li24, li25, li26, li27, li28, li29, li30, li31, li32, li37, li40, li41, li42, li43, li45, li47, li48, li57, li59, li60, li61, li63, li64, li75, li97, li98, li99, li100, li120, li122, li126, li200, li240, li255, li305, li306, li375, li400, li427, li428, li1000, li2000, li9999, neg_nI1, ↓reduceIte, nI_leI, nI_ltI, nI_eq, nI_add, nI_1, pk_mul, ix_nI, ib_nI, if_true, if_false, eq_self, true_and, and_true, not_false_eq_true, not_true_eq_false, Nat.reduceEqDiff, Nat.reduceLeDiff, Nat.reduceLT, Nat.reduceAdd, Nat.reduceMul, m0, mp, mq, mo, mw, mi, x0, xp, xq, xo, xw, Nat.le_refl]
  · show Mo_place_69b _ _ _ _ _ = Mo_place_69 _ _ _ _ _
    have h9 := zo k hk
    simp (disch := omega) only [Mo_place_69b, zl_e, zs_e, li0, li1, li2, li3, li4, li5, li6, li7, li8, li9, li10, li11, li12, li13, li14, li15, li16, li17, li18, li19, li20, li21, li22, li23, li24, li25, li26, li27, li28, li29, li30, li31, li32, li37, li40, li41, li42, li43, li45, li47, li48, li57, li59, li60, li61, li63, li64, li75, li97, li98, li99, li100, li120, li122, li126, li200, li240, li255, li305, li306, li375, li400, li427, li428, li1000, li2000, li9999, neg_nI1, ↓reduceIte, nI_leI, nI_ltI, nI_eq, nI_add, nI_1, pk_mul, ix_nI, ib_nI, if_true, if_false, eq_self, true_and, and_true, not_false_eq_true, not_true_eq_false, Nat.reduceEqDiff, Nat.reduceLeDiff, Nat.reduceLT, Nat.reduceAdd, Nat.reduceMul, m0, mp, mq, mo, mw, mi, x0, xp, xq, xo, xw, Nat.not_le.mpr hk, bn_or0, bn_or (mk_lt10 _ (show k < 10 by omega))]
    by_cases h : S (13 + k) = p
    · rw [if_pos h, mk_t (by simp [h])]
    · rw [if_neg h, mk_f (by simp [h])]
