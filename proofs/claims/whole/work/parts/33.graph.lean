/-! ===== what hangs together ===== -/
def nx (L : Nat → Nat) (s : Nat) : Nat → Nat
  | 0 => 0
  | k + 1 => if s.testBit k then nx L s k ||| L k else nx L s k
theorem nx_s (L : Nat → Nat) (s k : Nat) : nx L s (k + 1) = if s.testBit k then nx L s k ||| L k else nx L s k := rfl
theorem or128 {a b : Nat} (ha : a < 128) (hb : b < 128) : a ||| b < 128 := Nat.or_lt_two_pow (n := 7) ha hb
theorem and128 {a b : Nat} (ha : a < 128) : a &&& b < 128 := Nat.lt_of_le_of_lt Nat.and_le_left ha
theorem nx_lt {L : Nat → Nat} {s n : Nat} (h : ∀ p, p < n → L p < 128) : ∀ k, k ≤ n → nx L s k < 128 := by
  intro k
  induction k with
  | zero => intro _; exact (by decide : (0 : Nat) < 128)
  | succ k ih =>
    intro hk
    rw [nx_s]
    split
    · exact or128 (ih (by omega)) (h k (by omega))
    · exact ih (by omega)
theorem nxN_lt {L : Nat → Nat} {s n : Nat} (h : ∀ p, p < n → L p < 2 ^ n) : ∀ k, k ≤ n → nx L s k < 2 ^ n := by
  intro k
  induction k with
  | zero => intro _; exact Nat.two_pow_pos n
  | succ k ih =>
    intro hk
    rw [nx_s]
    split
    · exact Nat.or_lt_two_pow (ih (by omega)) (h k (by omega))
    · exact ih (by omega)
theorem nx_0 (L : Nat → Nat) (k : Nat) : nx L 0 k = 0 := by
  induction k with
  | zero => rfl
  | succ k ih => rw [nx_s, ih]; simp
def LkM (v : zM) (n : Nat) (L : Nat → Nat) : Prop := n ≤ 7 ∧ gI v 3 0 = nI n ∧ ∀ p, p < n → gI v 9 p = nI (L p) ∧ L p < 128
def LkC (u : zM) (t n : Nat) (L : Nat → Nat) : Prop := n ≤ 7 ∧ layC t = (10, 16) ∧ gI u (t + 1) 1 = nI n ∧ ∀ p, p < n → gI u (t + 10) p = nI (L p) ∧ L p < 128
theorem NowM.lk {v : zM} {N S : Nat → Nat} {K : Nat → Nat → Nat} {E : Int32 → Int32 → Int32 → Int32 → Int32} (hW : Wf N K S) (hz : NowM v N K E S) : LkM v (N 0) (K 0) := by
  obtain ⟨⟨n0, n1, n2, n3, n4, n5⟩, ⟨wp, wq, wo, ww, wi⟩, ⟨z0, zp, zq, zo, zw⟩⟩ := hW
  obtain ⟨⟨m0, mp, mq, mo, mw, mi⟩, hlm, ⟨x0, xp, xq, xo, xw⟩⟩ := hz
  simp only [Nat.zero_add] at x0 xp xq xo xw
  exact ⟨n0, m0 0 (by omega), fun p hp => ⟨(mp p hp).1, Nat.lt_of_lt_of_le (wp p hp).1 (pw7 n0)⟩⟩
theorem NowC.lk {u : zM} {t a : Nat} {N S : Nat → Nat} {K : Nat → Nat → Nat} {E : Int32 → Int32 → Int32 → Int32 → Int32} (hW : Wf N K S) (hu : NowC u t N K E a S) : LkC u t (N 0) (K 0) := by
  obtain ⟨⟨n0, n1, n2, n3, n4, n5⟩, ⟨wp, wq, wo, ww, wi⟩, ⟨z0, zp, zq, zo, zw⟩⟩ := hW
  obtain ⟨rt, ht, ⟨⟨c0, c1, c2, c3, c4, c5⟩, cp, cq, co, cw, ci⟩, hl, ⟨s0, sp, sq, so, sw⟩⟩ := hu
  have lt := layT ht
  exact ⟨n0, lt, c0, fun p hp => ⟨(cp p hp).1, Nat.lt_of_lt_of_le (wp p hp).1 (pw7 n0)⟩⟩
theorem Mo_nextTo_eq {v : zM} {n : Nat} {L : Nat → Nat} (h : LkM v n L) {s : Nat} (hs : s < 128) : Mo_nextTo (nI s) v = some (nI (nx L s n), v) := by
  obtain ⟨h7, h0, h1⟩ := h
  unfold Mo_nextTo
  refine lpz (fun n' (z : Int32 × Int32) => Mo_nextTo_4 n' (nI s) z.1 z.2 v) (fun k => (nI (nx L s k), nI k)) n _ (by omega) (fun n' => ?_) (fun n' k hk => ?_)
  · show Mo_nextTo_4b _ _ _ _ _ = _
    simp (disch := omega) only [Mo_nextTo_4b, h0, li0, li1, li2, li3, li4, li5, li6, li7, li8, li9, li10, li11, li12, li13, li14, li15, li16, li17, li18, li19, li20, li21, li22, li23, li24, li25, li26, li27, li28, li29, li30, li31, li32, li37, li40, li41, li42, li43, li45, li47, li48, li57, li59, li60, li61, li63, li64, li75, li97, li98, li99, li100, li120, li122, li126, li200, li240, li255, li305, li306, li375, li400, li427, li428, li1000, li2000, li9999, neg_nI1, ↓reduceIte, nI_leI, nI_ltI, nI_eq, nI_add, nI_1, pk_mul, ix_nI, ib_nI, if_true, if_false, eq_self, true_and, and_true, not_false_eq_true, not_true_eq_false, Nat.reduceEqDiff, Nat.reduceLeDiff, Nat.reduceLT, Nat.reduceAdd, Nat.reduceMul, Nat.le_refl]
  · show Mo_nextTo_4b _ _ _ _ _ = Mo_nextTo_4 _ _ _ _ _
    have hx := nx_lt (s := s) (fun p hp => (h1 p hp).2) k (by omega)
    have hL := h1 k hk
    simp (disch := omega) only [Mo_nextTo_4b, h0, hL.1, zl_e, zs_e, li0, li1, li2, li3, li4, li5, li6, li7, li8, li9, li10, li11, li12, li13, li14, li15, li16, li17, li18, li19, li20, li21, li22, li23, li24, li25, li26, li27, li28, li29, li30, li31, li32, li37, li40, li41, li42, li43, li45, li47, li48, li57, li59, li60, li61, li63, li64, li75, li97, li98, li99, li100, li120, li122, li126, li200, li240, li255, li305, li306, li375, li400, li427, li428, li1000, li2000, li9999, neg_nI1, ↓reduceIte, nI_leI, nI_ltI, nI_eq, nI_add, nI_1, pk_mul, ix_nI, ib_nI, if_true, if_false, eq_self, true_and, and_true, not_false_eq_true, not_true_eq_false, Nat.reduceEqDiff, Nat.reduceLeDiff, Nat.reduceLT, Nat.reduceAdd, Nat.reduceMul, Nat.not_le.mpr hk, bn_or0, bn_bit (show s < 1024 by omega) (show k < 10 by omega), bn_lor hx hL.2, bit_lt, bit_1]
    rw [nx_s]
    cases s.testBit k <;> rfl
def spr (L : Nat → Nat) (n f op : Nat) : Nat := f ||| (nx L (f &&& op) n &&& op)
theorem spr_lt {L : Nat → Nat} {n f op : Nat} (h : ∀ p, p < n → L p < 128) (hf : f < 128) : spr L n f op < 128 := or128 hf (and128 (nx_lt h n (Nat.le_refl _)))
theorem bn_tst {a k : Nat} (ha : a < 128) (hk : k < 7) : nI a &&& (nI 1 <<< (nI k &&& nI 31)) = nI 0 ↔ a.testBit k = false := by
  have h : ∀ a, a < 128 → ∀ k, k < 7 → (nI a &&& (nI 1 <<< (nI k &&& nI 31)) = nI 0 ↔ a.testBit k = false) := by decide +kernel
  exact h a ha k hk
theorem Co_spread_eq {u : zM} {t n : Nat} {L : Nat → Nat} (h : LkC u t n L) {f op : Nat} (hf : f < 128) (ho : op < 128) : Co_spread t (nI f) (nI op) u = some (nI (spr L n f op), u) := by
  obtain ⟨h7, lt, h0, h1⟩ := h
  unfold Co_spread spr
  rw [if_pos lt]
  have e0 : nI f = nI (f ||| (nx L (f &&& op) 0 &&& op)) := by show nI f = nI (f ||| (0 &&& op)); simp
  have := lpz (fun n' (z : Int32 × Int32) => Co_spread_5 n' t (nI f) (nI op) z.1 z.2 u) (fun k => (nI (f ||| (nx L (f &&& op) k &&& op)), nI k)) n (some (nI (f ||| (nx L (f &&& op) n &&& op)), u)) (by omega) (fun n' => ?_) (fun n' k hk => ?_)
  · rw [← e0] at this
    exact this
  · show Co_spread_5b _ _ _ _ _ _ _ = _
    simp (disch := omega) only [Co_spread_5b, lt, h0, li0, li1, li2, li3, li4, li5, li6, li7, li8, li9, li10, li11, li12, li13, li14, li15, li16, li17, li18, li19, li20, li21, li22, li23, li24, li25, li26, li27, li28, li29, li30, li31, li32, li37, li40, li41, li42, li43, li45, li47, li48, li57, li59, li60, li61, li63, li64, li75, li97, li98, li99, li100, li120, li122, li126, li200, li240, li255, li305, li306, li375, li400, li427, li428, li1000, li2000, li9999, neg_nI1, ↓reduceIte, nI_leI, nI_ltI, nI_eq, nI_add, nI_1, pk_mul, ix_nI, ib_nI, if_true, if_false, eq_self, true_and, and_true, not_false_eq_true, not_true_eq_false, Nat.reduceEqDiff, Nat.reduceLeDiff, Nat.reduceLT, Nat.reduceAdd, Nat.reduceMul, Nat.le_refl]
  · show Co_spread_5b _ _ _ _ _ _ _ = Co_spread_5 _ _ _ _ _ _ _
    have hx := nx_lt (s := f &&& op) (fun p hp => (h1 p hp).2) k (by omega)
    have hL := h1 k hk
    have ha : f &&& op < 128 := and128 hf
    simp (disch := omega) only [Co_spread_5b, lt, h0, hL.1, zl_e, zs_e, li0, li1, li2, li3, li4, li5, li6, li7, li8, li9, li10, li11, li12, li13, li14, li15, li16, li17, li18, li19, li20, li21, li22, li23, li24, li25, li26, li27, li28, li29, li30, li31, li32, li37, li40, li41, li42, li43, li45, li47, li48, li57, li59, li60, li61, li63, li64, li75, li97, li98, li99, li100, li120, li122, li126, li200, li240, li255, li305, li306, li375, li400, li427, li428, li1000, li2000, li9999, neg_nI1, ↓reduceIte, nI_leI, nI_ltI, nI_eq, nI_add, nI_1, pk_mul, ix_nI, ib_nI, if_true, if_false, eq_self, true_and, and_true, not_false_eq_true, not_true_eq_false, Nat.reduceEqDiff, Nat.reduceLeDiff, Nat.reduceLT, Nat.reduceAdd, Nat.reduceMul, Nat.not_le.mpr hk, bn_and hf ho, bn_tst ha (show k < 7 by omega), bn_and hL.2 ho, bn_lor (or128 hf (and128 (b := op) hx)) (and128 (b := op) hL.2)]
    rw [nx_s]
    cases (f &&& op).testBit k
    · rfl
    · rw [if_neg (show ¬ true = false by decide), if_pos rfl, Nat.or_assoc, ← Nat.and_or_distrib_right]
def itr (L : Nat → Nat) (n op f : Nat) : Nat → Nat
  | 0 => f
  | k + 1 => spr L n (itr L n op f k) op
theorem itr_lt {L : Nat → Nat} {n op f : Nat} (h : ∀ p, p < n → L p < 128) (hf : f < 128) (k : Nat) : itr L n op f k < 128 := by
  induction k with
  | zero => exact hf
  | succ k ih => exact spr_lt h ih
theorem itr_sub {L : Nat → Nat} {n op f : Nat} (hf : f &&& op = f) (k : Nat) : itr L n op f k &&& op = itr L n op f k := by
  induction k with
  | zero => exact hf
  | succ k ih =>
    show (itr L n op f k ||| (nx L (itr L n op f k &&& op) n &&& op)) &&& op = (itr L n op f k ||| (nx L (itr L n op f k &&& op) n &&& op))
    rw [Nat.and_or_distrib_right, ih, Nat.and_assoc, Nat.and_self]
theorem itr_0 {L : Nat → Nat} {n op : Nat} (k : Nat) : itr L n op 0 k = 0 := by
  induction k with
  | zero => rfl
  | succ k ih =>
    show spr L n (itr L n op 0 k) op = 0
    rw [ih]
    unfold spr
    simp [nx_0]
theorem Co_spreadAll_eq {u : zM} {t n : Nat} {L : Nat → Nat} (h : LkC u t n L) {f op : Nat} (hf : f < 128) (ho : op < 128) : Co_spreadAll t (nI f) (nI op) u = some (nI (itr L n op f 7), u) := by
  have lt := h.2.1
  unfold Co_spreadAll
  rw [if_pos lt]
  refine lpz (fun n' (z : Int32 × Int32) => Co_spreadAll_5 n' t (nI op) z.1 z.2 u) (fun k => (nI (itr L n op f k), nI k)) 7 _ (by omega) (fun n' => ?_) (fun n' k hk => ?_)
  · show Co_spreadAll_5b _ _ _ _ _ _ = _
    simp (disch := omega) only [Co_spreadAll_5b, lt, li0, li1, li2, li3, li4, li5, li6, li7, li8, li9, li10, li11, li12, li13, li14, li15, li16, li17, li18, li19, li20, li21, li22, li23, li24, li25, li26, li27, li28, li29, li30, li31, li32, li37, li40, li41, li42, li43, li45, li47, li48, li57, li59, li60, li61, li63, li64, li75, li97, li98, li99, li100, li120, li122, li126, li200, li240, li255, li305, li306, li375, li400, li427, li428, li1000, li2000, li9999, neg_nI1, ↓reduceIte, nI_leI, nI_ltI, nI_eq, nI_add, nI_1, pk_mul, ix_nI, ib_nI, if_true, if_false, eq_self, true_and, and_true, not_false_eq_true, not_true_eq_false, Nat.reduceEqDiff, Nat.reduceLeDiff, Nat.reduceLT, Nat.reduceAdd, Nat.reduceMul, Nat.le_refl]
  · show Co_spreadAll_5b _ _ _ _ _ _ = Co_spreadAll_5 _ _ _ _ _ _
    have e := Co_spread_eq h (itr_lt (op := op) (fun p hp => (h.2.2.2 p hp).2) hf k) ho
    simp (disch := omega) only [Co_spreadAll_5b, lt, e, zl_e, zs_e, li0, li1, li2, li3, li4, li5, li6, li7, li8, li9, li10, li11, li12, li13, li14, li15, li16, li17, li18, li19, li20, li21, li22, li23, li24, li25, li26, li27, li28, li29, li30, li31, li32, li37, li40, li41, li42, li43, li45, li47, li48, li57, li59, li60, li61, li63, li64, li75, li97, li98, li99, li100, li120, li122, li126, li200, li240, li255, li305, li306, li375, li400, li427, li428, li1000, li2000, li9999, neg_nI1, ↓reduceIte, nI_leI, nI_ltI, nI_eq, nI_add, nI_1, pk_mul, ix_nI, ib_nI, if_true, if_false, eq_self, true_and, and_true, not_false_eq_true, not_true_eq_false, Nat.reduceEqDiff, Nat.reduceLeDiff, Nat.reduceLT, Nat.reduceAdd, Nat.reduceMul, Nat.not_le.mpr hk]
    rfl
theorem Mo_spreads_eq {v : zM} {n : Nat} {L : Nat → Nat} (h : LkM v n L) {f op : Nat} (hf : f < 128) (ho : op < 128) : Mo_spreads (nI f) (nI op) v = some (nI (itr L n op (f &&& op) 7), v) := by
  unfold Mo_spreads
  rw [zl_e, bn_and hf ho]
  have hsub : (f &&& op) &&& op = f &&& op := by rw [Nat.and_assoc, Nat.and_self]
  refine lpz (fun n' (z : Int32 × Int32) => Mo_spreads_7 n' (nI op) z.1 z.2 v) (fun k => (nI (itr L n op (f &&& op) k), nI k)) 7 _ (by omega) (fun n' => ?_) (fun n' k hk => ?_)
  · show Mo_spreads_7b _ _ _ _ _ = _
    simp (disch := omega) only [Mo_spreads_7b, li0, li1, li2, li3, li4, li5, li6, li7, li8, li9, li10, li11, li12, li13, li14, li15, li16, li17, li18, li19, li20, li21, li22, li23, li24, li25, li26, li27, li28, li29, li30, li31, li32, li37, li40, li41, li42, li43, li45, li47, li48, li57, li59, li60, li61, li63, li64, li75, li97, li98, li99, li100, li120, li122, li126, li200, li240, li255, li305, li306, li375, li400, li427, li428, li1000, li2000, li9999, neg_nI1, ↓reduceIte, nI_leI, nI_ltI, nI_eq, nI_add, nI_1, pk_mul, ix_nI, ib_nI, if_true, if_false, eq_self, true_and, and_true, not_false_eq_true, not_true_eq_false, Nat.reduceEqDiff, Nat.reduceLeDiff, Nat.reduceLT, Nat.reduceAdd, Nat.reduceMul, Nat.le_refl]
  · show Mo_spreads_7b _ _ _ _ _ = Mo_spreads_7 _ _ _ _ _
    have hlt := itr_lt (op := op) (fun p hp => (h.2.2 p hp).2) (and128 (b := op) hf) k
    have e := Mo_nextTo_eq h hlt
    have hx := nx_lt (s := itr L n op (f &&& op) k) (fun p hp => (h.2.2 p hp).2) n (Nat.le_refl _)
    simp (disch := omega) only [Mo_spreads_7b, e, zl_e, zs_e, li0, li1, li2, li3, li4, li5, li6, li7, li8, li9, li10, li11, li12, li13, li14, li15, li16, li17, li18, li19, li20, li21, li22, li23, li24, li25, li26, li27, li28, li29, li30, li31, li32, li37, li40, li41, li42, li43, li45, li47, li48, li57, li59, li60, li61, li63, li64, li75, li97, li98, li99, li100, li120, li122, li126, li200, li240, li255, li305, li306, li375, li400, li427, li428, li1000, li2000, li9999, neg_nI1, ↓reduceIte, nI_leI, nI_ltI, nI_eq, nI_add, nI_1, pk_mul, ix_nI, ib_nI, if_true, if_false, eq_self, true_and, and_true, not_false_eq_true, not_true_eq_false, Nat.reduceEqDiff, Nat.reduceLeDiff, Nat.reduceLT, Nat.reduceAdd, Nat.reduceMul, Nat.not_le.mpr hk, bn_and hx ho, bn_lor hlt (and128 (b := op) hx)]
    show Mo_spreads_7 _ _ _ _ _ = Mo_spreads_7 _ _ (nI (itr L n op (f &&& op) k ||| (nx L (itr L n op (f &&& op) k &&& op) n &&& op))) _ _
    rw [itr_sub hsub]
theorem all_eq {n : Nat} (h : n ≤ 7) : (nI 1 <<< (nI n &&& nI 31)) - nI 1 = nI (2 ^ n - 1) := by
  have h8 : ∀ n, n < 8 → (nI 1 <<< (nI n &&& nI 31)) - nI 1 = nI (2 ^ n - 1) := by decide +kernel
  exact h8 n (by omega)
theorem all_lt {n : Nat} (h : n ≤ 7) : 2 ^ n - 1 < 128 := by have := pw7 h; have := Nat.two_pow_pos n; omega
theorem p2_lt {p : Nat} (h : p < 7) : 2 ^ p < 128 := Nat.pow_lt_pow_right (by decide) h
theorem p2_all {p n : Nat} (h : p < n) : 2 ^ p &&& (2 ^ n - 1) = 2 ^ p := by
  rw [Nat.and_two_pow_sub_one_eq_mod, Nat.mod_eq_of_lt (Nat.pow_lt_pow_right (by decide) h)]
theorem q_reach {u v : zM} {t : Nat} {N S : Nat → Nat} {K : Nat → Nat → Nat} {E : Int32 → Int32 → Int32 → Int32 → Int32} (hW : Wf N K S) (hu : NowC u t N K E 54 S) (hz : NowM v N K E S) (x : Int32) : ∃ r, OW_reach x u = some (r, u) ∧ Mo_reach x v = some (r, sI v 1 0 0) := by
  unfold Mo_reach OW_reach
  dsimp only [zlet]
  have hz := hz.th hW.1
  generalize sI v 1 0 0 = v at *
  have hW' := hW
  have hu' := hu
  have hz' := hz
  obtain ⟨⟨n0, n1, n2, n3, n4, n5⟩, ⟨wp, wq, wo, ww, wi⟩, ⟨z0, zp, zq, zo, zw⟩⟩ := hW
  obtain ⟨rt, ht, ⟨⟨c0, c1, c2, c3, c4, c5⟩, cp, cq, co, cw, ci⟩, hl, ⟨s0, sp, sq, so, sw⟩⟩ := hu
  have lt := layT ht
  obtain ⟨⟨m0, mp, mq, mo, mw, mi⟩, hlm, ⟨x0, xp, xq, xo, xw⟩⟩ := hz
  simp only [Nat.zero_add] at x0 xp xq xo xw
  rcases arg_ix x (show N 0 < 2 ^ 31 by omega) with ⟨p, hp, rfl⟩ | h
  · refine ⟨nI (itr (K 0) (N 0) (2 ^ N 0 - 1) (2 ^ p) 7), ?_, ?_⟩
    · simp (disch := omega) only [OW_isPlace_ok hW' hu' hp, Co_allPlaces, zl_e, zs_e, li0, li1, li2, li3, li4, li5, li6, li7, li8, li9, li10, li11, li12, li13, li14, li15, li16, li17, li18, li19, li20, li21, li22, li23, li24, li25, li26, li27, li28, li29, li30, li31, li32, li37, li40, li41, li42, li43, li45, li47, li48, li57, li59, li60, li61, li63, li64, li75, li97, li98, li99, li100, li120, li122, li126, li200, li240, li255, li305, li306, li375, li400, li427, li428, li1000, li2000, li9999, neg_nI1, ↓reduceIte, nI_leI, nI_ltI, nI_eq, nI_add, nI_1, pk_mul, ix_nI, ib_nI, if_true, if_false, eq_self, true_and, and_true, not_false_eq_true, not_true_eq_false, Nat.reduceEqDiff, Nat.reduceLeDiff, Nat.reduceLT, Nat.reduceAdd, Nat.reduceMul, rt, lt, c0, c1, c2, c3, c4, c5, cp, cq, co, cw, ci, s0, sp, sq, so, sw, all_eq n0, bn_shl (show p < 10 by omega), Co_spreadAll_eq (NowC.lk hW' hu') (p2_lt (show p < 7 by omega)) (all_lt n0)]
    · simp (disch := omega) only [Mo_isPlace_ok hW' hz' hp, Mo_every, zl_e, zs_e, li0, li1, li2, li3, li4, li5, li6, li7, li8, li9, li10, li11, li12, li13, li14, li15, li16, li17, li18, li19, li20, li21, li22, li23, li24, li25, li26, li27, li28, li29, li30, li31, li32, li37, li40, li41, li42, li43, li45, li47, li48, li57, li59, li60, li61, li63, li64, li75, li97, li98, li99, li100, li120, li122, li126, li200, li240, li255, li305, li306, li375, li400, li427, li428, li1000, li2000, li9999, neg_nI1, ↓reduceIte, nI_leI, nI_ltI, nI_eq, nI_add, nI_1, pk_mul, ix_nI, ib_nI, if_true, if_false, eq_self, true_and, and_true, not_false_eq_true, not_true_eq_false, Nat.reduceEqDiff, Nat.reduceLeDiff, Nat.reduceLT, Nat.reduceAdd, Nat.reduceMul, m0, mp, mq, mo, mw, mi, x0, xp, xq, xo, xw, all_eq n0, bn_shl (show p < 10 by omega), Mo_spreads_eq (NowM.lk hW' hz') (p2_lt (show p < 7 by omega)) (all_lt n0), p2_all hp]
  · refine ⟨mI, ?_, ?_⟩
    · rw [zb_eq (OW_isPlace_no hW' hu' h)]; rfl
    · rw [zb_eq (Mo_isPlace_no hW' hz' h)]; rfl
theorem OW_poolOf_eq {u : zM} {t a : Nat} {N S : Nat → Nat} {K : Nat → Nat → Nat} {E : Int32 → Int32 → Int32 → Int32 → Int32} (hW : Wf N K S) (hu : NowC u t N K E a S) {p w : Nat} (hp : p < 7) (hw : w < 128) : OW_poolOf (nI p) (nI w) u = some (nI (itr (K 0) (N 0) w (2 ^ p &&& w) 7), u) := by
  have hk := NowC.lk hW hu
  obtain ⟨⟨n0, n1, n2, n3, n4, n5⟩, ⟨wp, wq, wo, ww, wi⟩, ⟨z0, zp, zq, zo, zw⟩⟩ := hW
  obtain ⟨rt, ht, ⟨⟨c0, c1, c2, c3, c4, c5⟩, cp, cq, co, cw, ci⟩, hl, ⟨s0, sp, sq, so, sw⟩⟩ := hu
  have lt := layT ht
  have e : nI w &&& nI (2 ^ p) = nI (2 ^ p &&& w) := by rw [bn_and hw (p2_lt hp), Nat.and_comm]
  have hlt : 2 ^ p &&& w < 128 := and128 (p2_lt hp)
  simp (disch := omega) only [OW_poolOf, zl_e, zs_e, li0, li1, li2, li3, li4, li5, li6, li7, li8, li9, li10, li11, li12, li13, li14, li15, li16, li17, li18, li19, li20, li21, li22, li23, li24, li25, li26, li27, li28, li29, li30, li31, li32, li37, li40, li41, li42, li43, li45, li47, li48, li57, li59, li60, li61, li63, li64, li75, li97, li98, li99, li100, li120, li122, li126, li200, li240, li255, li305, li306, li375, li400, li427, li428, li1000, li2000, li9999, neg_nI1, ↓reduceIte, nI_leI, nI_ltI, nI_eq, nI_add, nI_1, pk_mul, ix_nI, ib_nI, if_true, if_false, eq_self, true_and, and_true, not_false_eq_true, not_true_eq_false, Nat.reduceEqDiff, Nat.reduceLeDiff, Nat.reduceLT, Nat.reduceAdd, Nat.reduceMul, bn_shl (show p < 10 by omega), e, rt, lt, Co_spreadAll_eq hk hlt hw]
  by_cases h : 2 ^ p &&& w = 0
  · rw [if_pos h, h, itr_0]
  · rw [if_neg h]
theorem q_pool {u v : zM} {t : Nat} {N S : Nat → Nat} {K : Nat → Nat → Nat} {E : Int32 → Int32 → Int32 → Int32 → Int32} (hW : Wf N K S) (hu : NowC u t N K E 54 S) (hz : NowM v N K E S) (x : Int32) : ∃ r, OW_pool x u = some (r, u) ∧ Mo_pool x v = some (r, sI v 1 0 0) := by
  unfold Mo_pool OW_pool
  dsimp only [zlet]
  have hz := hz.th hW.1
  generalize sI v 1 0 0 = v at *
  have hW' := hW
  have hu' := hu
  have hz' := hz
  obtain ⟨⟨n0, n1, n2, n3, n4, n5⟩, ⟨wp, wq, wo, ww, wi⟩, ⟨z0, zp, zq, zo, zw⟩⟩ := hW
  obtain ⟨rt, ht, ⟨⟨c0, c1, c2, c3, c4, c5⟩, cp, cq, co, cw, ci⟩, hl, ⟨s0, sp, sq, so, sw⟩⟩ := hu
  have lt := layT ht
  obtain ⟨⟨m0, mp, mq, mo, mw, mi⟩, hlm, ⟨x0, xp, xq, xo, xw⟩⟩ := hz
  simp only [Nat.zero_add] at x0 xp xq xo xw
  rcases arg_ix x (show N 0 < 2 ^ 31 by omega) with ⟨p, hp, rfl⟩ | h
  · refine ⟨nI (itr (K 0) (N 0) (wetS N S) (2 ^ p &&& wetS N S) 7), ?_, ?_⟩
    · rw [zb_eq (OW_isPlace_ok hW' hu' hp), if_neg one_ne, rt, if_pos lt, zb_eq (St_wetBits_eq hW' hu' StA54), zb_eq (OW_poolOf_eq hW' hu' (show p < 7 by omega) (wetS_lt hW'.1))]
    · simp (disch := omega) only [Mo_isPlace_ok hW' hz' hp, Mo_wets_e hW' hz', zl_e, zs_e, li0, li1, li2, li3, li4, li5, li6, li7, li8, li9, li10, li11, li12, li13, li14, li15, li16, li17, li18, li19, li20, li21, li22, li23, li24, li25, li26, li27, li28, li29, li30, li31, li32, li37, li40, li41, li42, li43, li45, li47, li48, li57, li59, li60, li61, li63, li64, li75, li97, li98, li99, li100, li120, li122, li126, li200, li240, li255, li305, li306, li375, li400, li427, li428, li1000, li2000, li9999, neg_nI1, ↓reduceIte, nI_leI, nI_ltI, nI_eq, nI_add, nI_1, pk_mul, ix_nI, ib_nI, if_true, if_false, eq_self, true_and, and_true, not_false_eq_true, not_true_eq_false, Nat.reduceEqDiff, Nat.reduceLeDiff, Nat.reduceLT, Nat.reduceAdd, Nat.reduceMul, bn_shl (show p < 10 by omega), Mo_spreads_eq (NowM.lk hW' hz') (p2_lt (show p < 7 by omega)) (wetS_lt hW'.1)]
  · refine ⟨mI, ?_, ?_⟩
    · rw [zb_eq (OW_isPlace_no hW' hu' h)]; rfl
    · rw [zb_eq (Mo_isPlace_no hW' hz' h)]; rfl
/-- a loop that may end in each round, the answer a function of the round -/
theorem lpd {σ ρ : Type} (f : Nat → σ → Option ρ) (I : Nat → σ) (R : Nat → Option ρ) (N : Nat) (hN : N < 4096) (hend : ∀ n, f (n + 1) (I N) = R N) (hstep : ∀ n k, k < N → f (n + 1) (I k) = R k ∨ (f (n + 1) (I k) = f n (I (k + 1)) ∧ R k = R (k + 1))) : f zF (I 0) = R 0 := by
  have h : ∀ d k n, k + d = N → d < n → f n (I k) = R k := by
    intro d
    induction d with
    | zero =>
      intro k n hk hn
      obtain ⟨n, rfl⟩ : ∃ z, n = z + 1 := ⟨n - 1, by omega⟩
      have : k = N := by omega
      rw [this]
      exact hend n
    | succ d ih =>
      intro k n hk hn
      obtain ⟨n, rfl⟩ : ∃ z, n = z + 1 := ⟨n - 1, by omega⟩
      rcases hstep n k (by omega) with h | ⟨h1, h2⟩
      · exact h
      · rw [h1, h2]
        exact ih (k + 1) n (by omega) (by omega)
  exact h N 0 zF (Nat.zero_add N) hN
/-- the first round from k on, of r at most, that has P -/
def fst1 (P : Nat → Bool) : Nat → Nat → Int32
  | 0, _ => mI
  | r + 1, k => if P k then nI k else fst1 P r (k + 1)
theorem fst1_0 (P : Nat → Bool) (k : Nat) : fst1 P 0 k = mI := rfl
theorem fst1_s (P : Nat → Bool) (r k : Nat) : fst1 P (r + 1) k = if P k then nI k else fst1 P r (k + 1) := rfl
theorem q_far {u v : zM} {t : Nat} {N S : Nat → Nat} {K : Nat → Nat → Nat} {E : Int32 → Int32 → Int32 → Int32 → Int32} (hW : Wf N K S) (hu : NowC u t N K E 54 S) (hz : NowM v N K E S) (x y : Int32) : ∃ r, OW_far x y u = some (r, u) ∧ Mo_far x y v = some (r, sI v 1 0 0) := by
  unfold Mo_far OW_far
  dsimp only [zlet]
  have hz := hz.th hW.1
  generalize sI v 1 0 0 = v at *
  have hW' := hW
  have hu' := hu
  have hz' := hz
  obtain ⟨⟨n0, n1, n2, n3, n4, n5⟩, ⟨wp, wq, wo, ww, wi⟩, ⟨z0, zp, zq, zo, zw⟩⟩ := hW
  obtain ⟨rt, ht, ⟨⟨c0, c1, c2, c3, c4, c5⟩, cp, cq, co, cw, ci⟩, hl, ⟨s0, sp, sq, so, sw⟩⟩ := hu
  have lt := layT ht
  obtain ⟨⟨m0, mp, mq, mo, mw, mi⟩, hlm, ⟨x0, xp, xq, xo, xw⟩⟩ := hz
  simp only [Nat.zero_add] at x0 xp xq xo xw
  rcases arg_ix x (show N 0 < 2 ^ 31 by omega) with ⟨p, hp, rfl⟩ | h
  · rw [zb_eq (OW_isPlace_ok hW' hu' hp), if_neg one_ne, zb_eq (Mo_isPlace_ok hW' hz' hp), if_neg one_ne]
    rcases arg_ix y (show N 0 < 2 ^ 31 by omega) with ⟨q, hq, rfl⟩ | hy
    · rw [zb_eq (OW_isPlace_ok hW' hu' hq), if_neg one_ne, zb_eq (Mo_isPlace_ok hW' hz' hq), if_neg one_ne]
      have e1 : (1 : Int32) <<< (nI p &&& 31) = nI (2 ^ p) := b_shl p (by omega)
      rw [e1]
      have hlt := fun k => itr_lt (op := 2 ^ N 0 - 1) (fun p hp => ((NowM.lk hW' hz').2.2 p hp).2) (p2_lt (show p < 7 by omega)) k
      have hsub := fun k => itr_sub (L := K 0) (n := N 0) (p2_all hp) k
      refine ⟨fst1 (fun k => (itr (K 0) (N 0) (2 ^ N 0 - 1) (2 ^ p) k).testBit q) 7 0, ?_, ?_⟩
      · refine lpd (fun n' (z : Int32 × Int32) => OW_far_25 n' (nI q) z.1 z.2 u) (fun k => (nI (itr (K 0) (N 0) (2 ^ N 0 - 1) (2 ^ p) k), nI k)) (fun k => some (fst1 (fun k => (itr (K 0) (N 0) (2 ^ N 0 - 1) (2 ^ p) k).testBit q) (7 - k) k, u)) 7 (by omega) (fun n' => ?_) (fun n' k hk => ?_)
        · show OW_far_25b _ _ _ _ _ = _
          simp (disch := omega) only [OW_far_25b, li0, li1, li2, li3, li4, li5, li6, li7, li8, li9, li10, li11, li12, li13, li14, li15, li16, li17, li18, li19, li20, li21, li22, li23, li24, li25, li26, li27, li28, li29, li30, li31, li32, li37, li40, li41, li42, li43, li45, li47, li48, li57, li59, li60, li61, li63, li64, li75, li97, li98, li99, li100, li120, li122, li126, li200, li240, li255, li305, li306, li375, li400, li427, li428, li1000, li2000, li9999, neg_nI1, ↓reduceIte, nI_leI, nI_ltI, nI_eq, nI_add, nI_1, pk_mul, ix_nI, ib_nI, if_true, if_false, eq_self, true_and, and_true, not_false_eq_true, not_true_eq_false, Nat.reduceEqDiff, Nat.reduceLeDiff, Nat.reduceLT, Nat.reduceAdd, Nat.reduceMul, Nat.le_refl]
          rfl
        · have ea := Co_spread_eq (NowC.lk hW' hu') (hlt k) (all_lt n0)
          have eb : OW_far_25 (n' + 1) (nI q) (nI (itr (K 0) (N 0) (2 ^ N 0 - 1) (2 ^ p) k)) (nI k) u = OW_far_25b (OW_far_25 n') (nI q) (nI (itr (K 0) (N 0) (2 ^ N 0 - 1) (2 ^ p) k)) (nI k) u := rfl
          dsimp only
          rw [show 7 - k = (7 - (k + 1)) + 1 by omega, fst1_s, eb]
          have hk7 := hlt k
          cases hb : (itr (K 0) (N 0) (2 ^ N 0 - 1) (2 ^ p) k).testBit q
          · right
            refine ⟨?_, by simp⟩
            simp (disch := omega) only [OW_far_25b, Co_allPlaces, rt, lt, c0, all_eq n0, ea, zl_e, zs_e, li0, li1, li2, li3, li4, li5, li6, li7, li8, li9, li10, li11, li12, li13, li14, li15, li16, li17, li18, li19, li20, li21, li22, li23, li24, li25, li26, li27, li28, li29, li30, li31, li32, li37, li40, li41, li42, li43, li45, li47, li48, li57, li59, li60, li61, li63, li64, li75, li97, li98, li99, li100, li120, li122, li126, li200, li240, li255, li305, li306, li375, li400, li427, li428, li1000, li2000, li9999, neg_nI1, ↓reduceIte, nI_leI, nI_ltI, nI_eq, nI_add, nI_1, pk_mul, ix_nI, ib_nI, if_true, if_false, eq_self, true_and, and_true, not_false_eq_true, not_true_eq_false, Nat.reduceEqDiff, Nat.reduceLeDiff, Nat.reduceLT, Nat.reduceAdd, Nat.reduceMul, Nat.not_le.mpr hk, bn_bit (show itr (K 0) (N 0) (2 ^ N 0 - 1) (2 ^ p) k < 1024 by omega) (show q < 10 by omega), hb, bit_lt, bit_0]
            rfl
          · left
            simp (disch := omega) only [OW_far_25b, zl_e, zs_e, li0, li1, li2, li3, li4, li5, li6, li7, li8, li9, li10, li11, li12, li13, li14, li15, li16, li17, li18, li19, li20, li21, li22, li23, li24, li25, li26, li27, li28, li29, li30, li31, li32, li37, li40, li41, li42, li43, li45, li47, li48, li57, li59, li60, li61, li63, li64, li75, li97, li98, li99, li100, li120, li122, li126, li200, li240, li255, li305, li306, li375, li400, li427, li428, li1000, li2000, li9999, neg_nI1, ↓reduceIte, nI_leI, nI_ltI, nI_eq, nI_add, nI_1, pk_mul, ix_nI, ib_nI, if_true, if_false, eq_self, true_and, and_true, not_false_eq_true, not_true_eq_false, Nat.reduceEqDiff, Nat.reduceLeDiff, Nat.reduceLT, Nat.reduceAdd, Nat.reduceMul, Nat.not_le.mpr hk, bn_bit (show itr (K 0) (N 0) (2 ^ N 0 - 1) (2 ^ p) k < 1024 by omega) (show q < 10 by omega), hb, bit_lt, bit_0]
            rfl
      · refine lpd (fun n' (z : Int32 × Int32) => Mo_far_30 n' (nI q) z.1 z.2 v) (fun k => (nI (itr (K 0) (N 0) (2 ^ N 0 - 1) (2 ^ p) k), nI k)) (fun k => some (fst1 (fun k => (itr (K 0) (N 0) (2 ^ N 0 - 1) (2 ^ p) k).testBit q) (7 - k) k, v)) 7 (by omega) (fun n' => ?_) (fun n' k hk => ?_)
        · show Mo_far_30b _ _ _ _ _ = _
          simp (disch := omega) only [Mo_far_30b, li0, li1, li2, li3, li4, li5, li6, li7, li8, li9, li10, li11, li12, li13, li14, li15, li16, li17, li18, li19, li20, li21, li22, li23, li24, li25, li26, li27, li28, li29, li30, li31, li32, li37, li40, li41, li42, li43, li45, li47, li48, li57, li59, li60, li61, li63, li64, li75, li97, li98, li99, li100, li120, li122, li126, li200, li240, li255, li305, li306, li375, li400, li427, li428, li1000, li2000, li9999, neg_nI1, ↓reduceIte, nI_leI, nI_ltI, nI_eq, nI_add, nI_1, pk_mul, ix_nI, ib_nI, if_true, if_false, eq_self, true_and, and_true, not_false_eq_true, not_true_eq_false, Nat.reduceEqDiff, Nat.reduceLeDiff, Nat.reduceLT, Nat.reduceAdd, Nat.reduceMul, Nat.le_refl]
          rfl
        · have ea := Mo_nextTo_eq (NowM.lk hW' hz') (hlt k)
          have eb : Mo_far_30 (n' + 1) (nI q) (nI (itr (K 0) (N 0) (2 ^ N 0 - 1) (2 ^ p) k)) (nI k) v = Mo_far_30b (Mo_far_30 n') (nI q) (nI (itr (K 0) (N 0) (2 ^ N 0 - 1) (2 ^ p) k)) (nI k) v := rfl
          dsimp only
          rw [show 7 - k = (7 - (k + 1)) + 1 by omega, fst1_s, eb]
          have hk7 := hlt k
          have hs := hsub k
          have es : itr (K 0) (N 0) (2 ^ N 0 - 1) (2 ^ p) (k + 1) = itr (K 0) (N 0) (2 ^ N 0 - 1) (2 ^ p) k ||| (nx (K 0) (itr (K 0) (N 0) (2 ^ N 0 - 1) (2 ^ p) k &&& (2 ^ N 0 - 1)) (N 0) &&& (2 ^ N 0 - 1)) := rfl
          rw [hs] at es
          have hx : nx (K 0) (itr (K 0) (N 0) (2 ^ N 0 - 1) (2 ^ p) k) (N 0) < 2 ^ N 0 := nxN_lt (fun r hr => (wp r hr).1) _ (Nat.le_refl _)
          rw [Nat.and_two_pow_sub_one_eq_mod, Nat.mod_eq_of_lt hx] at es
          have hx2 := pw7 n0
          cases hb : (itr (K 0) (N 0) (2 ^ N 0 - 1) (2 ^ p) k).testBit q
          · right
            refine ⟨?_, by simp⟩
            rw [es]
            simp (disch := omega) only [Mo_far_30b, ea, zl_e, zs_e, li0, li1, li2, li3, li4, li5, li6, li7, li8, li9, li10, li11, li12, li13, li14, li15, li16, li17, li18, li19, li20, li21, li22, li23, li24, li25, li26, li27, li28, li29, li30, li31, li32, li37, li40, li41, li42, li43, li45, li47, li48, li57, li59, li60, li61, li63, li64, li75, li97, li98, li99, li100, li120, li122, li126, li200, li240, li255, li305, li306, li375, li400, li427, li428, li1000, li2000, li9999, neg_nI1, ↓reduceIte, nI_leI, nI_ltI, nI_eq, nI_add, nI_1, pk_mul, ix_nI, ib_nI, if_true, if_false, eq_self, true_and, and_true, not_false_eq_true, not_true_eq_false, Nat.reduceEqDiff, Nat.reduceLeDiff, Nat.reduceLT, Nat.reduceAdd, Nat.reduceMul, Nat.not_le.mpr hk, bn_bit (show itr (K 0) (N 0) (2 ^ N 0 - 1) (2 ^ p) k < 1024 by omega) (show q < 10 by omega), hb, bit_lt, bit_1, bn_lor hk7 (show nx (K 0) (itr (K 0) (N 0) (2 ^ N 0 - 1) (2 ^ p) k) (N 0) < 128 by omega)]
            rfl
          · left
            simp (disch := omega) only [Mo_far_30b, zl_e, zs_e, li0, li1, li2, li3, li4, li5, li6, li7, li8, li9, li10, li11, li12, li13, li14, li15, li16, li17, li18, li19, li20, li21, li22, li23, li24, li25, li26, li27, li28, li29, li30, li31, li32, li37, li40, li41, li42, li43, li45, li47, li48, li57, li59, li60, li61, li63, li64, li75, li97, li98, li99, li100, li120, li122, li126, li200, li240, li255, li305, li306, li375, li400, li427, li428, li1000, li2000, li9999, neg_nI1, ↓reduceIte, nI_leI, nI_ltI, nI_eq, nI_add, nI_1, pk_mul, ix_nI, ib_nI, if_true, if_false, eq_self, true_and, and_true, not_false_eq_true, not_true_eq_false, Nat.reduceEqDiff, Nat.reduceLeDiff, Nat.reduceLT, Nat.reduceAdd, Nat.reduceMul, Nat.not_le.mpr hk, bn_bit (show itr (K 0) (N 0) (2 ^ N 0 - 1) (2 ^ p) k < 1024 by omega) (show q < 10 by omega), hb, bit_lt, bit_1]
            rfl
    · refine ⟨mI, ?_, ?_⟩
      · rw [zb_eq (OW_isPlace_no hW' hu' hy)]; rfl
      · rw [zb_eq (Mo_isPlace_no hW' hz' hy)]; rfl
  · refine ⟨mI, ?_, ?_⟩
    · rw [zb_eq (OW_isPlace_no hW' hu' h)]; rfl
    · rw [zb_eq (Mo_isPlace_no hW' hz' h)]; rfl
theorem c_reach {n : Nat} {u v : zM} (h : Inv n u v) (hn : n < 600) (x : Int32) : ∃ r u' v', OW_reach x u = some (r, u') ∧ Mo_reach x v = some (r, v') ∧ Inv (n + 1) u' v' :=
  h.q hn (F := OW_reach x) (G := Mo_reach x) (fun _ _ _ _ _ _ h => q_reach h.1 h.2.2.1 h.2.2.2.1 x)
theorem c_pool {n : Nat} {u v : zM} (h : Inv n u v) (hn : n < 600) (x : Int32) : ∃ r u' v', OW_pool x u = some (r, u') ∧ Mo_pool x v = some (r, v') ∧ Inv (n + 1) u' v' :=
  h.q hn (F := OW_pool x) (G := Mo_pool x) (fun _ _ _ _ _ _ h => q_pool h.1 h.2.2.1 h.2.2.2.1 x)
theorem c_far {n : Nat} {u v : zM} (h : Inv n u v) (hn : n < 600) (x y : Int32) : ∃ r u' v', OW_far x y u = some (r, u') ∧ Mo_far x y v = some (r, v') ∧ Inv (n + 1) u' v' :=
  h.q hn (F := OW_far x y) (G := Mo_far x y) (fun _ _ _ _ _ _ h => q_far h.1 h.2.2.1 h.2.2.2.1 x y)
