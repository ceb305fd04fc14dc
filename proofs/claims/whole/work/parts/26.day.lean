/-! ===== states that change ===== -/
def upN (S : Nat → Nat) (i x : Nat) : Nat → Nat := fun j => if j = i then x else S j
theorem upN_ne {S : Nat → Nat} {i x j : Nat} (h : j ≠ i) : upN S i x j = S j := if_neg h
theorem upN_eq {S : Nat → Nat} {i x : Nat} : upN S i x i = x := if_pos rfl
theorem upN_if {S : Nat → Nat} {i x j : Nat} {c : Prop} [Decidable c] {f : Nat → Int32} (hc : c ↔ j = i) (_ : ∀ {a b : Nat}, a = b → f a = f b) : (if c then f x else f (S j)) = f (upN S i x j) := by
  unfold upN
  by_cases h : c
  · rw [if_pos h, if_pos (hc.mp h)]
  · rw [if_neg h, if_neg (fun q => h (hc.mpr q))]
theorem StC.setW {u : zM} {a : Nat} {N S : Nat → Nat} (hN : WfN N) (h : StC u a N S) {p : Nat} (x : Nat) (hp : p < 7) : StC (sI u (a + 1) p (nI x)) a N (upN S (1 + p) x) := by
  obtain ⟨n0, n1, n2, n3, n4, n5⟩ := hN
  obtain ⟨h0, h1, h2, h3, h4⟩ := h
  refine ⟨?_, fun p hp => ?_, fun p hp => ?_, fun p hp => ⟨?_, ?_⟩, fun p hp => ?_⟩
  · rw [gI_sI, if_neg (by omega), h0, upN_ne (by omega)]
  · rw [gI_sI, h1 p hp]; exact upN_if (by omega) (congrArg nI)
  · rw [gI_sI, if_neg (by omega), h2 p hp, upN_ne (by omega)]
  · rw [gI_sI, if_neg (by omega), (h3 p hp).1, upN_ne (by omega)]
  · rw [gI_sI, if_neg (by omega), (h3 p hp).2, upN_ne (by omega)]
  · rw [gI_sI, if_neg (by omega), h4 p hp, upN_ne (by omega)]
theorem StC.setQ {u : zM} {a : Nat} {N S : Nat → Nat} (hN : WfN N) (h : StC u a N S) {p : Nat} (x : Nat) (hp : p < 5) : StC (sI u (a + 2) p (nI x)) a N (upN S (8 + p) x) := by
  obtain ⟨n0, n1, n2, n3, n4, n5⟩ := hN
  obtain ⟨h0, h1, h2, h3, h4⟩ := h
  refine ⟨?_, fun p hp => ?_, fun p hp => ?_, fun p hp => ⟨?_, ?_⟩, fun p hp => ?_⟩
  · rw [gI_sI, if_neg (by omega), h0, upN_ne (by omega)]
  · rw [gI_sI, if_neg (by omega), h1 p hp, upN_ne (by omega)]
  · rw [gI_sI, h2 p hp]; exact upN_if (by omega) (congrArg nI)
  · rw [gI_sI, if_neg (by omega), (h3 p hp).1, upN_ne (by omega)]
  · rw [gI_sI, if_neg (by omega), (h3 p hp).2, upN_ne (by omega)]
  · rw [gI_sI, if_neg (by omega), h4 p hp, upN_ne (by omega)]
theorem StC.setO {u : zM} {a : Nat} {N S : Nat → Nat} (hN : WfN N) (h : StC u a N S) {p : Nat} (x : Nat) (hp : p < 3) : StC (sI u (a + 3) p (nI x)) a N (upN S (13 + p) x) := by
  obtain ⟨n0, n1, n2, n3, n4, n5⟩ := hN
  obtain ⟨h0, h1, h2, h3, h4⟩ := h
  refine ⟨?_, fun p hp => ?_, fun p hp => ?_, fun p hp => ⟨?_, ?_⟩, fun p hp => ?_⟩
  · rw [gI_sI, if_neg (by omega), h0, upN_ne (by omega)]
  · rw [gI_sI, if_neg (by omega), h1 p hp, upN_ne (by omega)]
  · rw [gI_sI, if_neg (by omega), h2 p hp, upN_ne (by omega)]
  · rw [gI_sI, (h3 p hp).1]; exact upN_if (by omega) (congrArg nI)
  · rw [gI_sI, if_neg (by omega), (h3 p hp).2, upN_ne (by omega)]
  · rw [gI_sI, if_neg (by omega), h4 p hp, upN_ne (by omega)]
theorem StC.setM {u : zM} {a : Nat} {N S : Nat → Nat} (hN : WfN N) (h : StC u a N S) {p : Nat} (x : Nat) (hp : p < 3) : StC (sI u (a + 4) p (nI x)) a N (upN S (16 + p) x) := by
  obtain ⟨n0, n1, n2, n3, n4, n5⟩ := hN
  obtain ⟨h0, h1, h2, h3, h4⟩ := h
  refine ⟨?_, fun p hp => ?_, fun p hp => ?_, fun p hp => ⟨?_, ?_⟩, fun p hp => ?_⟩
  · rw [gI_sI, if_neg (by omega), h0, upN_ne (by omega)]
  · rw [gI_sI, if_neg (by omega), h1 p hp, upN_ne (by omega)]
  · rw [gI_sI, if_neg (by omega), h2 p hp, upN_ne (by omega)]
  · rw [gI_sI, if_neg (by omega), (h3 p hp).1, upN_ne (by omega)]
  · rw [gI_sI, (h3 p hp).2]; exact upN_if (by omega) (congrArg nI)
  · rw [gI_sI, if_neg (by omega), h4 p hp, upN_ne (by omega)]
theorem StC.setH {u : zM} {a : Nat} {N S : Nat → Nat} (hN : WfN N) (h : StC u a N S) {p : Nat} (x : Nat) (hp : p < 6) : StC (sI u (a + 5) p (hv x)) a N (upN S (19 + p) x) := by
  obtain ⟨n0, n1, n2, n3, n4, n5⟩ := hN
  obtain ⟨h0, h1, h2, h3, h4⟩ := h
  refine ⟨?_, fun p hp => ?_, fun p hp => ?_, fun p hp => ⟨?_, ?_⟩, fun p hp => ?_⟩
  · rw [gI_sI, if_neg (by omega), h0, upN_ne (by omega)]
  · rw [gI_sI, if_neg (by omega), h1 p hp, upN_ne (by omega)]
  · rw [gI_sI, if_neg (by omega), h2 p hp, upN_ne (by omega)]
  · rw [gI_sI, if_neg (by omega), (h3 p hp).1, upN_ne (by omega)]
  · rw [gI_sI, if_neg (by omega), (h3 p hp).2, upN_ne (by omega)]
  · rw [gI_sI, h4 p hp]; exact upN_if (by omega) (congrArg hv)
theorem StC.setD {u : zM} {a : Nat} {N S : Nat → Nat} (h : StC u a N S) (x : Nat) : StC (sI u a 5 (nI x)) a N (upN S 0 x) := by
  obtain ⟨h0, h1, h2, h3, h4⟩ := h
  refine ⟨?_, fun p hp => ?_, fun p hp => ?_, fun p hp => ⟨?_, ?_⟩, fun p hp => ?_⟩
  · rw [gI_sI, if_pos ⟨rfl, rfl⟩, upN_eq]
  · rw [gI_sI, if_neg (by omega), h1 p hp, upN_ne (by omega)]
  · rw [gI_sI, if_neg (by omega), h2 p hp, upN_ne (by omega)]
  · rw [gI_sI, if_neg (by omega), (h3 p hp).1, upN_ne (by omega)]
  · rw [gI_sI, if_neg (by omega), (h3 p hp).2, upN_ne (by omega)]
  · rw [gI_sI, if_neg (by omega), h4 p hp, upN_ne (by omega)]
theorem StM.set {v : zM} {A o : Nat} {N S : Nat → Nat} (hN : WfN N) (h : StM v A o N S) {i : Nat} (x : Nat) (hi : i < 19) : StM (sI v A (o + i) (nI x)) A o N (upN S i x) := by
  obtain ⟨n0, n1, n2, n3, n4, n5⟩ := hN
  obtain ⟨h0, h1, h2, h3, h4⟩ := h
  refine ⟨?_, fun p hp => ?_, fun p hp => ?_, fun p hp => ⟨?_, ?_⟩, fun p hp => ?_⟩
  · rw [gI_sI, h0]; exact upN_if (by omega) (congrArg nI)
  · rw [gI_sI, h1 p hp]; exact upN_if (by omega) (congrArg nI)
  · rw [gI_sI, h2 p hp]; exact upN_if (by omega) (congrArg nI)
  · rw [gI_sI, (h3 p hp).1]; exact upN_if (by omega) (congrArg nI)
  · rw [gI_sI, (h3 p hp).2]; exact upN_if (by omega) (congrArg nI)
  · rw [gI_sI, if_neg (by omega), h4 p hp, upN_ne (by omega)]
theorem StM.setH {v : zM} {A o : Nat} {N S : Nat → Nat} (hN : WfN N) (h : StM v A o N S) {w : Nat} (x : Nat) : StM (sI v A (o + (19 + w)) (hv x)) A o N (upN S (19 + w) x) := by
  obtain ⟨n0, n1, n2, n3, n4, n5⟩ := hN
  obtain ⟨h0, h1, h2, h3, h4⟩ := h
  refine ⟨?_, fun p hp => ?_, fun p hp => ?_, fun p hp => ⟨?_, ?_⟩, fun p hp => ?_⟩
  · rw [gI_sI, if_neg (by omega), h0, upN_ne (by omega)]
  · rw [gI_sI, if_neg (by omega), h1 p hp, upN_ne (by omega)]
  · rw [gI_sI, if_neg (by omega), h2 p hp, upN_ne (by omega)]
  · rw [gI_sI, if_neg (by omega), (h3 p hp).1, upN_ne (by omega)]
  · rw [gI_sI, if_neg (by omega), (h3 p hp).2, upN_ne (by omega)]
  · rw [gI_sI, h4 p hp]; exact upN_if (by omega) (congrArg hv)
/-- what is no cell of the county's, nor of the references', may change -/
theorem NowC.st {u u' : zM} {t : Nat} {N S S' : Nat → Nat} {K : Nat → Nat → Nat} {E : Int32 → Int32 → Int32 → Int32 → Int32} {a b : Nat} (h : NowC u t N K E a S) (hf : ∀ c k, c < 46 → c ≠ t + 20 → 3 < c → gI u' c k = gI u c k) (hr : u'.2.2 = u.2.2) (hs : StC u' b N S') : NowC u' t N K E b S' := by
  obtain ⟨h1, h2, h3, h4, h5⟩ := h
  refine ⟨?_, h2, h3.fr (fun c k hc => hf c k (by omega) (by omega) (by omega)), h4.fr (fun k => ⟨hf _ k (by omega) (by omega) (by omega), hf _ k (by omega) (by omega) (by omega)⟩), hs⟩
  show u'.2.2.1 1 1 = t
  rw [hr]
  exact h1
theorem NowM.st {v v' : zM} {N S S' : Nat → Nat} {K : Nat → Nat → Nat} {E : Int32 → Int32 → Int32 → Int32 → Int32} (hN : WfN N) (h : NowM v N K E S) (hf : ∀ c k, 3 ≤ c → c < 20 → gI v' c k = gI v c k) (hs : StM v' 40 0 N S') : NowM v' N K E S' := by
  obtain ⟨h1, h2, h3⟩ := h
  exact ⟨h1.fr hN (fun c k hc => hf c k (by omega) (by omega)), h2.fr ⟨hf _ _ (by omega) (by omega), hf _ _ (by omega) (by omega), fun k _ => hf _ _ (by omega) (by omega)⟩, hs⟩
/-! ===== the water behind a day ===== -/
def clN (x : Int32) : Nat := if x < 0 then 0 else if 9 < x then 9 else ix x
theorem nI_ixx {x : Int32} (h : ¬ x < 0) : nI (ix x) = x := by
  have h0 : 0 ≤ x.toInt := by
    have := Int32.not_lt.mp h
    rw [Int32.le_iff_toInt_le] at this
    exact this
  apply Int32.toInt_inj.mp
  show (nI x.toNatClampNeg).toInt = _
  have h2 : x.toNatClampNeg = x.toInt.toNat := rfl
  have h3 := x.toInt_lt
  rw [nI_toInt (by rw [h2]; omega), h2]
  omega
theorem clN_le (x : Int32) : clN x ≤ 9 := by
  unfold clN
  split
  · omega
  · split
    · omega
    · rename_i h1 h2
      have h3 : x ≤ nI 9 := Int32.not_lt.mp h2
      rw [← nI_ixx h1] at h3
      have h4 : ix x < 2 ^ 31 := by
        have : x.toNatClampNeg = x.toInt.toNat := rfl
        have := x.toInt_lt
        show x.toNatClampNeg < _
        omega
      exact (nI_leI h4 (by omega)).mp h3
def wbS (E : Int32 → Int32 → Int32 → Int32 → Int32) (K : Nat → Nat → Nat) (p l f d : Nat) : Nat := clN (E (nI l) (nI f) (nI (pop (K 0 p))) (nI d))
theorem Co_waterBehind_eq {u : zM} {t a : Nat} {N S : Nat → Nat} {K : Nat → Nat → Nat} {E : Int32 → Int32 → Int32 → Int32 → Int32} (hW : Wf N K S) (hu : NowC u t N K E a S) {p l f d : Nat} (hp : p < N 0) : ∃ u', Co_waterBehind t (nI p) (nI l) (nI f) (nI d) u = some (nI (wbS E K p l f d), u') ∧ Fr (fun c _ => c = t + 20) u u' := by
  obtain ⟨⟨n0, n1, n2, n3, n4, n5⟩, ⟨wp, wq, wo, ww, wi⟩, ⟨z0, zp, zq, zo, zw⟩⟩ := hW
  obtain ⟨rt, ht, ⟨⟨c0, c1, c2, c3, c4, c5⟩, cp, cq, co, cw, ci⟩, hl, ⟨s0, sp, sq, so, sw⟩⟩ := hu
  have lt := layT ht
  have h1 := (wp p hp).1
  have h2 := pw7 n0
  obtain ⟨u', e, hF⟩ := hl u (fun k => ⟨rfl, rfl⟩) (nI l) (nI f) (nI (pop (K 0 p))) (nI d)
  refine ⟨u', ?_, hF⟩
  unfold Co_waterBehind wbS
  rw [if_pos lt, if_pos (ib_nI (by omega) (by omega)), ix_nI (by omega), (cp p hp).1, zb_eq (bitCount_pop (by omega) u), zb_eq e]
  generalize E (nI l) (nI f) (nI (pop (K 0 p))) (nI d) = c
  unfold clN Jm_min Jm_max
  by_cases h3 : c < 0
  · rw [if_pos (Int32.lt_trans h3 (by decide)), zb_some, if_neg (Int32.not_lt.mpr (Int32.le_of_lt h3)), if_pos h3]
    rfl
  · rw [if_neg h3]
    by_cases h4 : 9 < c
    · rw [if_neg (Int32.not_lt.mpr (Int32.le_of_lt h4)), if_pos h4]
      rfl
    · rw [if_neg h4]
      by_cases h5 : c < 9
      · rw [if_pos h5, zb_some]
        by_cases h6 : 0 < c
        · rw [if_pos h6, zb_some, nI_ixx h3]
        · rw [if_neg h6, zb_some]
          have : c = 0 := Int32.le_antisymm (Int32.not_lt.mp h6) (Int32.not_lt.mp h3)
          subst this
          rfl
      · have : c = 9 := Int32.le_antisymm (Int32.not_lt.mp h4) (Int32.not_lt.mp h5)
        subst this
        rfl
theorem Mo_between_eq (c : Int32) (v : zM) : Mo_between c 0 9 v = some (nI (clN c), v) := by
  unfold Mo_between clN
  by_cases h3 : c < 0
  · rw [if_neg (Int32.not_le.mpr h3), if_pos h3]
    rfl
  · rw [if_neg h3, if_pos (Int32.not_lt.mp h3)]
    by_cases h4 : 9 < c
    · rw [if_neg (Int32.not_le.mpr h4), if_pos h4]
      rfl
    · rw [if_pos (Int32.not_lt.mp h4), if_neg h4, nI_ixx h3]
theorem Mo_wetBy_eq {v : zM} {N S : Nat → Nat} {K : Nat → Nat → Nat} {E : Int32 → Int32 → Int32 → Int32 → Int32} (hW : Wf N K S) (hz : NowM v N K E S) {p f : Nat} (hp : p < N 0) : ∃ v', Mo_wetBy (nI p) (nI f) v = some (nI (wbS E K p (S (1 + p)) f (S 0)), v') ∧ Fr (fun c _ => 22 ≤ c ∧ c ≤ 31) v v' := by
  obtain ⟨⟨n0, n1, n2, n3, n4, n5⟩, ⟨wp, wq, wo, ww, wi⟩, ⟨z0, zp, zq, zo, zw⟩⟩ := hW
  obtain ⟨⟨m0, mp, mq, mo, mw, mi⟩, hlm, ⟨x0, xp, xq, xo, xw⟩⟩ := hz
  simp only [Nat.zero_add] at x0 xp xq xo xw
  have h1 := (wp p hp).1
  have h2 := pw7 n0
  have h9 := zp p hp
  unfold Mo_wetBy
  by_cases h : gI v 18 0 ≤ gI v 17 0
  · refine ⟨v, ?_, Fr.rf⟩
    have e := (hlm v ⟨rfl, rfl, fun k _ => rfl⟩).1 h (nI (S (1 + p))) (nI f) (nI (pop (K 0 p))) (nI (S 0))
    simp (disch := omega) only [zl_e, zs_e, li0, li1, li2, li3, li4, li5, li6, li7, li8, li9, li10, li11, li12, li13, li14, li15, li16, li17, li18, li19, li20, li21, li22, li23, li24, li25, li26, li27, li28, li29, li30, li31, li32, li37, li40, li41, li42, li43, li45, li47, li48, li57, li59, li60, li61, li63, li64, li75, li97, li98, li99, li100, li120, li122, li126, li200, li240, li255, li305, li306, li375, li400, li427, li428, li1000, li2000, li9999, neg_nI1, ↓reduceIte, nI_leI, nI_ltI, nI_eq, nI_add, nI_1, pk_mul, ix_nI, ib_nI, if_true, if_false, eq_self, true_and, and_true, not_false_eq_true, not_true_eq_false, Nat.reduceEqDiff, Nat.reduceLeDiff, Nat.reduceLT, Nat.reduceAdd, Nat.reduceMul, m0, mp, mq, mo, mw, mi, x0, xp, xq, xo, xw, h]
    have e2 := Mo_between_eq (nI (S (1 + p)) + nI f - 1) v
    unfold wbS
    rw [e]
    rw [show (nI 0 : Int32) = 0 from rfl, show (nI 9 : Int32) = 9 from rfl, show (nI 1 : Int32) = 1 from rfl, ← nI_add, e2, zb_some]
  · simp (disch := omega) only [zl_e, ↓reduceIte, nI_leI, nI_ltI, nI_eq, nI_add, nI_1, pk_mul, ix_nI, ib_nI, if_true, if_false, eq_self, true_and, and_true, not_false_eq_true, not_true_eq_false, Nat.reduceEqDiff, Nat.reduceLeDiff, Nat.reduceLT, Nat.reduceAdd, Nat.reduceMul, m0, mp, mq, mo, mw, mi, x0, xp, xq, xo, xw, h]
    have e1 : (1 : Int32) + nI p = nI (1 + p) := nI_add 1 p
    rw [e1]
    simp (disch := omega) only [zl_e, ↓reduceIte, nI_leI, nI_ltI, nI_eq, nI_add, nI_1, pk_mul, ix_nI, ib_nI, if_true, if_false, eq_self, true_and, and_true, not_false_eq_true, not_true_eq_false, Nat.reduceEqDiff, Nat.reduceLeDiff, Nat.reduceLT, Nat.reduceAdd, Nat.reduceMul, m0, mp, mq, mo, mw, mi, x0, xp, xq, xo, xw, h]
    rw [gI_sI, if_neg (by omega), gI_sI, if_neg (by omega), (mp p hp).1, zb_eq (bits_pop (by omega) _)]
    rw [gI_sI, if_neg (by decide), gI_sI, if_neg (by decide), gI_sI, if_neg (by decide), x0]
    obtain ⟨v', e, hF⟩ := (hlm (sI (sI (sI (sI v 31 1 (nI (S (1 + p)))) 31 2 (nI f)) 31 3 (nI (pop (K 0 p)))) 31 4 (nI (S 0))) ⟨rfl, rfl, fun k _ => rfl⟩).2 h
    refine ⟨v', ?_, (Fr.tr (Fr.tr (Fr.tr (Fr.tr (Fr.sI ?_) (Fr.sI ?_)) (Fr.sI ?_)) (Fr.sI ?_)) (hF.mono (fun a _ h => by omega)))⟩
    · rw [zb_eq e]
      show zb (Mo_between (E (nI (S (1 + p))) (nI f) (nI (pop (K 0 p))) (nI (S 0))) 0 9 v') _ = _
      rw [Mo_between_eq]
      rfl
    all_goals decide
/-! ===== where one goes ===== -/
def bp (K : Nat → Nat → Nat) (S : Nat → Nat) (lik : Bool) (fr : Nat) : Nat → Nat
  | 0 => fr
  | k + 1 => if (K 0 fr).testBit k && (if lik then decide (S (1 + bp K S lik fr k) < S (1 + k)) else decide (S (1 + k) < S (1 + bp K S lik fr k))) then k else bp K S lik fr k
theorem bp_s (K : Nat → Nat → Nat) (S : Nat → Nat) (lik : Bool) (fr k : Nat) : bp K S lik fr (k + 1) = if (K 0 fr).testBit k && (if lik then decide (S (1 + bp K S lik fr k) < S (1 + k)) else decide (S (1 + k) < S (1 + bp K S lik fr k))) then k else bp K S lik fr k := rfl
theorem bp_lt {K : Nat → Nat → Nat} {S : Nat → Nat} {lik : Bool} {fr n : Nat} (h : fr < n) : ∀ k, k ≤ n → bp K S lik fr k < n := by
  intro k
  induction k with
  | zero => intro _; exact h
  | succ k ih =>
    intro hk
    rw [bp_s]
    generalize ((K 0 fr).testBit k && _) = c
    cases c
    · exact ih (by omega)
    · show k < n
      omega
theorem bp_congr {K : Nat → Nat → Nat} {S S' : Nat → Nat} {lik : Bool} {fr n : Nat} (hf : fr < n) (h : ∀ p, p < n → S (1 + p) = S' (1 + p)) : ∀ k, k ≤ n → bp K S lik fr k = bp K S' lik fr k := by
  intro k
  induction k with
  | zero => intro _; rfl
  | succ k ih =>
    intro hk
    rw [bp_s, bp_s, ih (by omega), h k (by omega), h _ (bp_lt hf k (by omega))]
def lkI (lik : Bool) : Int32 := if lik then nI 1 else mI
theorem lk_le : ∀ lik, ∀ a, a < 10 → ∀ b, b < 10 → (lkI lik * nI a ≤ lkI lik * nI b ↔ (if lik then decide (b < a) else decide (a < b)) = false) := by decide +kernel
theorem St_bestPlace_eq {u : zM} {t a : Nat} {N S : Nat → Nat} {K : Nat → Nat → Nat} {E : Int32 → Int32 → Int32 → Int32 → Int32} (hW : Wf N K S) (hu : NowC u t N K E a S) (hA : StA a) {fr : Nat} (hf : fr < N 0) (lik : Bool) : St_bestPlace a t (nI fr) (lkI lik) u = some (nI (bp K S lik fr (N 0)), u) := by
  have hW' := hW
  have hu' := hu
  obtain ⟨⟨n0, n1, n2, n3, n4, n5⟩, ⟨wp, wq, wo, ww, wi⟩, ⟨z0, zp, zq, zo, zw⟩⟩ := hW
  obtain ⟨rt, ht, ⟨⟨c0, c1, c2, c3, c4, c5⟩, cp, cq, co, cw, ci⟩, hl, ⟨s0, sp, sq, so, sw⟩⟩ := hu
  have lt := layT ht
  have lA := hA.1
  unfold St_bestPlace
  rw [if_pos lA, if_pos lt]
  refine lpz (fun n (s : Int32 × Int32) => St_bestPlace_6 n a t (nI fr) (lkI lik) s.1 s.2 u) (fun k => (nI (bp K S lik fr k), nI k)) (N 0) _ (by omega) (fun n => ?_) (fun n k hk => ?_)
  · show St_bestPlace_6b _ _ _ _ _ _ _ _ = _
    simp (disch := omega) only [St_bestPlace_6b, lA, li0, li1, li2, li3, li4, li5, li6, li7, li8, li9, li10, li11, li12, li13, li14, li15, li16, li17, li18, li19, li20, li21, li22, li23, li24, li25, li26, li27, li28, li29, li30, li31, li32, li37, li40, li41, li42, li43, li45, li47, li48, li57, li59, li60, li61, li63, li64, li75, li97, li98, li99, li100, li120, li122, li126, li200, li240, li255, li305, li306, li375, li400, li427, li428, li1000, li2000, li9999, neg_nI1, ↓reduceIte, nI_leI, nI_ltI, nI_eq, nI_add, nI_1, pk_mul, ix_nI, ib_nI, if_true, if_false, eq_self, true_and, and_true, not_false_eq_true, not_true_eq_false, Nat.reduceEqDiff, Nat.reduceLeDiff, Nat.reduceLT, Nat.reduceAdd, Nat.reduceMul, rt, lt, c0, c1, c2, c3, c4, c5, cp, cq, co, cw, ci, s0, sp, sq, so, sw, Nat.le_refl]
  · show St_bestPlace_6b _ _ _ _ _ _ _ _ = St_bestPlace_6 _ _ _ _ _ _ _ _
    have h1 := bp_lt (K := K) (S := S) (lik := lik) hf k (by omega)
    have e := Co_isLinked_eq hW' hu' hf (show k < 7 by omega)
    have h2 := zp k hk
    have h3 := zp _ h1
    have h4 := lk_le lik (S (1 + k)) (by omega) (S (1 + bp K S lik fr k)) (by omega)
    rw [bp_s]
    generalize bp K S lik fr k = B at h1 h3 h4 ⊢
    simp (disch := omega) only [St_bestPlace_6b, lA, zl_e, zs_e, li0, li1, li2, li3, li4, li5, li6, li7, li8, li9, li10, li11, li12, li13, li14, li15, li16, li17, li18, li19, li20, li21, li22, li23, li24, li25, li26, li27, li28, li29, li30, li31, li32, li37, li40, li41, li42, li43, li45, li47, li48, li57, li59, li60, li61, li63, li64, li75, li97, li98, li99, li100, li120, li122, li126, li200, li240, li255, li305, li306, li375, li400, li427, li428, li1000, li2000, li9999, neg_nI1, ↓reduceIte, nI_leI, nI_ltI, nI_eq, nI_add, nI_1, pk_mul, ix_nI, ib_nI, if_true, if_false, eq_self, true_and, and_true, not_false_eq_true, not_true_eq_false, Nat.reduceEqDiff, Nat.reduceLeDiff, Nat.reduceLT, Nat.reduceAdd, Nat.reduceMul, rt, lt, c0, c1, c2, c3, c4, c5, cp, cq, co, cw, ci, s0, sp, sq, so, sw, e, bI_0, Nat.not_le.mpr hk, h4]
    generalize (if lik = true then decide (S (1 + B) < S (1 + k)) else decide (S (1 + k) < S (1 + B))) = c
    cases (K 0 fr).testBit k <;> cases c <;> rfl
theorem Mo_goesTo_46_eq {v : zM} {N S : Nat → Nat} {K : Nat → Nat → Nat} {E : Int32 → Int32 → Int32 → Int32 → Int32} (hW : Wf N K S) (hz : NowM v N K E S) {fr : Nat} (hf : fr < N 0) (lik : Bool) : Mo_goesTo_46 zF (nI fr) (lkI lik) (nI fr) (nI 0) v = some (nI (bp K S lik fr (N 0)), v) := by
  have hW' := hW
  obtain ⟨⟨n0, n1, n2, n3, n4, n5⟩, ⟨wp, wq, wo, ww, wi⟩, ⟨z0, zp, zq, zo, zw⟩⟩ := hW
  obtain ⟨⟨m0, mp, mq, mo, mw, mi⟩, hlm, ⟨x0, xp, xq, xo, xw⟩⟩ := hz
  simp only [Nat.zero_add] at x0 xp xq xo xw
  refine lpz (fun n (s : Int32 × Int32) => Mo_goesTo_46 n (nI fr) (lkI lik) s.1 s.2 v) (fun k => (nI (bp K S lik fr k), nI k)) (N 0) _ (by omega) (fun n => ?_) (fun n k hk => ?_)
  · show Mo_goesTo_46b _ _ _ _ _ _ = _
    simp (disch := omega) only [Mo_goesTo_46b, li0, li1, li2, li3, li4, li5, li6, li7, li8, li9, li10, li11, li12, li13, li14, li15, li16, li17, li18, li19, li20, li21, li22, li23, li24, li25, li26, li27, li28, li29, li30, li31, li32, li37, li40, li41, li42, li43, li45, li47, li48, li57, li59, li60, li61, li63, li64, li75, li97, li98, li99, li100, li120, li122, li126, li200, li240, li255, li305, li306, li375, li400, li427, li428, li1000, li2000, li9999, neg_nI1, ↓reduceIte, nI_leI, nI_ltI, nI_eq, nI_add, nI_1, pk_mul, ix_nI, ib_nI, if_true, if_false, eq_self, true_and, and_true, not_false_eq_true, not_true_eq_false, Nat.reduceEqDiff, Nat.reduceLeDiff, Nat.reduceLT, Nat.reduceAdd, Nat.reduceMul, m0, mp, mq, mo, mw, mi, x0, xp, xq, xo, xw, Nat.le_refl]
  · show Mo_goesTo_46b _ _ _ _ _ _ = Mo_goesTo_46 _ _ _ _ _ _
    have h1 := bp_lt (K := K) (S := S) (lik := lik) hf k (by omega)
    have h2 := zp k hk
    have h3 := zp _ h1
    have h4 := lk_le lik (S (1 + k)) (by omega) (S (1 + bp K S lik fr k)) (by omega)
    have h5 : ¬ lkI lik = nI 0 := by cases lik <;> decide
    have h6 := (wp fr hf).1
    have h7 := pw7 n0
    rw [bp_s]
    generalize bp K S lik fr k = B at h1 h3 h4 ⊢
    simp (disch := omega) only [Mo_goesTo_46b, zl_e, zs_e, li0, li1, li2, li3, li4, li5, li6, li7, li8, li9, li10, li11, li12, li13, li14, li15, li16, li17, li18, li19, li20, li21, li22, li23, li24, li25, li26, li27, li28, li29, li30, li31, li32, li37, li40, li41, li42, li43, li45, li47, li48, li57, li59, li60, li61, li63, li64, li75, li97, li98, li99, li100, li120, li122, li126, li200, li240, li255, li305, li306, li375, li400, li427, li428, li1000, li2000, li9999, neg_nI1, ↓reduceIte, nI_leI, nI_ltI, nI_eq, nI_add, nI_1, pk_mul, ix_nI, ib_nI, if_true, if_false, eq_self, true_and, and_true, not_false_eq_true, not_true_eq_false, Nat.reduceEqDiff, Nat.reduceLeDiff, Nat.reduceLT, Nat.reduceAdd, Nat.reduceMul, m0, mp, mq, mo, mw, mi, x0, xp, xq, xo, xw, Nat.not_le.mpr hk, h4, h5, bn_bit (show K 0 fr < 1024 by omega) (show k < 10 by omega), bit_lt]
    generalize (if lik = true then decide (S (1 + B) < S (1 + k)) else decide (S (1 + k) < S (1 + B))) = c
    cases (K 0 fr).testBit k <;> cases c <;> rfl
def goS (N : Nat → Nat) (K : Nat → Nat → Nat) (S : Nat → Nat) (q : Nat) : Nat := if K 1 q = 1 then bp K S false (S (8 + q)) (N 0) else if K 1 q = 2 then bp K S true (S (8 + q)) (N 0) else S (8 + q)
theorem goS_lt {N S : Nat → Nat} {K : Nat → Nat → Nat} (hW : Wf N K S) {q : Nat} (hq : q < N 2) : goS N K S q < N 0 := by
  obtain ⟨⟨n0, n1, n2, n3, n4, n5⟩, ⟨wp, wq, wo, ww, wi⟩, ⟨z0, zp, zq, zo, zw⟩⟩ := hW
  have := zq q hq
  unfold goS
  split
  · exact bp_lt this _ (Nat.le_refl _)
  · split
    · exact bp_lt this _ (Nat.le_refl _)
    · exact this
theorem Mo_goesTo_eq {v : zM} {N S : Nat → Nat} {K : Nat → Nat → Nat} {E : Int32 → Int32 → Int32 → Int32 → Int32} (hW : Wf N K S) (hz : NowM v N K E S) {q : Nat} (hq : q < N 2) : Mo_goesTo (nI q) v = some (nI (goS N K S q), v) := by
  have hW' := hW
  have hz' := hz
  obtain ⟨⟨n0, n1, n2, n3, n4, n5⟩, ⟨wp, wq, wo, ww, wi⟩, ⟨z0, zp, zq, zo, zw⟩⟩ := hW
  obtain ⟨⟨m0, mp, mq, mo, mw, mi⟩, hlm, ⟨x0, xp, xq, xo, xw⟩⟩ := hz
  simp only [Nat.zero_add] at x0 xp xq xo xw
  have h1 := zq q hq
  have h2 := wq q hq
  have e1 : Mo_goesTo_46 zF (nI (S (8 + q))) mI (nI (S (8 + q))) (nI 0) v = _ := Mo_goesTo_46_eq hW' hz' h1 false
  have e2 : Mo_goesTo_46 zF (nI (S (8 + q))) (nI 1) (nI (S (8 + q))) (nI 0) v = _ := Mo_goesTo_46_eq hW' hz' h1 true
  have e3 : Mo_goesTo_46 zF (nI (S (8 + q))) (nI 0) (nI (S (8 + q))) (nI 0) v = some (nI (S (8 + q)), v) := by
    show Mo_goesTo_46b _ _ _ _ _ _ = _
    simp (disch := omega) only [Mo_goesTo_46b, li0, li1, li2, li3, li4, li5, li6, li7, li8, li9, li10, li11, li12, li13, li14, li15, li16, li17, li18, li19, li20, li21, li22, li23, li24, li25, li26, li27, li28, li29, li30, li31, li32, li37, li40, li41, li42, li43, li45, li47, li48, li57, li59, li60, li61, li63, li64, li75, li97, li98, li99, li100, li120, li122, li126, li200, li240, li255, li305, li306, li375, li400, li427, li428, li1000, li2000, li9999, neg_nI1, ↓reduceIte, nI_leI, nI_ltI, nI_eq, nI_add, nI_1, pk_mul, ix_nI, ib_nI, if_true, if_false, eq_self, true_and, and_true, not_false_eq_true, not_true_eq_false, Nat.reduceEqDiff, Nat.reduceLeDiff, Nat.reduceLT, Nat.reduceAdd, Nat.reduceMul, m0, mp, mq, mo, mw, mi, x0, xp, xq, xo, xw, ite_self]
  unfold goS
  simp (disch := omega) only [Mo_goesTo, zl_e, zs_e, li0, li1, li2, li3, li4, li5, li6, li7, li8, li9, li10, li11, li12, li13, li14, li15, li16, li17, li18, li19, li20, li21, li22, li23, li24, li25, li26, li27, li28, li29, li30, li31, li32, li37, li40, li41, li42, li43, li45, li47, li48, li57, li59, li60, li61, li63, li64, li75, li97, li98, li99, li100, li120, li122, li126, li200, li240, li255, li305, li306, li375, li400, li427, li428, li1000, li2000, li9999, neg_nI1, ↓reduceIte, nI_leI, nI_ltI, nI_eq, nI_add, nI_1, pk_mul, ix_nI, ib_nI, if_true, if_false, eq_self, true_and, and_true, not_false_eq_true, not_true_eq_false, Nat.reduceEqDiff, Nat.reduceLeDiff, Nat.reduceLT, Nat.reduceAdd, Nat.reduceMul, m0, mp, mq, mo, mw, mi, x0, xp, xq, xo, xw, e1, e2, e3]
  by_cases h3 : K 1 q = 1
  · rw [if_pos h3, if_pos h3]
  · rw [if_neg h3, if_neg h3]
    by_cases h4 : K 1 q = 2
    · rw [if_pos h4, if_pos h4]
    · rw [if_neg h4, if_neg h4]
