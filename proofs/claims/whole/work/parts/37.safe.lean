/-! ===== safe ===== -/
def alB (P : Nat → Bool) : Nat → Bool
  | 0 => true
  | n + 1 => alB P n && P n
theorem alB_s (P : Nat → Bool) (n : Nat) : alB P (n + 1) = (alB P n && P n) := rfl
theorem alB_f {P : Nat → Bool} {k : Nat} (hP : P k = false) : ∀ n, k < n → alB P n = false := by
  intro n
  induction n with
  | zero => intro h; omega
  | succ n ih =>
    intro h
    rw [alB_s]
    by_cases e : k = n
    · subst e; rw [hP]; simp
    · rw [ih (by omega)]; rfl
theorem bn_clr {a k : Nat} (ha : a < 128) (hk : k < 7) : nI a &&& ((nI 1 <<< (nI k &&& nI 31)) ^^^ mI) = nI (a ^^^ (a &&& 2 ^ k)) := by
  have h : ∀ a, a < 128 → ∀ k, k < 7 → nI a &&& ((nI 1 <<< (nI k &&& nI 31)) ^^^ mI) = nI (a ^^^ (a &&& 2 ^ k)) := by decide +kernel
  exact h a ha k hk
theorem clr_bit (a k i : Nat) : (a ^^^ (a &&& 2 ^ k)).testBit i = (a.testBit i && !decide (i = k)) := by
  rw [Nat.testBit_xor, Nat.testBit_and, Nat.testBit_two_pow]
  by_cases h : i = k
  · subst h; simp
  · have : decide (k = i) = false := by simp; omega
    simp [this, h]
theorem within1_no {x : Int32} {m : Nat} {u : zM} (h : x < nI 0 ∨ nI (m + 1) ≤ x) (hm : m < 2 ^ 30) : Mo_within x (nI 1) (nI m) u = some (nI 0, u) := by
  unfold Mo_within
  by_cases h0 : x < nI 1
  · rw [if_pos h0]; rfl
  · rw [if_neg h0]
    rcases h with h | h
    · exact absurd (Int32.lt_trans h (by decide)) h0
    · rw [if_pos (Int32.lt_of_lt_of_le (nI_lt (Nat.lt_succ_self m) (by omega)) h)]
      rfl
theorem isSafe_eq {u : zM} {N : Nat → Nat} {p D kd : Nat} {W : Nat → Nat} (hp : p < N 0) (h7 : N 0 ≤ 7) (hD : D ≤ 60) (hk : kd ≤ 3) (hW : ∀ d, d ≤ D → gI u 77 (7 * d + p) = nI (W d) ∧ W d ≤ 9) : OW_isSafe (nI kd) (nI p) (nI D) u = some (bI (alB (fun d => !srv kd (W d)) (D + 1)), u) := by
  unfold OW_isSafe
  refine lprz (fun n (s : Int32) => OW_isSafe_3 n (nI kd) (nI p) (nI D) s u) (fun k s => s = nI k ∧ alB (fun d => !srv kd (W d)) k = true) (fun r => r = some (bI (alB (fun d => !srv kd (W d)) (D + 1)), u)) (D + 1) 0 (by omega) ⟨rfl, rfl⟩ (fun n s hs => ?_) (fun n k s hk' hs => ?_)
  · obtain ⟨e, h1⟩ := hs
    subst e
    rw [h1]
    show OW_isSafe_3b _ _ _ _ _ _ = _
    simp (disch := omega) only [OW_isSafe_3b, show D < D + 1 by omega, li0, li1, li2, li3, li4, li5, li6, li7, li8, li9, li10, li11, li12, li13, li14, li15, li16, li17, li18, li19, li20, li21, li22, li23, li24, li25, li26, li27, li28, li29, li30, li31, li32, li37, li40, li41, li42, li43, li45, li47, li48, li57, li59, li60, li61, li63, li64, li75, li97, li98, li99, li100, li120, li122, li126, li200, li240, li255, li305, li306, li375, li400, li427, li428, li1000, li2000, li9999, neg_nI1, ↓reduceIte, nI_leI, nI_ltI, nI_eq, nI_add, nI_1, pk_mul, ix_nI, ib_nI, if_true, if_false, eq_self, true_and, and_true, not_false_eq_true, not_true_eq_false, Nat.reduceEqDiff, Nat.reduceLeDiff, Nat.reduceLT, Nat.reduceAdd, Nat.reduceMul]
    rfl
  · obtain ⟨e, h1⟩ := hs
    subst e
    have hw := hW k (by omega)
    have w1 := waterOn_eq hp h7 (show k ≤ 60 by omega) hw.1
    have w2 := St_isServable_eq (u := u) hk hw.2
    have e3 : ∀ s, OW_isSafe_3 (n + 1) (nI kd) (nI p) (nI D) s u = OW_isSafe_3b (OW_isSafe_3 n) (nI kd) (nI p) (nI D) s u := fun _ => rfl
    have e4 : OW_isSafe_3b (OW_isSafe_3 n) (nI kd) (nI p) (nI D) (nI k) u = if srv kd (W k) = false then OW_isSafe_3 n (nI kd) (nI p) (nI D) (nI (k + 1)) u else some (nI 0, u) := by
      simp (disch := omega) only [OW_isSafe_3b, w1, w2, bI_0, show ¬ D < k by omega, zl_e, zs_e, li0, li1, li2, li3, li4, li5, li6, li7, li8, li9, li10, li11, li12, li13, li14, li15, li16, li17, li18, li19, li20, li21, li22, li23, li24, li25, li26, li27, li28, li29, li30, li31, li32, li37, li40, li41, li42, li43, li45, li47, li48, li57, li59, li60, li61, li63, li64, li75, li97, li98, li99, li100, li120, li122, li126, li200, li240, li255, li305, li306, li375, li400, li427, li428, li1000, li2000, li9999, neg_nI1, ↓reduceIte, nI_leI, nI_ltI, nI_eq, nI_add, nI_1, pk_mul, ix_nI, ib_nI, if_true, if_false, eq_self, true_and, and_true, not_false_eq_true, not_true_eq_false, Nat.reduceEqDiff, Nat.reduceLeDiff, Nat.reduceLT, Nat.reduceAdd, Nat.reduceMul]
    rw [e3, e4]
    cases hs : srv kd (W k)
    · right
      exact ⟨nI (k + 1), ⟨rfl, by rw [alB_s, h1, hs]; rfl⟩, by rw [if_pos rfl]⟩
    · left
      rw [if_neg (by decide), alB_f (k := k) (by rw [hs]; rfl) (D + 1) (by omega)]
      rfl
theorem c_safe {n : Nat} {u v : zM} (h : Inv n u v) (hn : n < 600) (x y : Int32) : ∃ r u' v', OW_safe x y u = some (r, u') ∧ Mo_safe x y v = some (r, v') ∧ Inv (n + 1) u' v' := by
  obtain ⟨h6, t, l, N, K, E, S, h⟩ := h
  have h0 := h
  unfold Mo_safe OW_safe
  dsimp only [zlet]
  have h := h.th
  generalize sI v 1 0 0 = v at *
  have rt := h.2.2.1.1
  have lt := layT h.2.2.1.2.1
  have n0 : N 0 ≤ 7 := h.1.1.1
  have n3 : N 3 ≤ 3 := h.1.1.2.2.2.1
  have n4 : N 4 ≤ 6 := h.1.1.2.2.2.2.1
  have n2 : N 2 ≤ 5 := h.1.1.2.2.1
  have hS := h.2.1
  rcases arg_ix x (show N 2 < 2 ^ 31 by omega) with ⟨q, hq, rfl⟩ | hx
  · rw [zb_eq (OW_isPerson_ok h.1 h.2.2.1 hq), if_neg one_ne, zb_eq (Mo_isPerson_ok h.1 h.2.2.2.1 hq), if_neg one_ne]
    rcases arg_ix y (show 61 < 2 ^ 31 by omega) with ⟨D, hD, rfl⟩ | hy
    · by_cases hD0 : D = 0
      · subst hD0
        exact ⟨mI, u, v, rfl, rfl, by omega, t, l, N, K, E, S, h.up⟩
      · have w1 : OW_within (nI D) 1 60 u = some (nI 1, u) := OW_within_ok (n := 1) (m := 60) (by omega) (by omega) (by omega)
        have w2 : Mo_within (nI D) 1 60 v = some (nI 1, v) := Mo_within_ok (n := 1) (m := 60) (by omega) (by omega) (by omega)
        obtain ⟨u', e1, o1, o2, o3, o4⟩ := foretell_eq h.1 h.2.2.1 (by omega) h.2.2.2.2.2.2.2.2.2.1 (show D ≤ 60 by omega)
        obtain ⟨m, e2, g0⟩ := go_start h.1 h.2.2.2.1
        rw [zb_eq w1, if_neg one_ne, zb_eq w2, if_neg one_ne, rt, if_pos lt, zb_eq e1, zb_eq e2]
        have hw : ∀ d, d ≤ 60 → ∀ p, p < N 0 → itS E N K S d (1 + p) ≤ 9 := fun d hd p hp => (itS_wf h.1 d (by omega)).2.2.2.1 p hp
        have hkd := (h.1.2.1.2.1 q hq).1
        have ckd : gI u' (t + 11) q = nI (K 1 q) := (o2.2.2.1.2.2.1 q hq).1
        have c0 : gI u' (t + 1) 1 = nI (N 0) := o2.2.2.1.1.1
        have rt' := o2.1
        have eC : OW_safe_41 zF (nI q) (nI D) 0 0 u' = some (nI (mk (fun p => alB (fun d => !srv (K 1 q) (itS E N K S d (1 + p))) (D + 1)) (N 0)), u') := by
          refine lpz (fun n' (z : Int32 × Int32) => OW_safe_41 n' (nI q) (nI D) z.1 z.2 u') (fun k => (nI (mk (fun p => alB (fun d => !srv (K 1 q) (itS E N K S d (1 + p))) (D + 1)) k), nI k)) (N 0) _ (by omega) (fun n' => ?_) (fun n' k hk => ?_)
          · show OW_safe_41b _ _ _ _ _ _ = _
            simp (disch := omega) only [OW_safe_41b, rt', lt, c0, li0, li1, li2, li3, li4, li5, li6, li7, li8, li9, li10, li11, li12, li13, li14, li15, li16, li17, li18, li19, li20, li21, li22, li23, li24, li25, li26, li27, li28, li29, li30, li31, li32, li37, li40, li41, li42, li43, li45, li47, li48, li57, li59, li60, li61, li63, li64, li75, li97, li98, li99, li100, li120, li122, li126, li200, li240, li255, li305, li306, li375, li400, li427, li428, li1000, li2000, li9999, neg_nI1, ↓reduceIte, nI_leI, nI_ltI, nI_eq, nI_add, nI_1, pk_mul, ix_nI, ib_nI, if_true, if_false, eq_self, true_and, and_true, not_false_eq_true, not_true_eq_false, Nat.reduceEqDiff, Nat.reduceLeDiff, Nat.reduceLT, Nat.reduceAdd, Nat.reduceMul, Nat.le_refl]
          · show OW_safe_41b _ _ _ _ _ _ = OW_safe_41 _ _ _ _ _ _
            have es := isSafe_eq (u := u') hk n0 (show D ≤ 60 by omega) hkd (W := fun d => itS E N K S d (1 + k)) (fun d hd => ⟨(o4 d hd).1 k hk, hw d (by omega) k hk⟩)
            simp (disch := omega) only [OW_safe_41b, rt', lt, c0, ckd, es, bI_0, zl_e, zs_e, li0, li1, li2, li3, li4, li5, li6, li7, li8, li9, li10, li11, li12, li13, li14, li15, li16, li17, li18, li19, li20, li21, li22, li23, li24, li25, li26, li27, li28, li29, li30, li31, li32, li37, li40, li41, li42, li43, li45, li47, li48, li57, li59, li60, li61, li63, li64, li75, li97, li98, li99, li100, li120, li122, li126, li200, li240, li255, li305, li306, li375, li400, li427, li428, li1000, li2000, li9999, neg_nI1, ↓reduceIte, nI_leI, nI_ltI, nI_eq, nI_add, nI_1, pk_mul, ix_nI, ib_nI, if_true, if_false, eq_self, true_and, and_true, not_false_eq_true, not_true_eq_false, Nat.reduceEqDiff, Nat.reduceLeDiff, Nat.reduceLT, Nat.reduceAdd, Nat.reduceMul, Nat.not_le.mpr hk, bn_or (mk_lt10 _ (show k < 10 by omega))]
            cases hs : alB (fun d => !srv (K 1 q) (itS E N K S d (1 + k))) (D + 1)
            · rw [if_pos rfl, mk_f (P := fun p => alB (fun d => !srv (K 1 q) (itS E N K S d (1 + p))) (D + 1)) (k := k) hs]
            · rw [if_neg (by decide), mk_t (P := fun p => alB (fun d => !srv (K 1 q) (itS E N K S d (1 + p))) (D + 1)) (k := k) hs]
        have m0 : gI m 3 0 = nI (N 0) := g0.1.1.1 0 (by omega)
        have e9 : (1 <<< ((gI m 3 0) &&& 31)) - 1 = nI (2 ^ N 0 - 1) := by rw [m0]; exact all_eq n0
        have e8 : 2 ^ N 0 - 1 = mk (fun p => alB (fun d => !srv (K 1 q) (itS E N K S d (1 + p))) 0) (N 0) := by
          apply Nat.eq_of_testBit_eq
          intro i
          rw [mk_bit, Nat.testBit_two_pow_sub_one]
          simp [alB]
        have eM : ∃ v', Mo_safe_52 zF (nI q) (nI D) (nI (2 ^ N 0 - 1)) 0 m = some (nI (mk (fun p => alB (fun d => !srv (K 1 q) (itS E N K S d (1 + p))) (D + 1)) (N 0)), v') ∧ (∀ k, k < 25 → gI v' 40 k = gI v 40 k) ∧ Fr goA v v' := by
          refine lprz (fun n' (s : Int32 × Int32 × zM) => Mo_safe_52 n' (nI q) (nI D) s.1 s.2.1 s.2.2) (fun k s => s.1 = nI (mk (fun p => alB (fun d => !srv (K 1 q) (itS E N K S d (1 + p))) k) (N 0)) ∧ s.2.1 = nI k ∧ GoM v s.2.2 N K E S k) (fun r => ∃ v', r = some (nI (mk (fun p => alB (fun d => !srv (K 1 q) (itS E N K S d (1 + p))) (D + 1)) (N 0)), v') ∧ (∀ k, k < 25 → gI v' 40 k = gI v 40 k) ∧ Fr goA v v') (D + 1) (nI (2 ^ N 0 - 1), 0, m) (by omega) ⟨by rw [e8], rfl, g0⟩ (fun n' s hs => ?_) (fun n' k s hk hs => Or.inr ?_)
          · obtain ⟨b, i, m⟩ := s
            obtain ⟨q1, q2, q3⟩ := hs
            dsimp only at q1 q2 q3
            subst q1 q2
            obtain ⟨v', f1, g1, g2⟩ := go_back q3
            refine ⟨v', ?_, g1, g2⟩
            have f3 : Mo_copies 42 (nI 0) 40 (nI 0) m = some ((), v') := f1
            show Mo_safe_52b _ _ _ _ _ _ = _
            simp (disch := omega) only [Mo_safe_52b, f3, show D < D + 1 by omega, zl_e, zs_e, li0, li1, li2, li3, li4, li5, li6, li7, li8, li9, li10, li11, li12, li13, li14, li15, li16, li17, li18, li19, li20, li21, li22, li23, li24, li25, li26, li27, li28, li29, li30, li31, li32, li37, li40, li41, li42, li43, li45, li47, li48, li57, li59, li60, li61, li63, li64, li75, li97, li98, li99, li100, li120, li122, li126, li200, li240, li255, li305, li306, li375, li400, li427, li428, li1000, li2000, li9999, neg_nI1, ↓reduceIte, nI_leI, nI_ltI, nI_eq, nI_add, nI_1, pk_mul, ix_nI, ib_nI, if_true, if_false, eq_self, true_and, and_true, not_false_eq_true, not_true_eq_false, Nat.reduceEqDiff, Nat.reduceLeDiff, Nat.reduceLT, Nat.reduceAdd, Nat.reduceMul]
          · obtain ⟨b, i, m⟩ := s
            obtain ⟨q1, q2, q3⟩ := hs
            dsimp only at q1 q2 q3
            subst q1 q2
            obtain ⟨m', f1, g1⟩ := go_step h.1 (show S 0 + k < 2 ^ 20 by omega) q3
            refine ⟨(nI (mk (fun p => alB (fun d => !srv (K 1 q) (itS E N K S d (1 + p))) (k + 1)) (N 0)), nI (k + 1), m'), ⟨rfl, rfl, g1⟩, ?_⟩
            have e52 : ∀ b i, Mo_safe_52 (n' + 1) (nI q) (nI D) b i m = Mo_safe_52b (Mo_safe_52 n') (nI q) (nI D) b i m := fun _ _ => rfl
            have m0 : gI m 3 0 = nI (N 0) := q3.1.1.1 0 (by omega)
            have hWk : Wf N K (itS E N K S k) := itS_wf h.1 k (by omega)
            dsimp only
            rw [e52]
            simp (disch := omega) only [Mo_safe_52b, show ¬ D < k by omega, li0, li1, li2, li3, li4, li5, li6, li7, li8, li9, li10, li11, li12, li13, li14, li15, li16, li17, li18, li19, li20, li21, li22, li23, li24, li25, li26, li27, li28, li29, li30, li31, li32, li37, li40, li41, li42, li43, li45, li47, li48, li57, li59, li60, li61, li63, li64, li75, li97, li98, li99, li100, li120, li122, li126, li200, li240, li255, li305, li306, li375, li400, li427, li428, li1000, li2000, li9999, neg_nI1, ↓reduceIte, nI_leI, nI_ltI, nI_eq, nI_add, nI_1, pk_mul, ix_nI, ib_nI, if_true, if_false, eq_self, true_and, and_true, not_false_eq_true, not_true_eq_false, Nat.reduceEqDiff, Nat.reduceLeDiff, Nat.reduceLT, Nat.reduceAdd, Nat.reduceMul]
            have e0 : mk (fun p => alB (fun d => !srv (K 1 q) (itS E N K S d (1 + p))) k) (N 0) = mk (fun p => alB (fun d => !srv (K 1 q) (itS E N K S d (1 + p))) (if p < 0 then k + 1 else k)) (N 0) := mk_congr (fun p _ => by rw [if_neg (by omega)])
            rw [e0]
            refine lpz (fun n'' (z : Int32 × Int32) => Mo_safe_61 n'' (Mo_safe_52 n') (nI q) (nI D) z.1 (nI k) z.2 m) (fun j => (nI (mk (fun p => alB (fun d => !srv (K 1 q) (itS E N K S d (1 + p))) (if p < j then k + 1 else k)) (N 0)), nI j)) (N 0) _ (by omega) (fun n'' => ?_) (fun n'' j hj => ?_)
            · have e5 : mk (fun p => alB (fun d => !srv (K 1 q) (itS E N K S d (1 + p))) (if p < N 0 then k + 1 else k)) (N 0) = mk (fun p => alB (fun d => !srv (K 1 q) (itS E N K S d (1 + p))) (k + 1)) (N 0) := mk_congr (fun p hp => by rw [if_pos hp])
              show Mo_safe_61b _ _ _ _ _ _ _ _ = _
              simp (disch := omega) only [Mo_safe_61b, m0, f1, e5, zl_e, zs_e, li0, li1, li2, li3, li4, li5, li6, li7, li8, li9, li10, li11, li12, li13, li14, li15, li16, li17, li18, li19, li20, li21, li22, li23, li24, li25, li26, li27, li28, li29, li30, li31, li32, li37, li40, li41, li42, li43, li45, li47, li48, li57, li59, li60, li61, li63, li64, li75, li97, li98, li99, li100, li120, li122, li126, li200, li240, li255, li305, li306, li375, li400, li427, li428, li1000, li2000, li9999, neg_nI1, ↓reduceIte, nI_leI, nI_ltI, nI_eq, nI_add, nI_1, pk_mul, ix_nI, ib_nI, if_true, if_false, eq_self, true_and, and_true, not_false_eq_true, not_true_eq_false, Nat.reduceEqDiff, Nat.reduceLeDiff, Nat.reduceLT, Nat.reduceAdd, Nat.reduceMul, Nat.le_refl]
            · have f2 := q3.1.2.2.2.1 j hj
              rw [Nat.zero_add] at f2
              have es := Mo_isServed_eq hWk q3.1 hq (hw k (by omega) j hj)
              have hlt : mk (fun p => alB (fun d => !srv (K 1 q) (itS E N K S d (1 + p))) (if p < j then k + 1 else k)) (N 0) < 128 := mk_128 _ n0
              show Mo_safe_61b _ _ _ _ _ _ _ _ = Mo_safe_61 _ _ _ _ _ _ _ _
              simp (disch := omega) only [Mo_safe_61b, m0, f2, es, bI_0, zl_e, zs_e, li0, li1, li2, li3, li4, li5, li6, li7, li8, li9, li10, li11, li12, li13, li14, li15, li16, li17, li18, li19, li20, li21, li22, li23, li24, li25, li26, li27, li28, li29, li30, li31, li32, li37, li40, li41, li42, li43, li45, li47, li48, li57, li59, li60, li61, li63, li64, li75, li97, li98, li99, li100, li120, li122, li126, li200, li240, li255, li305, li306, li375, li400, li427, li428, li1000, li2000, li9999, neg_nI1, ↓reduceIte, nI_leI, nI_ltI, nI_eq, nI_add, nI_1, pk_mul, ix_nI, ib_nI, if_true, if_false, eq_self, true_and, and_true, not_false_eq_true, not_true_eq_false, Nat.reduceEqDiff, Nat.reduceLeDiff, Nat.reduceLT, Nat.reduceAdd, Nat.reduceMul, Nat.not_le.mpr hj, bn_clr hlt (show j < 7 by omega)]
              cases hs : srv (K 1 q) (itS E N K S k (1 + j))
              · rw [if_pos rfl]
                have e5 : mk (fun p => alB (fun d => !srv (K 1 q) (itS E N K S d (1 + p))) (if p < j + 1 then k + 1 else k)) (N 0) = mk (fun p => alB (fun d => !srv (K 1 q) (itS E N K S d (1 + p))) (if p < j then k + 1 else k)) (N 0) := mk_congr (fun p hp => by
                  by_cases hpj : p = j
                  · subst hpj
                    rw [if_pos (by omega), if_neg (by omega), alB_s, hs]
                    simp
                  · by_cases hp2 : p < j
                    · rw [if_pos (by omega), if_pos hp2]
                    · rw [if_neg (by omega), if_neg hp2])
                rw [e5]
              · rw [if_neg (by decide)]
                have e5 : mk (fun p => alB (fun d => !srv (K 1 q) (itS E N K S d (1 + p))) (if p < j then k + 1 else k)) (N 0) ^^^ (mk (fun p => alB (fun d => !srv (K 1 q) (itS E N K S d (1 + p))) (if p < j then k + 1 else k)) (N 0) &&& 2 ^ j) = mk (fun p => alB (fun d => !srv (K 1 q) (itS E N K S d (1 + p))) (if p < j + 1 then k + 1 else k)) (N 0) := by
                  apply Nat.eq_of_testBit_eq
                  intro i
                  rw [clr_bit, mk_bit, mk_bit]
                  by_cases hij : i = j
                  · subst hij
                    rw [if_neg (show ¬ i < i by omega), if_pos (show i < i + 1 by omega), alB_s, hs]
                    simp
                  · by_cases hp2 : i < j
                    · rw [if_pos hp2, if_pos (by omega)]
                      simp [hij]
                    · rw [if_neg hp2, if_neg (by omega)]
                      simp [hij]
                rw [e5]
        obtain ⟨v', f4, f5, f6⟩ := eM
        rw [e9, eC, f4]
        exact ⟨_, u', v', rfl, rfl, by omega, t, l, N, K, E, S, h.out (o3.mono (fun c k h => Or.inl h)) f6 f5 o1⟩
    · have w1 : OW_within y 1 60 u = some (nI 0, u) := within1_no (m := 60) hy (by omega)
      have w2 : Mo_within y 1 60 v = some (nI 0, v) := within1_no (m := 60) hy (by omega)
      rw [zb_eq w1, zb_eq w2]
      exact ⟨mI, u, v, rfl, rfl, by omega, t, l, N, K, E, S, h.up⟩
  · rw [zb_eq (OW_isPerson_no h.1 h.2.2.1 hx), zb_eq (Mo_isPerson_no h.1 h.2.2.2.1 hx)]
    exact ⟨mI, u, v, rfl, rfl, by omega, t, l, N, K, E, S, h.up⟩
