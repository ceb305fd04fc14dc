/-! ===== crest, safe ===== -/
def bst (W : Nat → Nat) : Nat → Nat
  | 0 => 0
  | k + 1 => if W (bst W k) < W (k + 1) then k + 1 else bst W k
theorem bst_s (W : Nat → Nat) (k : Nat) : bst W (k + 1) = if W (bst W k) < W (k + 1) then k + 1 else bst W k := rfl
theorem bst_le (W : Nat → Nat) (k : Nat) : bst W k ≤ k := by
  induction k with
  | zero => exact Nat.le_refl 0
  | succ k ih => rw [bst_s]; split <;> omega
theorem waterOn_eq {u : zM} {N : Nat → Nat} {d p x : Nat} (hp : p < N 0) (h7 : N 0 ≤ 7) (hd : d ≤ 60) (h : gI u 77 (7 * d + p) = nI x) : Ou_waterOn (nI d) (nI p) u = some (nI x, u) := by
  rw [Nat.mul_comm] at h
  simp (disch := omega) only [Ou_waterOn, h, zl_e, zs_e, li0, li1, li2, li3, li4, li5, li6, li7, li8, li9, li10, li11, li12, li13, li14, li15, li16, li17, li18, li19, li20, li21, li22, li23, li24, li25, li26, li27, li28, li29, li30, li31, li32, li37, li40, li41, li42, li43, li45, li47, li48, li57, li59, li60, li61, li63, li64, li75, li97, li98, li99, li100, li120, li122, li126, li200, li240, li255, li305, li306, li375, li400, li427, li428, li1000, li2000, li9999, neg_nI1, ↓reduceIte, nI_leI, nI_ltI, nI_eq, nI_add, nI_1, pk_mul, ix_nI, ib_nI, if_true, if_false, eq_self, true_and, and_true, not_false_eq_true, not_true_eq_false, Nat.reduceEqDiff, Nat.reduceLeDiff, Nat.reduceLT, Nat.reduceAdd, Nat.reduceMul]
theorem c_crest {n : Nat} {u v : zM} (h : Inv n u v) (hn : n < 600) (x : Int32) : ∃ r u' v', OW_crest x u = some (r, u') ∧ Mo_crest x v = some (r, v') ∧ Inv (n + 1) u' v' := by
  obtain ⟨h6, t, l, N, K, E, S, h⟩ := h
  have h0 := h
  unfold Mo_crest OW_crest
  dsimp only [zlet]
  have h := h.th
  generalize sI v 1 0 0 = v at *
  have rt := h.2.2.1.1
  have lt := layT h.2.2.1.2.1
  have n0 : N 0 ≤ 7 := h.1.1.1
  have n3 : N 3 ≤ 3 := h.1.1.2.2.2.1
  have n4 : N 4 ≤ 6 := h.1.1.2.2.2.2.1
  rcases arg_ix x (show N 0 < 2 ^ 31 by omega) with ⟨p, hp, rfl⟩ | hx
  · rw [zb_eq (OW_isPlace_ok h.1 h.2.2.1 hp), if_neg one_ne, zb_eq (Mo_isPlace_ok h.1 h.2.2.2.1 hp), if_neg one_ne]
    have hS := h.2.1
    obtain ⟨u', e1, o1, o2, o3, o4⟩ := foretell_eq h.1 h.2.2.1 (by omega) h.2.2.2.2.2.2.2.2.2.1 (show 60 ≤ 60 by omega)
    obtain ⟨m, e2, g0⟩ := go_start h.1 h.2.2.2.1
    have e1' : Ou_foretell t 54 60 u = some ((), u') := e1
    rw [rt, if_pos lt, zb_eq e1', zb_eq e2]
    have hw : ∀ d, d ≤ 60 → itS E N K S d (1 + p) ≤ 9 := fun d hd => (itS_wf h.1 d (by omega)).2.2.2.1 p hp
    have eC : OW_crest_31 zF (nI p) 0 1 u' = some (nI (bst (fun d => itS E N K S d (1 + p)) 60), u') := by
      refine lpz (fun n' (z : Int32 × Int32) => OW_crest_31 n' (nI p) z.1 z.2 u') (fun k => (nI (bst (fun d => itS E N K S d (1 + p)) k), nI (k + 1))) 60 _ (by omega) (fun n' => ?_) (fun n' k hk => ?_)
      · show OW_crest_31b _ _ _ _ _ = _
        simp (disch := omega) only [OW_crest_31b, li0, li1, li2, li3, li4, li5, li6, li7, li8, li9, li10, li11, li12, li13, li14, li15, li16, li17, li18, li19, li20, li21, li22, li23, li24, li25, li26, li27, li28, li29, li30, li31, li32, li37, li40, li41, li42, li43, li45, li47, li48, li57, li59, li60, li61, li63, li64, li75, li97, li98, li99, li100, li120, li122, li126, li200, li240, li255, li305, li306, li375, li400, li427, li428, li1000, li2000, li9999, neg_nI1, ↓reduceIte, nI_leI, nI_ltI, nI_eq, nI_add, nI_1, pk_mul, ix_nI, ib_nI, if_true, if_false, eq_self, true_and, and_true, not_false_eq_true, not_true_eq_false, Nat.reduceEqDiff, Nat.reduceLeDiff, Nat.reduceLT, Nat.reduceAdd, Nat.reduceMul]
      · show OW_crest_31b _ _ _ _ _ = OW_crest_31 _ _ _ _ _
        have hb := bst_le (fun d => itS E N K S d (1 + p)) k
        rw [bst_s]
        generalize bst (fun d => itS E N K S d (1 + p)) k = B at hb ⊢
        have w1 := waterOn_eq hp n0 (show k + 1 ≤ 60 by omega) ((o4 (k + 1) (by omega)).1 p hp)
        have w2 := waterOn_eq hp n0 (show B ≤ 60 by omega) ((o4 B (by omega)).1 p hp)
        have w3 := hw (k + 1) (by omega)
        have w4 := hw B (by omega)
        dsimp only
        generalize itS E N K S (k + 1) (1 + p) = X at w1 w3 ⊢
        generalize itS E N K S B (1 + p) = Y at w2 w4 ⊢
        simp (disch := omega) only [OW_crest_31b, w1, w2, show ¬ 60 < k + 1 by omega, zl_e, zs_e, li0, li1, li2, li3, li4, li5, li6, li7, li8, li9, li10, li11, li12, li13, li14, li15, li16, li17, li18, li19, li20, li21, li22, li23, li24, li25, li26, li27, li28, li29, li30, li31, li32, li37, li40, li41, li42, li43, li45, li47, li48, li57, li59, li60, li61, li63, li64, li75, li97, li98, li99, li100, li120, li122, li126, li200, li240, li255, li305, li306, li375, li400, li427, li428, li1000, li2000, li9999, neg_nI1, ↓reduceIte, nI_leI, nI_ltI, nI_eq, nI_add, nI_1, pk_mul, ix_nI, ib_nI, if_true, if_false, eq_self, true_and, and_true, not_false_eq_true, not_true_eq_false, Nat.reduceEqDiff, Nat.reduceLeDiff, Nat.reduceLT, Nat.reduceAdd, Nat.reduceMul]
        by_cases hc : Y < X
        · rw [if_neg (by omega), if_pos hc]
        · rw [if_pos (by omega), if_neg hc]
    have eM : ∃ v', Mo_crest_35 zF (nI p) 0 (-1) 0 m = some (nI (bst (fun d => itS E N K S d (1 + p)) 60), v') ∧ (∀ k, k < 25 → gI v' 40 k = gI v 40 k) ∧ Fr goA v v' := by
      refine lprz (fun n' (s : Int32 × Int32 × Int32 × zM) => Mo_crest_35 n' (nI p) s.1 s.2.1 s.2.2.1 s.2.2.2) (fun k s => s.1 = nI (bst (fun d => itS E N K S d (1 + p)) (k - 1)) ∧ s.2.1 = (if k = 0 then mI else nI (itS E N K S (bst (fun d => itS E N K S d (1 + p)) (k - 1)) (1 + p))) ∧ s.2.2.1 = nI k ∧ GoM v s.2.2.2 N K E S k) (fun r => ∃ v', r = some (nI (bst (fun d => itS E N K S d (1 + p)) 60), v') ∧ (∀ k, k < 25 → gI v' 40 k = gI v 40 k) ∧ Fr goA v v') 61 (0, -1, 0, m) (by omega) ⟨rfl, rfl, rfl, g0⟩ (fun n' s hs => ?_) (fun n' k s hk hs => Or.inr ?_)
      · obtain ⟨b, y, i, m⟩ := s
        obtain ⟨q1, q2, q3, q4⟩ := hs
        dsimp only at q1 q2 q3 q4
        subst q1 q3
        obtain ⟨v', f1, g1, g2⟩ := go_back q4
        refine ⟨v', ?_, g1, g2⟩
        have f3 : Mo_copies 42 (nI 0) 40 (nI 0) m = some ((), v') := f1
        show Mo_crest_35b _ _ _ _ _ _ = _
        simp (disch := omega) only [Mo_crest_35b, f3, zl_e, zs_e, li0, li1, li2, li3, li4, li5, li6, li7, li8, li9, li10, li11, li12, li13, li14, li15, li16, li17, li18, li19, li20, li21, li22, li23, li24, li25, li26, li27, li28, li29, li30, li31, li32, li37, li40, li41, li42, li43, li45, li47, li48, li57, li59, li60, li61, li63, li64, li75, li97, li98, li99, li100, li120, li122, li126, li200, li240, li255, li305, li306, li375, li400, li427, li428, li1000, li2000, li9999, neg_nI1, ↓reduceIte, nI_leI, nI_ltI, nI_eq, nI_add, nI_1, pk_mul, ix_nI, ib_nI, if_true, if_false, eq_self, true_and, and_true, not_false_eq_true, not_true_eq_false, Nat.reduceEqDiff, Nat.reduceLeDiff, Nat.reduceLT, Nat.reduceAdd, Nat.reduceMul, Nat.reduceSub]
      · obtain ⟨b, y, i, m⟩ := s
        obtain ⟨q1, q2, q3, q4⟩ := hs
        dsimp only at q1 q2 q3 q4
        subst q1 q3
        obtain ⟨m', f1, g1⟩ := go_step h.1 (show S 0 + k < 2 ^ 20 by omega) q4
        have f2 := q4.1.2.2.2.1 p hp
        rw [Nat.zero_add] at f2
        have w3 := hw k (by omega)
        have e35 : ∀ b y i, Mo_crest_35 (n' + 1) (nI p) b y i m = Mo_crest_35b (Mo_crest_35 n') (nI p) b y i m := fun _ _ _ => rfl
        dsimp only
        rw [e35, Nat.add_sub_cancel]
        by_cases hk0 : k = 0
        · subst hk0
          rw [if_pos rfl] at q2
          subst q2
          refine ⟨(nI 0, nI (itS E N K S 0 (1 + p)), nI 1, m'), ⟨rfl, rfl, rfl, g1⟩, ?_⟩
          simp (disch := omega) only [Mo_crest_35b, f1, f2, mI_le, zl_e, zs_e, li0, li1, li2, li3, li4, li5, li6, li7, li8, li9, li10, li11, li12, li13, li14, li15, li16, li17, li18, li19, li20, li21, li22, li23, li24, li25, li26, li27, li28, li29, li30, li31, li32, li37, li40, li41, li42, li43, li45, li47, li48, li57, li59, li60, li61, li63, li64, li75, li97, li98, li99, li100, li120, li122, li126, li200, li240, li255, li305, li306, li375, li400, li427, li428, li1000, li2000, li9999, neg_nI1, ↓reduceIte, nI_leI, nI_ltI, nI_eq, nI_add, nI_1, pk_mul, ix_nI, ib_nI, if_true, if_false, eq_self, true_and, and_true, not_false_eq_true, not_true_eq_false, Nat.reduceEqDiff, Nat.reduceLeDiff, Nat.reduceLT, Nat.reduceAdd, Nat.reduceMul]
        · rw [if_neg hk0] at q2
          subst q2
          obtain ⟨j, rfl⟩ : ∃ j, k = j + 1 := ⟨k - 1, by omega⟩
          rw [Nat.add_sub_cancel]
          have hb := bst_le (fun d => itS E N K S d (1 + p)) j
          have w4 := hw _ (show bst (fun d => itS E N K S d (1 + p)) j ≤ 60 by omega)
          have es := bst_s (fun d => itS E N K S d (1 + p)) j
          by_cases hc : itS E N K S (bst (fun d => itS E N K S d (1 + p)) j) (1 + p) < itS E N K S (j + 1) (1 + p)
          · rw [if_pos hc] at es
            refine ⟨(nI (j + 1), nI (itS E N K S (j + 1) (1 + p)), nI (j + 1 + 1), m'), ⟨?_, ?_, rfl, g1⟩, ?_⟩
            · rw [es]
            · rw [if_neg (by omega), es]
            · simp (disch := omega) only [Mo_crest_35b, f1, f2, show ¬ 60 < j + 1 by omega, Nat.not_le.mpr hc, zl_e, zs_e, li0, li1, li2, li3, li4, li5, li6, li7, li8, li9, li10, li11, li12, li13, li14, li15, li16, li17, li18, li19, li20, li21, li22, li23, li24, li25, li26, li27, li28, li29, li30, li31, li32, li37, li40, li41, li42, li43, li45, li47, li48, li57, li59, li60, li61, li63, li64, li75, li97, li98, li99, li100, li120, li122, li126, li200, li240, li255, li305, li306, li375, li400, li427, li428, li1000, li2000, li9999, neg_nI1, ↓reduceIte, nI_leI, nI_ltI, nI_eq, nI_add, nI_1, pk_mul, ix_nI, ib_nI, if_true, if_false, eq_self, true_and, and_true, not_false_eq_true, not_true_eq_false, Nat.reduceEqDiff, Nat.reduceLeDiff, Nat.reduceLT, Nat.reduceAdd, Nat.reduceMul]
          · rw [if_neg hc] at es
            refine ⟨(nI (bst (fun d => itS E N K S d (1 + p)) j), nI (itS E N K S (bst (fun d => itS E N K S d (1 + p)) j) (1 + p)), nI (j + 1 + 1), m'), ⟨?_, ?_, rfl, g1⟩, ?_⟩
            · rw [es]
            · rw [if_neg (by omega), es]
            · simp (disch := omega) only [Mo_crest_35b, f1, f2, show ¬ 60 < j + 1 by omega, Nat.not_lt.mp hc, zl_e, zs_e, li0, li1, li2, li3, li4, li5, li6, li7, li8, li9, li10, li11, li12, li13, li14, li15, li16, li17, li18, li19, li20, li21, li22, li23, li24, li25, li26, li27, li28, li29, li30, li31, li32, li37, li40, li41, li42, li43, li45, li47, li48, li57, li59, li60, li61, li63, li64, li75, li97, li98, li99, li100, li120, li122, li126, li200, li240, li255, li305, li306, li375, li400, li427, li428, li1000, li2000, li9999, neg_nI1, ↓reduceIte, nI_leI, nI_ltI, nI_eq, nI_add, nI_1, pk_mul, ix_nI, ib_nI, if_true, if_false, eq_self, true_and, and_true, not_false_eq_true, not_true_eq_false, Nat.reduceEqDiff, Nat.reduceLeDiff, Nat.reduceLT, Nat.reduceAdd, Nat.reduceMul]
    obtain ⟨v', f4, f5, f6⟩ := eM
    rw [eC, f4]
    exact ⟨_, u', v', rfl, rfl, by omega, t, l, N, K, E, S, h.out (o3.mono (fun c k h => Or.inl h)) f6 f5 o1⟩
  · rw [zb_eq (OW_isPlace_no h.1 h.2.2.1 hx), zb_eq (Mo_isPlace_no h.1 h.2.2.2.1 hx)]
    exact ⟨mI, u, v, rfl, rfl, by omega, t, l, N, K, E, S, h.up⟩
