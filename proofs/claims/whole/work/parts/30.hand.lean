/-! ===== what is past is kept ===== -/
def kpM (c k : Nat) : Prop := c = 44 ∨ (c = 1 ∧ k = 56)
def kpC (c k : Nat) : Prop := (85 ≤ c ∧ c ≤ 180) ∨ (c = 1 ∧ (k = 12 ∨ k = 13))
theorem Mo_keeps_49_eq {v : zM} {e : Nat} (he : gI v 1 56 = nI e) (h15 : e ≤ 15) : ∃ v', Mo_keeps_49 v = some ((), v') ∧ gI v' 1 56 = nI (e + 1) ∧ (∀ k, k < 25 → gI v' 44 (25 * e + k) = gI v 40 (0 + k)) ∧ (∀ k, k < 25 * e → gI v' 44 k = gI v 44 k) ∧ Fr kpM v v' := by
  obtain ⟨v', e1, h1, h2⟩ := Mo_copies_eq (v := v) (A := 40) (B := 44) (i := 0) (j := 25 * e) (la := 25) (lb := 400) rfl rfl (by omega) (by omega) (by omega) (by omega) (by omega)
  refine ⟨sI v' 1 56 (nI (e + 1)), ?_, rfl, fun k hk => ?_, fun k hk => ?_, ?_⟩
  · unfold Mo_keeps_49
    rw [he]
    have e2 : (25 : Int32) * nI e = nI (25 * e) := pk_mul 25 e
    have e3 : Mo_copies 40 0 44 (nI (25 * e)) v = some ((), v') := e1
    have e4 : gI v' 1 56 = nI e := (h2.i (by omega)).trans he
    rw [e2, zb_eq e3]
    show some ((), sI v' 1 56 (gI v' 1 56 + 1)) = _
    rw [e4, nI_1]
  · rw [gI_sI, if_neg (by omega)]; exact h1 k hk
  · rw [gI_sI, if_neg (by omega)]; exact h2.i (by omega)
  · exact (h2.mono (fun c k h => Or.inl h.1)).tr (Fr.sI (Or.inr ⟨rfl, rfl⟩))
theorem Mo_keeps_11_eq {v : zM} (he : gI v 1 56 = nI 16) : ∃ v', Mo_keeps_11 zF 0 v = some ((), v') ∧ gI v' 1 56 = nI 16 ∧ (∀ k, k < 25 → gI v' 44 (375 + k) = gI v 40 (0 + k)) ∧ (∀ k, k < 375 → gI v' 44 k = gI v 44 (k + 25)) ∧ Fr kpM v v' := by
  refine lprz (fun n (s : Int32 × zM) => Mo_keeps_11 n s.1 s.2) (fun k s => s.1 = nI k ∧ (∀ q, q < k → gI s.2 44 q = gI v 44 (q + 25)) ∧ (∀ q, k ≤ q → gI s.2 44 q = gI v 44 q) ∧ Fr (fun c _ => c = 44) v s.2) (fun r => ∃ v', r = some ((), v') ∧ gI v' 1 56 = nI 16 ∧ (∀ k, k < 25 → gI v' 44 (375 + k) = gI v 40 (0 + k)) ∧ (∀ k, k < 375 → gI v' 44 k = gI v 44 (k + 25)) ∧ Fr kpM v v') 375 (0, v) (by omega) ⟨rfl, fun q hq => absurd hq (by omega), fun q _ => rfl, Fr.rf⟩ (fun n s hs => ?_) (fun n k s hk hs => Or.inr ?_)
  · obtain ⟨x, m⟩ := s
    obtain ⟨e, h1, h2, h3⟩ := hs
    dsimp only at e h1 h2 h3
    subst e
    have e0 : gI m 1 56 = nI 16 := (h3.i (by omega)).trans he
    obtain ⟨v', e1, b1, b2, b3, b4⟩ := Mo_keeps_49_eq (v := sI m 1 56 (nI 15)) (e := 15) rfl (by omega)
    refine ⟨v', ?_, b1, fun k hk => ?_, fun k hk => ?_, ?_⟩
    · show Mo_keeps_11b _ _ _ = _
      simp (disch := omega) only [Mo_keeps_11b, zl_e, zs_e, li0, li1, li2, li3, li4, li5, li6, li7, li8, li9, li10, li11, li12, li13, li14, li15, li16, li17, li18, li19, li20, li21, li22, li23, li24, li25, li26, li27, li28, li29, li30, li31, li32, li37, li40, li41, li42, li43, li45, li47, li48, li57, li59, li60, li61, li63, li64, li75, li97, li98, li99, li100, li120, li122, li126, li200, li240, li255, li305, li306, li375, li400, li427, li428, li1000, li2000, li9999, neg_nI1, ↓reduceIte, nI_leI, nI_ltI, nI_eq, nI_add, nI_1, pk_mul, ix_nI, ib_nI, if_true, if_false, eq_self, true_and, and_true, not_false_eq_true, not_true_eq_false, Nat.reduceEqDiff, Nat.reduceLeDiff, Nat.reduceLT, Nat.reduceAdd, Nat.reduceMul, Nat.le_refl, e0, pk_sub, Nat.reduceSub, e1]
    · rw [b2 k hk, gI_sI, if_neg (by omega)]; exact h3.i (by omega)
    · rw [b3 k (by omega), gI_sI, if_neg (by omega)]; exact h1 k hk
    · exact ((h3.mono (fun c k h => Or.inl h)).tr (Fr.sI (Or.inr ⟨rfl, rfl⟩))).tr b4
  · obtain ⟨x, m⟩ := s
    obtain ⟨e, h1, h2, h3⟩ := hs
    dsimp only at e h1 h2 h3
    subst e
    refine ⟨(nI (k + 1), sI m 44 k (gI m 44 (k + 25))), ⟨rfl, fun q hq => ?_, fun q hq => ?_, h3.tr (Fr.sI rfl)⟩, ?_⟩
    · show gI (sI _ _ _ _) _ _ = _
      by_cases h : q = k
      · subst h
        rw [gs_eq ⟨rfl, rfl⟩, h2 _ (by omega)]
      · rw [gs_ne (by omega), h1 q (by omega)]
    · show gI (sI _ _ _ _) _ _ = _
      rw [gs_ne (by omega), h2 q (by omega)]
    · show Mo_keeps_11b _ _ _ = Mo_keeps_11 _ _ _
      simp (disch := omega) only [Mo_keeps_11b, zl_e, zs_e, li0, li1, li2, li3, li4, li5, li6, li7, li8, li9, li10, li11, li12, li13, li14, li15, li16, li17, li18, li19, li20, li21, li22, li23, li24, li25, li26, li27, li28, li29, li30, li31, li32, li37, li40, li41, li42, li43, li45, li47, li48, li57, li59, li60, li61, li63, li64, li75, li97, li98, li99, li100, li120, li122, li126, li200, li240, li255, li305, li306, li375, li400, li427, li428, li1000, li2000, li9999, neg_nI1, ↓reduceIte, nI_leI, nI_ltI, nI_eq, nI_add, nI_1, pk_mul, ix_nI, ib_nI, if_true, if_false, eq_self, true_and, and_true, not_false_eq_true, not_true_eq_false, Nat.reduceEqDiff, Nat.reduceLeDiff, Nat.reduceLT, Nat.reduceAdd, Nat.reduceMul, Nat.not_le.mpr hk]
theorem StAp {x : Nat} (h : x < 16) : StA (85 + 6 * x) := by
  obtain rfl | rfl | rfl | rfl | rfl | rfl | rfl | rfl | rfl | rfl | rfl | rfl | rfl | rfl | rfl | rfl : x = 0 ∨ x = 1 ∨ x = 2 ∨ x = 3 ∨ x = 4 ∨ x = 5 ∨ x = 6 ∨ x = 7 ∨ x = 8 ∨ x = 9 ∨ x = 10 ∨ x = 11 ∨ x = 12 ∨ x = 13 ∨ x = 14 ∨ x = 15 := by omega
  all_goals exact ⟨rfl, rfl, rfl, rfl, rfl, rfl⟩
theorem OW_keepPast_eq {u : zM} {d x : Nat} (hd : d ≤ 16) (hx : x < 16) (h1 : gI u 1 12 = nI d) (h2 : gI u 1 13 = nI x) : ∃ u', OW_keepPast u = some ((), u') ∧ gI u' 1 12 = nI (min (d + 1) 16) ∧ gI u' 1 13 = nI ((x + 1) % 16) ∧ (∀ j k, j < 6 → k < stn j → (j = 0 → k = 5) → gI u' (85 + 6 * x + j) k = gI u (54 + j) k) ∧ (∀ c k, 85 ≤ c → c ≤ 180 → (c < 85 + 6 * x ∨ 90 + 6 * x < c) → gI u' c k = gI u c k) ∧ Fr kpC u u' := by
  obtain ⟨u', e, b1, b2⟩ := St_copy_eq (u := u) (a := 54) (b := 85 + 6 * x) StA54 (StAp hx) (by omega)
  refine ⟨sI (sI u' 1 13 (nI ((x + 1) % 16))) 1 12 (nI (min (d + 1) 16)), ?_, rfl, rfl, fun j k hj hk h5 => ?_, fun c k hc1 hc2 hc3 => ?_, ?_⟩
  · unfold OW_keepPast
    have e5 : 82 + (3 + 6 * x) = 85 + 6 * x := by omega
    have e1 : gI u' 1 13 = nI x := (b2.i (by omega)).trans h2
    have e6 : gI u' 1 12 = nI d := (b2.i (by omega)).trans h1
    by_cases h : 16 < d + 1
    · rw [Nat.min_eq_right (by omega)]
      simp (disch := omega) only [h2, e5, e, e1, e6, pk_rem, gs_ne, Jm_min, h, zl_e, zs_e, li0, li1, li2, li3, li4, li5, li6, li7, li8, li9, li10, li11, li12, li13, li14, li15, li16, li17, li18, li19, li20, li21, li22, li23, li24, li25, li26, li27, li28, li29, li30, li31, li32, li37, li40, li41, li42, li43, li45, li47, li48, li57, li59, li60, li61, li63, li64, li75, li97, li98, li99, li100, li120, li122, li126, li200, li240, li255, li305, li306, li375, li400, li427, li428, li1000, li2000, li9999, neg_nI1, ↓reduceIte, nI_leI, nI_ltI, nI_eq, nI_add, nI_1, pk_mul, ix_nI, ib_nI, if_true, if_false, eq_self, true_and, and_true, not_false_eq_true, not_true_eq_false, Nat.reduceEqDiff, Nat.reduceLeDiff, Nat.reduceLT, Nat.reduceAdd, Nat.reduceMul]
    · rw [Nat.min_eq_left (by omega)]
      simp (disch := omega) only [h2, e5, e, e1, e6, pk_rem, gs_ne, Jm_min, h, zl_e, zs_e, li0, li1, li2, li3, li4, li5, li6, li7, li8, li9, li10, li11, li12, li13, li14, li15, li16, li17, li18, li19, li20, li21, li22, li23, li24, li25, li26, li27, li28, li29, li30, li31, li32, li37, li40, li41, li42, li43, li45, li47, li48, li57, li59, li60, li61, li63, li64, li75, li97, li98, li99, li100, li120, li122, li126, li200, li240, li255, li305, li306, li375, li400, li427, li428, li1000, li2000, li9999, neg_nI1, ↓reduceIte, nI_leI, nI_ltI, nI_eq, nI_add, nI_1, pk_mul, ix_nI, ib_nI, if_true, if_false, eq_self, true_and, and_true, not_false_eq_true, not_true_eq_false, Nat.reduceEqDiff, Nat.reduceLeDiff, Nat.reduceLT, Nat.reduceAdd, Nat.reduceMul]
  · rw [gs_ne (by omega), gs_ne (by omega)]; exact b1 j k hj hk h5
  · rw [gs_ne (by omega), gs_ne (by omega)]; exact b2.i (by omega)
  · exact ((b2.mono (fun c k h => Or.inl (by omega))).tr (Fr.sI (Or.inr ⟨rfl, Or.inr rfl⟩))).tr (Fr.sI (Or.inr ⟨rfl, Or.inl rfl⟩))
theorem keep_eq {u v : zM} {t : Nat} {N S : Nat → Nat} {K : Nat → Nat → Nat} {E : Int32 → Int32 → Int32 → Int32 → Int32} {n : Nat} (hW : Wf N K S) (hu : NowC u t N K E 54 S) (hz : NowM v N K E S) (hn : S 0 ≤ n) (hp : PasI u v N K n) : ∃ u' v', OW_keepPast u = some ((), u') ∧ Mo_keeps v = some ((), v') ∧ PasI u' v' N K n ∧ Fr kpC u u' ∧ Fr kpM v v' := by
  obtain ⟨d, x, P, a1, a2, a3, a4, a5, a6⟩ := hp
  obtain ⟨u', e1, b1, b2, b3, b4, b5⟩ := OW_keepPast_eq a1 a2 a3 a4
  unfold Mo_keeps
  rw [a5]
  by_cases h16 : d = 16
  · subst h16
    obtain ⟨v', e2, c1, c2, c3, c4⟩ := Mo_keeps_11_eq a5
    refine ⟨u', v', e1, ?_, ⟨16, (x + 1) % 16, fun j => if j = 15 then S else P (j + 1), by omega, Nat.mod_lt _ (by omega), b1, b2, c1, fun j hj => ?_⟩, b5, c4⟩
    · rw [if_pos (by rfl)]; exact e2
    · dsimp only
      by_cases h : j = 15
      · subst h
        rw [if_pos rfl]
        refine ⟨hW, hn, ?_, hz.2.2.fr hW.1 (fun k hk => c2 k hk)⟩
        rw [show ((x + 1) % 16 + 16 - 16 + 15) % 16 = x by omega]
        exact hu.2.2.2.2.fr hW.1 b3
      · rw [if_neg h]
        obtain ⟨d1, d2, d3, d4⟩ := a6 (j + 1) (by omega)
        refine ⟨d1, d2, ?_, d4.fr hW.1 (fun k hk => (c3 _ (by omega)).trans (by rw [show 25 * j + k + 25 = 25 * (j + 1) + k by omega]))⟩
        rw [show ((x + 1) % 16 + 16 - 16 + j) % 16 = (x + 16 - 16 + (j + 1)) % 16 by omega]
        exact d3.fr hW.1 (fun i k hi _ _ => b4 _ _ (by omega) (by omega) (by omega))
  · obtain ⟨v', e2, c1, c2, c3, c4⟩ := Mo_keeps_49_eq a5 (by omega)
    refine ⟨u', v', e1, ?_, ⟨d + 1, (x + 1) % 16, fun j => if j = d then S else P j, by omega, Nat.mod_lt _ (by omega), by rw [b1, Nat.min_eq_left (by omega)], b2, c1, fun j hj => ?_⟩, b5, c4⟩
    · rw [if_neg (by rw [show (16 : Int32) = nI 16 from rfl, nI_eq (by omega) (by omega)]; exact h16)]; exact e2
    · dsimp only
      by_cases h : j = d
      · subst h
        rw [if_pos rfl]
        refine ⟨hW, hn, ?_, hz.2.2.fr hW.1 (fun k hk => c2 k hk)⟩
        rw [show ((x + 1) % 16 + 16 - (j + 1) + j) % 16 = x by omega]
        exact hu.2.2.2.2.fr hW.1 b3
      · rw [if_neg h]
        obtain ⟨d1, d2, d3, d4⟩ := a6 j (by omega)
        refine ⟨d1, d2, ?_, d4.fr hW.1 (fun k hk => c3 _ (by omega))⟩
        rw [show ((x + 1) % 16 + 16 - (d + 1) + j) % 16 = (x + 16 - d + j) % 16 by omega]
        exact d3.fr hW.1 (fun i k hi _ _ => b4 _ _ (by omega) (by omega) (by omega))
/-- what by-hand calls change of the class: the state of now, what is past -/
def hdC (t : Nat) (c k : Nat) : Prop := (54 ≤ c ∧ c ≤ 59) ∨ kpC c k ∨ scrC t c k
def hdM (c k : Nat) : Prop := c = 40 ∨ kpM c k ∨ scrM c k
theorem InvR.hd {n : Nat} {u u' v v' : zM} {t l : Nat} {N : Nat → Nat} {K : Nat → Nat → Nat} {E : Int32 → Int32 → Int32 → Int32 → Int32} {S S' : Nat → Nat} (h : InvR n u v t l N K E S) {n' : Nat} (hn : n ≤ n') (hu : Fr (hdC t) u u') (hv : Fr hdM v v') (hW : Wf N K S') (h0 : S' 0 ≤ n') (hsC : StC u' 54 N S') (hsM : StM v' 40 0 N S') (hp : PasI u' v' N K n') (hS : ∀ i, i < 13 → S' i = S i) : InvR n' u' v' t l N K E S' := by
  obtain ⟨a1, a2, a3, a4, a5, a6, a7, a8, a9, b1, b2, b3⟩ := h
  have ht := a3.2.1
  have hl := a5.2.2.1
  exact ⟨hW, h0, a3.st (fun c k _ _ _ => hu.i (by unfold hdC kpC scrC; omega)) hu.2 hsC, a4.st a1.1 (fun c k _ _ => hv.i (by unfold hdM kpM scrM; omega)) hsM, ⟨(hu.r _ _).trans a5.1, (hu.r _ _).trans a5.2.1, hl, (hu.r _ _).trans a5.2.2.2⟩, a6.fr (hu.i (by unfold hdC kpC scrC; omega)) (fun j k _ _ _ => hu.i (by unfold hdC kpC scrC; omega)) (hv.i (by unfold hdM kpM scrM; omega)) (fun c k _ _ _ => hv.i (by unfold hdM kpM scrM; omega)), a7.fr (hu.i (by unfold hdC kpC scrC; omega)) (fun j k _ _ _ _ => hu.i (by unfold hdC kpC scrC; omega)) (hv.i (by unfold hdM kpM scrM; omega)) (fun c k _ _ _ _ => hv.i (by unfold hdM kpM scrM; omega)), hp, a9.fr hn (fun c k _ => hu.i (by unfold hdC kpC scrC; omega)) (fun c k _ => hv.i (by unfold hdM kpM scrM; omega)), b1.fr hS (hu.i (by unfold hdC kpC scrC; omega)) (fun c k _ _ => hu.i (by unfold hdC kpC scrC; omega)), b2.fr (hu.i (by unfold hdC kpC scrC; omega)) (fun k => hu.i (by unfold hdC kpC scrC; omega)) (hv.i (by unfold hdM kpM scrM; omega)) (fun k => hv.i (by unfold hdM kpM scrM; omega)), b3.fr (fun c k _ _ => hu.l (by unfold hdC kpC scrC; omega)) (fun c k _ _ => hv.l (by unfold hdM kpM scrM; omega))⟩
theorem one_ne : ¬ nI 1 = (0 : Int32) := by decide
theorem bIt_ne : ¬ bI true = (0 : Int32) := by decide
theorem Wf.set {N S : Nat → Nat} {K : Nat → Nat → Nat} (hW : Wf N K S) {i x : Nat} (h : (13 ≤ i ∧ i < 16 ∧ x < N 0) ∨ (16 ≤ i ∧ i < 19 ∧ x ≤ 3) ∨ (19 ≤ i ∧ (x < N 3 ∨ x = 3 ∨ x = 4))) : Wf N K (upN S i x) := by
  have hW' := hW
  obtain ⟨⟨n0, n1, n2, n3, n4, n5⟩, ⟨wp, wq, wo, ww, wi⟩, ⟨z0, zp, zq, zo, zw⟩⟩ := hW
  refine ⟨hW'.1, hW'.2.1, ?_, fun p hp => ?_, fun q hq => ?_, fun o ho => ⟨?_, ?_⟩, fun w hw => ?_⟩
  · rw [upN_ne (by omega)]; exact z0
  · rw [upN_ne (by omega)]; exact zp p hp
  · rw [upN_ne (by omega)]; exact zq q hq
  · unfold upN
    split
    · omega
    · exact (zo o ho).1
  · unfold upN
    split
    · omega
    · exact (zo o ho).2
  · unfold upN
    split
    · omega
    · exact zw w hw
/-- both before a call by hand: as it is, what is past is kept -/
theorem InvR.keep {n : Nat} {u v : zM} {t l : Nat} {N : Nat → Nat} {K : Nat → Nat → Nat} {E : Int32 → Int32 → Int32 → Int32 → Int32} {S : Nat → Nat} (h : InvR n u v t l N K E S) : ∃ u' v', OW_keepPast u = some ((), u') ∧ Mo_keeps v = some ((), v') ∧ InvR n u' v' t l N K E S ∧ Fr kpC u u' ∧ Fr kpM v v' := by
  obtain ⟨u', v', e1, e2, hp, h1, h2⟩ := keep_eq h.1 h.2.2.1 h.2.2.2.1 h.2.1 h.2.2.2.2.2.2.2.1
  exact ⟨u', v', e1, e2, h.hd (Nat.le_refl _) (h1.mono (fun c k q => Or.inr (Or.inl q))) (h2.mono (fun c k q => Or.inr (Or.inl q))) h.1 h.2.1 (h.2.2.1.2.2.2.2.fr h.1.1 (fun j k _ _ _ => h1.i (by unfold kpC; omega))) (h.2.2.2.1.2.2.fr h.1.1 (fun k _ => h2.i (by unfold kpM; omega))) hp (fun _ _ => rfl), h1, h2⟩
theorem InvR.th {n : Nat} {u v : zM} {t l : Nat} {N : Nat → Nat} {K : Nat → Nat → Nat} {E : Int32 → Int32 → Int32 → Int32 → Int32} {S : Nat → Nat} (h : InvR n u v t l N K E S) : InvR n u (sI v 1 0 0) t l N K E S := h.scr (Nat.le_refl _) Fr.rf (Fr.sI (by unfold scrM; omega))
theorem InvR.up {n : Nat} {u v : zM} {t l : Nat} {N : Nat → Nat} {K : Nat → Nat → Nat} {E : Int32 → Int32 → Int32 → Int32 → Int32} {S : Nat → Nat} (h : InvR n u v t l N K E S) : InvR (n + 1) u v t l N K E S := h.scr (Nat.le_succ _) Fr.rf Fr.rf
theorem c_take {n : Nat} {u v : zM} (h : Inv n u v) (hn : n < 600) (x y : Int32) : ∃ r u' v', OW_take x y u = some (r, u') ∧ Mo_take x y v = some (r, v') ∧ Inv (n + 1) u' v' := by
  obtain ⟨h6, t, l, N, K, E, S, h⟩ := h
  have h0 := h
  unfold Mo_take OW_take
  dsimp only [zlet]
  have h := h.th
  generalize sI v 1 0 0 = v at *
  have rt := h.2.2.1.1
  have lt := layT h.2.2.1.2.1
  have n0 : N 0 ≤ 7 := h.1.1.1
  have n3 : N 3 ≤ 3 := h.1.1.2.2.2.1
  have n4 : N 4 ≤ 6 := h.1.1.2.2.2.2.1
  rw [rt, if_pos lt]
  rcases arg_ix x (show N 3 < 2 ^ 31 by omega) with ⟨o, ho, rfl⟩ | hx
  · rcases arg_ix y (show N 4 < 2 ^ 31 by omega) with ⟨w, hw, rfl⟩ | hy
    · rw [zb_eq (St_mayTake_ok h.1 h.2.2.1 StA54 ho hw), zb_eq (Mo_isOtter_ok h.1 h.2.2.2.1 ho), if_neg one_ne, zb_eq (Mo_isWrit_ok h.1 h.2.2.2.1 hw), if_neg one_ne, zb_eq (Mo_canTake_eq h.1 h.2.2.2.1 ho hw)]
      cases hb : tkB N S o w
      · exact ⟨nI 0, u, v, rfl, rfl, by omega, t, l, N, K, E, S, h.up⟩
      · rw [if_neg bIt_ne, if_neg bIt_ne]
        obtain ⟨u', v', e1, e2, h', f1, f2⟩ := h.keep
        rw [zb_eq e1, zb_eq e2]
        have e3 : (19 : Int32) + nI w = nI (19 + w) := nI_add 19 w
        rw [e3, if_pos (ib_nI (show w < 6 by omega) (by omega)), if_pos (ib_nI (show 19 + w < 25 by omega) (by omega)), ix_nI (by omega), ix_nI (by omega), ← hv_ne (show o ≠ 4 by omega)]
        refine ⟨1, sI u' 59 w (hv o), sI v' 40 (19 + w) (hv o), rfl, rfl, by omega, t, l, N, K, E, upN S (19 + w) o, ?_⟩
        have k1 := h'.2.2.1.2.2.2.2.setH h'.1.1 o (show w < 6 by omega)
        have k2 := h'.2.2.2.1.2.2.setH h'.1.1 (w := w) o
        rw [Nat.zero_add] at k2
        exact h'.hd (by omega) (Fr.sI (Or.inl (by omega))) (Fr.sI (Or.inl rfl)) (h'.1.set (by omega)) (by rw [upN_ne (by omega)]; exact Nat.le_trans h'.2.1 (by omega)) k1 k2 (h'.2.2.2.2.2.2.2.1.fr (by omega) (fun k _ _ => gs_ne (by omega)) (fun c k _ _ => gs_ne (by omega)) (gs_ne (by omega)) (fun k => gs_ne (by omega))) (fun i hi => upN_ne (by omega))
    · rw [zb_eq (St_mayTake_no h.1 h.2.2.1 StA54 (Or.inr hy)), zb_eq (Mo_isOtter_ok h.1 h.2.2.2.1 ho), if_neg one_ne, zb_eq (Mo_isWrit_no h.1 h.2.2.2.1 hy)]
      exact ⟨nI 0, u, v, rfl, rfl, by omega, t, l, N, K, E, S, h.up⟩
  · rw [zb_eq (St_mayTake_no h.1 h.2.2.1 StA54 (Or.inl hx)), zb_eq (Mo_isOtter_no h.1 h.2.2.2.1 hx)]
    exact ⟨nI 0, u, v, rfl, rfl, by omega, t, l, N, K, E, S, h.up⟩
theorem c_serve {n : Nat} {u v : zM} (h : Inv n u v) (hn : n < 600) (y : Int32) : ∃ r u' v', OW_serve y u = some (r, u') ∧ Mo_serve y v = some (r, v') ∧ Inv (n + 1) u' v' := by
  obtain ⟨h6, t, l, N, K, E, S, h⟩ := h
  have h0 := h
  unfold Mo_serve OW_serve
  dsimp only [zlet]
  have h := h.th
  generalize sI v 1 0 0 = v at *
  have rt := h.2.2.1.1
  have lt := layT h.2.2.1.2.1
  have n0 : N 0 ≤ 7 := h.1.1.1
  have n3 : N 3 ≤ 3 := h.1.1.2.2.2.1
  have n4 : N 4 ≤ 6 := h.1.1.2.2.2.2.1
  rw [rt, if_pos lt]
  rcases arg_ix y (show N 4 < 2 ^ 31 by omega) with ⟨w, hw, rfl⟩ | hy
  · rw [zb_eq (St_mayServe_ok h.1 h.2.2.1 StA54 hw), zb_eq (Mo_isWrit_ok h.1 h.2.2.2.1 hw), if_neg one_ne, zb_eq (Mo_canServe_eq h.1 h.2.2.2.1 hw)]
    cases hb : svB N K S w
    · exact ⟨mI, u, v, rfl, rfl, by omega, t, l, N, K, E, S, h.up⟩
    · rw [if_neg bIt_ne, if_neg bIt_ne]
      obtain ⟨u', v', e1, e2, h', f1, f2⟩ := h.keep
      rw [zb_eq e1, zb_eq e2]
      have e3 : (19 : Int32) + nI w = nI (19 + w) := nI_add 19 w
      have e4 : gI u' 59 w = hv (S (19 + w)) := h'.2.2.1.2.2.2.2.2.2.2.2 w hw
      have e5 : gI v' 40 (19 + w) = hv (S (19 + w)) := by have := h'.2.2.2.1.2.2.2.2.2.2 w hw; rwa [Nat.zero_add] at this
      rw [e3, if_pos (ib_nI (show w < 6 by omega) (by omega)), if_pos (ib_nI (show 19 + w < 25 by omega) (by omega)), ix_nI (by omega), ix_nI (by omega), e4, e5]
      rw [if_pos (ib_nI (show w < 6 by omega) (by omega)), if_pos (ib_nI (show 19 + w < 25 by omega) (by omega))]
      refine ⟨hv (S (19 + w)), sI u' 59 w (hv 3), sI v' 40 (19 + w) (hv 3), rfl, rfl, by omega, t, l, N, K, E, upN S (19 + w) 3, ?_⟩
      have k1 := h'.2.2.1.2.2.2.2.setH h'.1.1 3 (show w < 6 by omega)
      have k2 := h'.2.2.2.1.2.2.setH h'.1.1 (w := w) 3
      rw [Nat.zero_add] at k2
      exact h'.hd (by omega) (Fr.sI (Or.inl (by omega))) (Fr.sI (Or.inl rfl)) (h'.1.set (by omega)) (by rw [upN_ne (by omega)]; exact Nat.le_trans h'.2.1 (by omega)) k1 k2 (h'.2.2.2.2.2.2.2.1.fr (by omega) (fun k _ _ => gs_ne (by omega)) (fun c k _ _ => gs_ne (by omega)) (gs_ne (by omega)) (fun k => gs_ne (by omega))) (fun i hi => upN_ne (by omega))
  · rw [zb_eq (St_mayServe_no h.1 h.2.2.1 StA54 hy), zb_eq (Mo_isWrit_no h.1 h.2.2.2.1 hy)]
    exact ⟨mI, u, v, rfl, rfl, by omega, t, l, N, K, E, S, h.up⟩
theorem c_swim {n : Nat} {u v : zM} (h : Inv n u v) (hn : n < 600) (x y : Int32) : ∃ r u' v', OW_swim x y u = some (r, u') ∧ Mo_swim x y v = some (r, v') ∧ Inv (n + 1) u' v' := by
  obtain ⟨h6, t, l, N, K, E, S, h⟩ := h
  have h0 := h
  unfold Mo_swim OW_swim
  dsimp only [zlet]
  have h := h.th
  generalize sI v 1 0 0 = v at *
  have rt := h.2.2.1.1
  have lt := layT h.2.2.1.2.1
  have n0 : N 0 ≤ 7 := h.1.1.1
  have n3 : N 3 ≤ 3 := h.1.1.2.2.2.1
  have n4 : N 4 ≤ 6 := h.1.1.2.2.2.2.1
  rw [rt, if_pos lt]
  rcases arg_ix x (show N 3 < 2 ^ 31 by omega) with ⟨o, ho, rfl⟩ | hx
  · rcases arg_ix y (show N 0 < 2 ^ 31 by omega) with ⟨p, hp, rfl⟩ | hy
    · have hcb := canS_bit (K := K) (S := S) (o := o) hp
      have hlt := canS_lt (K := K) (S := S) h.1.1 o
      have ebit : (nI (canS N K S o) >>> (nI p &&& 31)) &&& 1 = nI ((canS N K S o).testBit p).toNat := b_bit _ (by omega) p (by omega)
      rw [zb_eq (St_maySwim_ok h.1 h.2.2.1 StA54 ho hp), zb_eq (Mo_isOtter_ok h.1 h.2.2.2.1 ho), if_neg one_ne, zb_eq (Mo_isPlace_ok h.1 h.2.2.2.1 hp), if_neg one_ne, zb_eq (Mo_canSwim_eq h.1 h.2.2.2.1 ho), ebit, hcb]
      cases hb : swB K S o p
      · exact ⟨mI, u, v, rfl, rfl, by omega, t, l, N, K, E, S, h.up⟩
      · rw [if_neg bIt_ne, if_neg (show ¬ nI true.toNat = (0 : Int32) by decide)]
        obtain ⟨u', v', e1, e2, h', f1, f2⟩ := h.keep
        rw [zb_eq e1, zb_eq e2]
        have hsw : S (16 + o) < 3 := by
          have h1 := (h.1.2.1.2.2.1 o ho).2.1
          unfold swB at hb
          simp at hb
          omega
        have e3 : (13 : Int32) + nI o = nI (13 + o) := nI_add 13 o
        have e4 : (16 : Int32) + nI o = nI (16 + o) := nI_add 16 o
        have k0 := (h'.2.2.1.2.2.2.2.2.2.2.1 o ho).2
        have k00 : gI u' 58 o = nI (S (16 + o)) := k0
        have kM := (h'.2.2.2.1.2.2.2.2.2.1 o ho).2
        rw [Nat.zero_add] at kM
        have dC : St_doSwim 54 (nI o) (nI p) u' = some ((), sI (sI u' 57 o (nI p)) 58 o (nI (S (16 + o) + 1))) := by
          have lA := StA54.1
          simp (disch := omega) only [St_doSwim, lA, zl_e, zs_e, li0, li1, li2, li3, li4, li5, li6, li7, li8, li9, li10, li11, li12, li13, li14, li15, li16, li17, li18, li19, li20, li21, li22, li23, li24, li25, li26, li27, li28, li29, li30, li31, li32, li37, li40, li41, li42, li43, li45, li47, li48, li57, li59, li60, li61, li63, li64, li75, li97, li98, li99, li100, li120, li122, li126, li200, li240, li255, li305, li306, li375, li400, li427, li428, li1000, li2000, li9999, neg_nI1, ↓reduceIte, nI_leI, nI_ltI, nI_eq, nI_add, nI_1, pk_mul, ix_nI, ib_nI, if_true, if_false, eq_self, true_and, and_true, not_false_eq_true, not_true_eq_false, Nat.reduceEqDiff, Nat.reduceLeDiff, Nat.reduceLT, Nat.reduceAdd, Nat.reduceMul, gs_ne, k00]
        have dM : Mo_swims (nI o) (nI p) v' = some ((), sI (sI v' 40 (13 + o) (nI p)) 40 (16 + o) (nI (S (16 + o) + 1))) := by
          simp (disch := omega) only [Mo_swims, zl_e, zs_e, li0, li1, li2, li3, li4, li5, li6, li7, li8, li9, li10, li11, li12, li13, li14, li15, li16, li17, li18, li19, li20, li21, li22, li23, li24, li25, li26, li27, li28, li29, li30, li31, li32, li37, li40, li41, li42, li43, li45, li47, li48, li57, li59, li60, li61, li63, li64, li75, li97, li98, li99, li100, li120, li122, li126, li200, li240, li255, li305, li306, li375, li400, li427, li428, li1000, li2000, li9999, neg_nI1, ↓reduceIte, nI_leI, nI_ltI, nI_eq, nI_add, nI_1, pk_mul, ix_nI, ib_nI, if_true, if_false, eq_self, true_and, and_true, not_false_eq_true, not_true_eq_false, Nat.reduceEqDiff, Nat.reduceLeDiff, Nat.reduceLT, Nat.reduceAdd, Nat.reduceMul, gs_ne, kM]
        rw [zb_eq dC, zb_eq dM, e4, if_pos (ib_nI (show o < 3 by omega) (by omega)), if_pos (ib_nI (show 16 + o < 25 by omega) (by omega)), ix_nI (by omega), ix_nI (by omega), gs_eq ⟨rfl, rfl⟩, gs_eq ⟨rfl, rfl⟩]
        refine ⟨nI (S (16 + o) + 1), _, _, rfl, rfl, by omega, t, l, N, K, E, upN (upN S (13 + o) p) (16 + o) (S (16 + o) + 1), ?_⟩
        have k1 := (h'.2.2.1.2.2.2.2.setO h'.1.1 p (show o < 3 by omega)).setM h'.1.1 (S (16 + o) + 1) (show o < 3 by omega)
        have k2 := (h'.2.2.2.1.2.2.set h'.1.1 p (show 13 + o < 19 by omega)).set h'.1.1 (S (16 + o) + 1) (show 16 + o < 19 by omega)
        rw [Nat.zero_add, Nat.zero_add] at k2
        exact h'.hd (by omega) ((Fr.sI (Or.inl (by omega))).tr (Fr.sI (Or.inl (by omega)))) ((Fr.sI (Or.inl rfl)).tr (Fr.sI (Or.inl rfl))) ((h'.1.set (by omega)).set (by omega)) (by rw [upN_ne (by omega), upN_ne (by omega)]; exact Nat.le_trans h'.2.1 (by omega)) k1 k2 (h'.2.2.2.2.2.2.2.1.fr (by omega) (fun k _ _ => by rw [gs_ne (by omega), gs_ne (by omega)]) (fun c k _ _ => by rw [gs_ne (by omega), gs_ne (by omega)]) (by rw [gs_ne (by omega), gs_ne (by omega)]) (fun k => by rw [gs_ne (by omega), gs_ne (by omega)])) (fun i hi => by rw [upN_ne (by omega), upN_ne (by omega)])
    · rw [zb_eq (St_maySwim_no h.1 h.2.2.1 StA54 (Or.inr hy)), zb_eq (Mo_isOtter_ok h.1 h.2.2.2.1 ho), if_neg one_ne, zb_eq (Mo_isPlace_no h.1 h.2.2.2.1 hy)]
      exact ⟨mI, u, v, rfl, rfl, by omega, t, l, N, K, E, S, h.up⟩
  · rw [zb_eq (St_maySwim_no h.1 h.2.2.1 StA54 (Or.inl hx)), zb_eq (Mo_isOtter_no h.1 h.2.2.2.1 hx)]
    exact ⟨mI, u, v, rfl, rfl, by omega, t, l, N, K, E, S, h.up⟩
