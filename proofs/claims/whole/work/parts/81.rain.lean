/-! ===== rain ===== -/
theorem CtX.rain {u u' v v' : zM} {s n x : Nat} {N : Nat → Nat} {K : Nat → Nat → Nat} {nm : Nat → Nat → List Nat} (h : CtX u v s N K nm) (hn : N 5 = n) (h12 : n < 12) (hx : x ≤ 9)
    (hu : ∀ c k, s ≤ c → c ≤ s + 17 → ¬ ((c = s ∧ k = 14) ∨ (c = s + 17 ∧ k = n)) → gI u' c k = gI u c k) (hul : ∀ c k, s ≤ c → c ≤ s + 17 → gL u' c k = gL u c k)
    (hv : ∀ c k, 3 ≤ c → c ≤ 16 → ¬ ((c = 3 ∧ k = 11) ∨ (c = 16 ∧ k = 12 + n)) → gI v' c k = gI v c k) (hvl : ∀ c k, 3 ≤ c → c ≤ 16 → gL v' c k = gL v c k)
    (c1 : gI u' s 14 = nI (n + 1)) (c2 : gI u' (s + 17) n = nI x) (m1 : gI v' 3 11 = nI (n + 1)) (m2 : gI v' 16 (12 + n) = nI x) : CtX u' v' s (upN N 5 (n + 1)) (upK K 5 n x) nm := by
  obtain ⟨⟨n0, n1, n2, n3, n4, n5⟩, ⟨k0, k1, k2, k3, k4⟩, ⟨⟨e0, e1, e2, e3, e4, e5⟩, cp, cq, co, cw, ci⟩, ⟨o1, op, oq, oo, ow, oi⟩, ⟨r1, r2⟩⟩ := h
  have E : ∀ i, i ≠ 5 → upN N 5 (n + 1) i = N i := fun i hi => upN_ne hi
  have U : ∀ i j, i ≠ 5 → upK K 5 n x i j = K i j := fun i j hi => upK_i hi
  refine ⟨?_, ?_, ?_, ?_, ?_⟩
  · exact ⟨by rw [E 0 (by decide)]; omega, by rw [E 1 (by decide)]; omega, by rw [E 2 (by decide)]; omega, by rw [E 3 (by decide)]; omega, by rw [E 4 (by decide)]; omega, by rw [upN_eq]; omega⟩
  · refine ⟨fun p hp => ?_, fun q hq => ?_, fun o ho => ?_, fun z hz => ?_, fun i hi => ?_⟩
    · rw [E 0 (by decide)] at hp ⊢
      rw [U 0 _ (by decide), U 6 _ (by decide)]
      obtain ⟨g1, g2, g3, g4⟩ := k0 p hp
      exact ⟨g1, g2, g3, fun q hq => by rw [U 0 _ (by decide)]; exact g4 q hq⟩
    · rw [E 2 (by decide)] at hq
      rw [E 0 (by decide), U 1 _ (by decide), U 7 _ (by decide)]
      exact k1 q hq
    · rw [E 3 (by decide)] at ho
      rw [E 0 (by decide), U 2 _ (by decide), U 8 _ (by decide)]
      exact k2 o ho
    · rw [E 4 (by decide)] at hz
      rw [E 2 (by decide), U 3 _ (by decide), U 4 _ (by decide)]
      exact k3 z hz
    · rw [upN_eq] at hi
      by_cases e : i = n
      · subst e
        rw [upK_eq]
        exact hx
      · rw [upK_p e]
        exact k4 i (by omega)
  · refine ⟨⟨by rw [E 0 (by decide)]; exact (hu _ _ (by omega) (by omega) (by omega)).trans e0, by rw [E 1 (by decide)]; exact (hu _ _ (by omega) (by omega) (by omega)).trans e1, by rw [E 2 (by decide)]; exact (hu _ _ (by omega) (by omega) (by omega)).trans e2, by rw [E 3 (by decide)]; exact (hu _ _ (by omega) (by omega) (by omega)).trans e3, by rw [E 4 (by decide)]; exact (hu _ _ (by omega) (by omega) (by omega)).trans e4, by rw [upN_eq]; exact c1⟩, fun p hp => ?_, fun p hp => ?_, fun p hp => ?_, fun p hp => ?_, fun p hp => ?_⟩
    · rw [E 0 (by decide)] at hp
      rw [U 0 _ (by decide), U 6 _ (by decide)]
      exact ⟨(hu _ _ (by omega) (by omega) (by omega)).trans (cp p hp).1, (hu _ _ (by omega) (by omega) (by omega)).trans (cp p hp).2⟩
    · rw [E 2 (by decide)] at hp
      rw [U 1 _ (by decide), U 7 _ (by decide)]
      exact ⟨(hu _ _ (by omega) (by omega) (by omega)).trans (cq p hp).1, (hu _ _ (by omega) (by omega) (by omega)).trans (cq p hp).2⟩
    · rw [E 3 (by decide)] at hp
      rw [U 2 _ (by decide), U 8 _ (by decide)]
      exact ⟨(hu _ _ (by omega) (by omega) (by omega)).trans (co p hp).1, (hu _ _ (by omega) (by omega) (by omega)).trans (co p hp).2⟩
    · rw [E 4 (by decide)] at hp
      rw [U 3 _ (by decide), U 4 _ (by decide)]
      exact ⟨(hu _ _ (by omega) (by omega) (by omega)).trans (cw p hp).1, (hu _ _ (by omega) (by omega) (by omega)).trans (cw p hp).2⟩
    · rw [upN_eq] at hp
      by_cases e : p = n
      · subst e
        rw [upK_eq]
        exact c2
      · rw [upK_p e]
        exact (hu _ _ (by omega) (by omega) (by omega)).trans (ci p (by omega))
  · refine ⟨fun i hi => ?_, fun p hp => ?_, fun p hp => ?_, fun p hp => ?_, fun p hp => ?_, fun p hp => ?_⟩
    · by_cases f : i = 5
      · subst f
        rw [upN_eq]
        exact m1
      · rw [E i f]
        exact (hv _ _ (by omega) (by omega) (by omega)).trans (o1 i hi)
    · rw [E 0 (by decide)] at hp
      rw [U 0 _ (by decide), U 6 _ (by decide)]
      exact ⟨(hv _ _ (by omega) (by omega) (by omega)).trans (op p hp).1, (hv _ _ (by omega) (by omega) (by omega)).trans (op p hp).2⟩
    · rw [E 2 (by decide)] at hp
      rw [U 1 _ (by decide), U 7 _ (by decide)]
      exact ⟨(hv _ _ (by omega) (by omega) (by omega)).trans (oq p hp).1, (hv _ _ (by omega) (by omega) (by omega)).trans (oq p hp).2⟩
    · rw [E 3 (by decide)] at hp
      rw [U 2 _ (by decide), U 8 _ (by decide)]
      exact ⟨(hv _ _ (by omega) (by omega) (by omega)).trans (oo p hp).1, (hv _ _ (by omega) (by omega) (by omega)).trans (oo p hp).2⟩
    · rw [E 4 (by decide)] at hp
      rw [U 3 _ (by decide), U 4 _ (by decide)]
      exact ⟨(hv _ _ (by omega) (by omega) (by omega)).trans (ow p hp).1, (hv _ _ (by omega) (by omega) (by omega)).trans (ow p hp).2⟩
    · rw [upN_eq] at hp
      by_cases e : p = n
      · subst e
        rw [upK_eq]
        exact m2
      · rw [upK_p e]
        exact (hv _ _ (by omega) (by omega) (by omega)).trans (oi p (by omega))
  · have hnS : ∀ z, z < 4 → upN N 5 (n + 1) (nS z) = N (nS z) := by
      intro z hz
      have h4 : z = 0 ∨ z = 1 ∨ z = 2 ∨ z = 3 := by omega
      rcases h4 with rfl | rfl | rfl | rfl <;> exact upN_ne (by decide)
    have h6 : ∀ z, z < 4 → nS z ≤ 4 := by
      intro z hz
      have h4 : z = 0 ∨ z = 1 ∨ z = 2 ∨ z = 3 := by omega
      rcases h4 with rfl | rfl | rfl | rfl <;> decide
    refine ⟨fun z hz => ?_, fun z hz i hi => ?_⟩
    · obtain ⟨q1, q2, q3⟩ := r1 z hz
      have g2 := h6 z hz
      rw [hnS z hz]
      exact ⟨(hu _ _ (by omega) (by omega) (by omega)).trans q1, (hv _ _ (by omega) (by omega) (by omega)).trans q2, q3⟩
    · rw [hnS z hz] at hi
      obtain ⟨q1, q2, q3⟩ := r2 z hz i hi
      exact ⟨q1, (hul _ _ (by omega) (by omega)).trans q2, (hvl _ _ (by omega) (by omega)).trans q3⟩
theorem Fin.num9 {u v : zM} {c b e k m : Nat} {T : Nat → Nat} {w : List Nat} (h : Fin u v c T b e k w m) : (k ≠ 2 → Ta_passNumber 0 9 u = some (0, sI u 2 6 (nI (1 + 16 * b)))) ∧ (k = 2 → 9 < m → Ta_passNumber 0 9 u = some (0, sI u 2 6 (nI (4 + 16 * b)))) ∧ (k = 2 → m ≤ 9 → ∀ u', Ta_step u = some ((), u') → Ta_passNumber 0 9 u = some (nI m, u')) ∧ (k = 2 → gI v 1 8 = nI m ∧ m ≤ 9999) := by
  have h0 := h
  obtain ⟨h1, ⟨a1, a2, a3, a4, a5, a6, a7, a8, a9, b1, b2⟩, h3⟩ := h
  obtain ⟨f1, f2, f3⟩ := h0.fail (j := 1) (by decide) (by decide)
  obtain ⟨g1, g2, g3⟩ := h0.fail (j := 4) (by decide) (by decide)
  refine ⟨fun q => ?_, fun q q9 => ?_, fun q q9 u' e => ?_, fun q => ⟨(b1 q).2.2, (b1 q).1⟩⟩
  · unfold Ta_passNumber
    rw [zb_eq h0.atN, decide_eq_false q, if_pos (show bI false = (0 : Int32) from rfl), zb_eq (show Ta_fail 1 u = _ from f1)]
  · obtain ⟨m1, m2, m3⟩ := b1 q
    obtain ⟨l1, l2⟩ := lg_lt (a := m) (b := 0) (by omega) (by omega)
    obtain ⟨l3, l4⟩ := lg_lt (a := m) (b := 9) (by omega) (by omega)
    unfold Ta_passNumber
    rw [zb_eq h0.atN, decide_eq_true q, if_neg bIt_ne, m2, show Int32.toInt64 0 = nL 0 from rfl, show Int32.toInt64 9 = nL 9 from rfl, if_neg (fun z => by have := l1.mp z; omega), if_neg (fun z => by have := l4.mp z; omega), zb_eq (show Ta_fail 4 u = _ from g1)]
  · obtain ⟨m1, m2, m3⟩ := b1 q
    obtain ⟨l1, l2⟩ := lg_lt (a := m) (b := 0) (by omega) (by omega)
    obtain ⟨l3, l4⟩ := lg_lt (a := m) (b := 9) (by omega) (by omega)
    unfold Ta_passNumber
    rw [zb_eq h0.atN, decide_eq_true q, if_neg bIt_ne, m2, show Int32.toInt64 0 = nL 0 from rfl, show Int32.toInt64 9 = nL 9 from rfl, if_neg (fun z => by have := l1.mp z; omega), if_pos (l4.mpr q9), toI_nL (by omega), zl_e, zb_eq e]
theorem rainB {u : zM} {x s : Nat} (h : Bad u x) (hs : s = 4 ∨ s = 25) {f : Nat} (hf : 0 < f) (i : Int32) : Co_readRain_37 f s i u = some ((), u) := by
  obtain ⟨f, rfl⟩ : ∃ z, f = z + 1 := ⟨f - 1, by omega⟩
  show Co_readRain_37b (Co_readRain_37 f) s i u = _
  unfold Co_readRain_37b
  rw [if_pos (layT hs), zb_eq (h.passS _), zb_eq h.atN, if_pos (show nI 0 = (0 : Int32) from rfl), zb_eq (h.passS _), ite_self]
theorem rain37 {u0 v0 u v : zM} {c b0 b e k m : Nat} {T : Nat → Nat} {w : List Nat} (h : Fin u v c T b e k w m) {s i : Nat} {N : Nat → Nat} {K : Nat → Nat → Nat} {nm : Nat → Nat → List Nat} (hX : CtX u v s N K nm) (hs : s = 4 ∨ s = 25) (hi : N 5 = i) (h1 : 1 ≤ i) (h12 : i ≤ 12) (hb : b0 < b) (f1 : Fr (cxC s) u0 u) (f2 : Fr cxM v0 v) {nC nM : Nat} (hC : 13 < nC) (hM : 13 < nM) : CtQ u0 v0 s c T b0 (Co_readRain_37 nC s (nI i) u) (Mo_readsRain_20 nM v) := by
  have lt := layT hs
  have key := lpj2 (fun n (z : Int32 × zM) => Co_readRain_37 n s z.1 z.2) (fun n z => Mo_readsRain_20 n z) (fun z t v => ∃ i b e k w m N K nm, t.1 = nI i ∧ i + z = 13 ∧ 1 ≤ i ∧ Fin t.2 v c T b e k w m ∧ b0 < b ∧ CtX t.2 v s N K nm ∧ N 5 = i ∧ Fr (cxC s) u0 t.2 ∧ Fr cxM v0 v) (fun r r' => CtQ u0 v0 s c T b0 r r') ?_ (13 - i) (13 - i) nC nM (nI i, u) v (Nat.le_refl _) (by omega) (by omega) ⟨i, b, e, k, w, m, N, K, nm, rfl, by omega, h1, h, hb, hX, hi, f1, f2⟩
  · exact key
  · rintro n m' z ⟨i0, u⟩ v hn hm ⟨i, b, e, k, w, m, N, K, nm, q1, q2, q3, h, hb, hX, hi, f1, f2⟩
    dsimp only at q1 h hX f1
    subst q1
    have n12 : i ≤ 12 := by rw [← hi]; exact hX.1.2.2.2.2.2
    have hc := h.1.1.1
    have hbc : b ≤ c := Nat.le_trans h.2.1.1 h.2.1.2.1
    have c14 : gI u s 14 = nI i := by rw [← hi]; exact hX.2.2.1.1.2.2.2.2.2
    have m11 : gI v 3 11 = nI i := by rw [← hi]; exact hX.2.2.2.1.1 5 (by decide)
    have k4 := h.2.1.2.2.2.2.2.1
    have m6 := h.2.1.2.2.2.2.1.2
    show CtQ u0 v0 s c T b0 (Co_readRain_37b (Co_readRain_37 n) s (nI i) u) (Mo_readsRain_20b (Mo_readsRain_20 m') v) ∨ ∃ k' s' t', _ ∧ _ ∧ Co_readRain_37b (Co_readRain_37 n) s (nI i) u = _ ∧ Mo_readsRain_20b (Mo_readsRain_20 m') v = _
    have e0 : ¬ nI i = (0 : Int32) := fun z => by have := (nI_eq (b := 0) (by omega) (by decide)).mp z; omega
    have e12 : ¬ (12 : Int32) < nI i := nI_nlt (a := 12) (by omega) (by omega)
    by_cases k2 : k = 2
    · obtain ⟨_, y2, y3, y4⟩ := h.num9
      obtain ⟨y5, y6⟩ := y4 k2
      have eC : Co_readRain_37b (Co_readRain_37 n) s (nI i) u = zb (Co_readMoreRain s u) (fun _ u4 => Co_readRain_37 n s (nI (i + 1)) u4) := by
        unfold Co_readRain_37b
        rw [if_pos lt, if_neg e12, zb_eq h.atN, decide_eq_true k2, if_neg bIt_ne, show nI i + 1 = nI (i + 1) from nI_1 i]
      have eM : Mo_readsRain_20b (Mo_readsRain_20 m') v = Mo_readsRain_38 (Mo_readsRain_20 m') v := by
        unfold Mo_readsRain_20b
        rw [m11, if_neg e0, m6, if_pos (show nI k = (2 : Int32) by rw [k2]; rfl)]
      rw [eC, eM]
      unfold Co_readMoreRain Mo_readsRain_38
      rw [if_pos lt, h.2.1.2.2.2.1.1, zl_e, m6, if_pos (show nI k = (2 : Int32) by rw [k2]; rfl), y5, m11]
      by_cases q9 : 9 < m
      · left
        obtain ⟨g1, g2, g3⟩ := h.fail (j := 4) (by decide) (by decide)
        rw [zb_eq (y2 k2 q9), zb_eq g3.fine, if_pos (show nI 0 = (0 : Int32) from rfl), if_neg (show ¬ nI m ≤ (9 : Int32) from @nI_ge 9 m q9 (by omega)), zs_e]
        refine ⟨_, _, rainB g3 hs (by omega) _, Or.inr ⟨by rw [zb_eq (show Mo_fails 4 v = _ from g2)]; rfl, (h.bd (j := 4) (by decide) (by decide)).cx f1 f2⟩⟩
      · rw [if_pos (show nI m ≤ (9 : Int32) from nI_le (b := 9) (by omega) (by decide))]
        by_cases q12 : i = 12
        · left
          obtain ⟨u1, v1, b1, e1, k1, w1, m1, s1, s2, s3, s4, s5, s6⟩ := h.step
          obtain ⟨f1', f2', f3'⟩ := h.fail (j := 5) (by decide) (by decide)
          obtain ⟨g1, g2⟩ := s3.failAt (j := 5) (z := b) (by decide) (by decide) (by omega)
          have c14' : gI u1 s 14 = nI i := (s5.i (by unfold stC; omega)).trans c14
          rw [zb_eq (y3 k2 (by omega) u1 s1), zb_eq s3.fine, if_neg one_ne, c14', if_neg (show ¬ nI i < (12 : Int32) from nI_nlt (a := i) (b := 12) (by omega) (by omega)), zb_eq (show Ta_failAt 5 (nI b) u1 = _ from g1), zs_e, if_pos (show nI i = (12 : Int32) by rw [q12]; rfl)]
          refine ⟨_, _, rainB g2 hs (by omega) _, Or.inr ⟨by rw [zb_eq (show Mo_fails 5 v = _ from f2')]; rfl, _, g2, gs_eq ⟨rfl, rfl⟩, (f1.tr (s5.mono (fun c k q => rdC_cx (stC_rd q)))).tr (Fr.sI (A := cxC s) (Or.inl (by unfold rdC; omega))), f2.tr (Fr.sI (A := cxM) (rdM_cx (by unfold rdM; omega)))⟩⟩
        · right
          have H1 : Fin u (sI (sI v 16 (12 + i) (nI m)) 3 11 (nI (i + 1))) c T b e k w m := h.fr (fun _ _ _ => rfl) rfl (fun a j q => (gs_ne (by omega)).trans (gs_ne (by omega))) rfl
          obtain ⟨u1, v1, b1, e1, k1, w1, m1, s1, s2, s3, s4, s5, s6⟩ := H1.step
          have hbe : b < e := h.2.1.2.2.2.2.2.2.2.1 (by omega)
          have c14' : gI u1 s 14 = nI i := (s5.i (by unfold stC; omega)).trans c14
          have i12 : ib (nI i) 12 = true := ib_nI (by omega) (by omega)
          rw [zb_eq (y3 k2 (by omega) u1 s1), zb_eq s3.fine, if_neg one_ne, c14', if_pos (show nI i < (12 : Int32) from nI_lt (b := 12) (by omega) (by decide)), if_pos i12, ix_nI (by omega), zl_e, show gI (sI u1 (s + 17) i (nI m)) s 14 = nI i from (gs_ne (by omega)).trans c14', show nI i + 1 = nI (i + 1) from nI_1 i, zl_e, zs_e, if_neg (show ¬ nI i = (12 : Int32) from fun z => q12 ((nI_eq (b := 12) (by omega) (by decide)).mp z)), show (12 : Int32) + nI i = nI (12 + i) from nI_add 12 i, if_pos (ib_nI (show 12 + i < 24 by omega) (by omega)), ix_nI (by omega), zl_e, show gI (sI v 16 (12 + i) (nI m)) 3 11 = nI i from (gs_ne (by omega)).trans m11, show nI i + 1 = nI (i + 1) from nI_1 i, zl_e, zb_eq s2]
          refine ⟨z - 1, (nI (i + 1), sI (sI u1 (s + 17) i (nI m)) s 14 (nI (i + 1))), v1, by omega, ⟨i + 1, b1, e1, k1, w1, m1, upN N 5 (i + 1), upK K 5 i m, nm, rfl, by omega, by omega, s3.fr (fun a j q => (gs_ne (by omega)).trans (gs_ne (by omega))) rfl (fun _ _ _ => rfl) rfl, by omega, ?_, upN_eq, ?_, ?_⟩, rfl, rfl⟩
          · exact hX.rain hi (by omega) (by omega) (fun p q h1 h2 z => (gs_ne (by omega)).trans ((gs_ne (by omega)).trans (s5.i (by unfold stC; omega)))) (fun p q h1 h2 => s5.l (by unfold stC; omega)) (fun p q h1 h2 z => (s6.i (by unfold stM; omega)).trans ((gs_ne (by omega)).trans (gs_ne (by omega)))) (fun p q h1 h2 => s6.l (by unfold stM; omega)) (gs_eq ⟨rfl, rfl⟩) ((gs_ne (by omega)).trans (gs_eq ⟨rfl, rfl⟩)) ((s6.i (by unfold stM; omega)).trans (gs_eq ⟨rfl, rfl⟩)) ((s6.i (by unfold stM; omega)).trans ((gs_ne (by omega)).trans (gs_eq ⟨rfl, rfl⟩)))
          · exact ((f1.tr (s5.mono (fun c k q => rdC_cx (stC_rd q)))).tr (Fr.sI (A := cxC s) (Or.inr ⟨by omega, by omega⟩))).tr (Fr.sI (A := cxC s) (Or.inr ⟨by omega, by omega⟩))
          · exact ((f2.tr (Fr.sI (A := cxM) (Or.inr ⟨by decide, by decide, show 12 ≤ 12 + i by omega⟩))).tr (Fr.sI (A := cxM) (Or.inr ⟨by decide, by decide, show 6 ≤ 11 by decide⟩))).tr (s6.mono (fun c k q => rdM_cx (stM_rd q)))
    · left
      obtain ⟨u1, v1, p1, p2⟩ := h.passS
      have eC : Co_readRain_37b (Co_readRain_37 n) s (nI i) u = some ((), u1) := by
        unfold Co_readRain_37b
        rw [if_pos lt, if_neg e12, zb_eq h.atN, decide_eq_false k2, if_pos (show bI false = (0 : Int32) from rfl), zb_eq p1]
      have eM : Mo_readsRain_20b (Mo_readsRain_20 m') v = zb (Mo_closes v) (fun c1 u1 => zbo c1 u1) := by
        unfold Mo_readsRain_20b
        rw [m11, if_neg e0, m6, if_neg (show ¬ nI k = (2 : Int32) from fun z => k2 ((nI_eq (b := 2) (by omega) (by decide)).mp z))]
      rw [eC, eM]
      rcases p2 with ⟨p2, b7, e7, k7, w7, m7, p3, p4, p5, p6⟩ | ⟨p2, x, z1, z2, z3, z4⟩
      · exact ⟨u1, v1, rfl, Or.inl ⟨by rw [zb_eq p2]; rfl, ⟨N, K, nm, hX.rd hs p5 p6⟩, b7, e7, k7, w7, m7, p3, by omega, f1.tr (p5.mono (fun c k => rdC_cx)), f2.tr (p6.mono (fun c k => rdM_cx))⟩⟩
      · exact ⟨u1, v1, rfl, Or.inr ⟨by rw [zb_eq p2]; rfl, x, z1, z2, f1.tr (z3.mono (fun c k => rdC_cx)), f2.tr (z4.mono (fun c k => rdM_cx))⟩⟩
theorem Co_readRain_eq {u v : zM} {c b e k m : Nat} {T : Nat → Nat} {w : List Nat} (h : Fin u v c T b e k w m) (hk : k = 1) {s : Nat} {N : Nat → Nat} {K : Nat → Nat → Nat} {nm : Nat → Nat → List Nat} (hX : CtX u v s N K nm) (hs : s = 4 ∨ s = 25) : CtQ u v s c T b (Co_readRain s u) (Mo_readsRain v) := by
  have lt := layT hs
  have n12 : N 5 ≤ 12 := hX.1.2.2.2.2.2
  have cn : gI u s 14 = nI (N 5) := hX.2.2.1.1.2.2.2.2.2
  have mn : gI v 3 11 = nI (N 5) := hX.2.2.2.1.1 5 (by decide)
  unfold Co_readRain Mo_readsRain
  rw [if_pos lt, cn, mn]
  by_cases q0 : N 5 = 0
  · rw [if_pos (show nI (N 5) ≤ (0 : Int32) by rw [q0]; decide), if_pos (show nI (N 5) ≤ (0 : Int32) by rw [q0]; decide)]
    obtain ⟨u1, v1, a1, a2, b1, e1, k1, w1, m1, a3, a4, a5, a6⟩ := h.go (by omega)
    have X1 := hX.rd hs a5 a6
    have mn1 : gI v1 3 11 = nI 0 := by rw [← q0]; exact X1.2.2.2.1.1 5 (by decide)
    have m6 := a3.2.1.2.2.2.2.1.2
    have k4 := a3.2.1.2.2.2.2.2.1
    rw [zb_eq a1, zb_eq a2]
    show CtQ u v s c T b _ (Mo_readsRain_20b (Mo_readsRain_20 4095) v1)
    unfold Mo_readsRain_20b Mo_readsRain_38
    rw [mn1, if_pos (show nI 0 = (0 : Int32) from rfl), m6]
    obtain ⟨y1, y2, y3, y4⟩ := a3.num9
    have badC : ∀ x (hB : Bad (sI u1 2 6 (nI x)) x), ∃ u', zlet (sI (sI u1 2 6 (nI x)) (s + 17) 0 0) (fun u3 => zlet (sI u3 s 14 1) (fun u4 => Co_readRain_37 zF s 1 u4)) = some ((), u') ∧ Bad u' x ∧ Fr (cxC s) u1 u' := by
      intro x hB
      have hB2 : Bad (sI (sI (sI u1 2 6 (nI x)) (s + 17) 0 0) s 14 1) x := (hB.fr (u' := sI (sI (sI u1 2 6 (nI x)) (s + 17) 0 0) s 14 1) ((gs_ne (by omega)).trans (gs_ne (by omega))))
      rw [zl_e, zl_e]
      exact ⟨_, rainB hB2 hs (by unfold zF; omega) 1, hB2, ((Fr.sI (A := cxC s) (Or.inl (by unfold rdC; omega))).tr (Fr.sI (A := cxC s) (Or.inr ⟨by omega, by omega⟩))).tr (Fr.sI (A := cxC s) (Or.inr ⟨by omega, by omega⟩))⟩
    by_cases k2 : k1 = 2
    · obtain ⟨y5, y6⟩ := y4 k2
      rw [if_pos (show nI k1 = (2 : Int32) by rw [k2]; rfl), y5]
      by_cases q9 : 9 < m1
      · obtain ⟨g1, g2, g3⟩ := a3.fail (j := 4) (by decide) (by decide)
        rw [zb_eq (y2 k2 q9), if_neg (show ¬ nI m1 ≤ (9 : Int32) from @nI_ge 9 m1 q9 (by omega))]
        obtain ⟨u', t1, t2, t3⟩ := badC _ g3
        exact ⟨u', _, t1, Or.inr ⟨by rw [zb_eq (show Mo_fails 4 v1 = _ from g2)]; rfl, _, t2, gs_eq ⟨rfl, rfl⟩, (a5.mono (fun c k => rdC_cx)).tr t3, (a6.mono (fun c k => rdM_cx)).tr (Fr.sI (A := cxM) (rdM_cx (by unfold rdM; omega)))⟩⟩
      · have H1 : Fin u1 (sI (sI v1 16 (12 + 0) (nI m1)) 3 11 (nI (0 + 1))) c T b1 e1 k1 w1 m1 := a3.fr (fun _ _ _ => rfl) rfl (fun a j q => (gs_ne (by omega)).trans (gs_ne (by omega))) rfl
        obtain ⟨u2, v2, b2, e2, k2', w2, m2, s1, s2, s3, s4, s5, s6⟩ := H1.step
        have hbe : b1 < e1 := a3.2.1.2.2.2.2.2.2.2.1 (by omega)
        rw [zb_eq (y3 k2 (by omega) u2 s1), zl_e, zl_e, if_pos (show nI m1 ≤ (9 : Int32) from nI_le (b := 9) (by omega) (by decide)), if_neg (show ¬ nI 0 = (12 : Int32) by decide), show (12 : Int32) + nI 0 = nI (12 + 0) from nI_add 12 0, if_pos (ib_nI (show 12 + 0 < 24 by decide) (by decide)), ix_nI (by decide), zl_e, show gI (sI v1 16 (12 + 0) (nI m1)) 3 11 = nI 0 from (gs_ne (by omega)).trans mn1, show nI 0 + 1 = nI (0 + 1) from nI_1 0, zl_e, zb_eq s2]
        have X2 := X1.rain (x := m1) (n := 0) q0 (by decide) (by omega) (u' := sI (sI u2 (s + 17) 0 (nI m1)) s 14 1) (v' := v2) (fun p q h1 h2 z => (gs_ne (by omega)).trans ((gs_ne (by omega)).trans (s5.i (by unfold stC; omega)))) (fun p q h1 h2 => s5.l (by unfold stC; omega)) (fun p q h1 h2 z => (s6.i (by unfold stM; omega)).trans ((gs_ne (by omega)).trans (gs_ne (by omega)))) (fun p q h1 h2 => s6.l (by unfold stM; omega)) (gs_eq ⟨rfl, rfl⟩) ((gs_ne (by omega)).trans (gs_eq ⟨rfl, rfl⟩)) ((s6.i (by unfold stM; omega)).trans (gs_eq ⟨rfl, rfl⟩)) ((s6.i (by unfold stM; omega)).trans ((gs_ne (by omega)).trans (gs_eq ⟨rfl, rfl⟩)))
        exact rain37 (i := 1) (s3.fr (fun a j q => (gs_ne (by omega)).trans (gs_ne (by omega))) rfl (fun _ _ _ => rfl) rfl) X2 hs upN_eq (by decide) (by decide) (show b < b2 by omega) ((((a5.mono (fun c k => rdC_cx)).tr (s5.mono (fun c k q => rdC_cx (stC_rd q)))).tr (Fr.sI (A := cxC s) (Or.inr ⟨by omega, by omega⟩))).tr (Fr.sI (A := cxC s) (Or.inr ⟨by omega, by omega⟩))) ((((a6.mono (fun c k => rdM_cx)).tr (Fr.sI (A := cxM) (Or.inr ⟨by decide, by decide, show 12 ≤ 12 + 0 by decide⟩))).tr (Fr.sI (A := cxM) (Or.inr ⟨by decide, by decide, show 6 ≤ 11 by decide⟩))).tr (s6.mono (fun c k q => rdM_cx (stM_rd q)))) (by unfold zF; omega) (by decide)
    · obtain ⟨g1, g2, g3⟩ := a3.fail (j := 1) (by decide) (by decide)
      rw [if_neg (show ¬ nI k1 = (2 : Int32) from fun z => k2 ((nI_eq (b := 2) (by omega) (by decide)).mp z)), zb_eq (y1 k2)]
      obtain ⟨u', t1, t2, t3⟩ := badC _ g3
      exact ⟨u', _, t1, Or.inr ⟨by rw [zb_eq (show Mo_fails 1 v1 = _ from g2)]; rfl, _, t2, gs_eq ⟨rfl, rfl⟩, (a5.mono (fun c k => rdC_cx)).tr t3, (a6.mono (fun c k => rdM_cx)).tr (Fr.sI (A := cxM) (rdM_cx (by unfold rdM; omega)))⟩⟩
  · rw [if_neg (show ¬ nI (N 5) ≤ (0 : Int32) from nI_ge (show 0 < N 5 by omega) (by omega)), if_neg (show ¬ nI (N 5) ≤ (0 : Int32) from nI_ge (show 0 < N 5 by omega) (by omega))]
    obtain ⟨f1, f2, f3⟩ := h.fail (j := 3) (by decide) (by decide)
    exact ⟨_, _, by rw [zb_eq (show Ta_fail 3 u = _ from f1)], Or.inr ⟨by rw [zb_eq (show Mo_fails 3 v = _ from f2)]; rfl, (h.bd (by decide) (by decide)).cx Fr.rf Fr.rf⟩⟩
