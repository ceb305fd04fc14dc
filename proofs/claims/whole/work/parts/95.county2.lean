/-! ===== county, whole ===== -/
theorem lays_cty {v v' : zM} {N : Nat → Nat} {K : Nat → Nat → Nat} (hN : WfN N) (hO : CtyO v N K) (h : ∀ r n k, (r, n) ∈ [(3, 6), (8, 7), (9, 7), (10, 5), (11, 5), (12, 3), (13, 3), (14, 6), (15, 6), (16, 12), (19, 1000)] → k < n → gI v' r k = gI v r (n + k)) : CtyM v' N K := by
  obtain ⟨n0, n1, n2, n3, n4, n5⟩ := hN
  obtain ⟨a1, a2, a3, a4, a5, a6⟩ := hO
  exact ⟨fun i hi => (h 3 6 i (by decide) hi).trans (a1 i hi), fun p hp => ⟨(h 9 7 p (by decide) (by omega)).trans (a2 p hp).1, (h 8 7 p (by decide) (by omega)).trans (a2 p hp).2⟩, fun p hp => ⟨(h 10 5 p (by decide) (by omega)).trans (a3 p hp).1, (h 11 5 p (by decide) (by omega)).trans (a3 p hp).2⟩, fun p hp => ⟨(h 13 3 p (by decide) (by omega)).trans (a4 p hp).1, (h 12 3 p (by decide) (by omega)).trans (a4 p hp).2⟩, fun p hp => ⟨(h 14 6 p (by decide) (by omega)).trans (a5 p hp).1, (h 15 6 p (by decide) (by omega)).trans (a5 p hp).2⟩, fun i hi => (h 16 12 i (by decide) (by omega)).trans (a6 i hi)⟩
theorem lays_nam {u u' v v' : zM} {s : Nat} {N : Nat → Nat} {nm : Nat → Nat → List Nat} (hR : NmR u v s 1 N nm) (hu : ∀ c k, s ≤ c → c ≤ s + 8 → gL u' c k = gL u c k) (h : ∀ r n k, (r, n) ∈ [(4, 7), (5, 5), (6, 3), (7, 6)] → k < n → gL v' r k = gL v r (n + k)) : NamI u' v' s 0 N := by
  intro a ha i hi
  obtain ⟨w1, w2, w3⟩ := hR.2 a ha i hi
  have hm := (hR.1 a ha).2.2
  refine ⟨nm a i, w1, (hu _ _ (by omega) (by omega)).trans w2, ?_⟩
  have h4 : a = 0 ∨ a = 1 ∨ a = 2 ∨ a = 3 := by omega
  rcases h4 with rfl | rfl | rfl | rfl
  · have hm : N 0 ≤ 7 := hm
    have hi : i < N 0 := hi
    show gL v' 4 (7 * 0 + i) = _
    rw [show 7 * 0 + i = i by omega]
    exact (h 4 7 i (by decide) (by omega)).trans w3
  · have hm : N 2 ≤ 5 := hm
    have hi : i < N 2 := hi
    show gL v' 5 (5 * 0 + i) = _
    rw [show 5 * 0 + i = i by omega]
    exact (h 5 5 i (by decide) (by omega)).trans w3
  · have hm : N 3 ≤ 3 := hm
    have hi : i < N 3 := hi
    show gL v' 6 (3 * 0 + i) = _
    rw [show 3 * 0 + i = i by omega]
    exact (h 6 3 i (by decide) (by omega)).trans w3
  · have hm : N 4 ≤ 6 := hm
    have hi : i < N 4 := hi
    show gL v' 7 (6 * 0 + i) = _
    rw [show 6 * 0 + i = i by omega]
    exact (h 7 6 i (by decide) (by omega)).trans w3
theorem sub1000 (q : Nat) : nI (1000 + q) - 1000 = nI q := by
  rw [← nI_add]
  show nI 1000 + nI q - nI 1000 = nI q
  rw [Int32.add_comm, Int32.add_sub_cancel]
theorem lays_law {u u' v v' : zM} {s : Nat} (hs : s = 4 ∨ s = 25) (hL : LawX u v s) (hu : ∀ k, gI u' (s + 18) k = gI u (s + 18) k ∧ gI u' (s + 19) k = gI u (s + 19) k) (m0 : gI v' 17 0 = gI v 17 1 - 1000) (m1 : gI v' 18 0 = gI v 18 1 - 1000) (m2 : ∀ k, k < 1000 → gI v' 19 k = gI v 19 (1000 + k)) : ∃ E, LwC u' s E ∧ LwM v' E := by
  rcases hL with ⟨h1, h2, h3, h4⟩ | ⟨ρ, P, Q, h1, h2, h3, h4, h5, h6, h7⟩
  · exact ⟨_, Lw_untold hs (((hu 2).1).trans h1) (m0.trans (by rw [h2]; exact sub1000 0)) (m1.trans (by rw [h3]; exact sub1000 0))⟩
  · have hQ : Hld v' 19 (0 + 0) Q := Hld_sh (a := 1000) Q 0 h3.2 (fun k _ hk => by rw [Nat.zero_add]; exact m2 k (by omega))
    exact Lw_told hs h1 (((hu 2).1).trans h2.1) (Hld.fr P 0 h2.2 (fun k => (hu k).2)) h4 (m0.trans (by rw [h6]; exact sub1000 0)) (m1.trans (by rw [h7]; exact sub1000 _)) hQ h5
theorem c_county {n : Nat} {u v : zM} (h : Inv n u v) (hn : n < 600) : ∃ r u' v', OW_county u = some (r, u') ∧ Mo_county v = some (r, v') ∧ Inv (n + 1) u' v' := by
  obtain ⟨h6, t, l, N, K, E, S, h⟩ := h
  have ht := h.2.2.1.2.1
  have lt := layT ht
  have rt := h.2.2.1.1
  obtain ⟨r2, r3, hl, r4⟩ := h.2.2.2.2.1
  obtain ⟨s, es⟩ : ∃ z, z = 29 - t := ⟨_, rfl⟩
  rw [← es] at r2
  have hs : s = 4 ∨ s = 25 := by omega
  have ls := layT hs
  obtain ⟨c, T, w1, w2, w3⟩ := h.2.2.2.2.2.2.2.2.2.2.1.two
  obtain ⟨u0, c0, c1, c3, c5, c7, c14, c15, c18, f0⟩ := clear_eq (u := u) hs
  obtain ⟨v0, m0, m3, m17, m18, m27, g0⟩ := readsAll_eq (v := sI v 1 0 0)
  obtain ⟨u1, v1, b, e, k, w, m, s1, s2, s3, s4, s5, s6⟩ := begin_eq (u := u0) (v := v0) w1 ⟨(f0.i (by omega)).trans w2.1, fun i hi => (f0.i (by omega)).trans (w2.2 i hi)⟩ ⟨(g0.i (by unfold raM; omega)).trans ((gs_ne (by omega)).trans w3.1), fun i hi => (g0.i (by unfold raM; omega)).trans ((gs_ne (by omega)).trans (w3.2 i hi))⟩
  have fC1 : Fr (chzC s) u u1 := (f0.mono (B := chzC s) (fun c k q => by unfold chzC; omega)).tr (s5.mono (fun c k q => by unfold rdC at q; unfold chzC; omega))
  have gM : Fr chzM v (sI v 1 0 0) := Fr.sI (Or.inr (by unfold bgM; omega))
  have fM1 : Fr chzM v v1 := (gM.tr (g0.mono (B := chzM) (fun c k q => by
    rcases q with ⟨rfl, q⟩ | q | q
    · exact Or.inl (Or.inr (Or.inr (Or.inl ⟨by decide, by decide, q⟩)))
    · exact Or.inl (Or.inr (Or.inr (Or.inr (Or.inl q))))
    · exact Or.inl (Or.inr (Or.inl q))))).tr (s6.mono (B := chzM) (fun c k q => Or.inr q))
  have hX : CtX u1 v1 s (fun _ => 0) (fun _ _ => 0) (fun _ _ => []) := (ctx0 c1 c3 c5 c7 c14 c15 m3).fr (fun c k h1 h2 => ⟨s5.i (by unfold rdC; omega), s5.l (by unfold rdC; omega)⟩) (fun c k h1 h2 => ⟨s6.i (by unfold bgM; omega), s6.l (by unfold bgM; omega)⟩)
  have hL : LawX u1 v1 s := Or.inl ⟨(s5.i (by unfold rdC; omega)).trans c18, (s6.i (by unfold bgM; omega)).trans m17, (s6.i (by unfold bgM; omega)).trans m18, (s6.i (by unfold bgM; omega)).trans m27⟩
  obtain ⟨u2, v2, y1, y2, y3, y4⟩ := ctyLoop s3 hX hs hL
  have fC2 : Fr (chzC s) u u2 := fC1.tr (y2.mono (fun c k => cyC_ch))
  have fM2 : Fr chzM v v2 := fM1.tr (y3.mono (fun c k q => Or.inl q))
  obtain ⟨u3, hu3⟩ : ∃ z, z = sI u2 2 1 0 := ⟨_, rfl⟩
  have f23 : Fr (fun c k => c = 2 ∧ k = 1) u2 u3 := by rw [hu3]; exact Fr.sI (by omega)
  have g21 : gI u3 2 1 = nI 0 := by rw [hu3]; exact gs_eq ⟨rfl, rfl⟩
  have fC3 : Fr (chzC s) u u3 := fC2.tr (f23.mono (fun c k q => by unfold chzC; omega))
  have q1 : gR u3 1 1 = t := (fC3.r 1 1).trans rt
  have q2 : gR u3 1 2 = s := (fC3.r 1 2).trans r2
  have g26 : gI u3 2 6 = gI u2 2 6 := f23.i (by omega)
  have eC : OW_county u = if gI u3 2 6 = 0 then zb (OW_startAnew (sR (sR u3 1 1 s) 1 2 t)) (fun _ u5 => some (gI u3 2 6, u5)) else some (gI u3 2 6, u3) := by
    unfold OW_county Co_read Ta_finish
    rw [r2, if_pos ls, if_pos ls, zb_eq c0, zb_eq s1, zb_eq (show Co_read_10 zF s 0 u1 = _ from y1), zl_e (sI u2 2 1 0), zs_e, ← hu3, q1, q2, if_pos lt, if_pos ls, zl_e, zl_e]
  have g11 : gI v2 1 1 = nI 0 := (y3.i (by unfold cyM rdW rdM; omega)).trans s4
  rcases y4 with ⟨x, z1, z2, z3⟩ | ⟨z1, z2, ⟨N', K', nm, z3⟩, z4⟩
  · refine ⟨nI x, u3, v2, ?_, ?_, by omega, t, l, N, K, E, S, h.mk2 (fun c k q => ⟨fC3.i (ch_keepC ht es q), fC3.l (ch_keepC ht es q)⟩) (fun c k q => ⟨fM2.i (ch_keepM q), fM2.l (ch_keepM q)⟩) (fC3.r _ _) ⟨q2.trans es, (fC3.r _ _).trans r3, hl, (fC3.r _ _).trans r4⟩ (h.2.2.2.2.2.1.fr (fC3.i (by unfold chzC; omega)) (fun j k _ _ _ => fC3.i (by unfold chzC; omega)) (fM2.i (by unfold chzM cyM rdW rdM bgM; omega)) (fun c k _ _ _ => fM2.i (by unfold chzM cyM rdW rdM bgM; omega))) (fin_0 g21 g11)⟩
    · rw [eC, g26, if_neg z1.n0, z1.1]
    · unfold Mo_county
      rw [zl_e (sI v 1 0 0), m0, zb_eq s2, zb_eq z2, if_pos rfl, z3]
  · obtain ⟨x1, x2, x3, x4, x5⟩ := z3
    obtain ⟨v3, p1, p2, p3, p4, p5, p6⟩ := Mo_lays_eq v2
    have hM := lays_cty x1 x4 p2
    obtain ⟨v4, a1, a2, a3, a4, a5, a6, a7⟩ := anewM x1 hM
    obtain ⟨u4, hu4⟩ : ∃ z, z = sR (sR u3 1 1 s) 1 2 t := ⟨_, rfl⟩
    have i4 : ∀ c k, gI u4 c k = gI u3 c k := fun c k => by rw [hu4]; rfl
    have l4 : ∀ c k, gL u4 c k = gL u3 c k := fun c k => by rw [hu4]; rfl
    have j1 : gR u4 1 1 = s := by rw [hu4, gR_sR, if_neg (by decide), gR_sR, if_pos ⟨rfl, rfl⟩]
    have j2 : gR u4 1 2 = t := by rw [hu4, gR_sR, if_pos ⟨rfl, rfl⟩]
    have j3 : gR u4 1 3 = l := by rw [hu4, gR_sR, if_neg (by decide), gR_sR, if_neg (by decide)]; exact (fC3.r _ _).trans r3
    have j4 : gR u4 1 4 = 96 - l := by rw [hu4, gR_sR, if_neg (by decide), gR_sR, if_neg (by decide)]; exact (fC3.r _ _).trans r4
    have hC4 : CtyC u4 s N' K' := x3.fr (fun a k q => (i4 _ _).trans (f23.i (by omega)))
    obtain ⟨u5, b1, b2, b3, b4, b5, b6, b7, b8, b9⟩ := startAnew_eq x1 hs hC4 j1 j3 hl
    have iL : ∀ c k, s ≤ c → c ≤ s + 19 → gI u5 c k = gI u2 c k ∧ gL u5 c k = gL u2 c k := fun c k h1 h2 => ⟨(b9.i (by unfold saC; omega)).trans ((i4 _ _).trans (f23.i (by omega))), (b9.l (by unfold saC; omega)).trans ((l4 _ _).trans (f23.l (by omega)))⟩
    obtain ⟨E', d1, d2⟩ := lays_law (u' := u5) (v' := v4) hs z4 (fun k => ⟨(iL _ _ (by omega) (by omega)).1, (iL _ _ (by omega) (by omega)).1⟩) ((a7.i (by unfold anM; omega)).trans p4) ((a7.i (by unfold anM; omega)).trans p5) (fun k hk => (a7.i (by unfold anM; omega)).trans (p2 19 1000 k (by decide) hk))
    refine ⟨0, u5, v4, ?_, ?_, by omega, s, l, N', K', E', begS K', begS_wf x1 x2, Nat.zero_le _, ⟨(b9.r _ _).trans j1, hs, x3.fr (fun a k q => (iL _ _ (by omega) (by omega)).1), d1, b2⟩, ⟨hM.fr x1 (fun a k q => a7.i (by unfold anM; omega)), d2, a2⟩, ⟨(b9.r _ _).trans (j2.trans (by omega)), (b9.r _ _).trans j3, hl, (b9.r _ _).trans j4⟩, ⟨0, fun _ => 0, fun _ => 0, fun _ => 0, ⟨by decide, fun i hi => absurd hi (by omega)⟩, ⟨b3, fun i hi => absurd hi (by omega)⟩, ⟨a3, fun i hi => absurd hi (by omega)⟩⟩, ⟨0, fun _ => 0, fun _ => 0, fun _ => false, by decide, b4, a4, fun i hi => absurd hi (by omega)⟩, ⟨0, 0, fun _ _ => 0, by decide, by decide, b6, b7, a5, fun i hi => absurd hi (by omega)⟩, fun k hk => ⟨false, b5 k hk, a6 k hk, fun q => absurd q (by decide)⟩, OutI.none b8, fin_0 ((b9.i (by unfold saC; omega)).trans ((i4 _ _).trans g21)) ((a7.i (by unfold anM; omega)).trans ((p6.i (by unfold lzM; omega)).trans g11)), ?_⟩
    · rw [eC, g26, show gI u2 2 6 = (0 : Int32) from z1, if_pos rfl, ← hu4, zb_eq b1]
    · unfold Mo_county
      rw [zl_e (sI v 1 0 0), m0, zb_eq s2, zb_eq z2, if_neg ne10, zb_eq p1]
      exact a1
    · exact lays_nam (v' := v4) x5 (fun c k h1 h2 => (iL _ _ h1 (by omega)).2) (fun r n k hr hk => (a7.l (by
        unfold anM
        simp only [List.mem_cons, Prod.mk.injEq, List.not_mem_nil, or_false] at hr
        omega)).trans (p3 r n k hr hk))
