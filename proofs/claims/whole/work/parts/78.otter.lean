/-! ===== otters, writs ===== -/
theorem otterB {u : zM} {x s : Nat} (h : Bad u x) (hs : s = 4 ∨ s = 25) : (∀ (c3 : Int64) (c5 c7 : Int32), zb (Ta_isFine u) (fun c9 u9 => if c9 = 0 then (Co_readOtter_74 s c5 c7 (-1) u9) else (zb (Na_put (s + 5) c3 u9) (fun c10 u10 => Co_readOtter_74 s c5 c7 c10 u10))) = some ((), u)) := by
  intro c3 c5 c7
  rw [zb_eq h.fine, if_pos (show nI 0 = (0 : Int32) from rfl)]
  unfold Co_readOtter_74
  rw [if_pos (layT hs), if_pos rfl]
theorem Co_readOtter_eq {u v : zM} {c b e k m : Nat} {T : Nat → Nat} {w : List Nat} (h : Fin u v c T b e k w m) (hk : k = 1) {s : Nat} {N : Nat → Nat} {K : Nat → Nat → Nat} {nm : Nat → Nat → List Nat} (hX : CtX u v s N K nm) (hs : s = 4 ∨ s = 25) : CtQ u v s c T b (Co_readOtter s u) (Mo_readsOtter v) := by
  have lt := layT hs
  obtain ⟨n, hn⟩ : ∃ z, z = N 3 := ⟨_, rfl⟩
  have n7 : n ≤ 3 := by rw [hn]; exact (hX.2.2.2.2.1 2 (by decide)).2.2
  have cn : gI u (s + 5) 1 = nI n := by rw [hn]; exact (hX.2.2.2.2.1 2 (by decide)).1
  have mn : gI v 3 9 = nI n := by rw [hn]; exact hX.2.2.2.1.1 3 (by decide)
  have eF : Na_isFull (s + 5) u = some (bI (decide (3 ≤ n)), u) := isFull_eq (σ := 2) hs (by decide) cn n7
  have lT : layC (s + 1) = (13, 2) := (layN 0 (by decide) s hs).1
  unfold Co_readOtter Mo_readsOtter
  rw [if_pos lt, zb_eq eF, mn, show (3 : Int32) + nI n = nI (3 + n) from nI_add 3 n, zl_e (nI (3 + n))]
  by_cases full : n = 3
  · rw [decide_eq_true (show 3 ≤ n by omega), if_pos (show nI (3 + n) = (6 : Int32) by rw [full]; rfl)]
    obtain ⟨f1, f2, f3⟩ := h.fail (j := 5) (by decide) (by decide)
    refine ⟨_, _, ?_, Or.inr ⟨by rw [zb_eq (show Mo_fails 5 v = _ from f2)]; rfl, (h.bd (by decide) (by decide)).cx Fr.rf Fr.rf⟩⟩
    rw [zb_eq (passFirst_1 f1), zb_eq (f3.new hs), zb_eq (f3.passW _), zb_eq (f3.told lT), zb_eq (f3.passW _), zb_eq (f3.passN _ _), zb_eq (f3.passS _)]
    exact otterB f3 hs _ _ _
  · rw [decide_eq_false (show ¬ 3 ≤ n by omega), if_neg (show ¬ nI (3 + n) = (6 : Int32) from fun z => by have := (nI_eq (b := 6) (by omega) (by decide)).mp z; omega)]
    obtain ⟨u1, v1, a1, a2, b1, e1, k1, w1, m1, a3, a4, a5, a6⟩ := h.go (by omega)
    have X1 := hX.rd hs a5 a6
    rw [zb_eq (passFirst_0 a1), zb_eq a2]
    obtain ⟨y, u2, v2, d1, d2⟩ := a3.new X1.2.2.2.2 hs
    rw [zb_eq d1]
    rcases d2 with ⟨d2, ⟨dy, d3, d4⟩, b2, e2, k2, w2, m2, d5, d6, d7, d8⟩ | ⟨d2, d3⟩
    · rw [zb_eq d2, if_neg (show ¬ (1 : Int32) = 0 by decide)]
      have P2 : Fr rdC u u2 := a5.tr d7
      have Q2 : Fr rdW v v2 := (a6.mono (fun c k => rdM_w)).tr d8
      obtain ⟨u3, v3, g1, g2⟩ := d5.passW (kw := kw_in) rfl k256_in k27_in
      rw [zb_eq g1]
      rcases g2 with ⟨g2, b3, e3, k3, w3, m3, g3, g4, g5, g6⟩ | ⟨g2, x, z1, z2, z3, z4⟩
      · rw [zb_eq g2, if_neg (show ¬ (1 : Int32) = 0 by decide)]
        have P3 : Fr rdC u u3 := P2.tr g5
        have Q3 : Fr rdW v v3 := Q2.tr (g6.mono (fun c k => rdM_w))
        have N3 : NmR u3 v3 s 1 N nm := hX.2.2.2.2.fr (fun a j _ _ => ⟨P3.i (by unfold rdC; omega), P3.l (by unfold rdC; omega)⟩) (fun a j _ _ => ⟨Q3.i (by unfold rdW rdM; omega), Q3.l (by unfold rdW rdM; omega)⟩)
        obtain ⟨X, x1, z, u4, v4, i1, i2⟩ := g3.told N3 hs (by decide) (s := 0) (by decide)
        rw [zb_eq (show Ta_passTold (s + 1) u3 = some (z, u4) from i1), zb_eq (show Mo_placeNamed 1 v3 = some (X, v3) from x1)]
        rcases i2 with ⟨i2, ⟨j, j1, j2, j3⟩, b4, e4, k4, w4, m4, i7, i8, i9, i10⟩ | ⟨i2, x, z1, z2, z3, z4⟩
        · have iL : ib (nI (3 + n)) 6 = true := ib_nI (by omega) (by omega)
          have xn : ix (nI (3 + n)) = 3 + n := ix_nI (by omega)
          rw [zb_eq i2, if_neg (show ¬ (1 : Int32) = 0 by decide), if_pos iL, xn, j3, zl_e (sI v4 12 (3 + n) (nI j))]
          have P4 : Fr rdC u u4 := P3.tr i9
          have Q4 : Fr rdW v v4 := Q3.tr (i10.mono (fun c k => rdM_w))
          have L4 : gL v4 1 41 = wd27 w1 := (i10.l (by unfold rdM; omega)).trans ((g6.l (by unfold rdM; omega)).trans d3)
          have H4 : Fin u4 (sI v4 12 (3 + n) (nI j)) c T b4 e4 k4 w4 m4 := i7.fr (fun _ _ _ => rfl) rfl (fun a j q => gs_ne (by omega)) rfl
          have C4 : Fr cxM v (sI v4 12 (3 + n) (nI j)) := (Q4.mono (fun c k => rdW_cx)).tr (Fr.sI (A := cxM) (Or.inr ⟨by decide, by decide, show 3 ≤ 3 + n by omega⟩))
          obtain ⟨u5, v5, o1, o2⟩ := H4.passW (kw := kw_pace) rfl k256_pace k27_pace
          rw [zb_eq o1]
          rcases o2 with ⟨o2, b5, e5, k5, w5, mm, o3, o4, o5, o6⟩ | ⟨o2, x, z1, z2, z3, z4⟩
          · obtain ⟨zz, u6, v6, q1, q2⟩ := o3.passN (lo := 1) (hi := 3) (by decide) (by decide)
            rw [zb_eq (show Ta_passNumber 1 3 u5 = _ from q1)]
            rcases q2 with ⟨q2, q3, q4, q5, q6, q7, b6, e6, k6, w6, m6, q8, q9, q10, q11⟩ | ⟨q2, x, z1, z2, z3, z4⟩
            · have P6 : Fr rdC u u6 := (P4.tr o5).tr q10
              have R6 : Fr rdM (sI v4 12 (3 + n) (nI j)) v6 := o6.tr q11
              have L6 : gL v6 1 41 = wd27 w1 := (R6.l (by unfold rdM; omega)).trans L4
              have mn6 : gI v6 3 9 = nI n := (R6.i (by unfold rdM; omega)).trans ((gs_ne (by omega)).trans ((Q4.i (by unfold rdW rdM; omega)).trans mn))
              rw [zb_eq (show Mo_needsBoth 315743 1 3 (sI v4 12 (3 + n) (nI j)) = some (1, v6) from needsBoth_1 o2 q2), if_neg (show ¬ (1 : Int32) = 0 by decide), if_pos iL, q4, zl_e (sI v6 13 (3 + n) (nI mm)), if_pos iL, show gL (sI v6 13 (3 + n) (nI mm)) 1 41 = wd27 w1 from L6, zl_e (sL (sI v6 13 (3 + n) (nI mm)) 6 (3 + n) (wd27 w1)), show gI (sL (sI v6 13 (3 + n) (nI mm)) 6 (3 + n) (wd27 w1)) 3 9 = nI n from (show gI (sI v6 13 (3 + n) (nI mm)) 3 9 = nI n from (gs_ne (by omega)).trans mn6), show nI n + 1 = nI (n + 1) from nI_1 n, zl_e]
              have G : ∀ a i, ¬ ((a = 3 ∧ i = 9) ∨ (a = 13 ∧ i = 3 + n)) → gI (sI (sL (sI v6 13 (3 + n) (nI mm)) 6 (3 + n) (wd27 w1)) 3 9 (nI (n + 1))) a i = gI v6 a i := fun a i q => (gs_ne (by omega)).trans (show gI (sI v6 13 (3 + n) (nI mm)) a i = gI v6 a i from gs_ne (by omega))
              have GL : ∀ a i, ¬ (a = 6 ∧ i = 3 + n) → gL (sI (sL (sI v6 13 (3 + n) (nI mm)) 6 (3 + n) (wd27 w1)) 3 9 (nI (n + 1))) a i = gL v6 a i := fun a i q => show gL (sL (sI v6 13 (3 + n) (nI mm)) 6 (3 + n) (wd27 w1)) a i = gL v6 a i by rw [gL_sL, if_neg q]; rfl
              have G3 : gI (sI (sL (sI v6 13 (3 + n) (nI mm)) 6 (3 + n) (wd27 w1)) 3 9 (nI (n + 1))) 3 9 = nI (n + 1) := gs_eq ⟨rfl, rfl⟩
              have GB : gI (sI (sL (sI v6 13 (3 + n) (nI mm)) 6 (3 + n) (wd27 w1)) 3 9 (nI (n + 1))) 13 (3 + n) = nI mm := (gs_ne (by omega)).trans (show gI (sI v6 13 (3 + n) (nI mm)) 13 (3 + n) = nI mm from gs_eq ⟨rfl, rfl⟩)
              have G4 : gL (sI (sL (sI v6 13 (3 + n) (nI mm)) 6 (3 + n) (wd27 w1)) 3 9 (nI (n + 1))) 6 (3 + n) = wd27 w1 := show gL (sL (sI v6 13 (3 + n) (nI mm)) 6 (3 + n) (wd27 w1)) 6 (3 + n) = wd27 w1 from sl_g
              have GF : Fr cxM v6 (sI (sL (sI v6 13 (3 + n) (nI mm)) 6 (3 + n) (wd27 w1)) 3 9 (nI (n + 1))) := ((Fr.sI (A := cxM) (Or.inr ⟨by decide, by decide, show 3 ≤ 3 + n by omega⟩)).tr (Fr.sL (A := cxM) (Or.inr ⟨by decide, by decide, show 3 ≤ 3 + n by omega⟩))).tr (Fr.sI (A := cxM) (Or.inr ⟨by decide, by decide, show 6 ≤ 9 by decide⟩))
              generalize sI (sL (sI v6 13 (3 + n) (nI mm)) 6 (3 + n) (wd27 w1)) 3 9 (nI (n + 1)) = v9 at *
              have M9 : Fr cxM v v9 := (C4.tr (R6.mono (fun c k => rdM_cx))).tr GF
              have hf : Fin u6 v9 c T b6 e6 k6 w6 m6 := q8.fr (fun _ _ _ => rfl) rfl (fun a i q => G a i (by omega)) (GL 1 7 (by omega))
              obtain ⟨u7, v10, p1, p2⟩ := hf.passS
              rw [zb_eq p1]
              rcases p2 with ⟨p2, b7, e7, k7, w7, m7, p3, p4, p5, p6⟩ | ⟨p2, x, z1, z2, z3, z4⟩
              · have P7 : Fr rdC u u7 := P6.tr p5
                have ep : Na_put (s + 5) y u7 = some (nI n, sI (sL u7 (s + 6) n y) (s + 5) 1 (nI (n + 1))) := put_eq (σ := 2) hs (by decide) ((P7.i (by unfold rdC; omega)).trans cn) (show n < 3 by omega) y
                have iC : ib (nI n) 3 = true := ib_nI (by omega) (by omega)
                refine ⟨sI (sI (sI (sL u7 (s + 6) n y) (s + 5) 1 (nI (n + 1))) (s + 13) n z) (s + 14) n zz, v10, ?_, Or.inl ⟨by rw [zb_eq p2]; rfl, ?_, b7, e7, k7, w7, m7, p3.fr (fun a i q => (gs_ne (by omega)).trans ((gs_ne (by omega)).trans (gs_ne (u := sL u7 (s + 6) n y) (by omega)))) (show gL (sL u7 (s + 6) n y) 2 5 = gL u7 2 5 by rw [gL_sL, if_neg (by omega)]) (fun _ _ _ => rfl) rfl, by omega, ?_, M9.tr (p6.mono (fun c k => rdM_cx))⟩⟩
                · rw [zb_eq p3.fine, if_neg one_ne, zb_eq ep]
                  unfold Co_readOtter_74
                  rw [if_pos lt, if_neg (show ¬ nI n = (-1 : Int32) from mI_ne (by omega)), if_pos iC, ix_nI (by omega), zl_e, if_pos iC, zl_e]
                · refine hX.otter (n := n) (x := j) (y := mm) (w := w1) hn.symm (by omega) j1 ⟨q5, q6⟩ d4 (fun a i h1 h2 q => ⟨?_, ?_⟩) (fun a i h1 h2 q => ⟨(p6.i (by unfold rdM; omega)).trans ((G a i (by omega)).trans ((R6.i (by unfold rdM; omega)).trans ((gs_ne (by omega)).trans (Q4.i (by unfold rdW rdM; omega))))), (p6.l (by unfold rdM; omega)).trans ((GL a i (by omega)).trans ((R6.l (by unfold rdM; omega)).trans (Q4.l (by unfold rdW rdM; omega))))⟩) ?_ ?_ ?_ ?_ ((p6.i (by unfold rdM; omega)).trans G3) ((p6.l (by unfold rdM; omega)).trans G4) ((p6.i (by unfold rdM; omega)).trans ((G 12 (3 + n) (by omega)).trans ((R6.i (by unfold rdM; omega)).trans (gs_eq ⟨rfl, rfl⟩)))) ((p6.i (by unfold rdM; omega)).trans GB)
                  · exact (gs_ne (by omega)).trans ((gs_ne (by omega)).trans ((gs_ne (u := sL u7 (s + 6) n y) (by omega)).trans (P7.i (by unfold rdC; omega))))
                  · show gL (sL u7 (s + 6) n y) a i = gL u a i
                    rw [gL_sL, if_neg (by omega)]
                    exact P7.l (by unfold rdC; omega)
                  · exact (gs_ne (by omega)).trans ((gs_ne (by omega)).trans (gs_eq ⟨rfl, rfl⟩))
                  · show gL (sL u7 (s + 6) n y) (s + 6) n = wd256 w1
                    rw [sl_g, dy]
                  · rw [gs_ne (by omega), gs_eq ⟨rfl, rfl⟩, j2]
                  · rw [gs_eq ⟨rfl, rfl⟩, q3]
                · exact (((P7.mono (fun c k => rdC_cx)).tr (Fr.sL (A := cxC s) (Or.inr ⟨by omega, by omega⟩))).tr (Fr.sI (A := cxC s) (Or.inr ⟨by omega, by omega⟩))).tr ((Fr.sI (A := cxC s) (Or.inr ⟨by omega, by omega⟩)).tr (Fr.sI (A := cxC s) (Or.inr ⟨by omega, by omega⟩)))
              · exact ⟨u7, v10, otterB z1 hs _ _ _, Or.inr ⟨by rw [zb_eq p2]; rfl, x, z1, z2, (P6.tr z3).mono (fun c k => rdC_cx), M9.tr (z4.mono (fun c k => rdM_cx))⟩⟩
            · refine ⟨u6, v6, ?_, Or.inr ⟨by rw [zb_eq (show Mo_needsBoth 315743 1 3 (sI v4 12 (3 + n) (nI j)) = some (0, v6) from needsBoth_2 o2 q2), if_pos rfl], x, z1, z2, ((P4.tr o5).tr z3).mono (fun c k => rdC_cx), C4.tr ((o6.tr z4).mono (fun c k => rdM_cx))⟩⟩
              rw [zb_eq (z1.passS _)]
              exact otterB z1 hs _ _ _
          · refine ⟨u5, v5, ?_, Or.inr ⟨by rw [zb_eq (needsBoth_0 o2), if_pos rfl], x, z1, z2, (P4.tr z3).mono (fun c k => rdC_cx), C4.tr (z4.mono (fun c k => rdM_cx))⟩⟩
            rw [zb_eq (z1.passN _ _), zb_eq (z1.passS _)]
            exact otterB z1 hs _ _ _
        · refine ⟨u4, v4, ?_, Or.inr ⟨by rw [zb_eq i2, if_pos rfl], x, z1, z2, (P3.tr z3).mono (fun c k => rdC_cx), (Q3.tr (z4.mono (fun c k => rdM_w))).mono (fun c k => rdW_cx)⟩⟩
          rw [zb_eq (z1.passW _), zb_eq (z1.passN _ _), zb_eq (z1.passS _)]
          exact otterB z1 hs _ _ _
      · refine ⟨u3, v3, ?_, Or.inr ⟨by rw [zb_eq g2, if_pos rfl], x, z1, z2, (P2.tr z3).mono (fun c k => rdC_cx), (Q2.tr (z4.mono (fun c k => rdM_w))).mono (fun c k => rdW_cx)⟩⟩
        rw [zb_eq (z1.told lT), zb_eq (z1.passW _), zb_eq (z1.passN _ _), zb_eq (z1.passS _)]
        exact otterB z1 hs _ _ _
    · obtain ⟨x, z1, z2, z3, z4⟩ := d3
      refine ⟨u2, v2, ?_, Or.inr ⟨by rw [zb_eq d2, if_pos rfl], x, z1, z2, (a5.tr z3).mono (fun c k => rdC_cx), ((a6.mono (fun c k => rdM_w)).tr z4).mono (fun c k => rdW_cx)⟩⟩
      rw [zb_eq (z1.passW _), zb_eq (z1.told lT), zb_eq (z1.passW _), zb_eq (z1.passN _ _), zb_eq (z1.passS _)]
      exact otterB z1 hs _ _ _
theorem writB {u : zM} {x s : Nat} (h : Bad u x) (hs : s = 4 ∨ s = 25) : (∀ (c3 : Int64) (c5 c7 : Int32), zb (Ta_isFine u) (fun c9 u9 => if c9 = 0 then (Co_readWrit_75 s c5 c7 (-1) u9) else (zb (Na_put (s + 7) c3 u9) (fun c10 u10 => Co_readWrit_75 s c5 c7 c10 u10))) = some ((), u)) := by
  intro c3 c5 c7
  rw [zb_eq h.fine, if_pos (show nI 0 = (0 : Int32) from rfl)]
  unfold Co_readWrit_75
  rw [if_pos (layT hs), if_pos rfl]
theorem Co_readWrit_eq {u v : zM} {c b e k m : Nat} {T : Nat → Nat} {w : List Nat} (h : Fin u v c T b e k w m) (hk : k = 1) {s : Nat} {N : Nat → Nat} {K : Nat → Nat → Nat} {nm : Nat → Nat → List Nat} (hX : CtX u v s N K nm) (hs : s = 4 ∨ s = 25) : CtQ u v s c T b (Co_readWrit s u) (Mo_readsWrit v) := by
  have lt := layT hs
  obtain ⟨n, hn⟩ : ∃ z, z = N 4 := ⟨_, rfl⟩
  have n7 : n ≤ 6 := by rw [hn]; exact (hX.2.2.2.2.1 3 (by decide)).2.2
  have cn : gI u (s + 7) 1 = nI n := by rw [hn]; exact (hX.2.2.2.2.1 3 (by decide)).1
  have mn : gI v 3 10 = nI n := by rw [hn]; exact hX.2.2.2.1.1 4 (by decide)
  have eF : Na_isFull (s + 7) u = some (bI (decide (6 ≤ n)), u) := isFull_eq (σ := 3) hs (by decide) cn n7
  have lT : layC (s + 3) = (13, 2) := (layN 1 (by decide) s hs).1
  unfold Co_readWrit Mo_readsWrit
  rw [if_pos lt, zb_eq eF, mn, show (6 : Int32) + nI n = nI (6 + n) from nI_add 6 n, zl_e (nI (6 + n))]
  by_cases full : n = 6
  · rw [decide_eq_true (show 6 ≤ n by omega), if_pos (show nI (6 + n) = (12 : Int32) by rw [full]; rfl)]
    obtain ⟨f1, f2, f3⟩ := h.fail (j := 5) (by decide) (by decide)
    refine ⟨_, _, ?_, Or.inr ⟨by rw [zb_eq (show Mo_fails 5 v = _ from f2)]; rfl, (h.bd (by decide) (by decide)).cx Fr.rf Fr.rf⟩⟩
    rw [zb_eq (passFirst_1 f1), zb_eq (f3.new hs), zb_eq (f3.passW _), zb_eq (f3.told lT), zb_eq (f3.passW _), zb_eq (f3.passN _ _), zb_eq (f3.passS _)]
    exact writB f3 hs _ _ _
  · rw [decide_eq_false (show ¬ 6 ≤ n by omega), if_neg (show ¬ nI (6 + n) = (12 : Int32) from fun z => by have := (nI_eq (b := 12) (by omega) (by decide)).mp z; omega)]
    obtain ⟨u1, v1, a1, a2, b1, e1, k1, w1, m1, a3, a4, a5, a6⟩ := h.go (by omega)
    have X1 := hX.rd hs a5 a6
    rw [zb_eq (passFirst_0 a1), zb_eq a2]
    obtain ⟨y, u2, v2, d1, d2⟩ := a3.new X1.2.2.2.2 hs
    rw [zb_eq d1]
    rcases d2 with ⟨d2, ⟨dy, d3, d4⟩, b2, e2, k2, w2, m2, d5, d6, d7, d8⟩ | ⟨d2, d3⟩
    · rw [zb_eq d2, if_neg (show ¬ (1 : Int32) = 0 by decide)]
      have P2 : Fr rdC u u2 := a5.tr d7
      have Q2 : Fr rdW v v2 := (a6.mono (fun c k => rdM_w)).tr d8
      obtain ⟨u3, v3, g1, g2⟩ := d5.passW (kw := kw_for) rfl k256_for k27_for
      rw [zb_eq g1]
      rcases g2 with ⟨g2, b3, e3, k3, w3, m3, g3, g4, g5, g6⟩ | ⟨g2, x, z1, z2, z3, z4⟩
      · rw [zb_eq g2, if_neg (show ¬ (1 : Int32) = 0 by decide)]
        have P3 : Fr rdC u u3 := P2.tr g5
        have Q3 : Fr rdW v v3 := Q2.tr (g6.mono (fun c k => rdM_w))
        have N3 : NmR u3 v3 s 1 N nm := hX.2.2.2.2.fr (fun a j _ _ => ⟨P3.i (by unfold rdC; omega), P3.l (by unfold rdC; omega)⟩) (fun a j _ _ => ⟨Q3.i (by unfold rdW rdM; omega), Q3.l (by unfold rdW rdM; omega)⟩)
        obtain ⟨X, x1, z, u4, v4, i1, i2⟩ := g3.told N3 hs (by decide) (s := 1) (by decide)
        rw [zb_eq (show Ta_passTold (s + 3) u3 = some (z, u4) from i1), zb_eq (show Mo_personNamed 1 v3 = some (X, v3) from x1)]
        rcases i2 with ⟨i2, ⟨j, j1, j2, j3⟩, b4, e4, k4, w4, m4, i7, i8, i9, i10⟩ | ⟨i2, x, z1, z2, z3, z4⟩
        · have iL : ib (nI (6 + n)) 12 = true := ib_nI (by omega) (by omega)
          have xn : ix (nI (6 + n)) = 6 + n := ix_nI (by omega)
          rw [zb_eq i2, if_neg (show ¬ (1 : Int32) = 0 by decide), if_pos iL, xn, j3, zl_e (sI v4 14 (6 + n) (nI j))]
          have P4 : Fr rdC u u4 := P3.tr i9
          have Q4 : Fr rdW v v4 := Q3.tr (i10.mono (fun c k => rdM_w))
          have L4 : gL v4 1 41 = wd27 w1 := (i10.l (by unfold rdM; omega)).trans ((g6.l (by unfold rdM; omega)).trans d3)
          have H4 : Fin u4 (sI v4 14 (6 + n) (nI j)) c T b4 e4 k4 w4 m4 := i7.fr (fun _ _ _ => rfl) rfl (fun a j q => gs_ne (by omega)) rfl
          have C4 : Fr cxM v (sI v4 14 (6 + n) (nI j)) := (Q4.mono (fun c k => rdW_cx)).tr (Fr.sI (A := cxM) (Or.inr ⟨by decide, by decide, show 6 ≤ 6 + n by omega⟩))
          obtain ⟨u5, v5, o1, o2⟩ := H4.passW (kw := kw_by) rfl k256_by k27_by
          rw [zb_eq o1]
          rcases o2 with ⟨o2, b5, e5, k5, w5, mm, o3, o4, o5, o6⟩ | ⟨o2, x, z1, z2, z3, z4⟩
          · obtain ⟨zz, u6, v6, q1, q2⟩ := o3.passN (lo := 0) (hi := 60) (by decide) (by decide)
            rw [zb_eq (show Ta_passNumber 0 60 u5 = _ from q1)]
            rcases q2 with ⟨q2, q3, q4, q5, q6, q7, b6, e6, k6, w6, m6, q8, q9, q10, q11⟩ | ⟨q2, x, z1, z2, z3, z4⟩
            · have P6 : Fr rdC u u6 := (P4.tr o5).tr q10
              have R6 : Fr rdM (sI v4 14 (6 + n) (nI j)) v6 := o6.tr q11
              have L6 : gL v6 1 41 = wd27 w1 := (R6.l (by unfold rdM; omega)).trans L4
              have mn6 : gI v6 3 10 = nI n := (R6.i (by unfold rdM; omega)).trans ((gs_ne (by omega)).trans ((Q4.i (by unfold rdW rdM; omega)).trans mn))
              rw [zb_eq (show Mo_needsBoth 79 0 60 (sI v4 14 (6 + n) (nI j)) = some (1, v6) from needsBoth_1 o2 q2), if_neg (show ¬ (1 : Int32) = 0 by decide), if_pos iL, q4, zl_e (sI v6 15 (6 + n) (nI mm)), if_pos iL, show gL (sI v6 15 (6 + n) (nI mm)) 1 41 = wd27 w1 from L6, zl_e (sL (sI v6 15 (6 + n) (nI mm)) 7 (6 + n) (wd27 w1)), show gI (sL (sI v6 15 (6 + n) (nI mm)) 7 (6 + n) (wd27 w1)) 3 10 = nI n from (show gI (sI v6 15 (6 + n) (nI mm)) 3 10 = nI n from (gs_ne (by omega)).trans mn6), show nI n + 1 = nI (n + 1) from nI_1 n, zl_e]
              have G : ∀ a i, ¬ ((a = 3 ∧ i = 10) ∨ (a = 15 ∧ i = 6 + n)) → gI (sI (sL (sI v6 15 (6 + n) (nI mm)) 7 (6 + n) (wd27 w1)) 3 10 (nI (n + 1))) a i = gI v6 a i := fun a i q => (gs_ne (by omega)).trans (show gI (sI v6 15 (6 + n) (nI mm)) a i = gI v6 a i from gs_ne (by omega))
              have GL : ∀ a i, ¬ (a = 7 ∧ i = 6 + n) → gL (sI (sL (sI v6 15 (6 + n) (nI mm)) 7 (6 + n) (wd27 w1)) 3 10 (nI (n + 1))) a i = gL v6 a i := fun a i q => show gL (sL (sI v6 15 (6 + n) (nI mm)) 7 (6 + n) (wd27 w1)) a i = gL v6 a i by rw [gL_sL, if_neg q]; rfl
              have G3 : gI (sI (sL (sI v6 15 (6 + n) (nI mm)) 7 (6 + n) (wd27 w1)) 3 10 (nI (n + 1))) 3 10 = nI (n + 1) := gs_eq ⟨rfl, rfl⟩
              have GB : gI (sI (sL (sI v6 15 (6 + n) (nI mm)) 7 (6 + n) (wd27 w1)) 3 10 (nI (n + 1))) 15 (6 + n) = nI mm := (gs_ne (by omega)).trans (show gI (sI v6 15 (6 + n) (nI mm)) 15 (6 + n) = nI mm from gs_eq ⟨rfl, rfl⟩)
              have G4 : gL (sI (sL (sI v6 15 (6 + n) (nI mm)) 7 (6 + n) (wd27 w1)) 3 10 (nI (n + 1))) 7 (6 + n) = wd27 w1 := show gL (sL (sI v6 15 (6 + n) (nI mm)) 7 (6 + n) (wd27 w1)) 7 (6 + n) = wd27 w1 from sl_g
              have GF : Fr cxM v6 (sI (sL (sI v6 15 (6 + n) (nI mm)) 7 (6 + n) (wd27 w1)) 3 10 (nI (n + 1))) := ((Fr.sI (A := cxM) (Or.inr ⟨by decide, by decide, show 6 ≤ 6 + n by omega⟩)).tr (Fr.sL (A := cxM) (Or.inr ⟨by decide, by decide, show 6 ≤ 6 + n by omega⟩))).tr (Fr.sI (A := cxM) (Or.inr ⟨by decide, by decide, show 6 ≤ 10 by decide⟩))
              generalize sI (sL (sI v6 15 (6 + n) (nI mm)) 7 (6 + n) (wd27 w1)) 3 10 (nI (n + 1)) = v9 at *
              have M9 : Fr cxM v v9 := (C4.tr (R6.mono (fun c k => rdM_cx))).tr GF
              have hf : Fin u6 v9 c T b6 e6 k6 w6 m6 := q8.fr (fun _ _ _ => rfl) rfl (fun a i q => G a i (by omega)) (GL 1 7 (by omega))
              obtain ⟨u7, v10, p1, p2⟩ := hf.passS
              rw [zb_eq p1]
              rcases p2 with ⟨p2, b7, e7, k7, w7, m7, p3, p4, p5, p6⟩ | ⟨p2, x, z1, z2, z3, z4⟩
              · have P7 : Fr rdC u u7 := P6.tr p5
                have ep : Na_put (s + 7) y u7 = some (nI n, sI (sL u7 (s + 8) n y) (s + 7) 1 (nI (n + 1))) := put_eq (σ := 3) hs (by decide) ((P7.i (by unfold rdC; omega)).trans cn) (show n < 6 by omega) y
                have iC : ib (nI n) 6 = true := ib_nI (by omega) (by omega)
                refine ⟨sI (sI (sI (sL u7 (s + 8) n y) (s + 7) 1 (nI (n + 1))) (s + 15) n z) (s + 16) n zz, v10, ?_, Or.inl ⟨by rw [zb_eq p2]; rfl, ?_, b7, e7, k7, w7, m7, p3.fr (fun a i q => (gs_ne (by omega)).trans ((gs_ne (by omega)).trans (gs_ne (u := sL u7 (s + 8) n y) (by omega)))) (show gL (sL u7 (s + 8) n y) 2 5 = gL u7 2 5 by rw [gL_sL, if_neg (by omega)]) (fun _ _ _ => rfl) rfl, by omega, ?_, M9.tr (p6.mono (fun c k => rdM_cx))⟩⟩
                · rw [zb_eq p3.fine, if_neg one_ne, zb_eq ep]
                  unfold Co_readWrit_75
                  rw [if_pos lt, if_neg (show ¬ nI n = (-1 : Int32) from mI_ne (by omega)), if_pos iC, ix_nI (by omega), zl_e, if_pos iC, zl_e]
                · refine hX.writ (n := n) (x := j) (y := mm) (w := w1) hn.symm (by omega) j1 q6 d4 (fun a i h1 h2 q => ⟨?_, ?_⟩) (fun a i h1 h2 q => ⟨(p6.i (by unfold rdM; omega)).trans ((G a i (by omega)).trans ((R6.i (by unfold rdM; omega)).trans ((gs_ne (by omega)).trans (Q4.i (by unfold rdW rdM; omega))))), (p6.l (by unfold rdM; omega)).trans ((GL a i (by omega)).trans ((R6.l (by unfold rdM; omega)).trans (Q4.l (by unfold rdW rdM; omega))))⟩) ?_ ?_ ?_ ?_ ((p6.i (by unfold rdM; omega)).trans G3) ((p6.l (by unfold rdM; omega)).trans G4) ((p6.i (by unfold rdM; omega)).trans ((G 14 (6 + n) (by omega)).trans ((R6.i (by unfold rdM; omega)).trans (gs_eq ⟨rfl, rfl⟩)))) ((p6.i (by unfold rdM; omega)).trans GB)
                  · exact (gs_ne (by omega)).trans ((gs_ne (by omega)).trans ((gs_ne (u := sL u7 (s + 8) n y) (by omega)).trans (P7.i (by unfold rdC; omega))))
                  · show gL (sL u7 (s + 8) n y) a i = gL u a i
                    rw [gL_sL, if_neg (by omega)]
                    exact P7.l (by unfold rdC; omega)
                  · exact (gs_ne (by omega)).trans ((gs_ne (by omega)).trans (gs_eq ⟨rfl, rfl⟩))
                  · show gL (sL u7 (s + 8) n y) (s + 8) n = wd256 w1
                    rw [sl_g, dy]
                  · rw [gs_ne (by omega), gs_eq ⟨rfl, rfl⟩, j2]
                  · rw [gs_eq ⟨rfl, rfl⟩, q3]
                · exact (((P7.mono (fun c k => rdC_cx)).tr (Fr.sL (A := cxC s) (Or.inr ⟨by omega, by omega⟩))).tr (Fr.sI (A := cxC s) (Or.inr ⟨by omega, by omega⟩))).tr ((Fr.sI (A := cxC s) (Or.inr ⟨by omega, by omega⟩)).tr (Fr.sI (A := cxC s) (Or.inr ⟨by omega, by omega⟩)))
              · exact ⟨u7, v10, writB z1 hs _ _ _, Or.inr ⟨by rw [zb_eq p2]; rfl, x, z1, z2, (P6.tr z3).mono (fun c k => rdC_cx), M9.tr (z4.mono (fun c k => rdM_cx))⟩⟩
            · refine ⟨u6, v6, ?_, Or.inr ⟨by rw [zb_eq (show Mo_needsBoth 79 0 60 (sI v4 14 (6 + n) (nI j)) = some (0, v6) from needsBoth_2 o2 q2), if_pos rfl], x, z1, z2, ((P4.tr o5).tr z3).mono (fun c k => rdC_cx), C4.tr ((o6.tr z4).mono (fun c k => rdM_cx))⟩⟩
              rw [zb_eq (z1.passS _)]
              exact writB z1 hs _ _ _
          · refine ⟨u5, v5, ?_, Or.inr ⟨by rw [zb_eq (needsBoth_0 o2), if_pos rfl], x, z1, z2, (P4.tr z3).mono (fun c k => rdC_cx), C4.tr (z4.mono (fun c k => rdM_cx))⟩⟩
            rw [zb_eq (z1.passN _ _), zb_eq (z1.passS _)]
            exact writB z1 hs _ _ _
        · refine ⟨u4, v4, ?_, Or.inr ⟨by rw [zb_eq i2, if_pos rfl], x, z1, z2, (P3.tr z3).mono (fun c k => rdC_cx), (Q3.tr (z4.mono (fun c k => rdM_w))).mono (fun c k => rdW_cx)⟩⟩
          rw [zb_eq (z1.passW _), zb_eq (z1.passN _ _), zb_eq (z1.passS _)]
          exact writB z1 hs _ _ _
      · refine ⟨u3, v3, ?_, Or.inr ⟨by rw [zb_eq g2, if_pos rfl], x, z1, z2, (P2.tr z3).mono (fun c k => rdC_cx), (Q2.tr (z4.mono (fun c k => rdM_w))).mono (fun c k => rdW_cx)⟩⟩
        rw [zb_eq (z1.told lT), zb_eq (z1.passW _), zb_eq (z1.passN _ _), zb_eq (z1.passS _)]
        exact writB z1 hs _ _ _
    · obtain ⟨x, z1, z2, z3, z4⟩ := d3
      refine ⟨u2, v2, ?_, Or.inr ⟨by rw [zb_eq d2, if_pos rfl], x, z1, z2, (a5.tr z3).mono (fun c k => rdC_cx), ((a6.mono (fun c k => rdM_w)).tr z4).mono (fun c k => rdW_cx)⟩⟩
      rw [zb_eq (z1.passW _), zb_eq (z1.told lT), zb_eq (z1.passW _), zb_eq (z1.passN _ _), zb_eq (z1.passS _)]
      exact writB z1 hs _ _ _
