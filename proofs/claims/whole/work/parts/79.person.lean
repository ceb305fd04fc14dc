/-! ===== persons ===== -/
theorem personB {u : zM} {x s : Nat} (h : Bad u x) (hs : s = 4 ∨ s = 25) : (∀ (c3 : Int64) (c4 c6 : Int32), zb (Ta_isFine u) (fun c8 u8 => if c8 = 0 then (Co_readPerson_65 s c4 c6 (-1) u8) else (zb (Na_put (s + 3) c3 u8) (fun c9 u9 => Co_readPerson_65 s c4 c6 c9 u9))) = some ((), u)) := by
  intro c3 c5 c7
  rw [zb_eq h.fine, if_pos (show nI 0 = (0 : Int32) from rfl)]
  unfold Co_readPerson_65
  rw [if_pos (layT hs), if_pos rfl]
theorem Fin.kind {u v : zM} {c b e k m : Nat} {T : Nat → Nat} {w : List Nat} (h : Fin u v c T b e k w m) : ∃ κ, Co_passKind u = Co_passKind_59 κ u ∧ (∀ F : Int32 → zM → Option (Int32 × zM), (zb (Mo_isWord 8740238 v) (fun c3 u3 => if c3 = 0 then (zb (Mo_isWord 453949 u3) (fun c4 u4 => if c4 = 0 then (zb (Mo_isWord 29628900 u4) (fun c5 u5 => if c5 = 0 then (zb (Mo_isWord 83023 u5) (fun c6 u6 => if c6 = 0 then (F (-1) u6) else (F 3 u6))) else (F 2 u5))) else (F 1 u4))) else (F 0 u3))) = F κ v) ∧ (κ = mI ∨ (k = 1 ∧ ∃ j, j ≤ 3 ∧ κ = nI j)) := by
  have c0 := h.atW (kw := kw_plain) rfl k256_plain
  have c1 := h.atW (kw := kw_wary) rfl k256_wary
  have c2 := h.atW (kw := kw_bather) rfl k256_bather
  have c3 := h.atW (kw := kw_dewy) rfl k256_dewy
  have d0 := h.isW (kw := kw_plain) rfl k27_plain
  have d1 := h.isW (kw := kw_wary) rfl k27_wary
  have d2 := h.isW (kw := kw_bather) rfl k27_bather
  have d3 := h.isW (kw := kw_dewy) rfl k27_dewy
  unfold Co_passKind
  by_cases q0 : k = 1 ∧ w = kw_plain
  · rw [decide_eq_true q0] at c0 d0
    exact ⟨0, by rw [zb_eq c0, if_neg bIt_ne], fun F => by rw [zb_eq d0, if_neg bIt_ne], Or.inr ⟨q0.1, 0, by decide, rfl⟩⟩
  · rw [decide_eq_false q0] at c0 d0
    by_cases q1 : k = 1 ∧ w = kw_wary
    · rw [decide_eq_true q1] at c1 d1
      exact ⟨1, by rw [zb_eq c0, if_pos (show bI false = (0 : Int32) from rfl), zb_eq c1, if_neg bIt_ne], fun F => by rw [zb_eq d0, if_pos (show bI false = (0 : Int32) from rfl), zb_eq d1, if_neg bIt_ne], Or.inr ⟨q1.1, 1, by decide, rfl⟩⟩
    · rw [decide_eq_false q1] at c1 d1
      by_cases q2 : k = 1 ∧ w = kw_bather
      · rw [decide_eq_true q2] at c2 d2
        exact ⟨2, by rw [zb_eq c0, if_pos (show bI false = (0 : Int32) from rfl), zb_eq c1, if_pos (show bI false = (0 : Int32) from rfl), zb_eq c2, if_neg bIt_ne], fun F => by rw [zb_eq d0, if_pos (show bI false = (0 : Int32) from rfl), zb_eq d1, if_pos (show bI false = (0 : Int32) from rfl), zb_eq d2, if_neg bIt_ne], Or.inr ⟨q2.1, 2, by decide, rfl⟩⟩
      · rw [decide_eq_false q2] at c2 d2
        by_cases q3 : k = 1 ∧ w = kw_dewy
        · rw [decide_eq_true q3] at c3 d3
          exact ⟨3, by rw [zb_eq c0, if_pos (show bI false = (0 : Int32) from rfl), zb_eq c1, if_pos (show bI false = (0 : Int32) from rfl), zb_eq c2, if_pos (show bI false = (0 : Int32) from rfl), zb_eq c3, if_neg bIt_ne], fun F => by rw [zb_eq d0, if_pos (show bI false = (0 : Int32) from rfl), zb_eq d1, if_pos (show bI false = (0 : Int32) from rfl), zb_eq d2, if_pos (show bI false = (0 : Int32) from rfl), zb_eq d3, if_neg bIt_ne], Or.inr ⟨q3.1, 3, by decide, rfl⟩⟩
        · rw [decide_eq_false q3] at c3 d3
          exact ⟨-1, by rw [zb_eq c0, if_pos (show bI false = (0 : Int32) from rfl), zb_eq c1, if_pos (show bI false = (0 : Int32) from rfl), zb_eq c2, if_pos (show bI false = (0 : Int32) from rfl), zb_eq c3, if_pos (show bI false = (0 : Int32) from rfl)], fun F => by rw [zb_eq d0, if_pos (show bI false = (0 : Int32) from rfl), zb_eq d1, if_pos (show bI false = (0 : Int32) from rfl), zb_eq d2, if_pos (show bI false = (0 : Int32) from rfl), zb_eq d3, if_pos (show bI false = (0 : Int32) from rfl)], Or.inl rfl⟩
theorem Bad.kind {u : zM} {x : Nat} (h : Bad u x) : Co_passKind u = some (-1, u) := by
  unfold Co_passKind Co_passKind_59
  rw [zb_eq (h.atW _), if_pos (show nI 0 = (0 : Int32) from rfl), zb_eq (h.atW _), if_pos (show nI 0 = (0 : Int32) from rfl), zb_eq (h.atW _), if_pos (show nI 0 = (0 : Int32) from rfl), zb_eq (h.atW _), if_pos (show nI 0 = (0 : Int32) from rfl), if_pos rfl, zb_eq (h.fail _)]
theorem Co_readPerson_eq {u v : zM} {c b e k m : Nat} {T : Nat → Nat} {w : List Nat} (h : Fin u v c T b e k w m) (hk : k = 1) {s : Nat} {N : Nat → Nat} {K : Nat → Nat → Nat} {nm : Nat → Nat → List Nat} (hX : CtX u v s N K nm) (hs : s = 4 ∨ s = 25) : CtQ u v s c T b (Co_readPerson s u) (Mo_readsPerson v) := by
  have lt := layT hs
  obtain ⟨n, hn⟩ : ∃ z, z = N 2 := ⟨_, rfl⟩
  have n7 : n ≤ 5 := by rw [hn]; exact (hX.2.2.2.2.1 1 (by decide)).2.2
  have cn : gI u (s + 3) 1 = nI n := by rw [hn]; exact (hX.2.2.2.2.1 1 (by decide)).1
  have mn : gI v 3 8 = nI n := by rw [hn]; exact hX.2.2.2.1.1 2 (by decide)
  have eF : Na_isFull (s + 3) u = some (bI (decide (5 ≤ n)), u) := isFull_eq (σ := 1) hs (by decide) cn n7
  have lT : layC (s + 1) = (13, 2) := (layN 0 (by decide) s hs).1
  unfold Co_readPerson Mo_readsPerson
  rw [if_pos lt, zb_eq eF, mn, show (5 : Int32) + nI n = nI (5 + n) from nI_add 5 n, zl_e (nI (5 + n))]
  by_cases full : n = 5
  · rw [decide_eq_true (show 5 ≤ n by omega), if_pos (show nI (5 + n) = (10 : Int32) by rw [full]; rfl)]
    obtain ⟨f1, f2, f3⟩ := h.fail (j := 5) (by decide) (by decide)
    refine ⟨_, _, ?_, Or.inr ⟨by rw [zb_eq (show Mo_fails 5 v = _ from f2)]; rfl, (h.bd (by decide) (by decide)).cx Fr.rf Fr.rf⟩⟩
    rw [zb_eq (passFirst_1 f1), zb_eq (f3.new hs), zb_eq f3.kind, zb_eq (f3.passW _), zb_eq (f3.told lT), zb_eq (f3.passS _)]
    exact personB f3 hs _ _ _
  · rw [decide_eq_false (show ¬ 5 ≤ n by omega), if_neg (show ¬ nI (5 + n) = (10 : Int32) from fun z => by have := (nI_eq (b := 10) (by omega) (by decide)).mp z; omega)]
    obtain ⟨u1, v1, a1, a2, b1, e1, k1, w1, m1, a3, a4, a5, a6⟩ := h.go (by omega)
    have X1 := hX.rd hs a5 a6
    rw [zb_eq (passFirst_0 a1), zb_eq a2]
    obtain ⟨y, u2, v2, d1, d2⟩ := a3.new X1.2.2.2.2 hs
    rw [zb_eq d1]
    rcases d2 with ⟨d2, ⟨dy, d3, d4⟩, b2, e2, k2, w2, m2, d5, d6, d7, d8⟩ | ⟨d2, d3⟩
    · rw [zb_eq d2, if_neg (show ¬ (1 : Int32) = 0 by decide)]
      have P2 : Fr rdC u u2 := a5.tr d7
      have Q2 : Fr rdW v v2 := (a6.mono (fun c k => rdM_w)).tr d8
      have iL : ib (nI (5 + n)) 10 = true := ib_nI (by omega) (by omega)
      have xn : ix (nI (5 + n)) = 5 + n := ix_nI (by omega)
      obtain ⟨κ, κ1, κ2, κ3⟩ := d5.kind
      rw [κ1, κ2 (Mo_readsPerson_97 (nI (5 + n)) (nI (5 + n)))]
      unfold Co_passKind_59 Mo_readsPerson_97
      rw [if_pos iL, xn, zl_e (sI v2 10 (5 + n) κ), if_pos iL, show gI (sI v2 10 (5 + n) κ) 10 (5 + n) = κ from gs_eq ⟨rfl, rfl⟩]
      have C2 : Fr cxM v (sI v2 10 (5 + n) κ) := (Q2.mono (fun c k => rdW_cx)).tr (Fr.sI (A := cxM) (Or.inr ⟨by decide, by decide, show 5 ≤ 5 + n by omega⟩))
      have H2 : Fin u2 (sI v2 10 (5 + n) κ) c T b2 e2 k2 w2 m2 := d5.fr (fun _ _ _ => rfl) rfl (fun a j q => gs_ne (by omega)) rfl
      rcases κ3 with rfl | ⟨kk, j, hj, rfl⟩
      · obtain ⟨f1, f2, f3⟩ := H2.fail (j := 1) (by decide) (by decide)
        rw [if_pos (show mI = (-1 : Int32) from rfl), if_neg (show ¬ (0 : Int32) ≤ mI by decide), zb_eq (show Ta_fail 1 u2 = _ from f1), zs_e]
        refine ⟨_, _, ?_, Or.inr ⟨by rw [zb_eq (show Mo_fails 1 (sI v2 10 (5 + n) mI) = _ from f2)]; rfl, (H2.bd (j := 1) (by decide) (by decide)).cx (P2.mono (fun c k => rdC_cx)) C2⟩⟩
        rw [zb_eq (f3.passW _), zb_eq (f3.told lT), zb_eq (f3.passS _)]
        exact personB f3 hs _ _ _
      · rw [if_neg (show ¬ nI j = (-1 : Int32) from mI_ne (by omega)), if_pos (show (0 : Int32) ≤ nI j from nI_le (Nat.zero_le _) (by omega))]
        obtain ⟨u3, v3, g1, g2, b3, e3, k3, w3, m3, g3, g4, g5, g6⟩ := H2.go (by omega)
        rw [zb_eq g1, zs_e, zb_eq g2]
        have P3 : Fr rdC u u3 := P2.tr g5
        obtain ⟨u4, v4, o1, o2⟩ := g3.passW (kw := kw_in) rfl k256_in k27_in
        rw [zb_eq o1]
        rcases o2 with ⟨o2, b4, e4, k4, w4, m4, o3, o4, o5, o6⟩ | ⟨o2, x, z1, z2, z3, z4⟩
        · rw [zb_eq o2, if_neg (show ¬ (1 : Int32) = 0 by decide)]
          have P4 : Fr rdC u u4 := P3.tr o5
          have R4 : Fr rdM (sI v2 10 (5 + n) (nI j)) v4 := g6.tr o6
          have N4 : NmR u4 v4 s 1 N nm := hX.2.2.2.2.fr (fun a i _ _ => ⟨P4.i (by unfold rdC; omega), P4.l (by unfold rdC; omega)⟩) (fun a i _ _ => ⟨(R4.i (by unfold rdM; omega)).trans ((gs_ne (by omega)).trans (Q2.i (by unfold rdW rdM; omega))), (R4.l (by unfold rdM; omega)).trans (Q2.l (by unfold rdW rdM; omega))⟩)
          obtain ⟨X, x1, z, u5, v5, i1, i2⟩ := o3.told N4 hs (by decide) (s := 0) (by decide)
          rw [zb_eq (show Ta_passTold (s + 1) u4 = some (z, u5) from i1), zb_eq (show Mo_placeNamed 1 v4 = some (X, v4) from x1)]
          rcases i2 with ⟨i2, ⟨jj, j1, j2, j3⟩, b5, e5, k5, w5, m5, i7, i8, i9, i10⟩ | ⟨i2, x, z1, z2, z3, z4⟩
          · have P5 : Fr rdC u u5 := P4.tr i9
            have R5 : Fr rdM (sI v2 10 (5 + n) (nI j)) v5 := R4.tr i10
            have L5 : gL v5 1 41 = wd27 w1 := (R5.l (by unfold rdM; omega)).trans d3
            have mn5 : gI v5 3 8 = nI n := (R5.i (by unfold rdM; omega)).trans ((gs_ne (by omega)).trans ((Q2.i (by unfold rdW rdM; omega)).trans mn))
            rw [zb_eq i2, if_neg (show ¬ (1 : Int32) = 0 by decide), if_pos iL, j3, zl_e (sI v5 11 (5 + n) (nI jj)), if_pos iL, show gL (sI v5 11 (5 + n) (nI jj)) 1 41 = wd27 w1 from L5, zl_e (sL (sI v5 11 (5 + n) (nI jj)) 5 (5 + n) (wd27 w1)), show gI (sL (sI v5 11 (5 + n) (nI jj)) 5 (5 + n) (wd27 w1)) 3 8 = nI n from (show gI (sI v5 11 (5 + n) (nI jj)) 3 8 = nI n from (gs_ne (by omega)).trans mn5), show nI n + 1 = nI (n + 1) from nI_1 n, zl_e]
            have G : ∀ a i, ¬ ((a = 3 ∧ i = 8) ∨ (a = 11 ∧ i = 5 + n)) → gI (sI (sL (sI v5 11 (5 + n) (nI jj)) 5 (5 + n) (wd27 w1)) 3 8 (nI (n + 1))) a i = gI v5 a i := fun a i q => (gs_ne (by omega)).trans (show gI (sI v5 11 (5 + n) (nI jj)) a i = gI v5 a i from gs_ne (by omega))
            have GL : ∀ a i, ¬ (a = 5 ∧ i = 5 + n) → gL (sI (sL (sI v5 11 (5 + n) (nI jj)) 5 (5 + n) (wd27 w1)) 3 8 (nI (n + 1))) a i = gL v5 a i := fun a i q => show gL (sL (sI v5 11 (5 + n) (nI jj)) 5 (5 + n) (wd27 w1)) a i = gL v5 a i by rw [gL_sL, if_neg q]; rfl
            have G3 : gI (sI (sL (sI v5 11 (5 + n) (nI jj)) 5 (5 + n) (wd27 w1)) 3 8 (nI (n + 1))) 3 8 = nI (n + 1) := gs_eq ⟨rfl, rfl⟩
            have GB : gI (sI (sL (sI v5 11 (5 + n) (nI jj)) 5 (5 + n) (wd27 w1)) 3 8 (nI (n + 1))) 11 (5 + n) = nI jj := (gs_ne (by omega)).trans (show gI (sI v5 11 (5 + n) (nI jj)) 11 (5 + n) = nI jj from gs_eq ⟨rfl, rfl⟩)
            have G4 : gL (sI (sL (sI v5 11 (5 + n) (nI jj)) 5 (5 + n) (wd27 w1)) 3 8 (nI (n + 1))) 5 (5 + n) = wd27 w1 := show gL (sL (sI v5 11 (5 + n) (nI jj)) 5 (5 + n) (wd27 w1)) 5 (5 + n) = wd27 w1 from sl_g
            have GF : Fr cxM v5 (sI (sL (sI v5 11 (5 + n) (nI jj)) 5 (5 + n) (wd27 w1)) 3 8 (nI (n + 1))) := ((Fr.sI (A := cxM) (Or.inr ⟨by decide, by decide, show 5 ≤ 5 + n by omega⟩)).tr (Fr.sL (A := cxM) (Or.inr ⟨by decide, by decide, show 5 ≤ 5 + n by omega⟩))).tr (Fr.sI (A := cxM) (Or.inr ⟨by decide, by decide, show 6 ≤ 8 by decide⟩))
            generalize sI (sL (sI v5 11 (5 + n) (nI jj)) 5 (5 + n) (wd27 w1)) 3 8 (nI (n + 1)) = v9 at *
            have M9 : Fr cxM v v9 := (C2.tr (R5.mono (fun c k => rdM_cx))).tr GF
            have hf : Fin u5 v9 c T b5 e5 k5 w5 m5 := i7.fr (fun _ _ _ => rfl) rfl (fun a i q => G a i (by omega)) (GL 1 7 (by omega))
            obtain ⟨u7, v10, p1, p2⟩ := hf.passS
            rw [zb_eq p1]
            rcases p2 with ⟨p2, b7, e7, k7, w7, m7, p3, p4, p5, p6⟩ | ⟨p2, x, z1, z2, z3, z4⟩
            · have P7 : Fr rdC u u7 := P5.tr p5
              have ep : Na_put (s + 3) y u7 = some (nI n, sI (sL u7 (s + 4) n y) (s + 3) 1 (nI (n + 1))) := put_eq (σ := 1) hs (by decide) ((P7.i (by unfold rdC; omega)).trans cn) (show n < 5 by omega) y
              have iC : ib (nI n) 5 = true := ib_nI (by omega) (by omega)
              refine ⟨sI (sI (sI (sL u7 (s + 4) n y) (s + 3) 1 (nI (n + 1))) (s + 11) n (nI j)) (s + 12) n z, v10, ?_, Or.inl ⟨by rw [zb_eq p2]; rfl, ?_, b7, e7, k7, w7, m7, p3.fr (fun a i q => (gs_ne (by omega)).trans ((gs_ne (by omega)).trans (gs_ne (u := sL u7 (s + 4) n y) (by omega)))) (show gL (sL u7 (s + 4) n y) 2 5 = gL u7 2 5 by rw [gL_sL, if_neg (by omega)]) (fun _ _ _ => rfl) rfl, by omega, ?_, M9.tr (p6.mono (fun c k => rdM_cx))⟩⟩
              · rw [zb_eq p3.fine, if_neg one_ne, zb_eq ep]
                unfold Co_readPerson_65
                rw [if_pos lt, if_neg (show ¬ nI n = (-1 : Int32) from mI_ne (by omega)), if_pos iC, ix_nI (by omega), zl_e, if_pos iC, zl_e]
              · refine hX.person (n := n) (x := j) (y := jj) (w := w1) hn.symm (by omega) hj j1 d4 (fun a i h1 h2 q => ⟨?_, ?_⟩) (fun a i h1 h2 q => ⟨(p6.i (by unfold rdM; omega)).trans ((G a i (by omega)).trans ((R5.i (by unfold rdM; omega)).trans ((gs_ne (by omega)).trans (Q2.i (by unfold rdW rdM; omega))))), (p6.l (by unfold rdM; omega)).trans ((GL a i (by omega)).trans ((R5.l (by unfold rdM; omega)).trans (Q2.l (by unfold rdW rdM; omega))))⟩) ?_ ?_ ?_ ?_ ((p6.i (by unfold rdM; omega)).trans G3) ((p6.l (by unfold rdM; omega)).trans G4) ((p6.i (by unfold rdM; omega)).trans ((G 10 (5 + n) (by omega)).trans ((R5.i (by unfold rdM; omega)).trans (gs_eq ⟨rfl, rfl⟩)))) ((p6.i (by unfold rdM; omega)).trans GB)
                · exact (gs_ne (by omega)).trans ((gs_ne (by omega)).trans ((gs_ne (u := sL u7 (s + 4) n y) (by omega)).trans (P7.i (by unfold rdC; omega))))
                · show gL (sL u7 (s + 4) n y) a i = gL u a i
                  rw [gL_sL, if_neg (by omega)]
                  exact P7.l (by unfold rdC; omega)
                · exact (gs_ne (by omega)).trans ((gs_ne (by omega)).trans (gs_eq ⟨rfl, rfl⟩))
                · show gL (sL u7 (s + 4) n y) (s + 4) n = wd256 w1
                  rw [sl_g, dy]
                · rw [gs_ne (by omega), gs_eq ⟨rfl, rfl⟩]
                · rw [gs_eq ⟨rfl, rfl⟩, j2]
              · exact (((P7.mono (fun c k => rdC_cx)).tr (Fr.sL (A := cxC s) (Or.inr ⟨by omega, by omega⟩))).tr (Fr.sI (A := cxC s) (Or.inr ⟨by omega, by omega⟩))).tr ((Fr.sI (A := cxC s) (Or.inr ⟨by omega, by omega⟩)).tr (Fr.sI (A := cxC s) (Or.inr ⟨by omega, by omega⟩)))
            · exact ⟨u7, v10, personB z1 hs _ _ _, Or.inr ⟨by rw [zb_eq p2]; rfl, x, z1, z2, (P5.tr z3).mono (fun c k => rdC_cx), M9.tr (z4.mono (fun c k => rdM_cx))⟩⟩
          · refine ⟨u5, v5, ?_, Or.inr ⟨by rw [zb_eq i2, if_pos rfl], x, z1, z2, (P4.tr z3).mono (fun c k => rdC_cx), C2.tr ((R4.tr z4).mono (fun c k => rdM_cx))⟩⟩
            rw [zb_eq (z1.passS _)]
            exact personB z1 hs _ _ _
        · refine ⟨u4, v4, ?_, Or.inr ⟨by rw [zb_eq o2, if_pos rfl], x, z1, z2, (P3.tr z3).mono (fun c k => rdC_cx), C2.tr ((g6.tr z4).mono (fun c k => rdM_cx))⟩⟩
          rw [zb_eq (z1.told lT), zb_eq (z1.passS _)]
          exact personB z1 hs _ _ _
    · obtain ⟨x, z1, z2, z3, z4⟩ := d3
      refine ⟨u2, v2, ?_, Or.inr ⟨by rw [zb_eq d2, if_pos rfl], x, z1, z2, (a5.tr z3).mono (fun c k => rdC_cx), ((a6.mono (fun c k => rdM_w)).tr z4).mono (fun c k => rdW_cx)⟩⟩
      rw [zb_eq z1.kind, zb_eq (z1.passW _), zb_eq (z1.told lT), zb_eq (z1.passS _)]
      exact personB z1 hs _ _ _
