/-! ===== places and the rest are read ===== -/
def mlo (c : Nat) : Nat := ([6, 7, 5, 3, 6, 7, 7, 5, 5, 3, 3, 6, 6, 12] : List Nat).getD (c - 3) 0
def cxC (s : Nat) (c k : Nat) : Prop := rdC c k ∨ (s ≤ c ∧ c ≤ s + 17)
def cxM (c k : Nat) : Prop := rdW c k ∨ (3 ≤ c ∧ c ≤ 16 ∧ mlo c ≤ k)
/-- what a statement leaves -/
def CtQ (u v : zM) (s : Nat) (c : Nat) (T : Nat → Nat) (b : Nat) (r : Option (Unit × zM)) (r' : Option (Int32 × zM)) : Prop := ∃ u' v', r = some ((), u') ∧ ((r' = some (1, v') ∧ (∃ N K nm, CtX u' v' s N K nm) ∧ OkF (cxC s) cxM u v u' v' c T b) ∨ (r' = some (0, v') ∧ BdF (cxC s) cxM u v u' v'))
theorem isFull_eq {u : zM} {s σ n : Nat} (hs : s = 4 ∨ s = 25) (hσ : σ < 4) (hn : gI u (s + 1 + 2 * σ) 1 = nI n) (h7 : n ≤ ln4 σ) : Na_isFull (s + 1 + 2 * σ) u = some (bI (decide (ln4 σ ≤ n)), u) := by
  obtain ⟨l1, l2, l3, l4, l5⟩ := layN σ hσ s hs
  unfold Na_isFull
  rw [if_pos l1, l2, hn, show (ln4 σ).toInt32 = nI (ln4 σ) from rfl]
  by_cases q : ln4 σ ≤ n
  · rw [decide_eq_true q, if_neg (show ¬ nI n < nI (ln4 σ) from nI_nlt q (by omega))]
    rfl
  · rw [decide_eq_false q, if_pos (show nI n < nI (ln4 σ) from nI_lt (by omega) (by omega))]
    rfl
theorem put_eq {u : zM} {s σ n : Nat} (hs : s = 4 ∨ s = 25) (hσ : σ < 4) (hn : gI u (s + 1 + 2 * σ) 1 = nI n) (h7 : n < ln4 σ) (z : Int64) : Na_put (s + 1 + 2 * σ) z u = some (nI n, sI (sL u (s + 2 + 2 * σ) n z) (s + 1 + 2 * σ) 1 (nI (n + 1))) := by
  obtain ⟨l1, l2, l3, l4, l5⟩ := layN σ hσ s hs
  have e : s + 1 + 2 * σ + 1 = s + 2 + 2 * σ := by omega
  unfold Na_put
  rw [if_pos l1, l2, hn, show (ln4 σ).toInt32 = nI (ln4 σ) from rfl, if_pos (show nI n < nI (ln4 σ) from nI_lt h7 (by omega)), if_pos (ib_nI h7 (by omega)), ix_nI (by omega), e, zl_e, show gI (sL u (s + 2 + 2 * σ) n z) (s + 1 + 2 * σ) 1 = nI n from hn, show nI n + 1 = nI (n + 1) from nI_1 n, zl_e, show gI (sI (sL u (s + 2 + 2 * σ) n z) (s + 1 + 2 * σ) 1 (nI (n + 1))) (s + 1 + 2 * σ) 1 = nI (n + 1) from gs_eq ⟨rfl, rfl⟩, show (1 : Int32) = nI 1 from rfl, pk_sub (by omega)]
  rfl
theorem rdC_cx {s c k : Nat} (h : rdC c k) : cxC s c k := Or.inl h
theorem rdM_cx {c k : Nat} (h : rdM c k) : cxM c k := Or.inl (Or.inl h)
theorem rdW_cx {c k : Nat} (h : rdW c k) : cxM c k := Or.inl h
theorem rdM_w {c k : Nat} (h : rdM c k) : rdW c k := Or.inl h
theorem Bd2.cx {u v u' v' u0 v0 : zM} {s : Nat} (h : Bd2 u v u' v') (f1 : Fr (cxC s) u0 u) (f2 : Fr cxM v0 v) : BdF (cxC s) cxM u0 v0 u' v' := by
  obtain ⟨x, h1, h2, h3, h4⟩ := h
  exact ⟨x, h1, h2, f1.tr (h3.mono (fun c k => rdC_cx)), f2.tr (h4.mono (fun c k => rdM_cx))⟩
theorem needsBoth_1 {v v1 v2 : zM} {W : Int64} {a b : Int32} (h1 : Mo_needsWord W v = some (1, v1)) (h2 : Mo_needsNumber a b v1 = some (1, v2)) : Mo_needsBoth W a b v = some (1, v2) := by
  unfold Mo_needsBoth
  rw [zb_eq h1, if_neg (show ¬ (1 : Int32) = 0 by decide), zb_eq h2, if_neg (show ¬ (1 : Int32) = 0 by decide)]
theorem needsBoth_0 {v v1 : zM} {W : Int64} {a b : Int32} (h1 : Mo_needsWord W v = some (0, v1)) : Mo_needsBoth W a b v = some (0, v1) := by
  unfold Mo_needsBoth
  rw [zb_eq h1, if_pos rfl]
theorem needsBoth_2 {v v1 v2 : zM} {W : Int64} {a b : Int32} (h1 : Mo_needsWord W v = some (1, v1)) (h2 : Mo_needsNumber a b v1 = some (0, v2)) : Mo_needsBoth W a b v = some (0, v2) := by
  unfold Mo_needsBoth
  rw [zb_eq h1, if_neg (show ¬ (1 : Int32) = 0 by decide), zb_eq h2, if_pos rfl]
theorem passFirst_1 {u : zM} {x : Nat} (e : Ta_fail 5 u = some ((), sI u 2 6 (nI x))) : Co_passFirst (bI true) u = some ((), sI u 2 6 (nI x)) := by
  unfold Co_passFirst
  rw [if_neg bIt_ne, zb_eq e]
theorem passFirst_0 {u u' : zM} (e : Ta_step u = some ((), u')) : Co_passFirst (bI false) u = some ((), u') := by
  unfold Co_passFirst
  rw [if_pos (show bI false = (0 : Int32) from rfl), zb_eq e]
/-- a place's statement, with a fault before: nothing -/
theorem plB {u : zM} {x s : Nat} (h : Bad u x) (hs : s = 4 ∨ s = 25) : (∀ (c3 : Int64) (c5 : Int32), zb (Ta_isFine u) (fun c7 u7 => if c7 = 0 then (Co_readPlace_58 s c5 (-1) u7) else (zb (Na_put (s + 1) c3 u7) (fun c8 u8 => Co_readPlace_58 s c5 c8 u8))) = some ((), u)) := by
  intro c3 c5
  rw [zb_eq h.fine, if_pos (show nI 0 = (0 : Int32) from rfl)]
  unfold Co_readPlace_58
  rw [if_pos (layT hs), if_pos rfl]
theorem readPlace_eq {u v : zM} {c b e k m : Nat} {T : Nat → Nat} {w : List Nat} (h : Fin u v c T b e k w m) (hk : k = 1) {s : Nat} {N : Nat → Nat} {K : Nat → Nat → Nat} {nm : Nat → Nat → List Nat} (hX : CtX u v s N K nm) (hs : s = 4 ∨ s = 25) : CtQ u v s c T b (Co_readPlace s u) (Mo_readsPlace v) := by
  have lt := layT hs
  have n7 : N 0 ≤ 7 := hX.1.1
  obtain ⟨n, hn⟩ : ∃ z, z = N 0 := ⟨_, rfl⟩
  rw [← hn] at n7
  have cn : gI u (s + 1) 1 = nI n := by rw [hn]; exact hX.2.2.1.1.1
  have mn : gI v 3 6 = nI n := by rw [hn]; exact hX.2.2.2.1.1 0 (by decide)
  have eF : Na_isFull (s + 1) u = some (bI (decide (7 ≤ n)), u) := isFull_eq (σ := 0) hs (by decide) cn n7
  unfold Co_readPlace Mo_readsPlace
  rw [if_pos lt, zb_eq eF, mn, show (7 : Int32) + nI n = nI (7 + n) from nI_add 7 n, zl_e (nI (7 + n))]
  by_cases full : n = 7
  · rw [decide_eq_true (show 7 ≤ n by omega), if_pos (show nI (7 + n) = (14 : Int32) by rw [full]; rfl)]
    obtain ⟨f1, f2, f3⟩ := h.fail (j := 5) (by decide) (by decide)
    refine ⟨_, _, ?_, Or.inr ⟨by rw [zb_eq (show Mo_fails 5 v = _ from f2)]; rfl, (h.bd (by decide) (by decide)).cx Fr.rf Fr.rf⟩⟩
    rw [zb_eq (passFirst_1 f1), zb_eq (f3.new hs), zb_eq (f3.passW _), zb_eq (f3.passN _ _), zb_eq (f3.passS _)]
    exact plB f3 hs _ _
  · rw [decide_eq_false (show ¬ 7 ≤ n by omega), if_neg (show ¬ nI (7 + n) = (14 : Int32) from fun z => by have := (nI_eq (b := 14) (by omega) (by decide)).mp z; omega)]
    obtain ⟨u1, v1, a1, a2, b1, e1, k1, w1, m1, a3, a4, a5, a6⟩ := h.go (by omega)
    have X1 := hX.rd hs a5 a6
    rw [zb_eq (passFirst_0 a1), zb_eq a2]
    obtain ⟨y, u2, v2, d1, d2⟩ := a3.new X1.2.2.2.2 hs
    rw [zb_eq d1]
    rcases d2 with ⟨d2, ⟨dy, d3, d4⟩, b2, e2, k2, w2, m2, d5, d6, d7, d8⟩ | ⟨d2, d3⟩
    · rw [zb_eq d2, if_neg (show ¬ (1 : Int32) = 0 by decide)]
      obtain ⟨u3, v3, g1, g2⟩ := d5.passW (kw := kw_water) rfl k256_water k27_water
      rw [zb_eq g1]
      rcases g2 with ⟨g2, b3, e3, k3, w3, m3, g3, g4, g5, g6⟩ | ⟨g2, g3⟩
      · obtain ⟨z, u4, v4, i1, i2⟩ := g3.passN (lo := 0) (hi := 9) (by decide) (by decide)
        rw [zb_eq (show Ta_passNumber 0 9 u3 = _ from i1)]
        rcases i2 with ⟨i2, iz, i3, i4, i5, i6, b4, e4, k4, w4, m4, i7, i8, i9, i10⟩ | ⟨i2, i3⟩
        · have F1 : Fr rdC u u4 := ((a5.tr d7).tr g5).tr i9
          have F2 : Fr rdW v v4 := (((a6.mono (fun c k => rdM_w)).tr d8).tr (g6.mono (fun c k => rdM_w))).tr (i10.mono (fun c k => rdM_w))
          have mn4 : gI v4 3 6 = nI n := (F2.i (by unfold rdW rdM; omega)).trans mn
          have l4 : gL v4 1 41 = wd27 w1 := (i10.l (by unfold rdM; omega)).trans ((g6.l (by unfold rdM; omega)).trans d3)
          have i14 : ib (nI (7 + n)) 14 = true := ib_nI (by omega) (by omega)
          have xn : ix (nI (7 + n)) = 7 + n := ix_nI (by omega)
          rw [zb_eq (show Mo_needsBoth 12257559 0 9 v2 = some (1, v4) from needsBoth_1 g2 i2), if_neg (show ¬ (1 : Int32) = 0 by decide), if_pos i14, xn, i3, zl_e (sI v4 8 (7 + n) (nI m3)), if_pos i14, zl_e (sI (sI v4 8 (7 + n) (nI m3)) 9 (7 + n) 0), if_pos i14, show gL (sI (sI v4 8 (7 + n) (nI m3)) 9 (7 + n) 0) 1 41 = wd27 w1 from l4, zl_e (sL (sI (sI v4 8 (7 + n) (nI m3)) 9 (7 + n) 0) 4 (7 + n) (wd27 w1)), show gI (sL (sI (sI v4 8 (7 + n) (nI m3)) 9 (7 + n) 0) 4 (7 + n) (wd27 w1)) 3 6 = nI n from (show gI (sI (sI v4 8 (7 + n) (nI m3)) 9 (7 + n) 0) 3 6 = nI n from (gs_ne (by omega)).trans ((gs_ne (by omega)).trans mn4)), show nI n + 1 = nI (n + 1) from nI_1 n, zl_e]
          have G : ∀ a j, ¬ ((a = 3 ∧ j = 6) ∨ (a = 8 ∧ j = 7 + n) ∨ (a = 9 ∧ j = 7 + n)) → gI (sI (sL (sI (sI v4 8 (7 + n) (nI m3)) 9 (7 + n) 0) 4 (7 + n) (wd27 w1)) 3 6 (nI (n + 1))) a j = gI v4 a j := fun a j q => (gs_ne (by omega)).trans (show gI (sI (sI v4 8 (7 + n) (nI m3)) 9 (7 + n) 0) a j = gI v4 a j from (gs_ne (by omega)).trans (gs_ne (by omega)))
          have GL : ∀ a j, ¬ (a = 4 ∧ j = 7 + n) → gL (sI (sL (sI (sI v4 8 (7 + n) (nI m3)) 9 (7 + n) 0) 4 (7 + n) (wd27 w1)) 3 6 (nI (n + 1))) a j = gL v4 a j := fun a j q => show gL (sL (sI (sI v4 8 (7 + n) (nI m3)) 9 (7 + n) 0) 4 (7 + n) (wd27 w1)) a j = gL v4 a j by rw [gL_sL, if_neg q]; rfl
          have G3 : gI (sI (sL (sI (sI v4 8 (7 + n) (nI m3)) 9 (7 + n) 0) 4 (7 + n) (wd27 w1)) 3 6 (nI (n + 1))) 3 6 = nI (n + 1) := gs_eq ⟨rfl, rfl⟩
          have G8 : gI (sI (sL (sI (sI v4 8 (7 + n) (nI m3)) 9 (7 + n) 0) 4 (7 + n) (wd27 w1)) 3 6 (nI (n + 1))) 8 (7 + n) = nI m3 := (gs_ne (by omega)).trans (show gI (sI (sI v4 8 (7 + n) (nI m3)) 9 (7 + n) 0) 8 (7 + n) = nI m3 from (gs_ne (by omega)).trans (gs_eq ⟨rfl, rfl⟩))
          have G9 : gI (sI (sL (sI (sI v4 8 (7 + n) (nI m3)) 9 (7 + n) 0) 4 (7 + n) (wd27 w1)) 3 6 (nI (n + 1))) 9 (7 + n) = nI 0 := (gs_ne (by omega)).trans (show gI (sI (sI v4 8 (7 + n) (nI m3)) 9 (7 + n) 0) 9 (7 + n) = nI 0 from gs_eq ⟨rfl, rfl⟩)
          have G4 : gL (sI (sL (sI (sI v4 8 (7 + n) (nI m3)) 9 (7 + n) 0) 4 (7 + n) (wd27 w1)) 3 6 (nI (n + 1))) 4 (7 + n) = wd27 w1 := show gL (sL (sI (sI v4 8 (7 + n) (nI m3)) 9 (7 + n) 0) 4 (7 + n) (wd27 w1)) 4 (7 + n) = wd27 w1 from sl_g
          have GF : Fr cxM v4 (sI (sL (sI (sI v4 8 (7 + n) (nI m3)) 9 (7 + n) 0) 4 (7 + n) (wd27 w1)) 3 6 (nI (n + 1))) := (((Fr.sI (A := cxM) (Or.inr ⟨by decide, by decide, show 7 ≤ 7 + n by omega⟩)).tr (Fr.sI (A := cxM) (Or.inr ⟨by decide, by decide, show 7 ≤ 7 + n by omega⟩))).tr (Fr.sL (A := cxM) (Or.inr ⟨by decide, by decide, show 7 ≤ 7 + n by omega⟩))).tr (Fr.sI (A := cxM) (Or.inr ⟨by decide, by decide, Nat.le_refl 6⟩))
          generalize sI (sL (sI (sI v4 8 (7 + n) (nI m3)) 9 (7 + n) 0) 4 (7 + n) (wd27 w1)) 3 6 (nI (n + 1)) = v8 at *
          have hf : Fin u4 v8 c T b4 e4 k4 w4 m4 := i7.fr (fun _ _ _ => rfl) rfl (fun a j q => G a j (by omega)) (GL 1 7 (by omega))
          obtain ⟨u5, v9, p1, p2⟩ := hf.passS
          rw [zb_eq p1]
          have cn5 : Fr rdC u4 u5 → gI u5 (s + 1) 1 = nI n := fun f => (f.i (by unfold rdC; omega)).trans ((F1.i (by unfold rdC; omega)).trans cn)
          rcases p2 with ⟨p2, b5, e5, k5, w5, m5, p3, p4, p5, p6⟩ | ⟨p2, x, p3, p4, p5, p6⟩
          · have ep : Na_put (s + 1) y u5 = some (nI n, sI (sL u5 (s + 2) n y) (s + 1) 1 (nI (n + 1))) := put_eq (σ := 0) hs (by decide) (cn5 p5) (show n < 7 by omega) y
            have i7' : ib (nI n) 7 = true := ib_nI (by omega) (by omega)
            refine ⟨sI (sI (sI (sL u5 (s + 2) n y) (s + 1) 1 (nI (n + 1))) (s + 9) n z) (s + 10) n 0, v9, ?_, Or.inl ⟨by rw [zb_eq p2]; rfl, ?_, b5, e5, k5, w5, m5, p3.fr (fun a j q => (gs_ne (by omega)).trans ((gs_ne (by omega)).trans (gs_ne (u := sL u5 (s + 2) n y) (by omega)))) (show gL (sL u5 (s + 2) n y) 2 5 = gL u5 2 5 by rw [gL_sL, if_neg (by omega)]) (fun _ _ _ => rfl) rfl, by omega, ?_, ((F2.mono (fun c k => rdW_cx)).tr GF).tr (p6.mono (fun c k => rdM_cx))⟩⟩
            · rw [zb_eq p3.fine, if_neg one_ne, zb_eq ep]
              unfold Co_readPlace_58
              rw [if_pos lt, if_neg (show ¬ nI n = (-1 : Int32) from mI_ne (by omega)), if_pos i7', ix_nI (by omega), zl_e, if_pos i7', zl_e]
            · have X4 : CtX u4 v4 s N K nm := hX.fr (fun a j h1 h2 => ⟨F1.i (by unfold rdC; omega), F1.l (by unfold rdC; omega)⟩) (fun a j h1 h2 => ⟨F2.i (by unfold rdW rdM; omega), F2.l (by unfold rdW rdM; omega)⟩)
              refine X4.place (n := n) (x := m3) (y := 0) (w := w1) hn.symm (by omega) i5 rfl d4 (fun a j h1 h2 q => ⟨?_, ?_⟩) (fun a j h1 h2 q => ⟨(p6.i (by unfold rdM; omega)).trans (G a j (by omega)), (p6.l (by unfold rdM; omega)).trans (GL a j (by omega))⟩) ?_ ?_ ?_ ?_ ((p6.i (by unfold rdM; omega)).trans G3) ((p6.l (by unfold rdM; omega)).trans G4) ((p6.i (by unfold rdM; omega)).trans G8) ((p6.i (by unfold rdM; omega)).trans G9)
              · exact (gs_ne (by omega)).trans ((gs_ne (by omega)).trans ((gs_ne (u := sL u5 (s + 2) n y) (by omega)).trans (p5.i (by unfold rdC; omega))))
              · show gL (sL u5 (s + 2) n y) a j = gL u4 a j
                rw [gL_sL, if_neg (by omega)]
                exact p5.l (by unfold rdC; omega)
              · exact (gs_ne (by omega)).trans ((gs_ne (by omega)).trans (gs_eq ⟨rfl, rfl⟩))
              · show gL (sL u5 (s + 2) n y) (s + 2) n = wd256 w1
                rw [sl_g, dy]
              · rw [gs_ne (by omega), gs_eq ⟨rfl, rfl⟩, iz]
              · exact gs_eq ⟨rfl, rfl⟩
            · exact ((((F1.tr p5).mono (fun c k => rdC_cx)).tr (Fr.sL (A := cxC s) (Or.inr ⟨by omega, by omega⟩))).tr (Fr.sI (A := cxC s) (Or.inr ⟨by omega, by omega⟩))).tr ((Fr.sI (A := cxC s) (Or.inr ⟨by omega, by omega⟩)).tr (Fr.sI (A := cxC s) (Or.inr ⟨by omega, by omega⟩)))
          · refine ⟨u5, v9, plB p3 hs _ _, Or.inr ⟨by rw [zb_eq p2]; rfl, x, p3, p4, (F1.tr p5).mono (fun c k => rdC_cx), ((F2.mono (fun c k => rdW_cx)).tr GF).tr (p6.mono (fun c k => rdM_cx))⟩⟩
        · obtain ⟨x, q1, q2, q3, q4⟩ := i3
          refine ⟨u4, v4, ?_, Or.inr ⟨by rw [zb_eq (show Mo_needsBoth 12257559 0 9 v2 = some (0, v4) from needsBoth_2 g2 i2), if_pos rfl], x, q1, q2, (((a5.tr d7).tr g5).tr q3).mono (fun c k => rdC_cx), ((((a6.mono (fun c k => rdM_w)).tr d8).tr (g6.mono (fun c k => rdM_w))).tr (q4.mono (fun c k => rdM_w))).mono (fun c k => rdW_cx)⟩⟩
          rw [zb_eq (q1.passS _)]
          exact plB q1 hs _ _
      · obtain ⟨x, q1, q2, q3, q4⟩ := g3
        refine ⟨u3, v3, ?_, Or.inr ⟨by rw [zb_eq (needsBoth_0 g2), if_pos rfl], x, q1, q2, ((a5.tr d7).tr q3).mono (fun c k => rdC_cx), (((a6.mono (fun c k => rdM_w)).tr d8).tr (q4.mono (fun c k => rdM_w))).mono (fun c k => rdW_cx)⟩⟩
        rw [zb_eq (q1.passN _ _), zb_eq (q1.passS _)]
        exact plB q1 hs _ _
    · obtain ⟨x, q1, q2, q3, q4⟩ := d3
      refine ⟨u2, v2, ?_, Or.inr ⟨by rw [zb_eq d2, if_pos rfl], x, q1, q2, (a5.tr q3).mono (fun c k => rdC_cx), ((a6.mono (fun c k => rdM_w)).tr q4).mono (fun c k => rdW_cx)⟩⟩
      rw [zb_eq (q1.passW _), zb_eq (q1.passN _ _), zb_eq (q1.passS _)]
      exact plB q1 hs _ _
