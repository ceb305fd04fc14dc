/-! ===== what wets, told or not ===== -/
theorem lay18 {s : Nat} (hs : s = 4 ∨ s = 25) : layC (s + 18) = (11, 3) := by rcases hs with rfl | rfl <;> rfl
theorem Lw_untold {u v : zM} {s : Nat} (hs : s = 4 ∨ s = 25) (c1 : gI u (s + 18) 2 = nI 0) (m0 : gI v 17 0 = nI 0) (m1 : gI v 18 0 = nI 0) : LwC u s (fun l f _ _ => l + f - 1) ∧ LwM v (fun l f _ _ => l + f - 1) := by
  refine ⟨fun u' hu l f w d => ⟨u', ?_, Fr.rf⟩, fun v' hv => ⟨fun _ l f w d => rfl, fun q => absurd ?_ q⟩⟩
  · unfold La_tells
    rw [if_pos (lay18 hs), show gI u' (s + 18) 2 = nI 0 from ((hu 2).1).trans c1, if_pos (show nI 0 = (0 : Int32) from rfl)]
  · rw [hv.1, hv.2.1, m0, m1]
    decide
theorem Lw_told {u v : zM} {s ρ : Nat} {P Q : List Int32} (hs : s = 4 ∨ s = 25) (hR : Rl ρ 0 0 P Q) (c1 : gI u (s + 18) 2 = nI P.length) (c2 : Hld u (s + 19) 0 P) (pl : P.length ≤ 1000) (m0 : gI v 17 0 = nI 0) (m1 : gI v 18 0 = nI Q.length) (m2 : Hld v 19 0 Q) (ql : Q.length ≤ 1000) : ∃ E, LwC u s E ∧ LwM v E := by
  obtain ⟨V, a1, _, a3, a4, a5⟩ := Rl_val ρ 0 0 P Q (by omega) hR
  have l18 := lay18 hs
  refine ⟨V, fun u' hu l f w d => ?_, fun v' hv => ⟨fun q => absurd q ?_, fun _ => ?_⟩⟩
  · have k1 : gI u' (s + 18) 2 = nI P.length := ((hu 2).1).trans c1
    have k2 : Hld u' (s + 18 + 1) 0 P := Hld.fr P 0 c2 (fun k => (hu k).2)
    obtain ⟨u2, e1, e2, e3, e4⟩ := a1 (s + 18) l18 l f w d u' (4095 - P.length + 1) 0 0 P.length (by decide) k2 (by omega) pl k1
    rw [show 4095 - P.length + 1 + P.length = zF by unfold zF; omega] at e1
    refine ⟨u2, ?_, e4⟩
    unfold La_tells
    rw [if_pos l18, k1, if_neg (show ¬ nI P.length = (0 : Int32) from fun z => by have := (nI_eq (b := 0) (by omega) (by decide)).mp z; omega)]
    refine e1.trans ?_
    show La_tells_19b _ (s + 18) l f w d (nI (0 + 1)) (nI (0 + P.length)) u2 = _
    unfold La_tells_19b
    rw [if_pos l18, show gI u2 (s + 18) 2 = nI P.length from (e4.i (by omega)).trans k1, if_pos (show nI P.length ≤ nI (0 + P.length) from nI_le (by omega) (by omega)), e2]
  · rw [hv.1, hv.2.1, m0, m1]
    exact nI_ge (show 0 < Q.length by omega) (by omega)
  · have n17 : gI v' 17 0 = nI 0 := hv.1.trans m0
    have n18 : gI v' 18 0 = nI Q.length := hv.2.1.trans m1
    have n19 : Hld v' 19 0 Q := Hld.frr Q 0 m2 (fun k _ h2 => hv.2.2 k (by omega))
    have f1 : Fr (fun a _ => 22 ≤ a ∧ a ≤ 30) v' (sI (sI (sI (sI (sI v' 23 0 0) 25 0 0) 26 0 0) 27 0 20) 29 0 0) := ((((Fr.sI (by omega)).tr (Fr.sI (by omega))).tr (Fr.sI (by omega))).tr (Fr.sI (by omega))).tr (Fr.sI (by omega))
    obtain ⟨v1, hv1⟩ : ∃ z, z = sI (sI (sI (sI (sI v' 23 0 0) 25 0 0) 26 0 0) 27 0 20) 29 0 0 := ⟨_, rfl⟩
    have st : StX 0 v1 0 := by
      rw [hv1]
      exact ⟨gs_eq ⟨rfl, rfl⟩, fun _ => ⟨(gs_ne (by omega)).trans ((gs_ne (by omega)).trans (gs_eq ⟨rfl, rfl⟩)), (gs_ne (by omega)).trans (gs_eq ⟨rfl, rfl⟩)⟩, fun _ => (gs_ne (by omega)).trans ((gs_ne (by omega)).trans ((gs_ne (by omega)).trans (gs_eq ⟨rfl, rfl⟩))), fun _ => (gs_ne (by omega)).trans ((gs_ne (by omega)).trans ((gs_ne (by omega)).trans ((gs_ne (by omega)).trans (gs_eq ⟨rfl, rfl⟩))))⟩
    have eo : Mo_opens 0 v' = some ((), v1) := by rw [hv1]; exact Mo_opens_eq (d := 0) (by decide)
    rw [← hv1] at f1
    have cd : Cd v1 0 Q Q.length (gI v' 31 1) (gI v' 31 2) (gI v' 31 3) (gI v' 31 4) := ⟨Hld.fr Q 0 n19 (fun k => f1.i (by omega)), by omega, ql, (f1.i (by omega)).trans n18, f1.i (by omega), f1.i (by omega), f1.i (by omega), f1.i (by omega)⟩
    obtain ⟨v2, e1, e2, e3⟩ := a3 (by omega) v1 (4095 - Q.length + 1) 0 Q.length _ _ _ _ cd (Or.inl rfl) st
    rw [show 4095 - Q.length + 1 + Q.length = zF by unfold zF; omega] at e1
    obtain ⟨v3, t1, t2, t3, t4, t5, t6, t7⟩ := Mo_tests_eq (v := v2) (d := 0) (by decide)
    have f2 : Fr (fun a _ => 22 ≤ a ∧ a ≤ 30) v1 v2 := e3.mono (fun c k q => by unfold lvX lvA at q; omega)
    refine ⟨v3, ?_, (f1.tr f2).tr (t7.mono (fun c k q => by unfold tsA at q; omega))⟩
    unfold Mo_worked
    rw [zb_eq eo, if_pos (show ib 0 2 = true by decide), show gI v1 17 (ix 0) = nI 0 from (f1.i (by omega)).trans n17, zl_e]
    refine e1.trans ?_
    show Mo_worked_14b _ 0 (nI 0) (nI (0 + Q.length)) v2 = _
    unfold Mo_worked_14b
    rw [if_pos (show ib 0 2 = true by decide), show gI v2 18 (ix 0) = nI Q.length from (f2.i (by omega)).trans ((f1.i (by omega)).trans n18), if_pos (show nI Q.length ≤ nI (0 + Q.length) from nI_le (by omega) (by omega)), zb_eq (show Mo_tests 0 v2 = _ from t1), t2]
    rw [show tvF v2 0 = V (gI v' 31 1) (gI v' 31 2) (gI v' 31 3) (gI v' 31 4) from e2]
/-- the law of the county that is read -/
def LawX (u v : zM) (s : Nat) : Prop := (gI u (s + 18) 2 = nI 0 ∧ gI v 17 1 = nI 1000 ∧ gI v 18 1 = nI 1000 ∧ gI v 1 27 = nI 1000) ∨ (∃ ρ P Q, Rl ρ 0 0 P Q ∧ LSc u (s + 18) P ∧ LSm v Q ∧ P.length ≤ 1000 ∧ Q.length ≤ 1000 ∧ gI v 17 1 = nI 1000 ∧ gI v 18 1 = nI (1000 + Q.length))
def cyC (s : Nat) (c k : Nat) : Prop := rdC c k ∨ (s ≤ c ∧ c ≤ s + 19)
def cyM (c k : Nat) : Prop := rdW c k ∨ (c = 1 ∧ k = 27) ∨ (3 ≤ c ∧ c ≤ 16 ∧ mlo c ≤ k) ∨ ((c = 17 ∨ c = 18) ∧ k = 1) ∨ (c = 19 ∧ 1000 ≤ k) ∨ c = 20 ∨ c = 21
theorem cxC_y {s c k : Nat} (h : cxC s c k) : cyC s c k := by
  rcases h with h | h
  · exact Or.inl h
  · exact Or.inr (by omega)
theorem cxM_y {c k : Nat} (h : cxM c k) : cyM c k := by
  rcases h with h | h
  · exact Or.inl h
  · exact Or.inr (Or.inr (Or.inl h))
theorem LawX.fr {u u' v v' : zM} {s : Nat} (h : LawX u v s) (hu : ∀ k, gI u' (s + 18) k = gI u (s + 18) k ∧ gI u' (s + 19) k = gI u (s + 19) k) (hv : ∀ a k, (a = 1 ∧ k = 27) ∨ (17 ≤ a ∧ a ≤ 19) → gI v' a k = gI v a k) : LawX u' v' s := by
  rcases h with ⟨h1, h2, h3, h4⟩ | ⟨ρ, P, Q, h1, h2, h3, h4, h5, h6, h7⟩
  · exact Or.inl ⟨((hu _).1).trans h1, (hv _ _ (by omega)).trans h2, (hv _ _ (by omega)).trans h3, (hv _ _ (by omega)).trans h4⟩
  · refine Or.inr ⟨ρ, P, Q, h1, h2.fr (fun a k q => ?_), h3.fr (fun a k q => hv _ _ (by omega)), h4, h5, (hv _ _ (by omega)).trans h6, (hv _ _ (by omega)).trans h7⟩
    rcases q with rfl | rfl
    · exact (hu k).1
    · exact (hu k).2
/-- what a statement of a county leaves -/
def CuQ (u v : zM) (s : Nat) (c : Nat) (T : Nat → Nat) (b : Nat) (r : Option (Unit × zM)) (r' : Option (Int32 × zM)) : Prop := ∃ u' v', r = some ((), u') ∧ ((r' = some (1, v') ∧ (∃ N K nm, CtX u' v' s N K nm) ∧ LawX u' v' s ∧ OkF (cyC s) cyM u v u' v' c T b) ∨ (r' = some (0, v') ∧ BdF (cyC s) cyM u v u' v'))
theorem CtQ.cu {u v : zM} {s c b : Nat} {T : Nat → Nat} {r : Option (Unit × zM)} {r' : Option (Int32 × zM)} (h : CtQ u v s c T b r r') (hs : s = 4 ∨ s = 25) (hL : LawX u v s) : CuQ u v s c T b r r' := by
  obtain ⟨u', v', h1, h2⟩ := h
  rcases h2 with ⟨h2, h3, b', e', k', w', m', h4, h5, h6, h7⟩ | ⟨h2, x, h3, h4, h5, h6⟩
  · exact ⟨u', v', h1, Or.inl ⟨h2, h3, hL.fr (fun k => ⟨h6.i (by unfold cxC rdC; omega), h6.i (by unfold cxC rdC; omega)⟩) (fun a k q => h7.i (by unfold cxM rdW rdM; omega)), b', e', k', w', m', h4, h5, h6.mono (fun _ _ => cxC_y), h7.mono (fun _ _ => cxM_y)⟩⟩
  · exact ⟨u', v', h1, Or.inr ⟨h2, x, h3, h4, h5.mono (fun _ _ => cxC_y), h6.mono (fun _ _ => cxM_y)⟩⟩
theorem pqC_y {s c k : Nat} (h : pqC (s + 18) c k) : cyC s c k := by
  unfold pqC puC at h
  rcases h with h | h
  · exact Or.inl h
  · exact Or.inr (by omega)
theorem pqM_y {X d c k : Nat} (h : pqM X d c k) : cyM c k := by
  unfold pqM puM at h
  rcases h with h | h
  · exact Or.inl (Or.inl h)
  · unfold cyM
    omega
theorem readWets_eq {u v : zM} {c b e k m : Nat} {T : Nat → Nat} {w : List Nat} (h : Fin u v c T b e k w m) (hk : k = 1) {s : Nat} {N : Nat → Nat} {K : Nat → Nat → Nat} {nm : Nat → Nat → List Nat} (hX : CtX u v s N K nm) (hs : s = 4 ∨ s = 25) (hL : LawX u v s) : CuQ u v s c T b (Co_readWets s u) (Mo_readsWets v) := by
  have lt := layT hs
  have l18 := lay18 hs
  have h6 := h.k6
  unfold Co_readWets Mo_readsWets
  rw [if_pos lt]
  rcases hL with ⟨l1, l2, l3, l4⟩ | ⟨ρ, P, Q, l1, l2, l3, l4, l5, l6, l7⟩
  · obtain ⟨u1, v1, b1, e1, k1, w1, m1, s1, s2, s3, s4, s5, s6⟩ := h.step
    have g27 : gI v1 1 27 = nI 1000 := (s6.i (by unfold stM; omega)).trans l4
    have fM : Fr (fun c k => ((c = 17 ∨ c = 18) ∧ k = 1) ∨ c = 21) v1 (sI (sI v1 17 1 (nI 1000)) 21 0 (vp_nar .boolean 0)) := (Fr.sI (by omega)).tr (Fr.sI (by omega))
    obtain ⟨v2, hv2⟩ : ∃ z, z = sI (sI v1 17 1 (nI 1000)) 21 0 (vp_nar .boolean 0) := ⟨_, rfl⟩
    have c21 : gI v2 21 0 = nI 0 := by rw [hv2]; exact gs_eq ⟨rfl, rfl⟩
    have g17 : gI v2 17 1 = nI 1000 := by rw [hv2]; exact (gs_ne (by omega)).trans (gs_eq ⟨rfl, rfl⟩)
    rw [← hv2] at fM
    have F2 : Fin u1 v2 c T b1 e1 k1 w1 m1 := s3.fr (fun _ _ _ => rfl) rfl (fun a j q => fM.i (by omega)) (fM.l (by omega))
    rw [l1, l2, l3, if_pos (show nI 0 ≤ (0 : Int32) by decide), if_pos (Int32.le_refl _), zb_eq s1, zb_eq s2, g27, zl_e (sI v1 17 1 (nI 1000))]
    have eR : Mo_reads (sI v1 17 1 (nI 1000)) = Mo_reads_11 zF (nI 0) 1 v2 := by
      unfold Mo_reads
      rw [zl_e, ← hv2]
      rfl
    rw [eR]
    have hbe := h6.2.2.2.1 (by omega)
    have Kk := RdS_all (r := s + 18) l18 (by omega) 40 0 (by omega) 0 0 u1 v2 c T b1 e1 k1 w1 m1 [] [] zF (by omega) (by omega) F2 ⟨(s5.i (by unfold stC; omega)).trans l1, trivial⟩ ⟨(fM.i (by omega)).trans g27, trivial⟩ (by rw [List.length_nil]; omega) (by rw [List.length_nil]; omega) (by unfold zF; omega) ⟨Nat.le_refl _, Or.inl rfl, fun j a b => absurd a (by omega)⟩ (fun _ => rfl) (fun _ => c21)
    obtain ⟨u2, t1, t2, t3⟩ := Kk
    rw [zb_eq (show La_rd 40 0 (s + 18) 0 u1 = _ from t1)]
    have fU : Fr (cyC s) u u2 := (s5.mono (fun _ _ z => Or.inl (stC_rd z))).tr (t2.mono (fun _ _ => pqC_y))
    have fV : Fr cyM v v2 := (s6.mono (B := cyM) (fun _ _ z => Or.inl (Or.inl (stM_rd z)))).tr (fM.mono (B := cyM) (fun _ _ z => by unfold cyM; omega))
    rcases t3 with ⟨v', y, y1, y2, y3, y4, L, y5, y6⟩ | ⟨v', nr, P, Q, b', e', k', w', m', ρ, y1, y2, y3, y4, y5, y6, y7, y8, y9, ya, yb⟩
    · rw [zb_eq (y2.passS _), zb_eq y1, if_pos rfl]
      exact ⟨u2, v', rfl, Or.inr ⟨rfl, y, y2, y3, fU, fV.tr (y4.mono (fun _ _ => pqM_y))⟩⟩
    · have h6' := y2.k6
      have hz : c < zF + b1 := by unfold zF; omega
      obtain ⟨nr, rfl⟩ : ∃ z, nr = z + 1 := ⟨nr - 1, by omega⟩
      rw [rf_304 y2 ya (by omega)] at y1
      rw [y1]
      have e399 : zb (Mo_isSign 41 v') (fun c3 u3 => if c3 = 0 then (Mo_reads_399 (nI 0) u3) else (if nI 0 ≤ 0 then (Mo_reads_399 (nI 0) u3) else (zb (Mo_puts 29 u3) (fun _ u4 => Mo_reads_379 zF (Mo_reads_11 nr) ((nI 0) + (-1)) 0 u4)))) = Mo_reads_399 (nI 0) v' := by
        rw [zb_eq (show Mo_isSign 41 v' = _ from (y2.atS (s := 41) (by decide)).2), if_pos (show nI 0 ≤ (0 : Int32) by decide), ite_self]
      rw [e399]
      unfold Mo_reads_399 Ta_passSign
      rw [if_pos (show nI 0 = (0 : Int32) from rfl)]
      have fV' : Fr cyM v v' := fV.tr (yb.mono (fun _ _ => pqM_y))
      by_cases q59 : k' = 3 ∧ T b' = 59
      · obtain ⟨g1, g2⟩ := y2.sgT (s := 59) (by decide) q59
        obtain ⟨u3, v3, b3, e3, k3, w3, m3, x1, x2, x3, x4, x5, x6⟩ := y2.step
        rw [zb_eq (show Ta_atSign 59 u2 = _ from g1), if_neg ne10, zb_eq x1, zb_eq (show Mo_isSign 59 v' = _ from g2), if_neg ne10, zb_eq x2]
        have g27' : gI v3 1 27 = nI (1000 + Q.length) := (x6.i (by unfold stM; omega)).trans y6.1
        refine ⟨u3, sI v3 18 1 (gI v3 1 27), rfl, Or.inl ⟨?_, ⟨N, K, nm, hX.fr (fun a j p1 p2 => ?_) (fun a j p1 p2 => ?_)⟩, Or.inr ⟨ρ, P, Q, y9, y5.fr (fun a k z => x5.i (by unfold stC; omega)), y6.fr (fun a k z => (gs_ne (by omega)).trans (x6.i (by unfold stM; omega))), by omega, by omega, ?_, ?_⟩, b3, e3, k3, w3, m3, ?_, ?_, ?_, ?_⟩⟩
        · rw [zb_eq (show some ((1 : Int32), v3) = some (1, v3) from rfl), if_neg ne10, zl_e]
        · have q1 : Fr (fun c k => rdC c k ∨ puC (s + 18) c k) u u3 := ((s5.mono (fun _ _ z => Or.inl (stC_rd z))).tr t2).tr (x5.mono (fun _ _ z => Or.inl (stC_rd z)))
          exact ⟨q1.i (by unfold rdC puC; omega), q1.l (by unfold rdC puC; omega)⟩
        · have q1 : Fr (fun c k => c < 3 ∨ 16 < c) v (sI v3 18 1 (gI v3 1 27)) := ((((s6.mono (fun _ _ z => by unfold stM at z; omega)).tr (fM.mono (fun _ _ z => by omega))).tr (yb.mono (fun _ _ z => by unfold pqM rdM puM at z; omega))).tr (x6.mono (fun _ _ z => by unfold stM at z; omega))).tr (Fr.sI (by omega))
          exact ⟨q1.i (by omega), q1.l (by omega)⟩
        · exact (gs_ne (by omega)).trans ((x6.i (by unfold stM; omega)).trans ((yb.i (by unfold pqM rdM puM; omega)).trans g17))
        · exact (gs_eq ⟨rfl, rfl⟩).trans g27'
        · exact x3.fr (fun _ _ _ => rfl) rfl (fun a j q => gs_ne (by omega)) rfl
        · omega
        · exact fU.tr (x5.mono (fun _ _ z => Or.inl (stC_rd z)))
        · exact (fV'.tr (x6.mono (fun _ _ z => Or.inl (Or.inl (stM_rd z))))).tr (Fr.sI (by unfold cyM; omega))
      · obtain ⟨g1, g2⟩ := y2.sgF (s := 59) (by decide) q59
        obtain ⟨f1, f2, f3⟩ := y2.fail (j := 1) (by decide) (by decide)
        rw [zb_eq (show Ta_atSign 59 u2 = _ from g1), if_pos rfl, zb_eq (show Ta_fail 1 u2 = _ from f1), zb_eq (show Mo_isSign 59 v' = _ from g2), if_pos rfl, zb_eq (show Mo_fails 1 v' = _ from f2)]
        exact ⟨_, _, rfl, Or.inr ⟨rfl, _, f3, gs_eq ⟨rfl, rfl⟩, fU.tr (Fr.sI (Or.inl (by unfold rdC; omega))), fV'.tr (Fr.sI (Or.inl (Or.inl (by unfold rdM; omega))))⟩⟩
  · obtain ⟨_, _, _, _, a4, a5⟩ := Rl_val ρ 0 0 P Q (by omega) l1
    rw [l2.1, l6, l7, if_neg (show ¬ nI P.length ≤ (0 : Int32) from nI_ge (show 0 < P.length by omega) (by omega)), if_neg (show ¬ nI (1000 + Q.length) ≤ nI 1000 from nI_ge (by omega) (by omega))]
    obtain ⟨f1, f2, f3⟩ := h.fail (j := 3) (by decide) (by decide)
    rw [zb_eq (show Ta_fail 3 u = _ from f1), zb_eq (show Mo_fails 3 v = _ from f2)]
    exact ⟨_, _, rfl, Or.inr ⟨rfl, _, f3, gs_eq ⟨rfl, rfl⟩, Fr.sI (Or.inl (by unfold rdC; omega)), Fr.sI (Or.inl (Or.inl (by unfold rdM; omega)))⟩⟩
