/-! ===== session ===== -/
theorem c_session {n : Nat} {u v : zM} (h : Inv n u v) (hn : n < 600) : ∃ r u' v', OW_session u = some (r, u') ∧ Mo_session v = some (r, v') ∧ Inv (n + 1) u' v' := by
  obtain ⟨h6, t, l, N, K, E, S, h⟩ := h
  have ht := h.2.2.1.2.1
  have lt := layT ht
  have rt := h.2.2.1.1
  obtain ⟨r2, r3, hl, r4⟩ := h.2.2.2.2.1
  obtain ⟨l2, hl2⟩ : ∃ z, z = 96 - l := ⟨_, rfl⟩
  rw [← hl2] at r4
  have hl' : l2 = 46 ∨ l2 = 50 := by omega
  have ll : layC l2 = (16, 4) := by rcases hl' with h | h <;> subst h <;> rfl
  have ll0 : layC l = (16, 4) := by rcases hl with h | h <;> subst h <;> rfl
  obtain ⟨c, T, w1, w2, w3⟩ := h.2.2.2.2.2.2.2.2.2.2.1.two
  obtain ⟨nm, hnm⟩ := h.nmR
  have fC0 : Fr (ssC l2) u (sI u l2 3 0) := Fr.sI (by unfold ssC; omega)
  have fM0 : Fr ssM v (sI (sI v 1 0 0) 32 5 0) := (Fr.sI (by unfold ssM bgM; omega)).tr (Fr.sI (by unfold ssM; omega))
  obtain ⟨u1, v1, b, e, k, w, m, s1, s2, s3, s4, s5, s6⟩ := begin_eq (u := sI u l2 3 0) (v := sI (sI v 1 0 0) 32 5 0) w1 ⟨(gs_ne (by omega)).trans w2.1, fun i hi => (gs_ne (by omega)).trans (w2.2 i hi)⟩ ⟨(gs_ne (by omega)).trans ((gs_ne (by omega)).trans w3.1), fun i hi => (gs_ne (by omega)).trans ((gs_ne (by omega)).trans (w3.2 i hi))⟩
  have fC1 : Fr (ssC l2) u u1 := fC0.tr (s5.mono (fun c k q => by unfold rdC at q; unfold ssC; omega))
  have fM1 : Fr ssM v v1 := fM0.tr (s6.mono (fun c k q => Or.inl q))
  have hN1 : NmR u1 v1 t 0 N nm := hnm.fr (fun a z _ _ => ⟨fC1.i (by unfold ssC; omega), fC1.l (by unfold ssC; omega)⟩) (fun a z _ _ => ⟨fM1.i (by unfold ssM bgM; omega), fM1.l (by unfold ssM bgM; omega)⟩)
  have hL1 : LnR u1 v1 l2 N 0 (fun _ => 0) (fun _ => 0) (fun _ => 0) := ⟨⟨by decide, fun i hi => absurd hi (by omega)⟩, ⟨(s5.i (by unfold rdC; omega)).trans (gs_eq ⟨rfl, rfl⟩), fun i hi => absurd hi (by omega)⟩, ⟨(s6.i (by unfold bgM; omega)).trans (gs_eq ⟨rfl, rfl⟩), fun i hi => absurd hi (by omega)⟩⟩
  obtain ⟨u2, v2, y1, y2, y3⟩ := sesLoop s3 hN1 ht hl' hL1
  have fC2 : Fr (ssC l2) u u2 := fC1.tr (y2.mono (fun c k => snC_ss))
  have eC : OW_session u = if gI (sI u2 2 1 0) 2 6 = 0 then some (gI (sI u2 2 1 0) 2 6, sR (sR (sI u2 2 1 0) 1 3 l2) 1 4 l) else some (gI (sI u2 2 1 0) 2 6, sI u2 2 1 0) := by
    have q1 : gR (sI u2 2 1 0) 1 3 = l := (fC2.r 1 3).trans r3
    have q2 : gR (sI u2 2 1 0) 1 4 = l2 := (fC2.r 1 4).trans r4
    unfold OW_session Ss_read Ta_finish
    rw [r4, rt, if_pos ll, if_pos lt, if_pos ll, if_pos lt, zl_e (sI u l2 3 0), zb_eq s1, zb_eq y1, zl_e (sI u2 2 1 0), zs_e, q1, q2, if_pos ll0, if_pos ll, zl_e, zl_e]
  have eM : Mo_session v = Mo_session_16 zF v1 := by
    unfold Mo_session
    rw [zl_e, zl_e, zb_eq s2]
  have g26 : gI (sI u2 2 1 0) 2 6 = gI u2 2 6 := gs_ne (by omega)
  have fC3 : Fr (ssC l2) u (sI u2 2 1 0) := fC2.tr (Fr.sI (by unfold ssC; omega))
  rcases y3 with ⟨x, z1, z2, z3⟩ | ⟨z1, n', W, A, B, v3, z2, z3, z4, z5⟩
  · have fM2 : Fr ssM v v2 := fM1.tr (z3.mono (fun c k => snM_ss))
    refine ⟨nI x, sI u2 2 1 0, v2, ?_, eM.trans z2, by omega, t, l, N, K, E, S, h.mk2 (fun c k q => ⟨fC3.i (ss_keepC ht hl' q), fC3.l (ss_keepC ht hl' q)⟩) (fun c k q => ⟨fM2.i (ss_keepM q), fM2.l (ss_keepM q)⟩) (fC3.r _ _) ⟨(fC3.r _ _).trans r2, (fC3.r _ _).trans r3, hl, (fC3.r _ _).trans (r4.trans hl2)⟩ (h.2.2.2.2.2.1.fr (fC3.i (by unfold ssC; omega)) (fun j k _ _ _ => fC3.i (by unfold ssC; omega)) (fM2.i (by unfold ssM bgM; omega)) (fun c k _ _ _ => fM2.i (by unfold ssM bgM; omega))) (fin_0 (gs_eq ⟨rfl, rfl⟩) ((z3.i (by unfold snM rdM; omega)).trans s4))⟩
    rw [eC, g26, if_neg z1.n0, z1.1]
  · have fM3 : Fr ssM v v3 := fM1.tr (z4.mono (fun c k => snM_ss))
    obtain ⟨y2', y3', y4'⟩ := z5
    have hk4 : ∀ c k, keepM c k → gI v2 c k = gI v c k ∧ gL v2 c k = gL v c k := by
      intro c k q
      have q2 : ¬ ((c = 32 ∧ k = 0) ∨ (33 ≤ c ∧ c ≤ 35 ∧ 40 * 0 ≤ k ∧ k < 40 * 0 + 40)) := by
        rcases q with q | q | q | q | q | q | q | q | q | q | q | q | q <;> omega
      exact ⟨(y4'.i q2).trans (fM3.i (ss_keepM q)), (y4'.l q2).trans (fM3.l (ss_keepM q))⟩
    have hlin : LinI (sR (sR (sI u2 2 1 0) 1 3 l2) 1 4 l) v2 l2 0 N := by
      obtain ⟨q1, ⟨q2, q3⟩, ⟨q4, q5⟩⟩ := z3
      have hc40 := q1.1
      refine ⟨n', W, A, B, q1, ⟨(show gI (sI u2 2 1 0) l2 3 = gI u2 l2 3 from gs_ne (by omega)).trans q2, fun i hi => ?_⟩, ⟨y2'.trans q4, fun i hi => ?_⟩⟩
      · obtain ⟨p1, p2, p3⟩ := q3 i hi
        have g : ∀ a j, 46 ≤ a → gI (sR (sR (sI u2 2 1 0) 1 3 l2) 1 4 l) a j = gI u2 a j := fun a j _ => show gI (sI u2 2 1 0) a j = gI u2 a j from gs_ne (by omega)
        exact ⟨(g _ _ (by omega)).trans p1, fun z => ⟨(g _ _ (by omega)).trans (p2 z).1, (g _ _ (by omega)).trans (p2 z).2⟩, fun z => (g _ _ (by omega)).trans (p3 z)⟩
      · obtain ⟨p1, p2, p3⟩ := q5 i hi
        exact ⟨(y3' 33 i (by omega) (by omega) (by omega)).trans p1, fun z => (y3' 34 i (by omega) (by omega) (by omega)).trans (p2 z), fun z => (y3' 35 i (by omega) (by omega) (by omega)).trans (p3 z)⟩
    refine ⟨0, sR (sR (sI u2 2 1 0) 1 3 l2) 1 4 l, v2, ?_, eM.trans z2, by omega, t, l2, N, K, E, S, h.mk2 (fun c k q => ⟨fC3.i (ss_keepC ht hl' q), fC3.l (ss_keepC ht hl' q)⟩) hk4 ?_ ⟨?_, ?_, hl', ?_⟩ hlin (fin_0 (show gI (sI u2 2 1 0) 2 1 = nI 0 from gs_eq ⟨rfl, rfl⟩) ?_)⟩
    · rw [eC, g26, show gI u2 2 6 = (0 : Int32) from z1, if_pos rfl]
    · rw [gR_sR, if_neg (by decide), gR_sR, if_neg (by decide)]
      exact fC3.r _ _
    · rw [gR_sR, if_neg (by decide), gR_sR, if_neg (by decide)]
      exact (fC3.r _ _).trans r2
    · rw [gR_sR, if_neg (by decide), gR_sR, if_pos ⟨rfl, rfl⟩]
    · rw [gR_sR, if_pos ⟨rfl, rfl⟩]
      omega
    · exact (y4'.i (by omega)).trans ((z4.i (by unfold snM rdM; omega)).trans s4)
