/-! ===== look ===== -/
theorem c_look {n : Nat} {u v : zM} (h : Inv n u v) (hn : n < 600) : ∃ r u' v', OW_look u = some (r, u') ∧ Mo_look v = some (r, v') ∧ Inv (n + 1) u' v' := by
  obtain ⟨h6, t, l, N, K, E, S, h⟩ := h
  obtain ⟨c, P, M, X, s1, s2⟩ := h.2.2.2.2.2.2.1.two
  have hW := h.1
  obtain ⟨u1, e1, f1, f2⟩ := rainsC hW h.2.2.1 s1
  have s3 : SnM (sI v 1 0 0) N c P M X := by
    obtain ⟨a1, a2, a3⟩ := s2
    refine ⟨a1, (gs_ne (by omega)).trans a2, fun i hi => ?_⟩
    obtain ⟨r1, r2, r3, r4, r5⟩ := a3 i hi
    exact ⟨r1, r2, (gs_ne (by omega)).trans r3, (gs_ne (by omega)).trans r4, (gs_ne (by omega)).trans r5⟩
  obtain ⟨m, e2, g1⟩ := rainsM hW (h.2.2.2.1.th hW.1) s3
  have hs : mk (fun r => alB (snB E K S P M X r) c) 10 < 1024 := mk_1024 _ (by omega)
  obtain ⟨u', e3, f3, f4⟩ := lookC hW f1 hs
  have e4 := lookM g1 hs hW.1.1
  have e5 := bitCount_pop hs u1
  have e6 := bits_pop hs m
  generalize mk (fun r => alB (snB E K S P M X r) c) 10 = s at *
  generalize lkP (grF E K S s) (pop s) (N 0) = A at *
  refine ⟨A.2, u', m, ?_, ?_, by omega, t, l, N, K, E, S, h.scr (by omega) ((f2.mono (fun c k h => by unfold scrC; omega)).tr (f4.mono (fun c k h => by unfold scrC; omega))) (((Fr.sI (by unfold scrM; omega)).tr (Fr.sI (by unfold scrM; omega))).tr (g1.2.2.mono (fun c k h => by unfold rnA at h; unfold scrM; omega)))⟩
  · unfold OW_look
    rw [zb_eq e1, zb_eq e5]
    exact e3
  · unfold Mo_look
    rw [zl_e, zb_eq e2, zb_eq e6]
    exact e4
