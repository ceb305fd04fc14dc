/-! ===== a line is read: all of it ===== -/
theorem readLine_eq {u v : zM} {c b e k m : Nat} {T : Nat → Nat} {w : List Nat} (h : Fin u v c T b e k w m) {t l n : Nat} {N W A B : Nat → Nat} {nm : Nat → Nat → List Nat} (hN : NmR u v t 0 N nm) (ht : t = 4 ∨ t = 25) (hl : l = 46 ∨ l = 50) (hL : LnR u v l N n W A B) : LnQ u v l N n c T b (Ss_readLine l t u) (Mo_readsLine v) := by
  have ll : layC l = (16, 4) := by rcases hl with h | h <;> subst h <;> rfl
  have lt := layT ht
  have n40 := hL.1.1
  obtain ⟨s, o1, o2, o3⟩ := h.sort
  unfold Ss_readLine
  rw [if_pos ll, if_pos lt, zb_eq o1, o2]
  unfold Mo_readsLine_57
  rcases o3 with rfl | ⟨k1, j, hj, rfl⟩
  · rw [if_pos (show mI = (-1 : Int32) from rfl), if_neg (show ¬ (0 : Int32) ≤ mI by decide)]
    obtain ⟨f1, f2, f3⟩ := h.fail (j := 1) (by decide) (by decide)
    exact ⟨_, _, by rw [zb_eq (show Ta_fail 1 u = _ from f1)], Or.inr ⟨by rw [zb_eq (show Mo_fails 1 v = _ from f2)]; rfl, _, f3, gs_eq ⟨rfl, rfl⟩, Fr.sI (by unfold snC rdC; omega), Fr.sI (by unfold snM rdM; omega)⟩⟩
  · rw [if_neg (show ¬ nI j = (-1 : Int32) from mI_ne (by omega)), if_pos (show (0 : Int32) ≤ nI j from nI_le (Nat.zero_le _) (by omega)), hL.2.1.1, hL.2.2.1]
    by_cases q40 : n = 40
    · rw [if_neg (show ¬ nI n < (40 : Int32) from nI_nlt (a := n) (b := 40) (by omega) (by omega)), if_pos (show nI n = (40 : Int32) by rw [q40]; rfl)]
      obtain ⟨f1, f2, f3⟩ := h.fail (j := 5) (by decide) (by decide)
      exact ⟨_, _, by rw [zb_eq (show Ta_fail 5 u = _ from f1)], Or.inr ⟨by rw [zb_eq (show Mo_fails 5 v = _ from f2)]; rfl, _, f3, gs_eq ⟨rfl, rfl⟩, Fr.sI (by unfold snC rdC; omega), Fr.sI (by unfold snM rdM; omega)⟩⟩
    · rw [if_pos (show nI n < (40 : Int32) from nI_lt (b := 40) (by omega) (by decide)), if_neg (show ¬ nI n = (40 : Int32) from fun z => q40 ((nI_eq (b := 40) (by omega) (by decide)).mp z))]
      obtain ⟨u2, v1, b', e', k', w', m', s1, s2, s3, s4, s5, s6⟩ := h.step
      have hb : b < b' := by have := h.2.1.2.2.2.2.2.2.2.1 (by omega); omega
      have g3 : gI u2 l 3 = nI n := (s5.i (by unfold stC; omega)).trans hL.2.1.1
      have g5 : gI v1 32 5 = nI n := (s6.i (by unfold stM; omega)).trans hL.2.2.1
      have i40 : ib (nI n) 40 = true := ib_nI (by omega) (by omega)
      have xn : ix (nI n) = n := ix_nI (by omega)
      rw [zb_eq s1, zb_eq s2, g3, g5, if_pos i40, xn, zl_e (sI u2 (l + 1) n (nI j)), show (200 : Int32) + nI n = nI (200 + n) from nI_add 200 n, zl_e (nI (200 + n)), if_pos (ib_nI (show 200 + n < 240 by omega) (by omega)), ix_nI (show 200 + n < 2 ^ 31 by omega), zl_e (sI v1 33 (200 + n) (nI j))]
      rw [show gI (sI u2 (l + 1) n (nI j)) l 3 = nI n from (gs_ne (by omega)).trans g3, if_pos i40, xn, zl_e (sI (sI u2 (l + 1) n (nI j)) (l + 2) n (-1))]
      rw [show gI (sI (sI u2 (l + 1) n (nI j)) (l + 2) n (-1)) l 3 = nI n from (gs_ne (by omega)).trans ((gs_ne (by omega)).trans g3), if_pos i40, xn, zl_e (sI (sI (sI u2 (l + 1) n (nI j)) (l + 2) n (-1)) (l + 3) n (-1))]
      have g3' : gI (sI (sI (sI u2 (l + 1) n (nI j)) (l + 2) n (-1)) (l + 3) n (-1)) l 3 = nI n := (gs_ne (by omega)).trans ((gs_ne (by omega)).trans ((gs_ne (by omega)).trans g3))
      have c1 : gI (sI (sI (sI u2 (l + 1) n (nI j)) (l + 2) n (-1)) (l + 3) n (-1)) (l + 1) n = nI j := (gs_ne (by omega)).trans ((gs_ne (by omega)).trans (gs_eq ⟨rfl, rfl⟩))
      have m1 : gI (sI v1 33 (200 + n) (nI j)) 33 (200 + n) = nI j := gs_eq ⟨rfl, rfl⟩
      have hF : Fin (sI (sI (sI u2 (l + 1) n (nI j)) (l + 2) n (-1)) (l + 3) n (-1)) (sI v1 33 (200 + n) (nI j)) c T b' e' k' w' m' := s3.fr (fun a i q => (gs_ne (by omega)).trans ((gs_ne (by omega)).trans (gs_ne (by omega)))) rfl (fun a i q => gs_ne (by omega)) rfl
      have f1 : Fr (snC l) u (sI (sI (sI u2 (l + 1) n (nI j)) (l + 2) n (-1)) (l + 3) n (-1)) := (((s5.mono (B := snC l) (fun c k q => Or.inl (stC_rd q))).tr (Fr.sI (A := snC l) (by unfold snC; omega))).tr (Fr.sI (A := snC l) (by unfold snC; omega))).tr (Fr.sI (A := snC l) (by unfold snC; omega))
      have f2 : Fr snM v (sI v1 33 (200 + n) (nI j)) := (s6.mono (B := snM) (fun c k q => Or.inl (stM_rd q))).tr (Fr.sI (A := snM) (by unfold snM; omega))
      have hL' : LnR (sI (sI (sI u2 (l + 1) n (nI j)) (l + 2) n (-1)) (l + 3) n (-1)) (sI v1 33 (200 + n) (nI j)) l N n W A B := hL.fr (g3'.trans hL.2.1.1.symm) (fun i z _ _ _ => (gs_ne (by omega)).trans ((gs_ne (by omega)).trans ((gs_ne (by omega)).trans (s5.i (by unfold stC; omega))))) ((gs_ne (by omega)).trans (s6.i (by unfold stM; omega))) (fun a z _ _ _ => (gs_ne (by omega)).trans (s6.i (by unfold stM; omega)))
      have hN' : NmR (sI (sI (sI u2 (l + 1) n (nI j)) (l + 2) n (-1)) (l + 3) n (-1)) (sI v1 33 (200 + n) (nI j)) t 0 N nm := hN.fr (fun a z _ _ => ⟨f1.i (by unfold snC rdC; omega), f1.l (by unfold snC rdC; omega)⟩) (fun a z _ _ => ⟨f2.i (by unfold snM rdM; omega), f2.l (by unfold snM rdM; omega)⟩)
      clear s1 s2 s3 s4 s5 s6 g3 g5
      generalize sI (sI (sI u2 (l + 1) n (nI j)) (l + 2) n (-1)) (l + 3) n (-1) = u5 at *
      generalize sI v1 33 (200 + n) (nI j) = v2 at *
      have e3 : (nI j = (3 : Int32)) ↔ j = 3 := nI_eq (b := 3) (by omega) (by decide)
      have e2 : (nI j = (2 : Int32)) ↔ j = 2 := nI_eq (b := 2) (by omega) (by decide)
      have e1 : (nI j = (1 : Int32)) ↔ j = 1 := nI_eq (b := 1) (by omega) (by decide)
      have e0 : (nI j = (0 : Int32)) ↔ j = 0 := nI_eq (b := 0) (by omega) (by decide)
      have hj4 : j = 0 ∨ j = 3 ∨ j = 1 ∨ j = 2 := by omega
      rcases hj4 with q | q | q
      · rw [if_neg (fun z => by have := e3.mp z; omega), if_pos (e0.mpr q), if_neg (fun z => by have := e1.mp z; omega), if_neg (fun z => by have := e2.mp z; omega)]
        unfold Mo_readsLine_141
        rw [if_pos (e0.mpr q)]
        exact lineE hF hl hL' (by omega) (s := j) (x := 0) (y := 0) (by omega) (fun z => by omega) (fun z => by omega) (fun z => by omega) c1 (fun z => by omega) (fun z => by omega) m1 (fun z => by omega) (fun z => absurd q z) f1 f2 hb
      · rw [if_pos (e3.mpr q), if_neg (fun z => by have := e1.mp z; omega), if_neg (fun z => by have := e2.mp z; omega)]
        unfold Mo_readsLine_141
        rw [if_neg (fun z => by have := e0.mp z; omega), if_neg (fun z => by have := e2.mp z; omega), g3']
        simp only [if_pos i40, xn]
        exact lineN hF hN' ht hl hL' (by omega) (s := j) (x := 0) (σ := 3) (r := 2) (Or.inr (Or.inr ⟨q, rfl, rfl⟩)) (fun z => by omega) c1 (fun z => by omega) m1 (fun z => by omega) f1 f2 hb
      · have e12 : (if nI j = (1 : Int32) then Mo_readsLine_117 (nI j) (nI (200 + n)) v2 else if nI j = (2 : Int32) then Mo_readsLine_117 (nI j) (nI (200 + n)) v2 else Mo_readsLine_141 (nI j) (nI (200 + n)) v2) = Mo_readsLine_117 (nI j) (nI (200 + n)) v2 := by
          rcases q with q | q
          · rw [if_pos (e1.mpr q)]
          · rw [if_neg (fun z => by have := e1.mp z; omega), if_pos (e2.mpr q)]
        rw [e12, if_neg (fun z => by have := e3.mp z; omega), if_neg (fun z => by have := e0.mp z; omega)]
        unfold Mo_readsLine_117
        obtain ⟨X, x1, y, u8, v3, x2, x3⟩ := hF.told hN' ht (by decide) (s := 2) (by decide)
        rw [zb_eq (show Ta_passTold (t + 5) u5 = some (y, u8) from x2), g3', if_pos i40, xn, zl_e, zb_eq (show Mo_otterNamed 0 v2 = some (X, v2) from x1)]
        rcases x3 with ⟨x3, ⟨o, p1, p2, p3⟩, b2, e2', k2, w2, m2, r3, r4, r5, r6⟩ | ⟨x3, z, r3, r4, r5, r6⟩
        · rw [zb_eq x3, if_neg (show ¬ (1 : Int32) = 0 by decide), if_pos (ib_nI (show 200 + n < 240 by omega) (by omega)), ix_nI (by omega), p3, zl_e, p2]
          have G : gI (sI u8 (l + 2) n (nI o)) l 3 = nI n := (gs_ne (by omega)).trans ((r5.i (by unfold rdC; omega)).trans g3')
          have hF2 : Fin (sI u8 (l + 2) n (nI o)) (sI v3 34 (200 + n) (nI o)) c T b2 e2' k2 w2 m2 := r3.fr (fun a i q => gs_ne (by omega)) rfl (fun a i q => gs_ne (by omega)) rfl
          have F1 : Fr (snC l) u (sI u8 (l + 2) n (nI o)) := (f1.tr (r5.mono (fun c k q => Or.inl q))).tr (Fr.sI (by unfold snC; omega))
          have F2 : Fr snM v (sI v3 34 (200 + n) (nI o)) := (f2.tr (r6.mono (fun c k q => Or.inl q))).tr (Fr.sI (by unfold snM; omega))
          have hL2 : LnR (sI u8 (l + 2) n (nI o)) (sI v3 34 (200 + n) (nI o)) l N n W A B := hL'.fr (G.trans g3'.symm) (fun i z _ _ _ => (gs_ne (by omega)).trans (r5.i (by unfold rdC; omega))) ((gs_ne (by omega)).trans (r6.i (by unfold rdM; omega))) (fun a z _ _ _ => (gs_ne (by omega)).trans (r6.i (by unfold rdM; omega)))
          have hN2 : NmR (sI u8 (l + 2) n (nI o)) (sI v3 34 (200 + n) (nI o)) t 0 N nm := hN.fr (fun a z _ _ => ⟨F1.i (by unfold snC rdC; omega), F1.l (by unfold snC rdC; omega)⟩) (fun a z _ _ => ⟨F2.i (by unfold snM rdM; omega), F2.l (by unfold snM rdM; omega)⟩)
          have C1 : gI (sI u8 (l + 2) n (nI o)) (l + 1) n = nI j := (gs_ne (by omega)).trans ((r5.i (by unfold rdC; omega)).trans c1)
          have M1 : gI (sI v3 34 (200 + n) (nI o)) 33 (200 + n) = nI j := (gs_ne (by omega)).trans ((r6.i (by unfold rdM; omega)).trans m1)
          have C2 : gI (sI u8 (l + 2) n (nI o)) (l + 2) n = nI o := gs_eq ⟨rfl, rfl⟩
          have M2 : gI (sI v3 34 (200 + n) (nI o)) 34 (200 + n) = nI o := gs_eq ⟨rfl, rfl⟩
          generalize sI u8 (l + 2) n (nI o) = u9 at *
          generalize sI v3 34 (200 + n) (nI o) = v4 at *
          unfold Mo_readsLine_141 Ss_readLine_136
          have l3 : (layC (l + 3)).1 = 1 ∧ (layC (l + 3)).2 = 40 := by rcases hl with h | h <;> subst h <;> exact ⟨rfl, rfl⟩
          have l7 : layC (t + 7) = (13, 2) := (layN 3 (by decide) t ht).1
          have l1 : layC (t + 1) = (13, 2) := (layN 0 (by decide) t ht).1
          rw [if_neg (show ¬ nI j = (0 : Int32) from fun z => by have := e0.mp z; omega), G, if_pos ll, if_pos l3.1, if_pos l7, if_pos ll, if_pos l3.1, if_pos l1, l3.2]
          rcases q with q | q
          · rw [if_pos (e1.mpr q), if_neg (fun z => by have := e2.mp z; omega)]
            simp only [if_pos i40, xn]
            exact lineN hF2 hN2 ht hl hL2 (by omega) (s := j) (x := o) (σ := 3) (r := 3) (Or.inl ⟨q, rfl, rfl⟩) (fun _ => p1) C1 (fun _ => C2) M1 (fun _ => M2) F1 F2 (show b < b2 by omega)
          · rw [if_neg (fun z => by have := e1.mp z; omega), if_pos (e2.mpr q)]
            simp only [if_pos i40, xn]
            exact lineN hF2 hN2 ht hl hL2 (by omega) (s := j) (x := o) (σ := 0) (r := 3) (Or.inr (Or.inl ⟨q, rfl, rfl⟩)) (fun _ => p1) C1 (fun _ => C2) M1 (fun _ => M2) F1 F2 (show b < b2 by omega)
        · rw [zb_eq x3, if_pos rfl]
          have G : gI (sI u8 (l + 2) n y) l 3 = nI n := (gs_ne (by omega)).trans ((r5.i (by unfold rdC; omega)).trans g3')
          have hB : Bad (sI u8 (l + 2) n y) z := r3.fr (gs_ne (by omega))
          have F1 : Fr (snC l) u (sI u8 (l + 2) n y) := (f1.tr (r5.mono (fun c k q => Or.inl q))).tr (Fr.sI (by unfold snC; omega))
          generalize sI u8 (l + 2) n y = u9 at *
          unfold Ss_readLine_136
          have l3 : (layC (l + 3)).1 = 1 ∧ (layC (l + 3)).2 = 40 := by rcases hl with h | h <;> subst h <;> exact ⟨rfl, rfl⟩
          have l7 : layC (t + 7) = (13, 2) := (layN 3 (by decide) t ht).1
          have l1 : layC (t + 1) = (13, 2) := (layN 0 (by decide) t ht).1
          have hB2 : Bad (sI u9 (l + 3) n (-1)) z := hB.fr (gs_ne (by omega))
          obtain ⟨u2', t1, t2, t3⟩ := hB2.tail hl
          refine ⟨u2', v3, ?_, Or.inr ⟨rfl, z, t2, r4, (F1.tr (Fr.sI (by unfold snC; omega))).tr (t3.mono (fun c k q => by unfold snC; omega)), f2.tr (r6.mono (fun c k q => Or.inl q))⟩⟩
          rw [G, if_pos ll, if_pos l3.1, if_pos l7, zb_eq (hB.told l7), l3.2, if_pos i40, xn, zl_e, if_pos l1, zb_eq (hB.told l1), if_pos i40, zl_e, if_pos ll, if_pos l3.1, ite_self]
          exact t1
