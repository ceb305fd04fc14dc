/-! ===== day, undo, see, mark ===== -/
def reC (t : Nat) (c k : Nat) : Prop := c = t + 20 ∨ 46 ≤ c ∨ c = 2 ∨ c = 3 ∨ (c = 1 ∧ 12 ≤ k)
def reM (c _k : Nat) : Prop := c = 1 ∨ c = 2 ∨ 20 ≤ c
theorem InvR.re {n : Nat} {u u' v v' : zM} {t l : Nat} {N : Nat → Nat} {K : Nat → Nat → Nat} {E : Int32 → Int32 → Int32 → Int32 → Int32} {S S' : Nat → Nat} (h : InvR n u v t l N K E S) {n' : Nat} (hu : Fr (reC t) u u') (hv : Fr reM v v') (hW : Wf N K S') (h0 : S' 0 ≤ n') (hsC : StC u' 54 N S') (hsM : StM v' 40 0 N S') (hl : LinI u' v' l 0 N) (he : SenI u' v' 66 0 N) (hp : PasI u' v' N K n') (hm : MrkI u' v' N K n') (ho : OutI u' N K E S') (htp : TapI u' v') : InvR n' u' v' t l N K E S' := by
  obtain ⟨a1, a2, a3, a4, a5, a6, a7, a8, a9, b1, b2, b3⟩ := h
  have ht := a3.2.1
  exact ⟨hW, h0, a3.st (fun c k _ _ _ => hu.i (by unfold reC; omega)) hu.2 hsC, a4.st a1.1 (fun c k _ _ => hv.i (by unfold reM; omega)) hsM, ⟨(hu.r _ _).trans a5.1, (hu.r _ _).trans a5.2.1, a5.2.2.1, (hu.r _ _).trans a5.2.2.2⟩, hl, he, hp, hm, ho, htp, b3.fr (fun c k _ _ => hu.l (by unfold reC; omega)) (fun c k _ _ => hv.l (by unfold reM; omega))⟩
theorem c_day {n : Nat} {u v : zM} (h : Inv n u v) (hn : n < 600) : ∃ r u' v', OW_day u = some (r, u') ∧ Mo_day v = some (r, v') ∧ Inv (n + 1) u' v' := by
  obtain ⟨h6, t, l, N, K, E, S, h⟩ := h
  have h0 := h
  unfold Mo_day OW_day
  dsimp only [zlet]
  have h := h.th
  generalize sI v 1 0 0 = v at *
  have rt := h.2.2.1.1
  have lt := layT h.2.2.1.2.1
  have n0 : N 0 ≤ 7 := h.1.1.1
  have n3 : N 3 ≤ 3 := h.1.1.2.2.2.1
  have n4 : N 4 ≤ 6 := h.1.1.2.2.2.2.1
  obtain ⟨u1, v1, e1, e2, h1, f1, f2⟩ := h.keep
  rw [zb_eq e1, zb_eq e2]
  have ht := h1.2.2.1.2.1
  have hl := h1.2.2.2.2.1.2.2.1
  obtain ⟨u2, e3, h2, f3⟩ := St_nextDay_eq h1.1 h1.2.2.1 StA54 (by omega)
  obtain ⟨v2, e4, h3, f4⟩ := Mo_passesAsTold_eq h1.1 h1.2.2.2.1
  have hS := h1.2.1
  have hW2 : Wf N K (nextS E N K (rainS N K (S 0)) S) := nextS_wf h1.1 _ (by omega)
  rw [h1.2.2.1.1, if_pos lt, zb_eq e3, zb_eq e4]
  have h2' : NowC (sI u2 70 6 (nI 0)) t N K E 54 (nextS E N K (rainS N K (S 0)) S) := h2.st (fun c k _ _ _ => gs_ne (by omega)) rfl (h2.2.2.2.2.fr hW2.1 (fun j k _ _ _ => gs_ne (by omega)))
  have e5 : Ou_forget u2 = some ((), sI u2 70 6 (nI 0)) := rfl
  rw [zb_eq e5, h2'.1, if_pos lt, zb_eq (St_wetBits_eq hW2 h2' StA54), zb_eq (Mo_wets_e hW2 h3)]
  have F1 : Fr (fun c k => stepA 54 t c k ∨ (c = 70 ∧ k = 6)) u1 (sI u2 70 6 (nI 0)) := (f3.mono (fun c k h => Or.inl h)).tr (Fr.sI (Or.inr ⟨rfl, rfl⟩))
  obtain ⟨a1, a2, a3, a4, a5, a6, a7, a8, a9, b1, b2, b3⟩ := h1
  refine ⟨_, _, v2, rfl, rfl, by omega, t, l, N, K, E, _, InvR.re ⟨a1, a2, a3, a4, a5, a6, a7, a8, a9, b1, b2, b3⟩ (F1.mono (fun c k h => by unfold stepA at h; unfold reC; omega)) (f4.mono (fun c k h => by unfold pasA at h; unfold reM; omega)) hW2 (by rw [nextS_0]; omega) h2'.2.2.2.2 h3.2.2 (a6.fr (F1.i (by unfold stepA; omega)) (fun j k _ _ _ => F1.i (by unfold stepA; omega)) (f4.i (by unfold pasA; omega)) (fun c k _ _ _ => f4.i (by unfold pasA; omega))) (a7.fr (F1.i (by unfold stepA; omega)) (fun j k _ _ _ _ => F1.i (by unfold stepA; omega)) (f4.i (by unfold pasA; omega)) (fun c k _ _ _ _ => f4.i (by unfold pasA; omega))) (a8.fr (by omega) (fun k _ _ => F1.i (by unfold stepA; omega)) (fun c k _ _ => F1.i (by unfold stepA; omega)) (f4.i (by unfold pasA; omega)) (fun k => f4.i (by unfold pasA; omega))) (a9.fr (by omega) (fun c k _ => F1.i (by unfold stepA; omega)) (fun c k _ => f4.i (by unfold pasA; omega))) (OutI.none rfl) (b2.fr (F1.i (by unfold stepA; omega)) (fun k => F1.i (by unfold stepA; omega)) (f4.i (by unfold pasA; omega)) (fun k => f4.i (by unfold pasA; omega)))⟩
theorem c_undo {n : Nat} {u v : zM} (h : Inv n u v) (hn : n < 600) : ∃ r u' v', OW_undo u = some (r, u') ∧ Mo_undo v = some (r, v') ∧ Inv (n + 1) u' v' := by
  obtain ⟨h6, t, l, N, K, E, S, h⟩ := h
  have h0 := h
  unfold Mo_undo OW_undo
  dsimp only [zlet]
  have h := h.th
  generalize sI v 1 0 0 = v at *
  have rt := h.2.2.1.1
  have lt := layT h.2.2.1.2.1
  have n0 : N 0 ≤ 7 := h.1.1.1
  have n3 : N 3 ≤ 3 := h.1.1.2.2.2.1
  have n4 : N 4 ≤ 6 := h.1.1.2.2.2.2.1
  have ht := h.2.2.1.2.1
  have hl := h.2.2.2.2.1.2.2.1
  have h1 := h
  obtain ⟨a1, a2, a3, a4, a5, a6, a7, a8, a9, b1, b2, b3⟩ := h
  obtain ⟨d, x, P, d1, d2, d3, d4, d5, d6⟩ := a8
  by_cases hd : d = 0
  · subst hd
    rw [d3, d5]
    exact ⟨0, u, v, rfl, rfl, by omega, t, l, N, K, E, S, h1.up⟩
  · obtain ⟨p1, p2, p3, p4⟩ := d6 (d - 1) (by omega)
    have hx : (x + 15) % 16 < 16 := Nat.mod_lt _ (by omega)
    rw [show (x + 16 - d + (d - 1)) % 16 = (x + 15) % 16 by omega] at p3
    obtain ⟨u2, e3, g1, g2⟩ := St_copy_eq (u := sI (sI u 1 12 (nI (d - 1))) 1 13 (nI ((x + 15) % 16))) (a := 85 + 6 * ((x + 15) % 16)) (b := 54) (StAp hx) StA54 (by omega)
    obtain ⟨v2, e4, g3, g4⟩ := Mo_copies_eq (v := sI v 1 56 (nI (d - 1))) (A := 44) (B := 40) (i := 25 * (d - 1)) (j := 0) (la := 400) (lb := 25) rfl rfl (by omega) (by omega) (by omega) (by omega) (by omega)
    have eC : (if gI u 1 12 = 0 then some (0, u) else if ib (gI (sI (sI u 1 12 (gI u 1 12 - 1)) 1 13 (gI (sI u 1 12 (gI u 1 12 - 1)) 1 13 + 16 - 1 - (gI (sI u 1 12 (gI u 1 12 - 1)) 1 13 + 16 - 1) / 16 * 16)) 1 13) 16 = true then zb (St_copy 54 (82 + (3 + 6 * ix (gI (sI (sI u 1 12 (gI u 1 12 - 1)) 1 13 (gI (sI u 1 12 (gI u 1 12 - 1)) 1 13 + 16 - 1 - (gI (sI u 1 12 (gI u 1 12 - 1)) 1 13 + 16 - 1) / 16 * 16)) 1 13))) (sI (sI u 1 12 (gI u 1 12 - 1)) 1 13 (gI (sI u 1 12 (gI u 1 12 - 1)) 1 13 + 16 - 1 - (gI (sI u 1 12 (gI u 1 12 - 1)) 1 13 + 16 - 1) / 16 * 16))) (fun _ u3 => zb (Ou_forget u3) (fun _ u4 => some (1, u4))) else none) = some ((1 : Int32), sI u2 70 6 (nI 0)) := by
      have e5 : 82 + (3 + 6 * ((x + 15) % 16)) = 85 + 6 * ((x + 15) % 16) := by omega
      simp (disch := omega) only [d3, zl_e, zs_e, li0, li1, li2, li3, li4, li5, li6, li7, li8, li9, li10, li11, li12, li13, li14, li15, li16, li17, li18, li19, li20, li21, li22, li23, li24, li25, li26, li27, li28, li29, li30, li31, li32, li37, li40, li41, li42, li43, li45, li47, li48, li57, li59, li60, li61, li63, li64, li75, li97, li98, li99, li100, li120, li122, li126, li200, li240, li255, li305, li306, li375, li400, li427, li428, li1000, li2000, li9999, neg_nI1, ↓reduceIte, nI_leI, nI_ltI, nI_eq, nI_add, nI_1, pk_mul, ix_nI, ib_nI, if_true, if_false, eq_self, true_and, and_true, not_false_eq_true, not_true_eq_false, Nat.reduceEqDiff, Nat.reduceLeDiff, Nat.reduceLT, Nat.reduceAdd, Nat.reduceMul, hd, gs_ne, gs_eq, d4, pk_sub, pk_rem, Nat.reduceSub, show x + 16 - 1 = x + 15 by omega, e5, e3, Ou_forget]
    have eM : (if gI v 1 56 = 0 then some (0, v) else zb (Mo_copies 44 (25 * gI (sI v 1 56 (gI v 1 56 - 1)) 1 56) 40 0 (sI v 1 56 (gI v 1 56 - 1))) (fun _ u3 => some (1, u3))) = some ((1 : Int32), v2) := by
      simp (disch := omega) only [d5, zl_e, zs_e, li0, li1, li2, li3, li4, li5, li6, li7, li8, li9, li10, li11, li12, li13, li14, li15, li16, li17, li18, li19, li20, li21, li22, li23, li24, li25, li26, li27, li28, li29, li30, li31, li32, li37, li40, li41, li42, li43, li45, li47, li48, li57, li59, li60, li61, li63, li64, li75, li97, li98, li99, li100, li120, li122, li126, li200, li240, li255, li305, li306, li375, li400, li427, li428, li1000, li2000, li9999, neg_nI1, ↓reduceIte, nI_leI, nI_ltI, nI_eq, nI_add, nI_1, pk_mul, ix_nI, ib_nI, if_true, if_false, eq_self, true_and, and_true, not_false_eq_true, not_true_eq_false, Nat.reduceEqDiff, Nat.reduceLeDiff, Nat.reduceLT, Nat.reduceAdd, Nat.reduceMul, hd, gs_ne, gs_eq, pk_sub, e4]
    rw [eC, eM]
    have FC : Fr (fun c k => (54 ≤ c ∧ c ≤ 59) ∨ (c = 1 ∧ (k = 12 ∨ k = 13)) ∨ (c = 70 ∧ k = 6)) u (sI u2 70 6 (nI 0)) := (((Fr.sI (by omega)).tr (Fr.sI (by omega))).tr (g2.mono (fun c k h => by omega))).tr (Fr.sI (by omega))
    have FM : Fr (fun c k => c = 40 ∨ (c = 1 ∧ k = 56)) v v2 := (Fr.sI (by omega)).tr (g4.mono (fun c k h => by omega))
    refine ⟨1, _, v2, rfl, rfl, by omega, t, l, N, K, E, P (d - 1), InvR.re h1 (FC.mono (fun c k h => by unfold reC; omega)) (FM.mono (fun c k h => by unfold reM; omega)) p1 (by omega) ?_ ?_ (a6.fr (FC.i (by omega)) (fun j k _ _ _ => FC.i (by omega)) (FM.i (by omega)) (fun c k _ _ _ => FM.i (by omega))) (a7.fr (FC.i (by omega)) (fun j k _ _ _ _ => FC.i (by omega)) (FM.i (by omega)) (fun c k _ _ _ _ => FM.i (by omega))) ?_ (a9.fr (by omega) (fun c k _ => FC.i (by omega)) (fun c k _ => FM.i (by omega))) (OutI.none rfl) (b2.fr (FC.i (by omega)) (fun k => FC.i (by omega)) (FM.i (by omega)) (fun k => FM.i (by omega)))⟩
    · exact p3.fr p1.1 (fun j k hj hk h5 => by rw [gs_ne (by omega), g1 j k hj hk h5, gs_ne (by omega), gs_ne (by omega)])
    · exact p4.fr p1.1 (fun k hk => by rw [g3 k hk, gs_ne (by omega)])
    · refine ⟨d - 1, (x + 15) % 16, P, by omega, hx, ?_, ?_, ?_, fun j hj => ?_⟩
      · rw [gs_ne (by omega), g2.i (by omega), gs_ne (by omega), gs_eq ⟨rfl, rfl⟩]
      · rw [gs_ne (by omega), g2.i (by omega), gs_eq ⟨rfl, rfl⟩]
      · rw [g4.i (by omega), gs_eq ⟨rfl, rfl⟩]
      · obtain ⟨q1, q2, q3, q4⟩ := d6 j (by omega)
        rw [show ((x + 15) % 16 + 16 - (d - 1) + j) % 16 = (x + 16 - d + j) % 16 by omega]
        have hy : (x + 16 - d + j) % 16 < 16 := Nat.mod_lt _ (by omega)
        exact ⟨q1, by omega, q3.fr q1.1 (fun i k hi _ _ => FC.i (by omega)), q4.fr q1.1 (fun k _ => FM.i (by omega))⟩
theorem nar_bI (b : Bool) : vp_nar .boolean (bI b) = bI b := by cases b <;> rfl
theorem c_see {n : Nat} {u v : zM} (h : Inv n u v) (hn : n < 600) (x y : Int32) (b : Bool) : ∃ r u' v', OW_see x y (bI b) u = some (r, u') ∧ Mo_see x y (bI b) v = some (r, v') ∧ Inv (n + 1) u' v' := by
  obtain ⟨h6, t, l, N, K, E, S, h⟩ := h
  have h0 := h
  unfold Mo_see OW_see
  dsimp only [zlet]
  have h := h.th
  generalize sI v 1 0 0 = v at *
  have rt := h.2.2.1.1
  have lt := layT h.2.2.1.2.1
  have n0 : N 0 ≤ 7 := h.1.1.1
  have n3 : N 3 ≤ 3 := h.1.1.2.2.2.1
  have n4 : N 4 ≤ 6 := h.1.1.2.2.2.2.1
  have ht := h.2.2.1.2.1
  have hl := h.2.2.2.2.1.2.2.1
  have h1 := h
  obtain ⟨a1, a2, a3, a4, a5, a6, a7, a8, a9, b1, b2, b3⟩ := h
  rcases arg_ix x (show N 0 < 2 ^ 31 by omega) with ⟨p, hp, rfl⟩ | hx
  · rw [zb_eq (OW_isPlace_ok a1 a3 hp), if_neg one_ne, zb_eq (Mo_isPlace_ok a1 a4 hp), if_neg one_ne]
    rcases arg_ix y (show 10 < 2 ^ 31 by omega) with ⟨m, hm, rfl⟩ | hy
    · have w1 : OW_within (nI m) 0 9 u = some (nI 1, u) := OW_within_ok (n := 0) (m := 9) (Nat.zero_le m) (by omega) (by omega)
      have w2 : Mo_within (nI m) 0 9 v = some (nI 1, v) := Mo_within_ok (n := 0) (m := 9) (Nat.zero_le m) (by omega) (by omega)
      rw [zb_eq w1, if_neg one_ne, zb_eq w2, if_neg one_ne]
      obtain ⟨c, P, M, X, h8, hc, hm', hi⟩ := a7
      by_cases h8' : c = 8
      · subst h8'
        have q1 : Se_put 66 (nI p) (nI m) (bI b) u = some (nI 0, u) := by
          have l1 : layC 66 = (15, 4) := rfl
          simp (disch := omega) only [Se_put, l1, hc, zl_e, zs_e, li0, li1, li2, li3, li4, li5, li6, li7, li8, li9, li10, li11, li12, li13, li14, li15, li16, li17, li18, li19, li20, li21, li22, li23, li24, li25, li26, li27, li28, li29, li30, li31, li32, li37, li40, li41, li42, li43, li45, li47, li48, li57, li59, li60, li61, li63, li64, li75, li97, li98, li99, li100, li120, li122, li126, li200, li240, li255, li305, li306, li375, li400, li427, li428, li1000, li2000, li9999, neg_nI1, ↓reduceIte, nI_leI, nI_ltI, nI_eq, nI_add, nI_1, pk_mul, ix_nI, ib_nI, if_true, if_false, eq_self, true_and, and_true, not_false_eq_true, not_true_eq_false, Nat.reduceEqDiff, Nat.reduceLeDiff, Nat.reduceLT, Nat.reduceAdd, Nat.reduceMul]
        rw [zb_eq q1, hm']
        exact ⟨0, u, v, rfl, rfl, by omega, t, l, N, K, E, S, h1.up⟩
      · have q1 : Se_put 66 (nI p) (nI m) (bI b) u = some (nI 1, sI (sI (sI (sI u 67 c (nI p)) 68 c (nI m)) 69 c (bI b)) 66 3 (nI (c + 1))) := by
          have l1 : layC 66 = (15, 4) := rfl
          simp (disch := omega) only [Se_put, l1, hc, gs_ne, nar_bI, show c < 8 by omega, zl_e, zs_e, li0, li1, li2, li3, li4, li5, li6, li7, li8, li9, li10, li11, li12, li13, li14, li15, li16, li17, li18, li19, li20, li21, li22, li23, li24, li25, li26, li27, li28, li29, li30, li31, li32, li37, li40, li41, li42, li43, li45, li47, li48, li57, li59, li60, li61, li63, li64, li75, li97, li98, li99, li100, li120, li122, li126, li200, li240, li255, li305, li306, li375, li400, li427, li428, li1000, li2000, li9999, neg_nI1, ↓reduceIte, nI_leI, nI_ltI, nI_eq, nI_add, nI_1, pk_mul, ix_nI, ib_nI, if_true, if_false, eq_self, true_and, and_true, not_false_eq_true, not_true_eq_false, Nat.reduceEqDiff, Nat.reduceLeDiff, Nat.reduceLT, Nat.reduceAdd, Nat.reduceMul]
        have q2 : (if gI v 36 0 = 8 then some (0, v) else if ib (gI v 36 0) 40 = true then if ib (gI (sI v 37 (ix (gI v 36 0)) (nI p)) 36 0) 40 = true then if ib (gI (sI (sI v 37 (ix (gI v 36 0)) (nI p)) 38 (ix (gI (sI v 37 (ix (gI v 36 0)) (nI p)) 36 0)) (nI m)) 36 0) 40 = true then some (1, sI (sI (sI (sI v 37 (ix (gI v 36 0)) (nI p)) 38 (ix (gI (sI v 37 (ix (gI v 36 0)) (nI p)) 36 0)) (nI m)) 39 (ix (gI (sI (sI v 37 (ix (gI v 36 0)) (nI p)) 38 (ix (gI (sI v 37 (ix (gI v 36 0)) (nI p)) 36 0)) (nI m)) 36 0)) (vp_nar .boolean (bI b))) 36 0 (gI (sI (sI (sI v 37 (ix (gI v 36 0)) (nI p)) 38 (ix (gI (sI v 37 (ix (gI v 36 0)) (nI p)) 36 0)) (nI m)) 39 (ix (gI (sI (sI v 37 (ix (gI v 36 0)) (nI p)) 38 (ix (gI (sI v 37 (ix (gI v 36 0)) (nI p)) 36 0)) (nI m)) 36 0)) (vp_nar .boolean (bI b))) 36 0 + 1)) else none else none else none) = some ((1 : Int32), sI (sI (sI (sI v 37 c (nI p)) 38 c (nI m)) 39 c (bI b)) 36 0 (nI (c + 1))) := by
          simp (disch := omega) only [hm', gs_ne, nar_bI, h8', zl_e, zs_e, li0, li1, li2, li3, li4, li5, li6, li7, li8, li9, li10, li11, li12, li13, li14, li15, li16, li17, li18, li19, li20, li21, li22, li23, li24, li25, li26, li27, li28, li29, li30, li31, li32, li37, li40, li41, li42, li43, li45, li47, li48, li57, li59, li60, li61, li63, li64, li75, li97, li98, li99, li100, li120, li122, li126, li200, li240, li255, li305, li306, li375, li400, li427, li428, li1000, li2000, li9999, neg_nI1, ↓reduceIte, nI_leI, nI_ltI, nI_eq, nI_add, nI_1, pk_mul, ix_nI, ib_nI, if_true, if_false, eq_self, true_and, and_true, not_false_eq_true, not_true_eq_false, Nat.reduceEqDiff, Nat.reduceLeDiff, Nat.reduceLT, Nat.reduceAdd, Nat.reduceMul]
        rw [zb_eq q1, q2]
        have FC : Fr (fun c k => 66 ≤ c ∧ c ≤ 69) u (sI (sI (sI (sI u 67 c (nI p)) 68 c (nI m)) 69 c (bI b)) 66 3 (nI (c + 1))) := (((Fr.sI (by omega)).tr (Fr.sI (by omega))).tr (Fr.sI (by omega))).tr (Fr.sI (by omega))
        have FM : Fr (fun c' k => (c' = 36 ∧ k = 0) ∨ (37 ≤ c' ∧ c' ≤ 39 ∧ k < 8)) v (sI (sI (sI (sI v 37 c (nI p)) 38 c (nI m)) 39 c (bI b)) 36 0 (nI (c + 1))) := (((Fr.sI (by omega)).tr (Fr.sI (by omega))).tr (Fr.sI (by omega))).tr (Fr.sI (by omega))
        refine ⟨1, _, _, rfl, rfl, by omega, t, l, N, K, E, S, InvR.re h1 (FC.mono (fun c k h => by unfold reC; omega)) (FM.mono (fun c k h => by unfold reM; omega)) a1 (by omega) (a3.2.2.2.2.fr a1.1 (fun j k _ _ _ => FC.i (by omega))) (a4.2.2.fr a1.1 (fun k _ => FM.i (by omega))) (a6.fr (FC.i (by omega)) (fun j k _ _ _ => FC.i (by omega)) (FM.i (by omega)) (fun c k _ _ _ => FM.i (by omega))) ?_ (a8.fr (by omega) (fun k _ _ => FC.i (by omega)) (fun c k _ _ => FC.i (by omega)) (FM.i (by omega)) (fun k => FM.i (by omega))) ?_ (b1.fr (fun _ _ => rfl) (FC.i (by omega)) (fun c k _ _ => FC.i (by omega))) (b2.fr (FC.i (by omega)) (fun k => FC.i (by omega)) (FM.i (by omega)) (fun k => FM.i (by omega)))⟩
        · refine ⟨c + 1, fun i => if i = c then p else P i, fun i => if i = c then m else M i, fun i => if i = c then b else X i, by omega, rfl, rfl, fun i hl => ?_⟩
          dsimp only
          by_cases e : i = c
          · subst e
            rw [if_pos rfl, if_pos rfl, if_pos rfl]
            refine ⟨hp, by omega, ?_, ?_, ?_, ?_, ?_, ?_⟩ <;> simp (disch := omega) only [gs_ne, gs_eq]
          · rw [if_neg e, if_neg e, if_neg e]
            obtain ⟨r1, r2, r3, r4, r5, r6, r7, r8⟩ := hi i (by omega)
            refine ⟨r1, r2, ?_, ?_, ?_, ?_, ?_, ?_⟩ <;> simp (disch := omega) only [gs_ne] <;> assumption
        · intro k hk
          obtain ⟨b', s1, s2, s3⟩ := a9 k hk
          refine ⟨b', (FC.i (by omega)).trans s1, (FM.i (by omega)).trans s2, fun hb => ?_⟩
          obtain ⟨S', t1, t2, t3, t4, t5, t6⟩ := s3 hb
          exact ⟨S', t1, by omega, t3.fr t1.1 (fun i k hi _ _ => FC.i (by omega)), t4.fr t1.1 (fun k _ => FM.i (by omega)), t5.fr (FC.i (by omega)) (fun j k _ _ _ => FC.i (by omega)) (FM.i (by omega)) (fun c k _ _ _ => FM.i (by omega)), t6.fr (FC.i (by omega)) (fun j k _ _ _ _ => FC.i (by omega)) (FM.i (by omega)) (fun c k _ _ _ _ => FM.i (by omega))⟩
    · have w1 : OW_within y 0 9 u = some (nI 0, u) := OW_within_no (m := 9) hy (by omega)
      have w2 : Mo_within y 0 9 v = some (nI 0, v) := Mo_within_no (m := 9) hy (by omega)
      rw [zb_eq w1, zb_eq w2]
      exact ⟨0, u, v, rfl, rfl, by omega, t, l, N, K, E, S, h1.up⟩
  · rw [zb_eq (OW_isPlace_no a1 a3 hx), zb_eq (Mo_isPlace_no a1 a4 hx)]
    exact ⟨0, u, v, rfl, rfl, by omega, t, l, N, K, E, S, h1.up⟩
