/-! ===== the law read: all; its value ===== -/
theorem pqM_dn {X d c k : Nat} (h : pqM (X + 1) d c k) : pqM X d c k := by unfold pqM rdM puM at h ⊢; omega
theorem lp_S {r n X : Nat} (hr : layC r = (11, 3)) (h4 : 4 ≤ r) (hX : X = 0 ∨ X = 2 ∨ X = 3) (hS : RdS r n (X + 1)) (Lp : Int32 → Nat → Int32 → zM → Option (Unit × zM))
    (HL : ∀ d u, La_rd (n + 1) X r d u = zb (La_rd n (X + 1) r d u) (fun _ u1 => Lp d zF 0 u1))
    (H0 : ∀ d f i u v c T b e k w m, Fin u v c T b e k w m → i < 1000 → noO X k w (T b) → Lp d (f + 1) (nI i) u = some ((), u))
    (H1 : ∀ d f i u v c T b e k w m o x, Fin u v c T b e k w m → i < 1000 → opT X k w (T b) o x → Lp d (f + 1) (nI i) u = zb (Ta_step u) (fun _ u1 => zb (La_rd n (X + 1) r d u1) (fun _ u2 => zb (La_put r o u2) (fun _ u3 => Lp d f (nI (i + 1)) u3))))
    (H2 : ∀ d f i u x, Bad u x → Lp d (f + 1) i u = some ((), u))
    (H3 : ∀ d f i u, 1000 ≤ i → i < 2 ^ 20 → Lp d (f + 1) (nI i) u = some ((), u)) : RdS r (n + 1) X := by
  intro d q u v c T b e k w m P0 Q0 nf hd hn h lc lm p0 q0 hf hp hq h21
  have hqd : q = d := hq (by omega)
  subst hqd
  rw [HL]
  obtain ⟨u1, t1, t2, t3⟩ := hS q q u v c T b e k w m P0 Q0 nf hd (by omega) h lc lm p0 q0 hf hp (fun _ => rfl) (fun z => h21 (by omega))
  rw [zb_eq t1]
  rcases t3 with ⟨v', y, y1, y2, y3, y4, L, y5, y6⟩ | ⟨v', nr, P, Q, b', e', k', w', m', ρ, y1, y2, y3, y4, y5, y6, y7, y8, y9, ya, yb⟩
  · rw [show Lp (nI q) zF 0 u1 = some ((), u1) from H2 _ 4095 0 u1 y y2]
    exact ⟨u1, rfl, t2, Or.inl ⟨v', y, y1, y2, y3, y4.mono (fun _ _ => pqM_dn), L, y5, y6⟩⟩
  · rw [y1]
    exact op_loop hr h4 hX hS hd (by omega) (Lp (nI q)) (fun f i u v b e k w m => H0 _ f i u v c T b e k w m) (fun f i u v b e k w m o x => H1 _ f i u v c T b e k w m o x) (fun f i u x => H2 _ f i u x) (fun f i u v b e k w m _ => H3 _ f i u) p0 q0 hf hp c u1 v' b' e' k' w' m' P Q nr 0 zF (ρ + 1) (by omega) y2 y5 y6 y7 y8 y3 y4 (Or.inr ⟨by omega, Or.inl y9⟩) ya (by omega) (by have := y2.k6; unfold zF; omega) t2 (yb.mono (fun _ _ => pqM_dn))
theorem i1000 {i : Nat} (h : i < 1000) : ¬ (1000 : Int32) ≤ nI i := @nI_ge i 1000 h (by decide)
theorem j1000 {i : Nat} (h : 1000 ≤ i) (h2 : i < 2 ^ 20) : (1000 : Int32) ≤ nI i := nI_le (a := 1000) h (by omega)
theorem prod_S {r n : Nat} (hr : layC r = (11, 3)) (h4 : 4 ≤ r) (hS : RdS r n 4) : RdS r (n + 1) 3 := by
  refine lp_S hr h4 (by omega) hS (fun d f i u => La_readProduct_8 f (La_rd n) r d i u) ?_ ?_ ?_ ?_ ?_
  · intro d u
    show La_readProduct (La_rd n) r d u = _
    unfold La_readProduct
    rw [if_pos hr]
  · intro d f i u v c T b e k w m h hi hO
    show La_readProduct_8b (La_rd n) (La_readProduct_8 f (La_rd n)) r d (nI i) u = _
    unfold La_readProduct_8b
    rw [if_pos hr, if_neg (i1000 hi), zb_eq (show Ta_atSign 42 u = _ from (h.sgF (s := 42) (by decide) (hO.1 rfl)).1), if_pos rfl]
  · intro d f i u v c T b e k w m o x h hi hO
    show La_readProduct_8b (La_rd n) (La_readProduct_8 f (La_rd n)) r d (nI i) u = _
    obtain ⟨hk, ht, rfl, rfl⟩ : k = 3 ∧ T b = 42 ∧ o = -12 ∧ x = nI 22 := by
      rcases hO with q | q | q | q
      · exact absurd q.1 (by omega)
      · exact absurd q.1 (by omega)
      · exact absurd q.1 (by omega)
      · exact q.2
    unfold La_readProduct_8b
    rw [if_pos hr, if_neg (i1000 hi), zb_eq (show Ta_atSign 42 u = _ from (h.sgT (s := 42) (by decide) ⟨hk, ht⟩).1), if_neg ne10, show nI i + 1 = nI (i + 1) from nI_1 i]
  · intro d f i u x h
    show La_readProduct_8b (La_rd n) (La_readProduct_8 f (La_rd n)) r d i u = _
    unfold La_readProduct_8b
    rw [if_pos hr, zb_eq (h.atS _), if_pos (show nI 0 = (0 : Int32) from rfl), ite_self]
  · intro d f i u hi h2
    show La_readProduct_8b (La_rd n) (La_readProduct_8 f (La_rd n)) r d (nI i) u = _
    unfold La_readProduct_8b
    rw [if_pos hr, if_pos (j1000 hi h2)]
theorem sum_S {r n : Nat} (hr : layC r = (11, 3)) (h4 : 4 ≤ r) (hS : RdS r n 3) : RdS r (n + 1) 2 := by
  refine lp_S hr h4 (by omega) hS (fun d f i u => La_readSum_8 f (La_rd n) r d i u) ?_ ?_ ?_ ?_ ?_
  · intro d u
    show La_readSum (La_rd n) r d u = _
    unfold La_readSum
    rw [if_pos hr]
  · intro d f i u v c T b e k w m h hi hO
    show La_readSum_8b (La_rd n) (La_readSum_8 f (La_rd n)) r d (nI i) u = _
    unfold La_readSum_8b
    rw [if_pos hr, if_neg (i1000 hi), zb_eq (show Ta_atSign 43 u = _ from (h.sgF (s := 43) (by decide) (hO.2.1 rfl).1).1), if_pos rfl, zb_eq (show Ta_atSign 45 u = _ from (h.sgF (s := 45) (by decide) (hO.2.1 rfl).2).1), if_pos rfl]
  · intro d f i u v c T b e k w m o x h hi hO
    show La_readSum_8b (La_rd n) (La_readSum_8 f (La_rd n)) r d (nI i) u = _
    obtain ⟨hk, hO⟩ : k = 3 ∧ ((T b = 43 ∧ o = -10 ∧ x = nI 20) ∨ (T b = 45 ∧ o = -11 ∧ x = nI 21)) := by
      rcases hO with q | q | q | q
      · exact absurd q.1 (by omega)
      · exact absurd q.1 (by omega)
      · exact q.2
      · exact absurd q.1 (by omega)
    unfold La_readSum_8b La_readSum_33 La_readSum_49
    rw [if_pos hr, if_neg (i1000 hi), show nI i + 1 = nI (i + 1) from nI_1 i]
    simp only [if_pos hr]
    rcases hO with ⟨ht, rfl, rfl⟩ | ⟨ht, rfl, rfl⟩
    · have e1 : Ta_atSign 43 u = _ := (h.sgT (s := 43) (by decide) ⟨hk, ht⟩).1
      rw [zb_eq e1, if_neg ne10, zb_eq e1, if_neg ne10]
    · have e1 : Ta_atSign 43 u = _ := (h.sgF (s := 43) (by decide) (by omega)).1
      have e2 : Ta_atSign 45 u = _ := (h.sgT (s := 45) (by decide) ⟨hk, ht⟩).1
      rw [zb_eq e1, if_pos rfl, zb_eq e2, if_neg ne10, zb_eq e1, if_pos rfl]
  · intro d f i u x h
    show La_readSum_8b (La_rd n) (La_readSum_8 f (La_rd n)) r d i u = _
    unfold La_readSum_8b
    rw [if_pos hr, zb_eq (h.atS _), if_pos (show nI 0 = (0 : Int32) from rfl), zb_eq (h.atS _), if_pos (show nI 0 = (0 : Int32) from rfl), ite_self]
  · intro d f i u hi h2
    show La_readSum_8b (La_rd n) (La_readSum_8 f (La_rd n)) r d (nI i) u = _
    unfold La_readSum_8b
    rw [if_pos hr, if_pos (j1000 hi h2)]
theorem expr_S {r n : Nat} (hr : layC r = (11, 3)) (h4 : 4 ≤ r) (hS : RdS r n 1) : RdS r (n + 1) 0 := by
  refine lp_S hr h4 (by omega) hS (fun d f i u => La_readExpression_8 f (La_rd n) r d i u) ?_ ?_ ?_ ?_ ?_
  · intro d u
    show La_readExpression (La_rd n) r d u = _
    unfold La_readExpression
    rw [if_pos hr]
  · intro d f i u v c T b e k w m h hi hO
    show La_readExpression_8b (La_rd n) (La_readExpression_8 f (La_rd n)) r d (nI i) u = _
    unfold La_readExpression_8b
    rw [if_pos hr, if_neg (i1000 hi), zb_eq (h.wdF (kw := kw_and) rfl k256_and k27_and (hO.2.2.2 rfl).1).1, if_pos rfl, zb_eq (h.wdF (kw := kw_or) rfl k256_or k27_or (hO.2.2.2 rfl).2).1, if_pos rfl]
  · intro d f i u v c T b e k w m o x h hi hO
    show La_readExpression_8b (La_rd n) (La_readExpression_8 f (La_rd n)) r d (nI i) u = _
    obtain ⟨hk, hO⟩ : k = 1 ∧ ((w = kw_and ∧ o = -6 ∧ x = nI 26) ∨ (w = kw_or ∧ o = -7 ∧ x = nI 27)) := by
      rcases hO with q | q | q | q
      · exact q.2
      · exact absurd q.1 (by omega)
      · exact absurd q.1 (by omega)
      · exact absurd q.1 (by omega)
    unfold La_readExpression_8b La_readExpression_35 La_readExpression_52
    rw [if_pos hr, if_neg (i1000 hi), show nI i + 1 = nI (i + 1) from nI_1 i]
    simp only [if_pos hr]
    rcases hO with ⟨hw, rfl, rfl⟩ | ⟨hw, rfl, rfl⟩
    · have e1 := (h.wdT (kw := kw_and) rfl k256_and k27_and ⟨hk, hw⟩).1
      rw [zb_eq e1, if_neg ne10, zb_eq e1, if_neg ne10]
    · have e1 := (h.wdF (kw := kw_and) rfl k256_and k27_and (by rw [hw]; exact fun z => absurd z.2 (by decide))).1
      have e2 := (h.wdT (kw := kw_or) rfl k256_or k27_or ⟨hk, hw⟩).1
      rw [zb_eq e1, if_pos rfl, zb_eq e2, if_neg ne10, zb_eq e1, if_pos rfl]
  · intro d f i u x h
    show La_readExpression_8b (La_rd n) (La_readExpression_8 f (La_rd n)) r d i u = _
    unfold La_readExpression_8b
    rw [if_pos hr, zb_eq (h.atW _), if_pos (show nI 0 = (0 : Int32) from rfl), zb_eq (h.atW _), if_pos (show nI 0 = (0 : Int32) from rfl), ite_self]
  · intro d f i u hi h2
    show La_readExpression_8b (La_rd n) (La_readExpression_8 f (La_rd n)) r d (nI i) u = _
    unfold La_readExpression_8b
    rw [if_pos hr, if_pos (j1000 hi h2)]
theorem test_S {r n : Nat} (hr : layC r = (11, 3)) (h4 : 4 ≤ r) (hS : RdS r n 2) : RdS r (n + 1) 1 := by
  intro d q u v c T b e k w m P0 Q0 nf hd hn h lc lm p0 q0 hf hp hq h21
  have hqd : q = d := hq (by omega)
  subst hqd
  show RdQ r 1 q q c T b nf P0 Q0 u v (La_readTest (La_rd n) r (nI q) u) _
  obtain ⟨u1, t1, t2, t3⟩ := hS q q u v c T b e k w m P0 Q0 nf hd (by omega) h lc lm p0 q0 hf hp (fun _ => rfl) (fun z => absurd z (by omega))
  unfold La_readTest
  rw [if_pos hr, zb_eq t1]
  rcases t3 with ⟨v', y, y1, y2, y3, y4, L, y5, y6⟩ | ⟨v', nr, P, Q, b', e', k', w', m', ρ, y1, y2, y3, y4, y5, y6, y7, y8, y9, ya, yb⟩
  · rw [zb_eq (y2.atS _), if_pos (show nI 0 = (0 : Int32) from rfl), zb_eq (y2.atS _), if_pos (show nI 0 = (0 : Int32) from rfl)]
    exact ⟨u1, rfl, t2, Or.inl ⟨v', y, y1, y2, y3, y4.mono (fun _ _ => pqM_dn), L, y5, y6⟩⟩
  · rw [y1]
    have h6 := y2.k6
    have c0 : gI v' 21 q = nI 0 := (yb.i (by unfold pqM rdM puM; omega)).trans (h21 (by omega))
    have fin : ∀ o x, opT 1 k' w' (T b') o x → RdQ r 1 q q c T b nf P0 Q0 u v (La_readTest_40 (La_rd n) r (nI q) o u1) (Mo_reads_11 nr (nI q) 0 v') := by
      intro o x ho
      unfold La_readTest_40
      rw [if_pos hr]
      obtain ⟨u3, s1, s2, s3⟩ := op_step (nf := nr) hr h4 (by omega) hS y2 ho hd (by omega) y5 y6 (by rw [List.length_append]; omega) (by rw [List.length_append]; omega) (hp.fr (fun j hj => yb.i (by unfold pqM rdM puM; omega))) (fun _ => c0) (by omega)
      rw [s1 (fun u3 => some ((), u3))]
      rcases s3 with ⟨v2, y, z1, z2, z3, z4, L, z5, z6⟩ | ⟨v2, nr2, P2, Q2, b2, e2, k2, w2, m2, ρ2, z1, z2, z3, z4, z5, z6, z7, z8, z9, za, zx, zy⟩
      · exact ⟨u3, rfl, t2.tr s2, Or.inl ⟨v2, y, z1, z2, z3, (yb.mono (fun _ _ => pqM_dn)).tr z4, L, z5, z6⟩⟩
      · rw [z1]
        rw [List.append_assoc] at z5 z6
        have hR' : Rl (ρ + ρ2 + 1) 1 q (P ++ (P2 ++ [o])) (Q ++ (x :: Q2)) := Or.inr ⟨by omega, Or.inr ⟨P, P2, Q, Q2, o, x, rfl, rfl, ho.op, Rl_le y9 ρ2, by rw [Nat.add_comm]; exact Rl_le z9 ρ⟩⟩
        exact ⟨u3, rfl, t2.tr s2, Or.inr ⟨v2, nr2, _, _, b2, e2, k2, w2, m2, _, rfl, z2, by omega, by omega, z5, z6, by rw [List.length_append, List.length_append, List.length_singleton]; omega, by rw [List.length_append, List.length_cons]; omega, hR', ⟨fun _ => za.1 (by omega), fun _ => za.2.1 (by omega), fun _ => Or.inl (zx rfl), fun z => absurd z (by omega)⟩, (yb.mono (fun _ _ => pqM_dn)).tr zy⟩⟩
    unfold La_readTest_24
    by_cases q1 : k' = 3 ∧ T b' = 60
    · have e1 : Ta_atSign 60 u1 = _ := (y2.sgT (s := 60) (by decide) q1).1
      rw [zb_eq e1, if_neg ne10, if_pos hr, zb_eq e1, if_neg ne10]
      exact fin _ _ (Or.inr (Or.inl ⟨rfl, q1.1, Or.inl ⟨q1.2, rfl, rfl⟩⟩))
    · have e1 : Ta_atSign 60 u1 = _ := (y2.sgF (s := 60) (by decide) q1).1
      rw [zb_eq e1, if_pos rfl]
      by_cases q2 : k' = 3 ∧ T b' = 61
      · have e2 : Ta_atSign 61 u1 = _ := (y2.sgT (s := 61) (by decide) q2).1
        rw [zb_eq e2, if_neg ne10, if_pos hr, zb_eq e1, if_pos rfl]
        exact fin _ _ (Or.inr (Or.inl ⟨rfl, q2.1, Or.inr ⟨q2.2, rfl, rfl⟩⟩))
      · have e2 : Ta_atSign 61 u1 = _ := (y2.sgF (s := 61) (by decide) q2).1
        rw [zb_eq e2, if_pos rfl]
        exact ⟨u1, rfl, t2, Or.inr ⟨v', nr, P, Q, b', e', k', w', m', ρ + 1, rfl, y2, y3, y4, y5, y6, y7, y8, Or.inr ⟨by omega, Or.inl y9⟩, ⟨fun _ => ya.1 (by omega), fun _ => ya.2.1 (by omega), fun _ => Or.inr ⟨q1, q2⟩, fun z => absurd z (by omega)⟩, yb.mono (fun _ _ => pqM_dn)⟩⟩
theorem RdS_all {r : Nat} (hr : layC r = (11, 3)) (h4 : 4 ≤ r) : ∀ n X, X ≤ 4 → RdS r n X := by
  intro n
  induction n with
  | zero =>
    intro X _ d q u v c T b e k w m P0 Q0 nf _ hn
    exact absurd hn (by omega)
  | succ n ih =>
    intro X hX
    rcases (show X = 0 ∨ X = 1 ∨ X = 2 ∨ X = 3 ∨ X = 4 by omega) with rfl | rfl | rfl | rfl | rfl
    · exact expr_S hr h4 (ih 1 (by omega))
    · exact test_S hr h4 (ih 2 (by omega))
    · exact sum_S hr h4 (ih 3 (by omega))
    · exact prod_S hr h4 (ih 4 (by omega))
    · exact part_S hr h4 (ih 0 (by omega)) (ih 4 (by omega))
