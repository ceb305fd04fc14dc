/-! ===== the law read: products, sums, tests, expressions ===== -/
theorem part_S {r n : Nat} (hr : layC r = (11, 3)) (h4 : 4 ≤ r) (hE : RdS r n 0) (hP : RdS r n 4) : RdS r (n + 1) 4 := by
  intro d q u v c T b e k w m P0 Q0 nf hd hn h lc lm p0 q0 hf hp _ _
  have h6 := h.k6
  obtain ⟨f, rfl⟩ : ∃ z, nf = z + 1 := ⟨nf - 1, by omega⟩
  show RdQ r 4 d q c T b (f + 1) P0 Q0 u v (La_readPart (La_rd n) r (nI d) u) (Mo_reads_11b (Mo_reads_11 f) (nI d) 1 v)
  have n5 : ¬ d = 5 → d < 5 := by omega
  have C5 : d = 5 → ∀ c1 c2 c3 : Int32, La_readPart_44 (La_rd n) r (nI d) c1 c2 c3 u = zb (Ta_fail (nI 5) u) (fun _ u4 => some ((), u4)) := by
    intro z c1 c2 c3
    unfold La_readPart_44
    rw [if_pos hr, if_neg (show ¬ nI d < (5 : Int32) by rw [z]; decide)]
    rfl
  have M5 : d = 5 → ∀ c1 c2 c3 : Int32, Mo_reads_65 (Mo_reads_11 f) (nI d) 1 c1 c2 c3 v = zb (Mo_fails (nI 5) v) (fun c3 u3 => zbo c3 u3) := by
    intro z c1 c2 c3
    unfold Mo_reads_65
    rw [if_pos (show nI d = (5 : Int32) by rw [z]; rfl)]
    rfl
  obtain ⟨sx, fx, s1, s2, s3⟩ := h.sim
  unfold La_readPart Mo_reads_11b
  rw [if_pos hr, if_neg ne10]
  by_cases qN : k = 1 ∧ w = kw_not
  · obtain ⟨a1, a2⟩ := h.wdT (kw := kw_not) rfl k256_not k27_not qN
    obtain ⟨b1, b2⟩ := h.sgF (s := 40) (by decide) (by omega)
    have f0 : fx = 0 := by
      rcases s3 with z | z | z
      · exact z.2.1
      · exact absurd qN.2 z.2.2.2.2
      · exact z.2.1
    rw [zb_eq a1, zb_eq (show Ta_atSign 40 u = _ from b1), zb_eq s1, if_neg ne10, zb_eq s2, zb_eq a2, zb_eq (show Mo_isSign 40 v = _ from b2), if_pos f0, if_neg ne10, f0]
    by_cases z5 : d = 5
    · rw [C5 z5, M5 z5]
      exact rd_fail h h4 (by decide) (by decide) lc p0
    · exact part_not hr h4 hP h (by omega) (n5 z5) (by omega) lc lm p0 q0 hp (by omega) _ _
  · obtain ⟨a1, a2⟩ := h.wdF (kw := kw_not) rfl k256_not k27_not qN
    by_cases qO : k = 3 ∧ T b = 40
    · obtain ⟨b1, b2⟩ := h.sgT (s := 40) (by decide) qO
      have f0 : fx = 0 := by
        rcases s3 with z | z | z
        · exact z.2.1
        · exact absurd z.1 (by omega)
        · exact z.2.1
      rw [zb_eq a1, zb_eq (show Ta_atSign 40 u = _ from b1), zb_eq s1, if_pos rfl, if_neg ne10, zb_eq s2, zb_eq a2, zb_eq (show Mo_isSign 40 v = _ from b2), if_pos f0, if_pos rfl, if_neg ne10, f0]
      by_cases z5 : d = 5
      · rw [C5 z5, M5 z5]
        exact rd_fail h h4 (by decide) (by decide) lc p0
      · exact part_par hr h4 hE h (by omega) (n5 z5) (by omega) lc lm p0 q0 hp (by omega) _
    · obtain ⟨b1, b2⟩ := h.sgF (s := 40) (by decide) qO
      rw [zb_eq a1, zb_eq (show Ta_atSign 40 u = _ from b1), zb_eq s1, if_pos rfl, if_pos rfl, zb_eq s2, zb_eq a2, zb_eq (show Mo_isSign 40 v = _ from b2), h6.1]
      rcases s3 with ⟨y1, y2, y3, y4, y5, y6⟩ | ⟨y1, y2, y3, y4, y5⟩ | ⟨y1, y2, y3⟩
      · rw [if_neg y6, if_pos y2, if_pos rfl, if_pos rfl, if_pos (show nI k = (2 : Int32) by rw [y1]; rfl), y2]
        by_cases z5 : d = 5
        · rw [C5 z5, M5 z5]
          exact rd_fail h h4 (by decide) (by decide) lc p0
        · have K := part_sim (n := n) hr h4 h (by omega) (n5 z5) lc lm p0 q0 hp (f := f) (sx := sx) (cx := nI (100 + m)) (Or.inl ⟨m, y4, y3, rfl⟩)
          unfold Mo_reads_65
          rw [if_neg (show ¬ nI d = (5 : Int32) from fun z => z5 ((nI_eq (b := 5) (by omega) (by decide)).mp z)), if_pos rfl, if_pos rfl, if_pos (show (0 : Int32) ≤ 0 by decide), y5, show (100 : Int32) + nI m = nI (100 + m) from nI_add 100 m]
          exact K
      · rw [if_neg y4, if_neg (fun z : fx = 0 => y3 (by rw [z]; decide))]
        by_cases z5 : d = 5
        · rw [C5 z5, M5 z5]
          exact rd_fail h h4 (by decide) (by decide) lc p0
        · have K := part_sim (n := n) hr h4 h (by omega) (n5 z5) lc lm p0 q0 hp (f := f) y2
          unfold Mo_reads_65
          rw [if_neg (show ¬ nI d = (5 : Int32) from fun z => z5 ((nI_eq (b := 5) (by omega) (by decide)).mp z)), if_pos rfl, if_pos rfl, if_neg y3]
          exact K
      · rw [if_pos y3, if_pos y2, if_pos rfl, if_pos rfl, if_neg (show ¬ nI k = (2 : Int32) from fun z => y1 ((nI_eq (b := 2) (by omega) (by decide)).mp z))]
        exact rd_fail (j := 1) h h4 (by decide) (by decide) lc p0
theorem La_rd_bd {r n X : Nat} (hr : layC r = (11, 3)) {u : zM} {x : Nat} (h : Bad u x) (d : Int32) (hX : X ≤ 4) (hn : 4 - X < n) : La_rd n X r d u = some ((), u) := by
  obtain ⟨p4, p3, p2, p1, p0⟩ := La_rd_bad hr h d n
  rcases (show X = 0 ∨ X = 1 ∨ X = 2 ∨ X = 3 ∨ X = 4 by omega) with rfl | rfl | rfl | rfl | rfl
  · exact p0 (by omega)
  · exact p1 (by omega)
  · exact p2 (by omega)
  · exact p3 (by omega)
  · exact p4 (by omega)
theorem cmpS_fr {v : zM} {X d : Nat} : Fr (fun c k => c = 21 ∧ k = d ∧ X ≤ 1) v (cmpS v X d) := by
  unfold cmpS
  by_cases h0 : X = 0
  · rw [if_pos h0]
    exact Fr.sI ⟨rfl, rfl, by omega⟩
  · rw [if_neg h0]
    by_cases h1 : X = 1
    · rw [if_pos h1]
      exact Fr.sI ⟨rfl, rfl, by omega⟩
    · rw [if_neg h1]
      exact Fr.rf
/-- an operator and what stands behind it -/
theorem op_step {r n X : Nat} (hr : layC r = (11, 3)) (h4 : 4 ≤ r) (hX : X ≤ 3) (hS : RdS r n (X + 1)) {d : Nat} {u v : zM} {c b e k m : Nat} {T : Nat → Nat} {w : List Nat} (h : Fin u v c T b e k w m) {o x : Int32} (ho : opT X k w (T b) o x) (hd : d ≤ 5) (hn : (3 - X) + 5 * (5 - d) < n) {P Q : List Int32} (lc : LSc u r P) (lm : LSm v Q) (p0 : P.length ≤ b) (q0 : Q.length ≤ b) (hp : popR v d d) (h1 : X = 1 → gI v 21 d = nI 0) {nf : Nat} (hf : c < nf + b) : ∃ u3, (∀ K : zM → Option (Unit × zM), zb (Ta_step u) (fun _ u1 => zb (La_rd n (X + 1) r (nI d) u1) (fun _ u2 => zb (La_put r o u2) (fun _ u3 => K u3))) = K u3) ∧ Fr (pqC r) u u3 ∧
    ((∃ v' x, Mo_reads_11 nf (nI d) 0 v = some (0, v') ∧ Bad u3 x ∧ gI v' 1 9 = nI x ∧ Fr (pqM X d) v v' ∧ ∃ L, L ≤ 1000 ∧ gI u3 r 2 = nI L)
    ∨ (∃ v' nr P2 Q2 b' e' k' w' m' ρ, Mo_reads_11 nf (nI d) 0 v = Mo_reads_11 nr (nI d) 0 v' ∧ Fin u3 v' c T b' e' k' w' m' ∧ b < b' ∧ nf + b ≤ nr + b' ∧ LSc u3 r (P ++ (P2 ++ [o])) ∧ LSm v' (Q ++ (x :: Q2)) ∧ P2.length + 1 + b ≤ b' ∧ Q2.length + 1 + b ≤ b' ∧ Rl ρ (X + 1) d P2 Q2 ∧ noOp (X + 1) k' w' (T b') (gI v' 21 d) ∧ (X = 1 → gI v' 21 d = nI 1) ∧ Fr (pqM X d) v v')) := by
  have h6 := h.k6
  have hbe := h6.2.2.2.1 ho.k0
  obtain ⟨f, rfl⟩ : ∃ z, nf = z + 1 := ⟨nf - 1, by omega⟩
  rw [rf_op h ho (by omega) h1]
  obtain ⟨v1, a1, a2, a3⟩ := Mo_puts_eq lm (by omega) x
  have fc := @cmpS_fr v1 X d
  have F1 : Fin u (cmpS v1 X d) c T b e k w m := (h.mv (a3.mono (fun _ _ z => Or.inl z))).mv (fc.mono (fun _ _ z => Or.inr (Or.inr z.1)))
  obtain ⟨u1, v2, b1, e1, k1, w1, m1, s1, s2, s3, s4, s5, s6⟩ := F1.step
  rw [zb_eq a1, zb_eq s2]
  have f2 : Fr (pqM X d) v v2 := ((a3.mono (B := pqM X d) (fun _ _ z => Or.inr (Or.inl z))).tr (fc.mono (B := pqM X d) (fun _ _ z => Or.inr (Or.inr (Or.inr ⟨z.1, Or.inr z.2⟩))))).tr (s6.mono (fun _ _ z => Or.inl (stM_rd z)))
  have hp2 : popR v2 d d := hp.fr (fun j hj => f2.i (by unfold pqM rdM puM; omega))
  have c21 : X ≤ 1 → gI v2 21 d = nI X := by
    intro z
    rw [s6.i (by unfold stM; omega)]
    rcases (show X = 0 ∨ X = 1 by omega) with rfl | rfl
    · exact gs_eq ⟨rfl, rfl⟩
    · exact gs_eq ⟨rfl, rfl⟩
  have K := hS d d u1 v2 c T b1 e1 k1 w1 m1 P (Q ++ [x]) f hd (by omega) s3 (lc.fr (fun a k z => s5.i (by unfold stC; omega))) (a2.fr (fun a k z => (s6.i (by unfold stM; omega)).trans (fc.i (by omega)))) (by omega) (by rw [List.length_append, List.length_singleton]; omega) (by omega) hp2 (fun _ => rfl) (fun z => (c21 (by omega)).trans (congrArg nI (show X = 0 by omega)))
  obtain ⟨u2, t1, t2, t3⟩ := K
  have mo : ∀ c k, pqM (X + 1) d c k → pqM X d c k := fun c k z => by unfold pqM rdM puM at z ⊢; omega
  rcases t3 with ⟨v', y, y1, y2, y3, y4, L, y5, y6⟩ | ⟨v', nr, P2, Q2, b', e', k', w', m', ρ, y1, y2, y3, y4, y5, y6, y7, y8, y9, ya, yb⟩
  · obtain ⟨u3, L', z1, z2, z3, z4⟩ := La_put_any hr y6 y5 o
    exact ⟨u3, fun K => by rw [zb_eq s1, zb_eq t1, zb_eq z1], ((s5.mono (fun _ _ z => Or.inl (stC_rd z))).tr t2).tr (z4.mono (fun _ _ z => Or.inr z)), Or.inl ⟨v', y, y1, y2.fr (z4.i (by unfold puC; omega)), y3, f2.tr (y4.mono mo), L', z2, z3⟩⟩
  · have h6' := y2.k6
    obtain ⟨u3, z1, z2, z3⟩ := La_put_eq hr y5 (by rw [List.length_append]; omega) o
    rw [ap_c] at y6
    rw [List.append_assoc] at z2
    refine ⟨u3, fun K => by rw [zb_eq s1, zb_eq t1, zb_eq z1], ((s5.mono (fun _ _ z => Or.inl (stC_rd z))).tr t2).tr (z3.mono (fun _ _ z => Or.inr z)), Or.inr ⟨v', nr, P2, Q2, b', e', k', w', m', ρ, y1, y2.cu h4 z3, by omega, by omega, z2, y6, by omega, by omega, y9, ya, fun z => ?_, f2.tr (yb.mono mo)⟩⟩
    rw [yb.i (by unfold pqM rdM puM; omega), c21 (by omega), z]
theorem Rl_mono : ∀ n X d P Q, Rl n X d P Q → Rl (n + 1) X d P Q := by
  intro n
  induction n with
  | zero => intro X d P Q h; exact h.elim
  | succ n ih =>
    intro X d P Q h
    rcases h with ⟨h1, h2, h | ⟨P1, Q1, e1, e2, h⟩ | ⟨Q1, e2, h⟩⟩ | ⟨h4, h | ⟨P1, P2, Q1, Q2, o, x, e1, e2, ho, r1, r2⟩⟩
    · exact Or.inl ⟨h1, h2, Or.inl h⟩
    · exact Or.inl ⟨h1, h2, Or.inr (Or.inl ⟨P1, Q1, e1, e2, ih _ _ _ _ h⟩)⟩
    · exact Or.inl ⟨h1, h2, Or.inr (Or.inr ⟨Q1, e2, ih _ _ _ _ h⟩)⟩
    · exact Or.inr ⟨h4, Or.inl (ih _ _ _ _ h)⟩
    · exact Or.inr ⟨h4, Or.inr ⟨P1, P2, Q1, Q2, o, x, e1, e2, ho, ih _ _ _ _ r1, ih _ _ _ _ r2⟩⟩
theorem Rl_le {n X d : Nat} {P Q : List Int32} (h : Rl n X d P Q) : ∀ z, Rl (n + z) X d P Q := by
  intro z
  induction z with
  | zero => exact h
  | succ z ih => exact Rl_mono _ _ _ _ _ ih
/-- operators of one kind, one behind the other -/
theorem op_loop {r n X : Nat} (hr : layC r = (11, 3)) (h4 : 4 ≤ r) (hX : X = 0 ∨ X = 2 ∨ X = 3) (hS : RdS r n (X + 1)) {d c : Nat} {T : Nat → Nat} (hd : d ≤ 5) (hn : (3 - X) + 5 * (5 - d) < n) (Lp : Nat → Int32 → zM → Option (Unit × zM))
    (H0 : ∀ f i u v b e k w m, Fin u v c T b e k w m → i < 1000 → noO X k w (T b) → Lp (f + 1) (nI i) u = some ((), u))
    (H1 : ∀ f i u v b e k w m o x, Fin u v c T b e k w m → i < 1000 → opT X k w (T b) o x → Lp (f + 1) (nI i) u = zb (Ta_step u) (fun _ u1 => zb (La_rd n (X + 1) r (nI d) u1) (fun _ u2 => zb (La_put r o u2) (fun _ u3 => Lp f (nI (i + 1)) u3))))
    (H2 : ∀ f i u x, Bad u x → Lp (f + 1) i u = some ((), u))
    (H3 : ∀ f i u v b e k w m, Fin u v c T b e k w m → 1000 ≤ i → i < 2 ^ 20 → Lp (f + 1) (nI i) u = some ((), u))
    {u0 v0 : zM} {b0 nf0 : Nat} {P0 Q0 : List Int32} (p0 : P0.length ≤ b0) (q0 : Q0.length ≤ b0) (hf0 : c < nf0 + b0) (hp0 : popR v0 d d) :
    ∀ z u v b e k w m P Q nf i f ρ, c - b ≤ z → Fin u v c T b e k w m → LSc u r (P0 ++ P) → LSm v (Q0 ++ Q) → P.length + b0 ≤ b → Q.length + b0 ≤ b → b0 < b → nf0 + b0 ≤ nf + b → Rl ρ X d P Q → noOp (X + 1) k w (T b) (gI v 21 d) → i < b → c < f + b → Fr (pqC r) u0 u → Fr (pqM X d) v0 v → RdQ r X d d c T b0 nf0 P0 Q0 u0 v0 (Lp f (nI i) u) (Mo_reads_11 nf (nI d) 0 v) := by
  intro z
  induction z with
  | zero =>
    intro u v b e k w m P Q nf i f ρ hz h lc lm pl ql hb hf hR hO hi hff f1 f2
    have h6 := h.k6
    have hk0 : k = 0 := Classical.byContradiction fun q => by have := h6.2.2.2.1 q; omega
    obtain ⟨f, rfl⟩ : ∃ z, f = z + 1 := ⟨f - 1, by omega⟩
    have nO : noO X k w (T b) := ⟨fun _ => by omega, fun _ => by omega, fun _ => by omega, fun _ => ⟨fun q => by omega, fun q => by omega⟩⟩
    by_cases i1 : i < 1000
    · rw [H0 f i u v b e k w m h i1 nO]
      exact ⟨u, rfl, f1, Or.inr ⟨v, nf, P, Q, b, e, k, w, m, ρ, rfl, h, hb, hf, lc, lm, by omega, by omega, hR, hO.dn nO, f2⟩⟩
    · rw [H3 f i u v b e k w m h (by omega) (by omega)]
      exact ⟨u, rfl, f1, Or.inr ⟨v, nf, P, Q, b, e, k, w, m, ρ, rfl, h, hb, hf, lc, lm, by omega, by omega, hR, hO.dn nO, f2⟩⟩
  | succ z ih =>
    intro u v b e k w m P Q nf i f ρ hz h lc lm pl ql hb hf hR hO hi hff f1 f2
    have h6 := h.k6
    obtain ⟨f, rfl⟩ : ∃ z, f = z + 1 := ⟨f - 1, by omega⟩
    have i1 : i < 1000 := by omega
    by_cases nO : noO X k w (T b)
    · rw [H0 f i u v b e k w m h i1 nO]
      exact ⟨u, rfl, f1, Or.inr ⟨v, nf, P, Q, b, e, k, w, m, ρ, rfl, h, hb, hf, lc, lm, by omega, by omega, hR, hO.dn nO, f2⟩⟩
    · obtain ⟨o, x, ho⟩ : ∃ o x, opT X k w (T b) o x := by
        rcases hX with rfl | rfl | rfl
        · by_cases q1 : k = 1 ∧ w = kw_and
          · exact ⟨_, _, Or.inl ⟨rfl, q1.1, Or.inl ⟨q1.2, rfl, rfl⟩⟩⟩
          · by_cases q2 : k = 1 ∧ w = kw_or
            · exact ⟨_, _, Or.inl ⟨rfl, q2.1, Or.inr ⟨q2.2, rfl, rfl⟩⟩⟩
            · exact absurd ⟨fun q => absurd q (by omega), fun q => absurd q (by omega), fun q => absurd q (by omega), fun _ => ⟨q1, q2⟩⟩ nO
        · by_cases q1 : k = 3 ∧ T b = 43
          · exact ⟨_, _, Or.inr (Or.inr (Or.inl ⟨rfl, q1.1, Or.inl ⟨q1.2, rfl, rfl⟩⟩))⟩
          · by_cases q2 : k = 3 ∧ T b = 45
            · exact ⟨_, _, Or.inr (Or.inr (Or.inl ⟨rfl, q2.1, Or.inr ⟨q2.2, rfl, rfl⟩⟩))⟩
            · exact absurd ⟨fun q => absurd q (by omega), fun _ => ⟨q1, q2⟩, fun q => absurd q (by omega), fun q => absurd q (by omega)⟩ nO
        · by_cases q1 : k = 3 ∧ T b = 42
          · exact ⟨_, _, Or.inr (Or.inr (Or.inr ⟨rfl, q1.1, q1.2, rfl, rfl⟩))⟩
          · exact absurd ⟨fun _ => q1, fun q => absurd q (by omega), fun q => absurd q (by omega), fun q => absurd q (by omega)⟩ nO
      have hbe := h6.2.2.2.1 ho.k0
      rw [H1 f i u v b e k w m o x h i1 ho]
      obtain ⟨u3, s1, s2, s3⟩ := op_step (nf := nf) hr h4 (by omega) hS h ho hd hn lc lm (by rw [List.length_append]; omega) (by rw [List.length_append]; omega) (hp0.fr (fun j hj => f2.i (by unfold pqM rdM puM; omega))) (fun q => absurd q (by omega)) (by omega)
      rw [s1 (fun u3 => Lp f (nI (i + 1)) u3)]
      rcases s3 with ⟨v', y, y1, y2, y3, y4, L, y5, y6⟩ | ⟨v', nr, P2, Q2, b', e', k', w', m', ρ2, y1, y2, y3, y4, y5, y6, y7, y8, y9, ya, _, yb⟩
      · obtain ⟨f, rfl⟩ : ∃ z, f = z + 1 := ⟨f - 1, by omega⟩
        rw [H2 f _ u3 y y2]
        exact ⟨u3, rfl, f1.tr s2, Or.inl ⟨v', y, y1, y2, y3, f2.tr y4, L, y5, y6⟩⟩
      · rw [y1]
        rw [List.append_assoc] at y5 y6
        have hR' : Rl (ρ + ρ2 + 1) X d (P ++ (P2 ++ [o])) (Q ++ (x :: Q2)) := Or.inr ⟨by omega, Or.inr ⟨P, P2, Q, Q2, o, x, rfl, rfl, ho.op, by
          have e : lefR X = X := by rcases hX with rfl | rfl | rfl <;> rfl
          rw [e]
          exact Rl_le hR ρ2, by rw [Nat.add_comm]; exact Rl_le y9 ρ⟩⟩
        exact ih u3 v' b' e' k' w' m' _ _ nr (i + 1) f _ (by omega) y2 y5 y6 (by rw [List.length_append, List.length_append, List.length_singleton]; omega) (by rw [List.length_append, List.length_cons]; omega) (by omega) (by omega) hR' ya (by omega) (by omega) (f1.tr s2) (f2.tr yb)
