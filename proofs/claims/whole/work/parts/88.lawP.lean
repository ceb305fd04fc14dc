/-! ===== the law read: a part ===== -/
theorem La_rd_bad {r : Nat} (hr : layC r = (11, 3)) {u : zM} {x : Nat} (h : Bad u x) : ∀ (d : Int32) n, (0 < n → La_rd n 4 r d u = some ((), u)) ∧ (1 < n → La_rd n 3 r d u = some ((), u)) ∧ (2 < n → La_rd n 2 r d u = some ((), u)) ∧ (3 < n → La_rd n 1 r d u = some ((), u)) ∧ (4 < n → La_rd n 0 r d u = some ((), u)) := by
  intro d
  have e0 : (0 : Int32) = nI 0 := rfl
  have eS : La_simpleStep u = some (-13, u) := by
    unfold La_simpleStep
    rw [zb_eq h.atN, if_pos e0.symm, zb_eq (h.atW _), if_pos e0.symm, zb_eq (h.atW _), if_pos e0.symm, zb_eq (h.atW _), if_pos e0.symm, zb_eq (h.atW _), if_pos e0.symm]
  have p4 : ∀ n, 0 < n → La_rd n 4 r d u = some ((), u) := by
    intro n hn
    obtain ⟨n, rfl⟩ : ∃ z, n = z + 1 := ⟨n - 1, by omega⟩
    show La_readPart (La_rd n) r d u = _
    unfold La_readPart
    rw [if_pos hr, zb_eq (h.atW _), zb_eq (h.atS _), zb_eq eS, if_pos e0.symm, if_pos e0.symm, if_pos rfl, zb_eq (h.fail _)]
  have p3 : ∀ n, 1 < n → La_rd n 3 r d u = some ((), u) := by
    intro n hn
    obtain ⟨n, rfl⟩ : ∃ z, n = z + 1 := ⟨n - 1, by omega⟩
    show La_readProduct (La_rd n) r d u = _
    unfold La_readProduct
    rw [if_pos hr, zb_eq (p4 n (by omega))]
    show La_readProduct_8b _ _ _ _ _ _ = _
    unfold La_readProduct_8b
    rw [if_pos hr, if_neg (show ¬ (1000 : Int32) ≤ 0 by decide), zb_eq (h.atS _), if_pos e0.symm]
  have p2 : ∀ n, 2 < n → La_rd n 2 r d u = some ((), u) := by
    intro n hn
    obtain ⟨n, rfl⟩ : ∃ z, n = z + 1 := ⟨n - 1, by omega⟩
    show La_readSum (La_rd n) r d u = _
    unfold La_readSum
    rw [if_pos hr, zb_eq (p3 n (by omega))]
    show La_readSum_8b _ _ _ _ _ _ = _
    unfold La_readSum_8b
    rw [if_pos hr, if_neg (show ¬ (1000 : Int32) ≤ 0 by decide), zb_eq (h.atS _), if_pos e0.symm, zb_eq (h.atS _), if_pos e0.symm]
  have p1 : ∀ n, 3 < n → La_rd n 1 r d u = some ((), u) := by
    intro n hn
    obtain ⟨n, rfl⟩ : ∃ z, n = z + 1 := ⟨n - 1, by omega⟩
    show La_readTest (La_rd n) r d u = _
    unfold La_readTest
    rw [if_pos hr, zb_eq (p2 n (by omega)), zb_eq (h.atS _), if_pos e0.symm, zb_eq (h.atS _), if_pos e0.symm]
  intro n
  refine ⟨p4 n, p3 n, p2 n, p1 n, fun hn => ?_⟩
  obtain ⟨n, rfl⟩ : ∃ z, n = z + 1 := ⟨n - 1, by omega⟩
  show La_readExpression (La_rd n) r d u = _
  unfold La_readExpression
  rw [if_pos hr, zb_eq (p1 n (by omega))]
  show La_readExpression_8b _ _ _ _ _ _ = _
  unfold La_readExpression_8b
  rw [if_pos hr, if_neg (show ¬ (1000 : Int32) ≤ 0 by decide), zb_eq (h.atW _), if_pos e0.symm, zb_eq (h.atW _), if_pos e0.symm]
/-- what a reading leaves: the same fault, or steps and codes of one expression -/
def RdQ (r X d q c : Nat) (T : Nat → Nat) (b nf : Nat) (P0 Q0 : List Int32) (u v : zM) (res : Option (Unit × zM)) (ref : Option (Int32 × zM)) : Prop :=
  ∃ u', res = some ((), u') ∧ Fr (pqC r) u u' ∧
    ((∃ v' x, ref = some (0, v') ∧ Bad u' x ∧ gI v' 1 9 = nI x ∧ Fr (pqM X d) v v' ∧ ∃ L, L ≤ 1000 ∧ gI u' r 2 = nI L)
    ∨ (∃ v' nr P Q b' e' k' w' m' ρ, ref = Mo_reads_11 nr (nI q) 0 v' ∧ Fin u' v' c T b' e' k' w' m' ∧ b < b' ∧ nf + b ≤ nr + b' ∧ LSc u' r (P0 ++ P) ∧ LSm v' (Q0 ++ Q) ∧ P.length + b ≤ b' ∧ Q.length + b ≤ b' ∧ Rl ρ X d P Q ∧ noOp X k' w' (T b') (gI v' 21 d) ∧ Fr (pqM X d) v v'))
def RdS (r n X : Nat) : Prop := ∀ d q u v c T b e k w m P0 Q0 nf, d ≤ 5 → (4 - X) + 5 * (5 - d) < n → Fin u v c T b e k w m → LSc u r P0 → LSm v Q0 → P0.length ≤ b → Q0.length ≤ b → c < nf + b → popR v d q → (X < 4 → q = d) → (X ≤ 1 → gI v 21 d = nI 0) → RdQ r X d q c T b nf P0 Q0 u v (La_rd n X r (nI d) u) (Mo_reads_11 nf (nI d) 1 v)
theorem Fin.cu {u u' v : zM} {c b e k m : Nat} {T : Nat → Nat} {w : List Nat} (h : Fin u v c T b e k w m) {r : Nat} (h4 : 4 ≤ r) (hu : Fr (puC r) u u') : Fin u' v c T b e k w m := h.fr (fun a j q => hu.i (by unfold puC; omega)) (hu.l (by unfold puC; omega)) (fun _ _ _ => rfl) rfl
def mvM (c k : Nat) : Prop := puM c k ∨ c = 20 ∨ c = 21
theorem Fin.mv {u v v' : zM} {c b e k m : Nat} {T : Nat → Nat} {w : List Nat} (h : Fin u v c T b e k w m) (hv : Fr mvM v v') : Fin u v' c T b e k w m := h.fr (fun _ _ _ => rfl) rfl (fun a j q => hv.i (by unfold mvM puM; omega)) (hv.l (by unfold mvM puM; omega))
theorem rd_fail {u v : zM} {c b e k m : Nat} {T : Nat → Nat} {w : List Nat} (h : Fin u v c T b e k w m) {r X d q nf j : Nat} {P0 Q0 : List Int32} (h4 : 4 ≤ r) (h0 : 0 < j) (hj : j < 16) (lc : LSc u r P0) (p0 : P0.length ≤ b) : RdQ r X d q c T b nf P0 Q0 u v (zb (Ta_fail (nI j) u) (fun _ u4 => some ((), u4))) (zb (Mo_fails (nI j) v) (fun c3 u3 => zbo c3 u3)) := by
  obtain ⟨f1, f2, f3⟩ := h.fail h0 hj
  have h6 := h.k6
  refine ⟨_, by rw [zb_eq f1], Fr.sI (Or.inl (by unfold rdC; omega)), Or.inl ⟨_, _, by rw [zb_eq f2]; rfl, f3, gs_eq ⟨rfl, rfl⟩, Fr.sI (Or.inl (by unfold rdM; omega)), P0.length, by omega, (gs_ne (by omega)).trans lc.1⟩⟩
theorem rf_open {v : zM} {d : Nat} {x s c7 c8 : Int32} {zr : Int32 → Int32 → zM → Option (Int32 × zM)} (hd : d < 5) (h : (c7 = 1 ∧ x = 30 ∧ s = 1) ∨ (c7 = 0 ∧ c8 = 1 ∧ x = 28 ∧ s = 2)) : Mo_reads_65 zr (nI d) 1 0 c7 c8 v = zb (Mo_puts x v) (fun _ v1 => zb (Mo_nextToken (sI (sI v1 20 (d + 1) s) 21 (d + 1) (nI 0))) (fun _ v2 => zr (nI (d + 1)) 1 v2)) := by
  have hI : ib (nI (d + 1)) 7 = true := ib_nI (by omega) (by decide)
  have hx : ix (nI (d + 1)) = d + 1 := ix_nI (by omega)
  unfold Mo_reads_65 Mo_reads_86 Mo_reads_99 Mo_reads_120
  rw [if_neg (show ¬ nI d = (5 : Int32) from fun z => by have := (nI_eq (b := 5) (by omega) (by decide)).mp z; omega), show nI d + 1 = nI (d + 1) from nI_1 d]
  simp only [if_pos hI, hx, zl_e]
  rcases h with ⟨rfl, rfl, rfl⟩ | ⟨rfl, rfl, rfl, rfl⟩
  · simp only [if_neg ne10]
    rfl
  · simp only [if_neg ne10, if_pos (show (0 : Int32) = 0 from rfl)]
    rfl
theorem lt5 {d : Nat} (h : d < 5) : nI d < (5 : Int32) := nI_lt (b := 5) h (by decide)
theorem ap_c (Q0 : List Int32) (x : Int32) (Q : List Int32) : Q0 ++ [x] ++ Q = Q0 ++ (x :: Q) := by rw [List.append_assoc]; rfl
/-- a number or a fact -/
theorem part_sim {r n : Nat} (hr : layC r = (11, 3)) (h4 : 4 ≤ r) {d q : Nat} {u v : zM} {c b e k m : Nat} {T : Nat → Nat} {w : List Nat} (h : Fin u v c T b e k w m) (hk : k ≠ 0) (hd : d < 5) {P0 Q0 : List Int32} (lc : LSc u r P0) (lm : LSm v Q0) (p0 : P0.length ≤ b) (q0 : Q0.length ≤ b) (hp : popR v d q) {f : Nat} {sx cx : Int32} (hs : simR sx cx) : RdQ r 4 d q c T b (f + 1) P0 Q0 u v (La_readPart_44 (La_rd n) r (nI d) 0 0 sx u) (zb (Mo_puts cx v) (fun _ u1 => Mo_reads_152 zF (Mo_reads_11 f) (nI d) 0 u1)) := by
  have h6 := h.k6
  have hbe := h6.2.2.2.1 hk
  obtain ⟨v1, a1, a2, a3⟩ := Mo_puts_eq lm (by omega) cx
  have F1 : Fin u v1 c T b e k w m := h.mv (a3.mono (fun _ _ z => Or.inl z))
  obtain ⟨u1, v2, b1, e1, k1, w1, m1, s1, s2, s3, s4, s5, s6⟩ := F1.step
  have lc1 : LSc u1 r P0 := lc.fr (fun a k z => s5.i (by unfold stC; omega))
  obtain ⟨u2, t1, t2, t3⟩ := La_put_eq hr lc1 (by omega) sx
  have hp1 : popR v1 d q := hp.fr (fun j _ => a3.i (by unfold puM; omega))
  refine ⟨u2, ?_, (s5.mono (fun _ _ z => Or.inl (stC_rd z))).tr (t3.mono (fun _ _ z => Or.inr z)), Or.inr ⟨v2, f, [sx], [cx], b1, e1, k1, w1, m1, 1, ?_, s3.cu h4 t3, by omega, by omega, t2, a2.fr (fun a k z => s6.i (by unfold stM; omega)), by rw [List.length_singleton]; omega, by rw [List.length_singleton]; omega, Or.inl ⟨rfl, hd, Or.inl ⟨sx, cx, rfl, rfl, hs⟩⟩, ⟨fun z => absurd z (by omega), fun z => absurd z (by omega), fun z => absurd z (by omega), fun z => absurd z (by omega)⟩, (a3.mono (fun _ _ z => Or.inr (Or.inl z))).tr (s6.mono (fun _ _ z => Or.inl (stM_rd z)))⟩⟩
  · unfold La_readPart_44
    rw [if_pos hr, if_pos (lt5 hd), zb_eq s1, if_pos rfl, if_pos rfl, zb_eq t1]
  · rw [zb_eq a1, pop152 _ _ _ _ _ _ (by omega) (show d < zF by unfold zF; omega) hp1, zb_eq s2]
/-- the token behind a not or a bracket -/
theorem part_go {d q : Nat} {u v : zM} {c b e k m : Nat} {T : Nat → Nat} {w : List Nat} (h : Fin u v c T b e k w m) (hk : k ≠ 0) {r : Nat} (h4 : 4 ≤ r) {P0 Q0 : List Int32} (lc : LSc u r P0) (lm : LSm v Q0) (q0 : Q0.length ≤ b) (hp : popR v d q) (x s : Int32) (zr : Int32 → Int32 → zM → Option (Int32 × zM)) : ∃ u1 v2 b1 e1 k1 w1 m1, Ta_step u = some ((), u1) ∧ zb (Mo_puts x v) (fun _ v1 => zb (Mo_nextToken (sI (sI v1 20 (d + 1) s) 21 (d + 1) (nI 0))) (fun _ v2 => zr (nI (d + 1)) 1 v2)) = zr (nI (d + 1)) 1 v2 ∧ Fin u1 v2 c T b1 e1 k1 w1 m1 ∧ b < b1 ∧ LSc u1 r P0 ∧ LSm v2 (Q0 ++ [x]) ∧ popR v2 d q ∧ gI v2 20 (d + 1) = s ∧ gI v2 21 (d + 1) = nI 0 ∧ Fr (pqC r) u u1 ∧ Fr (pqM 4 d) v v2 := by
  have h6 := h.k6
  have hbe := h6.2.2.2.1 hk
  obtain ⟨v1, a1, a2, a3⟩ := Mo_puts_eq lm (by omega) x
  have f1 : Fr mvM v (sI (sI v1 20 (d + 1) s) 21 (d + 1) (nI 0)) := ((a3.mono (B := mvM) (fun _ _ z => Or.inl z)).tr (Fr.sI (A := mvM) (Or.inr (Or.inl rfl)))).tr (Fr.sI (A := mvM) (Or.inr (Or.inr rfl)))
  obtain ⟨u1, v2, b1, e1, k1, w1, m1, s1, s2, s3, s4, s5, s6⟩ := (h.mv f1).step
  refine ⟨u1, v2, b1, e1, k1, w1, m1, s1, by rw [zb_eq a1, zb_eq s2], s3, by omega, lc.fr (fun a k z => s5.i (by unfold stC; omega)), a2.fr (fun a k z => (s6.i (by unfold stM; omega)).trans ((gs_ne (by omega)).trans (gs_ne (by omega)))), hp.fr (fun j hj => (s6.i (by unfold stM; omega)).trans ((gs_ne (by omega)).trans ((gs_ne (by omega)).trans (a3.i (by unfold puM; omega))))), (s6.i (by unfold stM; omega)).trans ((gs_ne (by omega)).trans (gs_eq ⟨rfl, rfl⟩)), (s6.i (by unfold stM; omega)).trans (gs_eq ⟨rfl, rfl⟩), s5.mono (fun _ _ z => Or.inl (stC_rd z)), ?_⟩
  exact (((a3.mono (B := pqM 4 d) (fun _ _ z => Or.inr (Or.inl z))).tr (Fr.sI (A := pqM 4 d) (Or.inr (Or.inr (Or.inl ⟨rfl, by omega⟩))))).tr (Fr.sI (A := pqM 4 d) (Or.inr (Or.inr (Or.inr ⟨rfl, Or.inl (by omega)⟩))))).tr (s6.mono (fun _ _ z => Or.inl (stM_rd z)))
theorem pqM_in {X d c k : Nat} (h : pqM X (d + 1) c k) : pqM 4 d c k := by
  unfold pqM rdM puM at h ⊢
  omega
theorem part_not {r n : Nat} (hr : layC r = (11, 3)) (h4 : 4 ≤ r) (hP : RdS r n 4) {d q : Nat} {u v : zM} {c b e k m : Nat} {T : Nat → Nat} {w : List Nat} (h : Fin u v c T b e k w m) (hk : k ≠ 0) (hd : d < 5) (hn : 5 * (5 - d) < n + 1) {P0 Q0 : List Int32} (lc : LSc u r P0) (lm : LSm v Q0) (p0 : P0.length ≤ b) (q0 : Q0.length ≤ b) (hp : popR v d q) {f : Nat} (hf : c < f + 1 + b) (c2 sx : Int32) : RdQ r 4 d q c T b (f + 1) P0 Q0 u v (La_readPart_44 (La_rd n) r (nI d) 1 c2 sx u) (Mo_reads_65 (Mo_reads_11 f) (nI d) 1 0 1 c2 v) := by
  obtain ⟨u1, v2, b1, e1, k1, w1, m1, s1, s2, s3, s4, s5, s6, s7, s8, s9, sa, sb⟩ := part_go h hk h4 lc lm q0 hp 30 1 (Mo_reads_11 f)
  have hp1 : popR v2 (d + 1) q := ⟨by have := s7.1; omega, s7.2.1, fun j a b => by
    by_cases z : j = d + 1
    · rw [z]; exact s8
    · exact s7.2.2 j a (by omega)⟩
  have K := hP (d + 1) q u1 v2 c T b1 e1 k1 w1 m1 P0 (Q0 ++ [30]) f (by omega) (by omega) s3 s5 s6 (by omega) (by rw [List.length_append, List.length_singleton]; omega) (by omega) hp1 (fun z => absurd z (by omega)) (fun z => absurd z (by omega))
  rw [rf_open hd (Or.inl ⟨rfl, rfl, rfl⟩), s2]
  unfold La_readPart_44
  rw [if_pos hr, if_pos (lt5 hd), zb_eq s1, if_neg ne10, show nI d + 1 = nI (d + 1) from nI_1 d]
  obtain ⟨u2, t1, t2, t3⟩ := K
  rw [zb_eq t1]
  rcases t3 with ⟨v', x, y1, y2, y3, y4, L, y5, y6⟩ | ⟨v', nr, P, Q, b', e', k', w', m', ρ, y1, y2, y3, y4, y5, y6, y7, y8, y9, ya, yb⟩
  · obtain ⟨u3, L', z1, z2, z3, z4⟩ := La_put_any hr y6 y5 (-5)
    rw [zb_eq z1]
    exact ⟨u3, rfl, (sa.tr t2).tr (z4.mono (fun _ _ z => Or.inr z)), Or.inl ⟨v', x, y1, y2.fr (z4.i (by unfold puC; omega)), y3, sb.tr (y4.mono (fun _ _ => pqM_in)), L', z2, z3⟩⟩
  · have h6 := y2.k6
    obtain ⟨u3, z1, z2, z3⟩ := La_put_eq hr y5 (by rw [List.length_append]; omega) (-5)
    rw [zb_eq z1]
    rw [ap_c] at y6
    rw [List.append_assoc] at z2
    exact ⟨u3, rfl, (sa.tr t2).tr (z3.mono (fun _ _ z => Or.inr z)), Or.inr ⟨v', nr, P ++ [-5], nI 30 :: Q, b', e', k', w', m', ρ + 1, y1, y2.cu h4 z3, by omega, by omega, z2, y6, by rw [List.length_append, List.length_singleton]; omega, by rw [List.length_cons]; omega, Or.inl ⟨rfl, hd, Or.inr (Or.inl ⟨P, Q, rfl, rfl, y9⟩)⟩, ⟨fun z => absurd z (by omega), fun z => absurd z (by omega), fun z => absurd z (by omega), fun z => absurd z (by omega)⟩, sb.tr (yb.mono (fun _ _ => pqM_in))⟩⟩
theorem part_par {r n : Nat} (hr : layC r = (11, 3)) (h4 : 4 ≤ r) (hE : RdS r n 0) {d q : Nat} {u v : zM} {c b e k m : Nat} {T : Nat → Nat} {w : List Nat} (h : Fin u v c T b e k w m) (hk : k ≠ 0) (hd : d < 5) (hn : 5 * (5 - d) < n + 1) {P0 Q0 : List Int32} (lc : LSc u r P0) (lm : LSm v Q0) (p0 : P0.length ≤ b) (q0 : Q0.length ≤ b) (hp : popR v d q) {f : Nat} (hf : c < f + 1 + b) (sx : Int32) : RdQ r 4 d q c T b (f + 1) P0 Q0 u v (La_readPart_44 (La_rd n) r (nI d) 0 1 sx u) (Mo_reads_65 (Mo_reads_11 f) (nI d) 1 0 0 1 v) := by
  obtain ⟨u1, v2, b1, e1, k1, w1, m1, s1, s2, s3, s4, s5, s6, s7, s8, s9, sa, sb⟩ := part_go h hk h4 lc lm q0 hp 28 2 (Mo_reads_11 f)
  have hp1 : popR v2 (d + 1) (d + 1) := ⟨Nat.le_refl _, Or.inr (by rw [s8]; decide), fun j a b => absurd a (by omega)⟩
  have K := hE (d + 1) (d + 1) u1 v2 c T b1 e1 k1 w1 m1 P0 (Q0 ++ [28]) f (by omega) (by omega) s3 s5 s6 (by omega) (by rw [List.length_append, List.length_singleton]; omega) (by omega) hp1 (fun _ => rfl) (fun _ => s9)
  rw [rf_open hd (Or.inr ⟨rfl, rfl, rfl, rfl⟩), s2]
  unfold La_readPart_44
  rw [if_pos hr, if_pos (lt5 hd), zb_eq s1, if_pos rfl, if_neg ne10, show nI d + 1 = nI (d + 1) from nI_1 d]
  obtain ⟨u2, t1, t2, t3⟩ := K
  rw [zb_eq t1]
  rcases t3 with ⟨v', x, y1, y2, y3, y4, L, y5, y6⟩ | ⟨v', nr, P, Q, b', e', k', w', m', ρ, y1, y2, y3, y4, y5, y6, y7, y8, y9, ya, yb⟩
  · rw [zb_eq (y2.passS _)]
    exact ⟨u2, rfl, sa.tr t2, Or.inl ⟨v', x, y1, y2, y3, sb.tr (y4.mono (fun _ _ => pqM_in)), L, y5, y6⟩⟩
  · have h6 := y2.k6
    obtain ⟨nr, rfl⟩ : ∃ z, nr = z + 1 := ⟨nr - 1, by omega⟩
    rw [rf_304 y2 ya (by omega)] at y1
    rw [y1]
    unfold Ta_passSign
    by_cases q41 : k' = 3 ∧ T b' = 41
    · obtain ⟨g1, g2⟩ := y2.sgT (s := 41) (by decide) q41
      rw [zb_eq (show Ta_atSign 41 u2 = _ from g1), if_neg ne10, zb_eq (show Mo_isSign 41 v' = _ from g2), if_neg ne10, if_neg (show ¬ nI (d + 1) ≤ (0 : Int32) from nI_ge (show 0 < d + 1 by omega) (by omega))]
      have hbe := h6.2.2.2.1 (by omega)
      have ed : nI (d + 1) + (-1) = nI d := by
        rw [show (-1 : Int32) = -(nI 1) from rfl, ← Int32.sub_eq_add_neg, pk_sub (by omega)]
        rfl
      obtain ⟨v4, a1, a2, a3⟩ := Mo_puts_eq y6 (by rw [List.length_append, List.length_append, List.length_singleton]; omega) 29
      have F1 : Fin u2 v4 c T b' e' k' w' m' := y2.mv (a3.mono (fun _ _ z => Or.inl z))
      obtain ⟨u3, v5, b3, e3, k3, w3, m3, x1, x2, x3, x4, x5, x6⟩ := F1.step
      have hp4 : popR v4 d q := s7.fr (fun j hj => (a3.i (by unfold puM; omega)).trans (yb.i (by unfold pqM rdM puM; omega)))
      rw [zb_eq x1, zb_eq a1, ed, pop379 _ _ _ _ _ _ (by omega) (show d < zF by unfold zF; omega) hp4, zb_eq x2]
      rw [ap_c, List.append_assoc] at a2
      refine ⟨u3, rfl, (sa.tr t2).tr (x5.mono (fun _ _ z => Or.inl (stC_rd z))), Or.inr ⟨v5, nr, P, nI 28 :: (Q ++ [nI 29]), b3, e3, k3, w3, m3, ρ + 1, rfl, x3, by omega, by omega, y5.fr (fun a k z => x5.i (by unfold stC; omega)), ?_, by omega, ?_, Or.inl ⟨rfl, hd, Or.inr (Or.inr ⟨Q, rfl, y9⟩)⟩, ⟨fun z => absurd z (by omega), fun z => absurd z (by omega), fun z => absurd z (by omega), fun z => absurd z (by omega)⟩, ((sb.tr (yb.mono (fun _ _ => pqM_in))).tr (a3.mono (fun _ _ z => Or.inr (Or.inl z)))).tr (x6.mono (fun _ _ z => Or.inl (stM_rd z)))⟩⟩
      · exact LSm.fr a2 (fun a k z => x6.i (by unfold stM; omega))
      · rw [List.length_cons, List.length_append, List.length_singleton]
        omega
    · obtain ⟨g1, g2⟩ := y2.sgF (s := 41) (by decide) q41
      obtain ⟨f1, f2, f3⟩ := y2.fail (j := 1) (by decide) (by decide)
      rw [zb_eq (show Ta_atSign 41 u2 = _ from g1), if_pos rfl, zb_eq (show Mo_isSign 41 v' = _ from g2), if_pos rfl]
      unfold Mo_reads_399
      rw [if_neg (show ¬ nI (d + 1) = (0 : Int32) from fun z => by have := (nI_eq (b := 0) (by omega) (by decide)).mp z; omega), zb_eq (show Ta_fail 1 u2 = _ from f1), zb_eq (show Mo_fails 1 v' = _ from f2)]
      exact ⟨_, rfl, (sa.tr t2).tr (Fr.sI (Or.inl (by unfold rdC; omega))), Or.inl ⟨_, _, rfl, f3, gs_eq ⟨rfl, rfl⟩, (sb.tr (yb.mono (fun _ _ => pqM_in))).tr (Fr.sI (Or.inl (by unfold rdM; omega))), (P0 ++ P).length, by rw [List.length_append]; omega, (gs_ne (by omega)).trans y5.1⟩⟩
