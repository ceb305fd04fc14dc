/-! ===== streams ===== -/
theorem or_xor {a k : Nat} (h : a.testBit k = false) : a ||| 2 ^ k = a ^^^ 2 ^ k := by
  apply Nat.eq_of_testBit_eq
  intro i
  rw [Nat.testBit_or, Nat.testBit_xor, Nat.testBit_two_pow]
  by_cases e : k = i
  · subst e
    rw [h, decide_eq_true rfl]
    rfl
  · rw [decide_eq_false e]
    simp
def strK (K : Nat → Nat → Nat) (a b : Nat) : Nat → Nat → Nat := fun i j => if i = 0 then flp (K 0) a b j else K i j
theorem strK_0 {K : Nat → Nat → Nat} {a b j : Nat} : strK K a b 0 j = flp (K 0) a b j := if_pos rfl
theorem strK_n {K : Nat → Nat → Nat} {a b i j : Nat} (h : i ≠ 0) : strK K a b i j = K i j := if_neg h
theorem flp_a {L : Nat → Nat} {a b : Nat} : flp L a b a = L a ^^^ 2 ^ b := if_pos rfl
theorem flp_b {L : Nat → Nat} {a b : Nat} (h : a ≠ b) : flp L a b b = L b ^^^ 2 ^ a := by unfold flp; rw [if_neg (fun q => h q.symm), if_pos rfl]
theorem flp_o {L : Nat → Nat} {a b i : Nat} (h1 : i ≠ a) (h2 : i ≠ b) : flp L a b i = L i := by unfold flp; rw [if_neg h1, if_neg h2]
theorem CtX.stream {u u' v v' : zM} {s a b : Nat} {N : Nat → Nat} {K : Nat → Nat → Nat} {nm : Nat → Nat → List Nat} (h : CtX u v s N K nm) (hN : N 1 < 10) (ha : a < N 0) (hb : b < N 0) (hab : a ≠ b)
    (hu : ∀ c k, s ≤ c → c ≤ s + 17 → ¬ ((c = s ∧ k = 15) ∨ (c = s + 10 ∧ (k = a ∨ k = b))) → gI u' c k = gI u c k) (hul : ∀ c k, s ≤ c → c ≤ s + 17 → gL u' c k = gL u c k)
    (hv : ∀ c k, 3 ≤ c → c ≤ 16 → ¬ ((c = 3 ∧ k = 7) ∨ (c = 9 ∧ (k = 7 + a ∨ k = 7 + b))) → gI v' c k = gI v c k) (hvl : ∀ c k, 3 ≤ c → c ≤ 16 → gL v' c k = gL v c k)
    (c1 : gI u' s 15 = nI (N 1 + 1)) (c2 : gI u' (s + 10) a = nI (K 0 a ^^^ 2 ^ b)) (c3 : gI u' (s + 10) b = nI (K 0 b ^^^ 2 ^ a))
    (m1 : gI v' 3 7 = nI (N 1 + 1)) (m2 : gI v' 9 (7 + a) = nI (K 0 a ^^^ 2 ^ b)) (m3 : gI v' 9 (7 + b) = nI (K 0 b ^^^ 2 ^ a)) : ∃ N' K' nm', CtX u' v' s N' K' nm' := by
  obtain ⟨⟨n0, n1, n2, n3, n4, n5⟩, ⟨k0, k1, k2, k3, k4⟩, ⟨⟨e0, e1, e2, e3, e4, e5⟩, cp, cq, co, cw, ci⟩, ⟨o1, op, oq, oo, ow, oi⟩, ⟨r1, r2⟩⟩ := h
  have E : ∀ i, i ≠ 1 → upN N 1 (N 1 + 1) i = N i := fun i hi => upN_ne hi
  refine ⟨upN N 1 (N 1 + 1), strK K a b, nm, ?_, ?_, ?_, ?_, ?_⟩
  · exact ⟨by rw [E 0 (by decide)]; omega, by rw [upN_eq]; omega, by rw [E 2 (by decide)]; omega, by rw [E 3 (by decide)]; omega, by rw [E 4 (by decide)]; omega, by rw [E 5 (by decide)]; omega⟩
  · refine ⟨fun p hp => ?_, fun q hq => ?_, fun o ho => ?_, fun z hz => ?_, fun i hi => ?_⟩
    · rw [E 0 (by decide)] at hp ⊢
      rw [strK_0, strK_n (by decide)]
      obtain ⟨g1, g2, g3, g4⟩ := k0 p hp
      refine ⟨?_, g2, ?_, fun q hq => ?_⟩
      · by_cases f1 : p = a
        · subst f1
          rw [flp_a]
          exact Nat.xor_lt_two_pow g1 (Nat.pow_lt_pow_right (by decide) hb)
        · by_cases f2 : p = b
          · subst f2
            rw [flp_b hab]
            exact Nat.xor_lt_two_pow g1 (Nat.pow_lt_pow_right (by decide) ha)
          · rw [flp_o f1 f2]
            exact g1
      · rw [flp_bit hab, g3, decide_eq_false (by omega)]
        rfl
      · rw [strK_0]
        exact flp_sym hab (fun x y hx hy => (k0 x hx).2.2.2 y hy) p q hp hq
    · rw [E 2 (by decide)] at hq
      rw [E 0 (by decide), strK_n (by decide), strK_n (by decide)]
      exact k1 q hq
    · rw [E 3 (by decide)] at ho
      rw [E 0 (by decide), strK_n (by decide), strK_n (by decide)]
      exact k2 o ho
    · rw [E 4 (by decide)] at hz
      rw [E 2 (by decide), strK_n (by decide), strK_n (by decide)]
      exact k3 z hz
    · rw [E 5 (by decide)] at hi
      rw [strK_n (by decide)]
      exact k4 i hi
  · refine ⟨⟨by rw [E 0 (by decide)]; exact (hu _ _ (by omega) (by omega) (by omega)).trans e0, by rw [upN_eq]; exact c1, by rw [E 2 (by decide)]; exact (hu _ _ (by omega) (by omega) (by omega)).trans e2, by rw [E 3 (by decide)]; exact (hu _ _ (by omega) (by omega) (by omega)).trans e3, by rw [E 4 (by decide)]; exact (hu _ _ (by omega) (by omega) (by omega)).trans e4, by rw [E 5 (by decide)]; exact (hu _ _ (by omega) (by omega) (by omega)).trans e5⟩, fun p hp => ?_, fun p hp => ?_, fun p hp => ?_, fun p hp => ?_, fun p hp => ?_⟩
    · rw [E 0 (by decide)] at hp
      rw [strK_0, strK_n (by decide)]
      refine ⟨?_, (hu _ _ (by omega) (by omega) (by omega)).trans (cp p hp).2⟩
      by_cases f1 : p = a
      · subst f1
        rw [flp_a]
        exact c2
      · by_cases f2 : p = b
        · subst f2
          rw [flp_b hab]
          exact c3
        · rw [flp_o f1 f2]
          exact (hu _ _ (by omega) (by omega) (by omega)).trans (cp p hp).1
    · rw [E 2 (by decide)] at hp
      rw [strK_n (by decide), strK_n (by decide)]
      exact ⟨(hu _ _ (by omega) (by omega) (by omega)).trans (cq p hp).1, (hu _ _ (by omega) (by omega) (by omega)).trans (cq p hp).2⟩
    · rw [E 3 (by decide)] at hp
      rw [strK_n (by decide), strK_n (by decide)]
      exact ⟨(hu _ _ (by omega) (by omega) (by omega)).trans (co p hp).1, (hu _ _ (by omega) (by omega) (by omega)).trans (co p hp).2⟩
    · rw [E 4 (by decide)] at hp
      rw [strK_n (by decide), strK_n (by decide)]
      exact ⟨(hu _ _ (by omega) (by omega) (by omega)).trans (cw p hp).1, (hu _ _ (by omega) (by omega) (by omega)).trans (cw p hp).2⟩
    · rw [E 5 (by decide)] at hp
      rw [strK_n (by decide)]
      exact (hu _ _ (by omega) (by omega) (by omega)).trans (ci p hp)
  · refine ⟨fun i hi => ?_, fun p hp => ?_, fun p hp => ?_, fun p hp => ?_, fun p hp => ?_, fun p hp => ?_⟩
    · by_cases f : i = 1
      · subst f
        rw [upN_eq]
        exact m1
      · rw [E i f]
        exact (hv _ _ (by omega) (by omega) (by omega)).trans (o1 i hi)
    · rw [E 0 (by decide)] at hp
      rw [strK_0, strK_n (by decide)]
      refine ⟨?_, (hv _ _ (by omega) (by omega) (by omega)).trans (op p hp).2⟩
      by_cases f1 : p = a
      · subst f1
        rw [flp_a]
        exact m2
      · by_cases f2 : p = b
        · subst f2
          rw [flp_b hab]
          exact m3
        · rw [flp_o f1 f2]
          exact (hv _ _ (by omega) (by omega) (by omega)).trans (op p hp).1
    · rw [E 2 (by decide)] at hp
      rw [strK_n (by decide), strK_n (by decide)]
      exact ⟨(hv _ _ (by omega) (by omega) (by omega)).trans (oq p hp).1, (hv _ _ (by omega) (by omega) (by omega)).trans (oq p hp).2⟩
    · rw [E 3 (by decide)] at hp
      rw [strK_n (by decide), strK_n (by decide)]
      exact ⟨(hv _ _ (by omega) (by omega) (by omega)).trans (oo p hp).1, (hv _ _ (by omega) (by omega) (by omega)).trans (oo p hp).2⟩
    · rw [E 4 (by decide)] at hp
      rw [strK_n (by decide), strK_n (by decide)]
      exact ⟨(hv _ _ (by omega) (by omega) (by omega)).trans (ow p hp).1, (hv _ _ (by omega) (by omega) (by omega)).trans (ow p hp).2⟩
    · rw [E 5 (by decide)] at hp
      rw [strK_n (by decide)]
      exact (hv _ _ (by omega) (by omega) (by omega)).trans (oi p hp)
  · have hnS : ∀ z, z < 4 → upN N 1 (N 1 + 1) (nS z) = N (nS z) := by
      intro z hz
      have h4 : z = 0 ∨ z = 1 ∨ z = 2 ∨ z = 3 := by omega
      rcases h4 with rfl | rfl | rfl | rfl <;> exact upN_ne (by decide)
    have h6 : ∀ z, z < 4 → nS z ≠ 1 ∧ nS z ≤ 4 := by
      intro z hz
      have h4 : z = 0 ∨ z = 1 ∨ z = 2 ∨ z = 3 := by omega
      rcases h4 with rfl | rfl | rfl | rfl <;> exact ⟨by decide, by decide⟩
    refine ⟨fun z hz => ?_, fun z hz i hi => ?_⟩
    · obtain ⟨q1, q2, q3⟩ := r1 z hz
      obtain ⟨g1, g2⟩ := h6 z hz
      rw [hnS z hz]
      exact ⟨(hu _ _ (by omega) (by omega) (by omega)).trans q1, (hv _ _ (by omega) (by omega) (by omega)).trans q2, q3⟩
    · rw [hnS z hz] at hi
      obtain ⟨q1, q2, q3⟩ := r2 z hz i hi
      exact ⟨q1, (hul _ _ (by omega) (by omega)).trans q2, (hvl _ _ (by omega) (by omega)).trans q3⟩
theorem strB {u : zM} {x s : Nat} (h : Bad u x) (hs : s = 4 ∨ s = 25) (a b : Int32) : Co_readStream_71 s a b u = some ((), u) := by
  unfold Co_readStream_71
  rw [if_pos (layT hs), zb_eq (h.passS _), zb_eq h.fine, if_pos (show nI 0 = (0 : Int32) from rfl)]
theorem Co_readStream_eq {u v : zM} {c b e k m : Nat} {T : Nat → Nat} {w : List Nat} (h : Fin u v c T b e k w m) (hk : k = 1) {s : Nat} {N : Nat → Nat} {K : Nat → Nat → Nat} {nm : Nat → Nat → List Nat} (hX : CtX u v s N K nm) (hs : s = 4 ∨ s = 25) : CtQ u v s c T b (Co_readStream s u) (Mo_readsStream v) := by
  have lt := layT hs
  have n7 : N 0 ≤ 7 := hX.1.1
  have n10 : N 1 ≤ 10 := hX.1.2.1
  have cn : gI u s 15 = nI (N 1) := hX.2.2.1.1.2.1
  have mn : gI v 3 7 = nI (N 1) := hX.2.2.2.1.1 1 (by decide)
  have lT : layC (s + 1) = (13, 2) := (layN 0 (by decide) s hs).1
  have hc := h.1.1.1
  unfold Co_readStream Mo_readsStream Co_readStream_15
  rw [if_pos lt, cn, mn]
  by_cases full : N 1 = 10
  · rw [if_neg (show ¬ nI (N 1) < (10 : Int32) from nI_nlt (a := N 1) (b := 10) (by omega) (by omega)), if_pos lt, if_pos (show nI (N 1) = (10 : Int32) by rw [full]; rfl)]
    obtain ⟨f1, f2, f3⟩ := h.fail (j := 5) (by decide) (by decide)
    refine ⟨_, _, ?_, Or.inr ⟨by rw [zb_eq (show Mo_fails 5 v = _ from f2)]; rfl, (h.bd (by decide) (by decide)).cx Fr.rf Fr.rf⟩⟩
    rw [zb_eq (show Co_passFirst 1 u = _ from passFirst_1 f1), zb_eq (f3.told lT), zl_e, zb_eq (f3.told lT), zb_eq f3.fine, if_pos (show nI 0 = (0 : Int32) from rfl)]
    exact strB f3 hs _ _
  · rw [if_pos (show nI (N 1) < (10 : Int32) from nI_lt (b := 10) (by omega) (by decide)), if_pos lt, if_neg (show ¬ nI (N 1) = (10 : Int32) from fun z => full ((nI_eq (b := 10) (by omega) (by decide)).mp z))]
    obtain ⟨u1, v1, a1, a2, b1, e1, k1, w1, m1, a3, a4, a5, a6⟩ := h.go (by omega)
    have X1 := hX.rd hs a5 a6
    rw [zb_eq (show Co_passFirst 0 u = _ from passFirst_0 a1), zb_eq a2]
    obtain ⟨X, x1, z, u2, v2, i1, i2⟩ := a3.told X1.2.2.2.2 hs (by decide) (s := 0) (by decide)
    rw [zb_eq (show Ta_passTold (s + 1) u1 = some (z, u2) from i1), zb_eq (show Mo_placeNamed 1 v1 = some (X, v1) from x1)]
    rcases i2 with ⟨i2, ⟨a, j1, j2, j3⟩, b2, e2, k2, w2, m2, i7, i8, i9, i10⟩ | ⟨i2, x, z1, z2, z3, z4⟩
    · have j1 : a < N 0 := j1
      have P2 : Fr rdC u u2 := a5.tr i9
      have Q2 : Fr rdM v v2 := a6.tr i10
      have X2 := hX.rd hs P2 Q2
      have hb2 : gI u2 2 3 = nI b2 := i7.2.1.2.2.2.1.1
      have hb2c : b2 ≤ c := Nat.le_trans i7.2.1.1 i7.2.1.2.1
      rw [zb_eq i2, if_neg (show ¬ (1 : Int32) = 0 by decide), j3, zl_e (nI a), hb2, zl_e (nI b2), j2]
      obtain ⟨Y, y1, y2⟩ := i7.found X2.2.2.2.2 hs (by decide) (s := 0) (by decide)
      rw [zb_eq (show Mo_placeNamed 1 v2 = some (Y, v2) from y1)]
      rcases y2 with ⟨d, y3, y4, y5, y6, y7⟩ | ⟨u3, v3, y3, y4, x, z1, z2, z3, z4⟩
      · have y3 : d < N 0 := y3
        have hd7 : d < 2 ^ 31 := by omega
        rw [zb_eq y7, if_neg (show ¬ (1 : Int32) = 0 by decide), show gI (sI v2 1 40 (nI d)) 1 40 = nI d from gs_eq ⟨rfl, rfl⟩]
        have H2 : Fin u2 (sI v2 1 40 (nI d)) c T b2 e2 k2 w2 m2 := i7.fr (fun _ _ _ => rfl) rfl (fun a j q => gs_ne (by omega)) rfl
        have Q2' : Fr rdM v (sI v2 1 40 (nI d)) := Q2.tr (Fr.sI (by unfold rdM; omega))
        -- the class goes on first
        obtain ⟨u3, v3', b3, e3, k3, w3, m3, s1, s2, s3, s4, s5, s6⟩ := H2.step
        have eT : Ta_passTold (s + 1) u2 = some (nI d, u3) := by
          unfold Ta_passTold
          rw [if_pos lT, zb_eq y5, if_neg one_ne, zb_eq (show Na_find (s + 1) (gL u2 2 5) u2 = some (nI d, u2) from y6), if_neg (show ¬ nI d = (-1 : Int32) from mI_ne hd7), zb_eq s1]
        have P3 : Fr rdC u u3 := P2.tr (s5.mono (fun c k => stC_rd))
        rw [zb_eq eT, zb_eq s3.fine, if_neg one_ne]
        have ead : (nI a = nI d) ↔ a = d := nI_eq (by omega) (by omega)
        have again : ∀ F : Option (Int32 × zM), F = zb (Mo_fails 3 (sI v2 1 40 (nI d))) (fun c6 u6 => zbo c6 u6) → CtQ u v s c T b (Co_readStream_65 s (nI a) (nI b2) (nI d) u3) F := by
          intro F hF
          rw [hF]
          obtain ⟨f1, f2, f3⟩ := H2.fail (j := 3) (by decide) (by decide)
          obtain ⟨g1, g2⟩ := s3.failAt (j := 3) (z := b2) (by decide) (by decide) (by omega)
          refine ⟨_, _, ?_, Or.inr ⟨by rw [zb_eq (show Mo_fails 3 (sI v2 1 40 (nI d)) = _ from f2)]; rfl, _, g2, gs_eq ⟨rfl, rfl⟩, (P3.mono (fun c k => rdC_cx)).tr (Fr.sI (A := cxC s) (Or.inl (by unfold rdC; omega))), (Q2'.mono (fun c k => rdM_cx)).tr (Fr.sI (A := cxM) (rdM_cx (by unfold rdM; omega)))⟩⟩
          unfold Co_readStream_65
          rw [if_pos lt, zb_eq (show Ta_failAt 3 (nI b2) u3 = _ from g1)]
          exact strB g2 hs _ _
        by_cases qad : a = d
        · rw [if_pos (ead.mpr qad), if_pos (ead.mpr qad)]
          exact again _ rfl
        · rw [if_neg (fun z => qad (ead.mp z)), if_neg (fun z => qad (ead.mp z))]
          have X3 := hX.rd hs P3 Q2'
          have ha7 := hX.2.1.1 a j1
          have hd7' := hX.2.1.1 d y3
          have pw := pw7 n7
          have eL : Co_isLinked s (nI a) (nI d) u3 = some (bI ((K 0 a).testBit d), u3) := by
            unfold Co_isLinked
            rw [if_pos lt, if_pos (ib_nI (by omega) (by omega)), ix_nI (by omega), (X3.2.2.1.2.1 a j1).1, show ((nI (K 0 a) >>> (nI d &&& 31)) &&& 1) = _ from bn_bit (show K 0 a < 1024 by omega) (show d < 10 by omega)]
            cases (K 0 a).testBit d <;> rfl
          have m9a : gI (sI v2 1 40 (nI d)) 9 (7 + a) = nI (K 0 a) := (X3.2.2.2.1.2.1 a j1).1
          have m9d : gI (sI v2 1 40 (nI d)) 9 (7 + d) = nI (K 0 d) := (X3.2.2.2.1.2.1 d y3).1
          have i14a : ib (nI (7 + a)) 14 = true := ib_nI (by omega) (by omega)
          have i14d : ib (nI (7 + d)) 14 = true := ib_nI (by omega) (by omega)
          rw [zb_eq eL, show (7 : Int32) + nI a = nI (7 + a) from nI_add 7 a, if_pos i14a, ix_nI (show 7 + a < 2 ^ 31 by omega), m9a, show ((nI (K 0 a) >>> (nI d &&& 31)) &&& 1) = _ from bn_bit (show K 0 a < 1024 by omega) (show d < 10 by omega)]
          cases hbit : (K 0 a).testBit d
          · have hbit2 : (K 0 d).testBit a = false := by rw [← ha7.2.2.2 d y3]; exact hbit
            rw [if_pos (show bI false = (0 : Int32) from rfl), if_neg (show ¬ nI false.toNat = (1 : Int32) by decide), if_pos i14a, if_pos i14a, show nI (K 0 a) ||| ((1 : Int32) <<< (nI d &&& 31)) = nI (K 0 a ^^^ 2 ^ d) from (bn_or (show K 0 a < 1024 by omega) (show d < 10 by omega)).trans (by rw [or_xor hbit])]
            rw [zl_e (sI (sI v2 1 40 (nI d)) 9 (7 + a) (nI (K 0 a ^^^ 2 ^ d))), show gI (sI (sI v2 1 40 (nI d)) 9 (7 + a) (nI (K 0 a ^^^ 2 ^ d))) 1 40 = nI d from (gs_ne (by omega)).trans (gs_eq ⟨rfl, rfl⟩), show (7 : Int32) + nI d = nI (7 + d) from nI_add 7 d, if_pos i14d, if_pos i14d, ix_nI (show 7 + d < 2 ^ 31 by omega), show gI (sI (sI v2 1 40 (nI d)) 9 (7 + a) (nI (K 0 a ^^^ 2 ^ d))) 9 (7 + d) = nI (K 0 d) from (gs_ne (by omega)).trans m9d, show nI (K 0 d) ||| ((1 : Int32) <<< (nI a &&& 31)) = nI (K 0 d ^^^ 2 ^ a) from (bn_or (show K 0 d < 1024 by omega) (show a < 10 by omega)).trans (by rw [or_xor hbit2])]
            have mn' : gI (sI (sI (sI v2 1 40 (nI d)) 9 (7 + a) (nI (K 0 a ^^^ 2 ^ d))) 9 (7 + d) (nI (K 0 d ^^^ 2 ^ a))) 3 7 = nI (N 1) := (gs_ne (by omega)).trans ((gs_ne (by omega)).trans ((Q2'.i (by unfold rdM; omega)).trans mn))
            rw [zl_e (sI (sI (sI v2 1 40 (nI d)) 9 (7 + a) (nI (K 0 a ^^^ 2 ^ d))) 9 (7 + d) (nI (K 0 d ^^^ 2 ^ a))), mn', show nI (N 1) + 1 = nI (N 1 + 1) from nI_1 _, zl_e]
            have G : ∀ p q, ¬ ((p = 3 ∧ q = 7) ∨ (p = 9 ∧ (q = 7 + a ∨ q = 7 + d))) → gI (sI (sI (sI (sI v2 1 40 (nI d)) 9 (7 + a) (nI (K 0 a ^^^ 2 ^ d))) 9 (7 + d) (nI (K 0 d ^^^ 2 ^ a))) 3 7 (nI (N 1 + 1))) p q = gI (sI v2 1 40 (nI d)) p q := fun p q z => (gs_ne (by omega)).trans ((gs_ne (by omega)).trans (gs_ne (by omega)))
            have G7 : gI (sI (sI (sI (sI v2 1 40 (nI d)) 9 (7 + a) (nI (K 0 a ^^^ 2 ^ d))) 9 (7 + d) (nI (K 0 d ^^^ 2 ^ a))) 3 7 (nI (N 1 + 1))) 3 7 = nI (N 1 + 1) := gs_eq ⟨rfl, rfl⟩
            have Ga : gI (sI (sI (sI (sI v2 1 40 (nI d)) 9 (7 + a) (nI (K 0 a ^^^ 2 ^ d))) 9 (7 + d) (nI (K 0 d ^^^ 2 ^ a))) 3 7 (nI (N 1 + 1))) 9 (7 + a) = nI (K 0 a ^^^ 2 ^ d) := (gs_ne (by omega)).trans ((gs_ne (by omega)).trans (gs_eq ⟨rfl, rfl⟩))
            have Gd : gI (sI (sI (sI (sI v2 1 40 (nI d)) 9 (7 + a) (nI (K 0 a ^^^ 2 ^ d))) 9 (7 + d) (nI (K 0 d ^^^ 2 ^ a))) 3 7 (nI (N 1 + 1))) 9 (7 + d) = nI (K 0 d ^^^ 2 ^ a) := (gs_ne (by omega)).trans (gs_eq ⟨rfl, rfl⟩)
            have GF : Fr cxM (sI v2 1 40 (nI d)) (sI (sI (sI (sI v2 1 40 (nI d)) 9 (7 + a) (nI (K 0 a ^^^ 2 ^ d))) 9 (7 + d) (nI (K 0 d ^^^ 2 ^ a))) 3 7 (nI (N 1 + 1))) := ((Fr.sI (A := cxM) (Or.inr ⟨by decide, by decide, show 7 ≤ 7 + a by omega⟩)).tr (Fr.sI (A := cxM) (Or.inr ⟨by decide, by decide, show 7 ≤ 7 + d by omega⟩))).tr (Fr.sI (A := cxM) (Or.inr ⟨by decide, by decide, show 6 ≤ 7 by decide⟩))
            have GL : ∀ p q, gL (sI (sI (sI (sI v2 1 40 (nI d)) 9 (7 + a) (nI (K 0 a ^^^ 2 ^ d))) 9 (7 + d) (nI (K 0 d ^^^ 2 ^ a))) 3 7 (nI (N 1 + 1))) p q = gL v2 p q := fun p q => rfl
            generalize sI (sI (sI (sI v2 1 40 (nI d)) 9 (7 + a) (nI (K 0 a ^^^ 2 ^ d))) 9 (7 + d) (nI (K 0 d ^^^ 2 ^ a))) 3 7 (nI (N 1 + 1)) = v4 at *
            have H4 : Fin u2 v4 c T b2 e2 k2 w2 m2 := H2.fr (fun _ _ _ => rfl) rfl (fun p q z => G p q (by omega)) (GL 1 7)
            obtain ⟨u3', v5, b4, e4, k4, w4, m4, t1, t2, t3, t4, t5, t6⟩ := H4.step
            have eu : u3' = u3 := by
              rw [s1] at t1
              injection t1 with t1
              injection t1 with _ t1
              exact t1.symm
            subst eu
            rw [zb_eq t2]
            have M5 : Fr cxM v v5 := ((Q2'.mono (fun c k => rdM_cx)).tr GF).tr (t6.mono (fun c k q => rdM_cx (stM_rd q)))
            obtain ⟨u6, v6, p1, p2⟩ := t3.passS
            unfold Co_readStream_71
            rw [if_pos lt, zb_eq p1]
            rcases p2 with ⟨p2, b7, e7, k7, w7, m7, p3, p4, p5, p6⟩ | ⟨p2, x, z1, z2, z3, z4⟩
            · have P6 : Fr rdC u u6 := P3.tr p5
              have lk : LkC u6 s (N 0) (K 0) := ⟨n7, lt, (P6.i (by unfold rdC; omega)).trans hX.2.2.1.1.1, fun p hp => ⟨(P6.i (by unfold rdC; omega)).trans (hX.2.2.1.2.1 p hp).1, by have := (hX.2.1.1 p hp).1; omega⟩⟩
              have ef := Co_flipLink_eq lk qad j1 y3
              have c15 : gI (flC u6 (s + 10) (K 0) a d) s 15 = nI (N 1) := by
                unfold flC
                exact (gs_ne (by omega)).trans ((gs_ne (by omega)).trans ((P6.i (by unfold rdC; omega)).trans cn))
              have be : b < b2 := by omega
              have hb4 : b2 < b4 := by have := H4.2.1.2.2.2.2.2.2.2.1 (by omega); omega
              refine ⟨sI (flC u6 (s + 10) (K 0) a d) s 15 (nI (N 1 + 1)), v6, ?_, Or.inl ⟨by rw [zb_eq p2]; rfl, ?_, b7, e7, k7, w7, m7, p3.fr (fun p q z => by unfold flC; exact (gs_ne (by omega)).trans ((gs_ne (by omega)).trans (gs_ne (by omega)))) rfl (fun _ _ _ => rfl) rfl, by omega, ?_, M5.tr (p6.mono (fun c k => rdM_cx))⟩⟩
              · rw [zb_eq p3.fine, if_neg one_ne, zb_eq ef, c15, show nI (N 1) + 1 = nI (N 1 + 1) from nI_1 _, zl_e]
              · refine hX.stream (a := a) (b := d) (by omega) j1 y3 qad (fun p q h1 h2 z => ?_) (fun p q h1 h2 => ?_) (fun p q h1 h2 z => (p6.i (by unfold rdM; omega)).trans ((t6.i (by unfold stM; omega)).trans ((G p q (by omega)).trans (Q2'.i (by unfold rdM; omega))))) (fun p q h1 h2 => (p6.l (by unfold rdM; omega)).trans ((t6.l (by unfold stM; omega)).trans ((GL p q).trans (Q2.l (by unfold rdM; omega))))) (gs_eq ⟨rfl, rfl⟩) ?_ ?_ ((p6.i (by unfold rdM; omega)).trans ((t6.i (by unfold stM; omega)).trans G7)) ((p6.i (by unfold rdM; omega)).trans ((t6.i (by unfold stM; omega)).trans Ga)) ((p6.i (by unfold rdM; omega)).trans ((t6.i (by unfold stM; omega)).trans Gd))
                · unfold flC
                  exact (gs_ne (by omega)).trans ((gs_ne (by omega)).trans ((gs_ne (by omega)).trans (P6.i (by unfold rdC; omega))))
                · exact P6.l (by unfold rdC; omega)
                · unfold flC
                  exact (gs_ne (by omega)).trans ((gs_ne (by omega)).trans (gs_eq ⟨rfl, rfl⟩))
                · unfold flC
                  exact (gs_ne (by omega)).trans (gs_eq ⟨rfl, rfl⟩)
              · unfold flC
                exact (((P6.mono (fun c k => rdC_cx)).tr (Fr.sI (A := cxC s) (Or.inr ⟨by omega, by omega⟩))).tr (Fr.sI (A := cxC s) (Or.inr ⟨by omega, by omega⟩))).tr (Fr.sI (A := cxC s) (Or.inr ⟨by omega, by omega⟩))
            · refine ⟨u6, v6, ?_, Or.inr ⟨by rw [zb_eq p2]; rfl, x, z1, z2, (P3.tr z3).mono (fun c k => rdC_cx), M5.tr (z4.mono (fun c k => rdM_cx))⟩⟩
              rw [zb_eq z1.fine, if_pos (show nI 0 = (0 : Int32) from rfl)]
          · rw [if_neg bIt_ne, if_pos (show nI true.toNat = (1 : Int32) from rfl)]
            exact again _ rfl
      · refine ⟨u3, v3, ?_, Or.inr ⟨by rw [zb_eq y4, if_pos rfl], x, z1, z2, (P2.tr z3).mono (fun c k => rdC_cx), (Q2.tr z4).mono (fun c k => rdM_cx)⟩⟩
        rw [zb_eq (show Ta_passTold (s + 1) u2 = some (-1, u3) from y3), zb_eq z1.fine, if_pos (show nI 0 = (0 : Int32) from rfl)]
        exact strB z1 hs _ _
    · refine ⟨u2, v2, ?_, Or.inr ⟨by rw [zb_eq i2, if_pos rfl], x, z1, z2, (a5.tr z3).mono (fun c k => rdC_cx), (a6.tr z4).mono (fun c k => rdM_cx)⟩⟩
      rw [zl_e, zb_eq (z1.told lT), zb_eq z1.fine, if_pos (show nI 0 = (0 : Int32) from rfl)]
      exact strB z1 hs _ _
