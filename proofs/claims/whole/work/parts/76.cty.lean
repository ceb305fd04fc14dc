/-! ===== a county being read ===== -/
def CtyO (v : zM) (N : Nat → Nat) (K : Nat → Nat → Nat) : Prop :=
  (∀ i, i < 6 → gI v 3 (6 + i) = nI (N i)) ∧ (∀ p, p < N 0 → gI v 9 (7 + p) = nI (K 0 p) ∧ gI v 8 (7 + p) = nI (K 6 p)) ∧ (∀ q, q < N 2 → gI v 10 (5 + q) = nI (K 1 q) ∧ gI v 11 (5 + q) = nI (K 7 q)) ∧
  (∀ o, o < N 3 → gI v 13 (3 + o) = nI (K 2 o) ∧ gI v 12 (3 + o) = nI (K 8 o)) ∧ (∀ w, w < N 4 → gI v 14 (6 + w) = nI (K 3 w) ∧ gI v 15 (6 + w) = nI (K 4 w)) ∧ ∀ i, i < N 5 → gI v 16 (12 + i) = nI (K 5 i)
def CtX (u v : zM) (s : Nat) (N : Nat → Nat) (K : Nat → Nat → Nat) (nm : Nat → Nat → List Nat) : Prop := WfN N ∧ WfK N K ∧ CtyC u s N K ∧ CtyO v N K ∧ NmR u v s 1 N nm
def ctC (s : Nat) (c k : Nat) : Prop := rdC c k ∨ (s ≤ c ∧ c ≤ s + 20)
def ctM (c k : Nat) : Prop := rdM c k ∨ (c = 1 ∧ k = 27) ∨ (c = 3 ∧ 6 ≤ k) ∨ ((c = 4 ∨ c = 8 ∨ c = 9) ∧ 7 ≤ k) ∨ ((c = 5 ∨ c = 10 ∨ c = 11) ∧ 5 ≤ k) ∨ ((c = 6 ∨ c = 12 ∨ c = 13) ∧ 3 ≤ k) ∨ ((c = 7 ∨ c = 14 ∨ c = 15) ∧ 6 ≤ k) ∨ (c = 16 ∧ 12 ≤ k) ∨ ((c = 17 ∨ c = 18) ∧ k = 1) ∨ (c = 19 ∧ 1000 ≤ k) ∨ (20 ≤ c ∧ c ≤ 21)
theorem CtyO.fr {v v' : zM} {N : Nat → Nat} {K : Nat → Nat → Nat} (h : CtyO v N K) (hv : ∀ c k, 3 ≤ c → c ≤ 16 → gI v' c k = gI v c k) : CtyO v' N K := by
  obtain ⟨a1, a2, a3, a4, a5, a6⟩ := h
  exact ⟨fun i hi => (hv _ _ (by omega) (by omega)).trans (a1 i hi), fun p hp => ⟨(hv _ _ (by omega) (by omega)).trans (a2 p hp).1, (hv _ _ (by omega) (by omega)).trans (a2 p hp).2⟩, fun p hp => ⟨(hv _ _ (by omega) (by omega)).trans (a3 p hp).1, (hv _ _ (by omega) (by omega)).trans (a3 p hp).2⟩, fun p hp => ⟨(hv _ _ (by omega) (by omega)).trans (a4 p hp).1, (hv _ _ (by omega) (by omega)).trans (a4 p hp).2⟩, fun p hp => ⟨(hv _ _ (by omega) (by omega)).trans (a5 p hp).1, (hv _ _ (by omega) (by omega)).trans (a5 p hp).2⟩, fun i hi => (hv _ _ (by omega) (by omega)).trans (a6 i hi)⟩
theorem CtX.fr {u u' v v' : zM} {s : Nat} {N : Nat → Nat} {K : Nat → Nat → Nat} {nm : Nat → Nat → List Nat} (h : CtX u v s N K nm) (hu : ∀ c k, s ≤ c → c ≤ s + 17 → gI u' c k = gI u c k ∧ gL u' c k = gL u c k) (hv : ∀ c k, 3 ≤ c → c ≤ 16 → gI v' c k = gI v c k ∧ gL v' c k = gL v c k) : CtX u' v' s N K nm := ⟨h.1, h.2.1, h.2.2.1.fr (fun a k q => (hu _ _ q.1 q.2).1), h.2.2.2.1.fr (fun c k h1 h2 => (hv c k h1 h2).1), h.2.2.2.2.fr (fun c k h1 h2 => hu _ _ h1 (by omega)) (fun c k h1 h2 => hv _ _ h1 (by omega))⟩
theorem CtX.rd {u u' v v' : zM} {s : Nat} {N : Nat → Nat} {K : Nat → Nat → Nat} {nm : Nat → Nat → List Nat} (h : CtX u v s N K nm) (hs : s = 4 ∨ s = 25) (hu : Fr rdC u u') (hv : Fr rdM v v') : CtX u' v' s N K nm := h.fr (fun c k h1 h2 => ⟨hu.i (by unfold rdC; omega), hu.l (by unfold rdC; omega)⟩) (fun c k h1 h2 => ⟨hv.i (by unfold rdM; omega), hv.l (by unfold rdM; omega)⟩)
def upK (K : Nat → Nat → Nat) (i p x : Nat) : Nat → Nat → Nat := fun a b => if a = i ∧ b = p then x else K a b
theorem upK_eq {K : Nat → Nat → Nat} {i p x : Nat} : upK K i p x i p = x := if_pos ⟨rfl, rfl⟩
theorem upK_i {K : Nat → Nat → Nat} {i p x a b : Nat} (h : a ≠ i) : upK K i p x a b = K a b := if_neg (fun q => h q.1)
theorem upK_p {K : Nat → Nat → Nat} {i p x a b : Nat} (h : b ≠ p) : upK K i p x a b = K a b := if_neg (fun q => h q.2)
theorem CtX.place {u u' v v' : zM} {s n x y : Nat} {N : Nat → Nat} {K : Nat → Nat → Nat} {nm : Nat → Nat → List Nat} {w : List Nat} (h : CtX u v s N K nm) (hn : N 0 = n) (hlt : n < 7) (hx : x ≤ 9) (hy : y = 0) (hw : WfD w)
    (hu : ∀ c k, s ≤ c → c ≤ s + 17 → ¬ ((c = s + 1 ∧ k = 1) ∨ (c = s + 2 ∧ k = n) ∨ (c = s + 9 ∧ k = n) ∨ (c = s + 10 ∧ k = n)) → gI u' c k = gI u c k ∧ gL u' c k = gL u c k)
    (hv : ∀ c k, 3 ≤ c → c ≤ 16 → ¬ ((c = 3 ∧ k = 6) ∨ (c = 4 ∧ k = 7 + n) ∨ (c = 8 ∧ k = 7 + n) ∨ (c = 9 ∧ k = 7 + n)) → gI v' c k = gI v c k ∧ gL v' c k = gL v c k)
    (c1 : gI u' (s + 1) 1 = nI (n + 1)) (c2 : gL u' (s + 2) n = wd256 w) (c3 : gI u' (s + 9) n = nI x) (c4 : gI u' (s + 10) n = nI y)
    (m1 : gI v' 3 6 = nI (n + 1)) (m2 : gL v' 4 (7 + n) = wd27 w) (m3 : gI v' 8 (7 + n) = nI x) (m4 : gI v' 9 (7 + n) = nI y) : ∃ N' K' nm', CtX u' v' s N' K' nm' := by
  obtain ⟨⟨n0, n1, n2, n3, n4, n5⟩, ⟨k0, k1, k2, k3, k4⟩, ⟨⟨e0, e1, e2, e3, e4, e5⟩, cp, cq, co, cw, ci⟩, ⟨o1, op, oq, oo, ow, oi⟩, ⟨r1, r2⟩⟩ := h
  subst hy
  refine ⟨upN N 0 (n + 1), upK (upK K 6 n x) 0 n 0, fun a i => if a = 0 ∧ i = n then w else nm a i, ?_, ?_, ?_, ?_, ?_⟩
  · exact ⟨by rw [upN_eq]; omega, by rw [upN_ne (by decide)]; omega, by rw [upN_ne (by decide)]; omega, by rw [upN_ne (by decide)]; omega, by rw [upN_ne (by decide)]; omega, by rw [upN_ne (by decide)]; omega⟩
  · refine ⟨fun p hp => ?_, fun q hq => ?_, fun o ho => ?_, fun z hz => ?_, fun i hi => ?_⟩
    · rw [upN_eq] at hp
      rw [upN_eq]
      have hb : ∀ q, q < N 0 → (K 0 q).testBit n = false := fun q hq => Nat.testBit_lt_two_pow (by have := (k0 q hq).1; rwa [hn] at this)
      have h0 : ∀ q, q ≠ n → upK (upK K 6 n x) 0 n 0 0 q = K 0 q := fun q hq => by rw [upK_p hq, upK_i (by decide)]
      have h6 : ∀ q, q ≠ n → upK (upK K 6 n x) 0 n 0 6 q = K 6 q := fun q hq => by rw [upK_i (by decide), upK_p hq]
      by_cases e : p = n
      · subst e
        rw [upK_eq, upK_i (by decide), upK_eq]
        refine ⟨Nat.two_pow_pos _, hx, Nat.zero_testBit _, fun q hq => ?_⟩
        by_cases f : q = p
        · subst f
          rw [upK_eq]
        · rw [h0 q f, hb q (by omega), Nat.zero_testBit]
      · rw [h0 p e, h6 p e]
        obtain ⟨g1, g2, g3, g4⟩ := k0 p (by omega)
        refine ⟨Nat.lt_trans g1 (by rw [hn]; exact Nat.pow_lt_pow_right (by decide) (by omega)), g2, g3, fun q hq => ?_⟩
        by_cases f : q = n
        · subst f
          rw [upK_eq, Nat.zero_testBit]
          exact hb p (by omega)
        · rw [h0 q f]
          exact g4 q (by omega)
    · rw [upN_ne (by decide)] at hq
      have g := k1 q hq
      rw [upK_i (by decide), upK_i (by decide), upK_i (by decide), upK_i (by decide)]
      rw [upN_eq]
      exact ⟨g.1, by omega⟩
    · rw [upN_ne (by decide)] at ho
      have g := k2 o ho
      rw [upK_i (by decide), upK_i (by decide), upK_i (by decide), upK_i (by decide)]
      rw [upN_eq]
      exact ⟨g.1, g.2.1, by omega⟩
    · rw [upN_ne (by decide)] at hz
      have g := k3 z hz
      rw [upK_i (by decide), upK_i (by decide), upK_i (by decide), upK_i (by decide)]
      rw [upN_ne (by decide)]
      exact g
    · rw [upN_ne (by decide)] at hi
      rw [upK_i (by decide), upK_i (by decide)]
      exact k4 i hi
  · refine ⟨⟨(by rw [upN_eq]; exact c1), (by rw [upN_ne (by decide)]; exact (hu _ _ (by omega) (by omega) (by omega)).1.trans e1), (by rw [upN_ne (by decide)]; exact (hu _ _ (by omega) (by omega) (by omega)).1.trans e2), (by rw [upN_ne (by decide)]; exact (hu _ _ (by omega) (by omega) (by omega)).1.trans e3), (by rw [upN_ne (by decide)]; exact (hu _ _ (by omega) (by omega) (by omega)).1.trans e4), (by rw [upN_ne (by decide)]; exact (hu _ _ (by omega) (by omega) (by omega)).1.trans e5)⟩, fun p hp => ?_, fun p hp => ?_, fun p hp => ?_, fun p hp => ?_, fun p hp => ?_⟩
    · rw [upN_eq] at hp
      by_cases e : p = n
      · subst e
        exact ⟨by rw [upK_eq]; exact c4, by rw [upK_i (show (6 : Nat) ≠ 0 by decide), upK_eq]; exact c3⟩
      · rw [upK_p e, upK_p e, upK_p e, upK_p e]
        exact ⟨(hu _ _ (by omega) (by omega) (by omega)).1.trans (cp p (by omega)).1, (hu _ _ (by omega) (by omega) (by omega)).1.trans (cp p (by omega)).2⟩
    · rw [upN_ne (by decide)] at hp
      rw [upK_i (by decide), upK_i (by decide), upK_i (by decide), upK_i (by decide)]
      exact ⟨(hu _ _ (by omega) (by omega) (by omega)).1.trans (cq p hp).1, (hu _ _ (by omega) (by omega) (by omega)).1.trans (cq p hp).2⟩
    · rw [upN_ne (by decide)] at hp
      rw [upK_i (by decide), upK_i (by decide), upK_i (by decide), upK_i (by decide)]
      exact ⟨(hu _ _ (by omega) (by omega) (by omega)).1.trans (co p hp).1, (hu _ _ (by omega) (by omega) (by omega)).1.trans (co p hp).2⟩
    · rw [upN_ne (by decide)] at hp
      rw [upK_i (by decide), upK_i (by decide), upK_i (by decide), upK_i (by decide)]
      exact ⟨(hu _ _ (by omega) (by omega) (by omega)).1.trans (cw p hp).1, (hu _ _ (by omega) (by omega) (by omega)).1.trans (cw p hp).2⟩
    · rw [upN_ne (by decide)] at hp
      rw [upK_i (by decide), upK_i (by decide)]
      exact (hu _ _ (by omega) (by omega) (by omega)).1.trans (ci p hp)
  · refine ⟨fun i hi => ?_, fun p hp => ?_, fun p hp => ?_, fun p hp => ?_, fun p hp => ?_, fun p hp => ?_⟩
    · by_cases e : i = 0
      · subst e
        rw [upN_eq]
        exact m1
      · rw [upN_ne e]
        exact (hv _ _ (by omega) (by omega) (by omega)).1.trans (o1 i hi)
    · rw [upN_eq] at hp
      by_cases e : p = n
      · subst e
        exact ⟨by rw [upK_eq]; exact m4, by rw [upK_i (show (6 : Nat) ≠ 0 by decide), upK_eq]; exact m3⟩
      · rw [upK_p e, upK_p e, upK_p e, upK_p e]
        exact ⟨(hv _ _ (by omega) (by omega) (by omega)).1.trans (op p (by omega)).1, (hv _ _ (by omega) (by omega) (by omega)).1.trans (op p (by omega)).2⟩
    · rw [upN_ne (by decide)] at hp
      rw [upK_i (by decide), upK_i (by decide), upK_i (by decide), upK_i (by decide)]
      exact ⟨(hv _ _ (by omega) (by omega) (by omega)).1.trans (oq p hp).1, (hv _ _ (by omega) (by omega) (by omega)).1.trans (oq p hp).2⟩
    · rw [upN_ne (by decide)] at hp
      rw [upK_i (by decide), upK_i (by decide), upK_i (by decide), upK_i (by decide)]
      exact ⟨(hv _ _ (by omega) (by omega) (by omega)).1.trans (oo p hp).1, (hv _ _ (by omega) (by omega) (by omega)).1.trans (oo p hp).2⟩
    · rw [upN_ne (by decide)] at hp
      rw [upK_i (by decide), upK_i (by decide), upK_i (by decide), upK_i (by decide)]
      exact ⟨(hv _ _ (by omega) (by omega) (by omega)).1.trans (ow p hp).1, (hv _ _ (by omega) (by omega) (by omega)).1.trans (ow p hp).2⟩
    · rw [upN_ne (by decide)] at hp
      rw [upK_i (by decide), upK_i (by decide)]
      exact (hv _ _ (by omega) (by omega) (by omega)).1.trans (oi p hp)
  · refine ⟨fun a ha => ?_, fun a ha i hi => ?_⟩
    · have h4 : a = 0 ∨ a = 1 ∨ a = 2 ∨ a = 3 := by omega
      rcases h4 with rfl | rfl | rfl | rfl
      · exact ⟨by rw [show upN N 0 (n + 1) (nS 0) = n + 1 from upN_eq]; exact c1, by rw [show upN N 0 (n + 1) (nS 0) = n + 1 from upN_eq]; exact m1, by rw [show upN N 0 (n + 1) (nS 0) = n + 1 from upN_eq]; exact hlt⟩
      · obtain ⟨q1, q2, q3⟩ := r1 1 (by decide)
        have z : upN N 0 (n + 1) (nS 1) = N 2 := upN_ne (by decide)
        rw [z]
        exact ⟨(hu _ _ (by omega) (by omega) (by omega)).1.trans q1, (hv 3 8 (by omega) (by omega) (by omega)).1.trans q2, q3⟩
      · obtain ⟨q1, q2, q3⟩ := r1 2 (by decide)
        have z : upN N 0 (n + 1) (nS 2) = N 3 := upN_ne (by decide)
        rw [z]
        exact ⟨(hu _ _ (by omega) (by omega) (by omega)).1.trans q1, (hv 3 9 (by omega) (by omega) (by omega)).1.trans q2, q3⟩
      · obtain ⟨q1, q2, q3⟩ := r1 3 (by decide)
        have z : upN N 0 (n + 1) (nS 3) = N 4 := upN_ne (by decide)
        rw [z]
        exact ⟨(hu _ _ (by omega) (by omega) (by omega)).1.trans q1, (hv 3 10 (by omega) (by omega) (by omega)).1.trans q2, q3⟩
    · have h4 : a = 0 ∨ a = 1 ∨ a = 2 ∨ a = 3 := by omega
      rcases h4 with rfl | rfl | rfl | rfl
      · have hi : i < n + 1 := by rw [show upN N 0 (n + 1) (nS 0) = n + 1 from upN_eq] at hi; exact hi
        by_cases e : i = n
        · subst e
          show WfD (if (0 : Nat) = 0 ∧ i = i then w else nm 0 i) ∧ gL u' (s + 2 + 2 * 0) i = wd256 (if (0 : Nat) = 0 ∧ i = i then w else nm 0 i) ∧ _ = wd27 (if (0 : Nat) = 0 ∧ i = i then w else nm 0 i)
          rw [if_pos ⟨rfl, rfl⟩]
          exact ⟨hw, c2, m2⟩
        · have z : ¬ ((0 : Nat) = 0 ∧ i = n) := fun q => e q.2
          show WfD (if (0 : Nat) = 0 ∧ i = n then w else nm 0 i) ∧ gL u' (s + 2 + 2 * 0) i = wd256 (if (0 : Nat) = 0 ∧ i = n then w else nm 0 i) ∧ _ = wd27 (if (0 : Nat) = 0 ∧ i = n then w else nm 0 i)
          rw [if_neg z]
          obtain ⟨q1, q2, q3⟩ := r2 0 (by decide) i (show i < N 0 by omega)
          exact ⟨q1, (hu _ _ (by omega) (by omega) (by omega)).2.trans q2, (hv 4 (7 * 1 + i) (by omega) (by omega) (by omega)).2.trans q3⟩
      · have z : ¬ ((1 : Nat) = 0 ∧ i = n) := fun q => absurd q.1 (by decide)
        simp only [if_neg z]
        obtain ⟨q1, q2, q3⟩ := r2 1 (by decide) i (by rw [show upN N 0 (n + 1) (nS 1) = N 2 from upN_ne (by decide)] at hi; exact hi)
        exact ⟨q1, (hu _ _ (by omega) (by omega) (by omega)).2.trans q2, (hv 5 (5 * 1 + i) (by omega) (by omega) (by omega)).2.trans q3⟩
      · have z : ¬ ((2 : Nat) = 0 ∧ i = n) := fun q => absurd q.1 (by decide)
        simp only [if_neg z]
        obtain ⟨q1, q2, q3⟩ := r2 2 (by decide) i (by rw [show upN N 0 (n + 1) (nS 2) = N 3 from upN_ne (by decide)] at hi; exact hi)
        exact ⟨q1, (hu _ _ (by omega) (by omega) (by omega)).2.trans q2, (hv 6 (3 * 1 + i) (by omega) (by omega) (by omega)).2.trans q3⟩
      · have z : ¬ ((3 : Nat) = 0 ∧ i = n) := fun q => absurd q.1 (by decide)
        simp only [if_neg z]
        obtain ⟨q1, q2, q3⟩ := r2 3 (by decide) i (by rw [show upN N 0 (n + 1) (nS 3) = N 4 from upN_ne (by decide)] at hi; exact hi)
        exact ⟨q1, (hu _ _ (by omega) (by omega) (by omega)).2.trans q2, (hv 7 (6 * 1 + i) (by omega) (by omega) (by omega)).2.trans q3⟩
theorem CtX.person {u u' v v' : zM} {s n x y : Nat} {N : Nat → Nat} {K : Nat → Nat → Nat} {nm : Nat → Nat → List Nat} {w : List Nat} (h : CtX u v s N K nm) (hn : N 2 = n) (hlt : n < 5) (hx : x ≤ 3) (hy : y < N 0) (hw : WfD w)
    (hu : ∀ c k, s ≤ c → c ≤ s + 17 → ¬ ((c = s + 3 ∧ k = 1) ∨ (c = s + 4 ∧ k = n) ∨ (c = s + 11 ∧ k = n) ∨ (c = s + 12 ∧ k = n)) → gI u' c k = gI u c k ∧ gL u' c k = gL u c k)
    (hv : ∀ c k, 3 ≤ c → c ≤ 16 → ¬ ((c = 3 ∧ k = 8) ∨ (c = 5 ∧ k = 5 + n) ∨ (c = 10 ∧ k = 5 + n) ∨ (c = 11 ∧ k = 5 + n)) → gI v' c k = gI v c k ∧ gL v' c k = gL v c k)
    (c1 : gI u' (s + 3) 1 = nI (n + 1)) (c2 : gL u' (s + 4) n = wd256 w) (c3 : gI u' (s + 11) n = nI x) (c4 : gI u' (s + 12) n = nI y)
    (m1 : gI v' 3 8 = nI (n + 1)) (m2 : gL v' 5 (5 + n) = wd27 w) (m3 : gI v' 10 (5 + n) = nI x) (m4 : gI v' 11 (5 + n) = nI y) : ∃ N' K' nm', CtX u' v' s N' K' nm' := by
  obtain ⟨⟨n0, n1, n2, n3, n4, n5⟩, ⟨k0, k1, k2, k3, k4⟩, ⟨⟨e0, e1, e2, e3, e4, e5⟩, cp, cq, co, cw, ci⟩, ⟨o1, op, oq, oo, ow, oi⟩, ⟨r1, r2⟩⟩ := h
  refine ⟨upN N 2 (n + 1), upK (upK K 1 n x) 7 n y, fun a i => if a = 1 ∧ i = n then w else nm a i, ?_, ?_, ?_, ?_, ?_⟩
  · exact ⟨by rw [upN_ne (by decide)]; omega, by rw [upN_ne (by decide)]; omega, by rw [upN_eq]; omega, by rw [upN_ne (by decide)]; omega, by rw [upN_ne (by decide)]; omega, by rw [upN_ne (by decide)]; omega⟩
  · refine ⟨fun p hp => ?_, fun q hq => ?_, fun o ho => ?_, fun z hz => ?_, fun i hi => ?_⟩
    · rw [upN_ne (by decide)] at hp ⊢
      have h0 : ∀ q, upK (upK K 1 n x) 7 n y 0 q = K 0 q := fun q => by rw [upK_i (by decide), upK_i (by decide)]
      rw [h0, upK_i (by decide), upK_i (by decide)]
      obtain ⟨g1, g2, g3, g4⟩ := k0 p hp
      exact ⟨g1, g2, g3, fun q hq => by rw [h0]; exact g4 q hq⟩
    · rw [upN_eq] at hq
      simp only [upN_ne (show (0 : Nat) ≠ 2 by decide)]
      by_cases e : q = n
      · subst e
        rw [upK_i (show (1 : Nat) ≠ 7 by decide), upK_eq, upK_eq]
        exact ⟨hx, hy⟩
      · rw [upK_p e, upK_p e, upK_p e, upK_p e]
        exact k1 q (by omega)
    · rw [upN_ne (by decide)] at ho
      have g := k2 o ho
      rw [upK_i (by decide), upK_i (by decide), upK_i (by decide), upK_i (by decide)]
      rw [upN_ne (by decide)]
      exact g
    · rw [upN_ne (by decide)] at hz
      have g := k3 z hz
      rw [upK_i (by decide), upK_i (by decide), upK_i (by decide), upK_i (by decide)]
      rw [upN_eq]
      exact ⟨by omega, g.2⟩
    · rw [upN_ne (by decide)] at hi
      rw [upK_i (by decide), upK_i (by decide)]
      exact k4 i hi
  · refine ⟨⟨(by rw [upN_ne (by decide)]; exact (hu _ _ (by omega) (by omega) (by omega)).1.trans e0), (by rw [upN_ne (by decide)]; exact (hu _ _ (by omega) (by omega) (by omega)).1.trans e1), (by rw [upN_eq]; exact c1), (by rw [upN_ne (by decide)]; exact (hu _ _ (by omega) (by omega) (by omega)).1.trans e3), (by rw [upN_ne (by decide)]; exact (hu _ _ (by omega) (by omega) (by omega)).1.trans e4), (by rw [upN_ne (by decide)]; exact (hu _ _ (by omega) (by omega) (by omega)).1.trans e5)⟩, fun p hp => ?_, fun p hp => ?_, fun p hp => ?_, fun p hp => ?_, fun p hp => ?_⟩
    · rw [upN_ne (by decide)] at hp
      rw [upK_i (by decide), upK_i (by decide), upK_i (by decide), upK_i (by decide)]
      exact ⟨(hu _ _ (by omega) (by omega) (by omega)).1.trans (cp p hp).1, (hu _ _ (by omega) (by omega) (by omega)).1.trans (cp p hp).2⟩
    · rw [upN_eq] at hp
      by_cases e : p = n
      · subst e
        exact ⟨by rw [upK_i (show (1 : Nat) ≠ 7 by decide), upK_eq]; exact c3, by rw [upK_eq]; exact c4⟩
      · rw [upK_p e, upK_p e, upK_p e, upK_p e]
        exact ⟨(hu _ _ (by omega) (by omega) (by omega)).1.trans (cq p (by omega)).1, (hu _ _ (by omega) (by omega) (by omega)).1.trans (cq p (by omega)).2⟩
    · rw [upN_ne (by decide)] at hp
      rw [upK_i (by decide), upK_i (by decide), upK_i (by decide), upK_i (by decide)]
      exact ⟨(hu _ _ (by omega) (by omega) (by omega)).1.trans (co p hp).1, (hu _ _ (by omega) (by omega) (by omega)).1.trans (co p hp).2⟩
    · rw [upN_ne (by decide)] at hp
      rw [upK_i (by decide), upK_i (by decide), upK_i (by decide), upK_i (by decide)]
      exact ⟨(hu _ _ (by omega) (by omega) (by omega)).1.trans (cw p hp).1, (hu _ _ (by omega) (by omega) (by omega)).1.trans (cw p hp).2⟩
    · rw [upN_ne (by decide)] at hp
      rw [upK_i (by decide), upK_i (by decide)]
      exact (hu _ _ (by omega) (by omega) (by omega)).1.trans (ci p hp)
  · refine ⟨fun i hi => ?_, fun p hp => ?_, fun p hp => ?_, fun p hp => ?_, fun p hp => ?_, fun p hp => ?_⟩
    · by_cases e : i = 2
      · subst e
        rw [upN_eq]
        exact m1
      · rw [upN_ne e]
        exact (hv _ _ (by omega) (by omega) (by omega)).1.trans (o1 i hi)
    · rw [upN_ne (by decide)] at hp
      rw [upK_i (by decide), upK_i (by decide), upK_i (by decide), upK_i (by decide)]
      exact ⟨(hv _ _ (by omega) (by omega) (by omega)).1.trans (op p hp).1, (hv _ _ (by omega) (by omega) (by omega)).1.trans (op p hp).2⟩
    · rw [upN_eq] at hp
      by_cases e : p = n
      · subst e
        exact ⟨by rw [upK_i (show (1 : Nat) ≠ 7 by decide), upK_eq]; exact m3, by rw [upK_eq]; exact m4⟩
      · rw [upK_p e, upK_p e, upK_p e, upK_p e]
        exact ⟨(hv _ _ (by omega) (by omega) (by omega)).1.trans (oq p (by omega)).1, (hv _ _ (by omega) (by omega) (by omega)).1.trans (oq p (by omega)).2⟩
    · rw [upN_ne (by decide)] at hp
      rw [upK_i (by decide), upK_i (by decide), upK_i (by decide), upK_i (by decide)]
      exact ⟨(hv _ _ (by omega) (by omega) (by omega)).1.trans (oo p hp).1, (hv _ _ (by omega) (by omega) (by omega)).1.trans (oo p hp).2⟩
    · rw [upN_ne (by decide)] at hp
      rw [upK_i (by decide), upK_i (by decide), upK_i (by decide), upK_i (by decide)]
      exact ⟨(hv _ _ (by omega) (by omega) (by omega)).1.trans (ow p hp).1, (hv _ _ (by omega) (by omega) (by omega)).1.trans (ow p hp).2⟩
    · rw [upN_ne (by decide)] at hp
      rw [upK_i (by decide), upK_i (by decide)]
      exact (hv _ _ (by omega) (by omega) (by omega)).1.trans (oi p hp)
  · refine ⟨fun a ha => ?_, fun a ha i hi => ?_⟩
    · have h4 : a = 0 ∨ a = 1 ∨ a = 2 ∨ a = 3 := by omega
      rcases h4 with rfl | rfl | rfl | rfl
      · obtain ⟨q1, q2, q3⟩ := r1 0 (by decide)
        have z : upN N 2 (n + 1) (nS 0) = N 0 := upN_ne (by decide)
        rw [z]
        exact ⟨(hu _ _ (by omega) (by omega) (by omega)).1.trans q1, (hv 3 6 (by omega) (by omega) (by omega)).1.trans q2, q3⟩
      · exact ⟨by rw [show upN N 2 (n + 1) (nS 1) = n + 1 from upN_eq]; exact c1, by rw [show upN N 2 (n + 1) (nS 1) = n + 1 from upN_eq]; exact m1, by rw [show upN N 2 (n + 1) (nS 1) = n + 1 from upN_eq]; exact hlt⟩
      · obtain ⟨q1, q2, q3⟩ := r1 2 (by decide)
        have z : upN N 2 (n + 1) (nS 2) = N 3 := upN_ne (by decide)
        rw [z]
        exact ⟨(hu _ _ (by omega) (by omega) (by omega)).1.trans q1, (hv 3 9 (by omega) (by omega) (by omega)).1.trans q2, q3⟩
      · obtain ⟨q1, q2, q3⟩ := r1 3 (by decide)
        have z : upN N 2 (n + 1) (nS 3) = N 4 := upN_ne (by decide)
        rw [z]
        exact ⟨(hu _ _ (by omega) (by omega) (by omega)).1.trans q1, (hv 3 10 (by omega) (by omega) (by omega)).1.trans q2, q3⟩
    · have h4 : a = 0 ∨ a = 1 ∨ a = 2 ∨ a = 3 := by omega
      rcases h4 with rfl | rfl | rfl | rfl
      · have z : ¬ ((0 : Nat) = 1 ∧ i = n) := fun q => absurd q.1 (by decide)
        simp only [if_neg z]
        obtain ⟨q1, q2, q3⟩ := r2 0 (by decide) i (by rw [show upN N 2 (n + 1) (nS 0) = N 0 from upN_ne (by decide)] at hi; exact hi)
        exact ⟨q1, (hu _ _ (by omega) (by omega) (by omega)).2.trans q2, (hv 4 (7 * 1 + i) (by omega) (by omega) (by omega)).2.trans q3⟩
      · have hi : i < n + 1 := by rw [show upN N 2 (n + 1) (nS 1) = n + 1 from upN_eq] at hi; exact hi
        by_cases e : i = n
        · subst e
          show WfD (if (1 : Nat) = 1 ∧ i = i then w else nm 1 i) ∧ gL u' (s + 2 + 2 * 1) i = wd256 (if (1 : Nat) = 1 ∧ i = i then w else nm 1 i) ∧ _ = wd27 (if (1 : Nat) = 1 ∧ i = i then w else nm 1 i)
          rw [if_pos ⟨rfl, rfl⟩]
          exact ⟨hw, c2, m2⟩
        · have z : ¬ ((1 : Nat) = 1 ∧ i = n) := fun q => e q.2
          show WfD (if (1 : Nat) = 1 ∧ i = n then w else nm 1 i) ∧ gL u' (s + 2 + 2 * 1) i = wd256 (if (1 : Nat) = 1 ∧ i = n then w else nm 1 i) ∧ _ = wd27 (if (1 : Nat) = 1 ∧ i = n then w else nm 1 i)
          rw [if_neg z]
          obtain ⟨q1, q2, q3⟩ := r2 1 (by decide) i (show i < N 2 by omega)
          exact ⟨q1, (hu _ _ (by omega) (by omega) (by omega)).2.trans q2, (hv 5 (5 * 1 + i) (by omega) (by omega) (by omega)).2.trans q3⟩
      · have z : ¬ ((2 : Nat) = 1 ∧ i = n) := fun q => absurd q.1 (by decide)
        simp only [if_neg z]
        obtain ⟨q1, q2, q3⟩ := r2 2 (by decide) i (by rw [show upN N 2 (n + 1) (nS 2) = N 3 from upN_ne (by decide)] at hi; exact hi)
        exact ⟨q1, (hu _ _ (by omega) (by omega) (by omega)).2.trans q2, (hv 6 (3 * 1 + i) (by omega) (by omega) (by omega)).2.trans q3⟩
      · have z : ¬ ((3 : Nat) = 1 ∧ i = n) := fun q => absurd q.1 (by decide)
        simp only [if_neg z]
        obtain ⟨q1, q2, q3⟩ := r2 3 (by decide) i (by rw [show upN N 2 (n + 1) (nS 3) = N 4 from upN_ne (by decide)] at hi; exact hi)
        exact ⟨q1, (hu _ _ (by omega) (by omega) (by omega)).2.trans q2, (hv 7 (6 * 1 + i) (by omega) (by omega) (by omega)).2.trans q3⟩
theorem CtX.otter {u u' v v' : zM} {s n x y : Nat} {N : Nat → Nat} {K : Nat → Nat → Nat} {nm : Nat → Nat → List Nat} {w : List Nat} (h : CtX u v s N K nm) (hn : N 3 = n) (hlt : n < 3) (hx : x < N 0) (hy : 1 ≤ y ∧ y ≤ 3) (hw : WfD w)
    (hu : ∀ c k, s ≤ c → c ≤ s + 17 → ¬ ((c = s + 5 ∧ k = 1) ∨ (c = s + 6 ∧ k = n) ∨ (c = s + 13 ∧ k = n) ∨ (c = s + 14 ∧ k = n)) → gI u' c k = gI u c k ∧ gL u' c k = gL u c k)
    (hv : ∀ c k, 3 ≤ c → c ≤ 16 → ¬ ((c = 3 ∧ k = 9) ∨ (c = 6 ∧ k = 3 + n) ∨ (c = 12 ∧ k = 3 + n) ∨ (c = 13 ∧ k = 3 + n)) → gI v' c k = gI v c k ∧ gL v' c k = gL v c k)
    (c1 : gI u' (s + 5) 1 = nI (n + 1)) (c2 : gL u' (s + 6) n = wd256 w) (c3 : gI u' (s + 13) n = nI x) (c4 : gI u' (s + 14) n = nI y)
    (m1 : gI v' 3 9 = nI (n + 1)) (m2 : gL v' 6 (3 + n) = wd27 w) (m3 : gI v' 12 (3 + n) = nI x) (m4 : gI v' 13 (3 + n) = nI y) : ∃ N' K' nm', CtX u' v' s N' K' nm' := by
  obtain ⟨⟨n0, n1, n2, n3, n4, n5⟩, ⟨k0, k1, k2, k3, k4⟩, ⟨⟨e0, e1, e2, e3, e4, e5⟩, cp, cq, co, cw, ci⟩, ⟨o1, op, oq, oo, ow, oi⟩, ⟨r1, r2⟩⟩ := h
  refine ⟨upN N 3 (n + 1), upK (upK K 8 n x) 2 n y, fun a i => if a = 2 ∧ i = n then w else nm a i, ?_, ?_, ?_, ?_, ?_⟩
  · exact ⟨by rw [upN_ne (by decide)]; omega, by rw [upN_ne (by decide)]; omega, by rw [upN_ne (by decide)]; omega, by rw [upN_eq]; omega, by rw [upN_ne (by decide)]; omega, by rw [upN_ne (by decide)]; omega⟩
  · refine ⟨fun p hp => ?_, fun q hq => ?_, fun o ho => ?_, fun z hz => ?_, fun i hi => ?_⟩
    · rw [upN_ne (by decide)] at hp ⊢
      have h0 : ∀ q, upK (upK K 8 n x) 2 n y 0 q = K 0 q := fun q => by rw [upK_i (by decide), upK_i (by decide)]
      rw [h0, upK_i (by decide), upK_i (by decide)]
      obtain ⟨g1, g2, g3, g4⟩ := k0 p hp
      exact ⟨g1, g2, g3, fun q hq => by rw [h0]; exact g4 q hq⟩
    · rw [upN_ne (by decide)] at hq
      have g := k1 q hq
      rw [upK_i (by decide), upK_i (by decide), upK_i (by decide), upK_i (by decide)]
      rw [upN_ne (by decide)]
      exact g
    · rw [upN_eq] at ho
      simp only [upN_ne (show (0 : Nat) ≠ 3 by decide), upN_ne (show (2 : Nat) ≠ 3 by decide)]
      by_cases e : o = n
      · subst e
        rw [upK_eq, upK_i (show (8 : Nat) ≠ 2 by decide), upK_eq]
        exact ⟨hy.1, hy.2, hx⟩
      · rw [upK_p e, upK_p e, upK_p e, upK_p e]
        exact k2 o (by omega)
    · rw [upN_ne (by decide)] at hz
      have g := k3 z hz
      rw [upK_i (by decide), upK_i (by decide), upK_i (by decide), upK_i (by decide)]
      rw [upN_ne (by decide)]
      exact g
    · rw [upN_ne (by decide)] at hi
      rw [upK_i (by decide), upK_i (by decide)]
      exact k4 i hi
  · refine ⟨⟨(by rw [upN_ne (by decide)]; exact (hu _ _ (by omega) (by omega) (by omega)).1.trans e0), (by rw [upN_ne (by decide)]; exact (hu _ _ (by omega) (by omega) (by omega)).1.trans e1), (by rw [upN_ne (by decide)]; exact (hu _ _ (by omega) (by omega) (by omega)).1.trans e2), (by rw [upN_eq]; exact c1), (by rw [upN_ne (by decide)]; exact (hu _ _ (by omega) (by omega) (by omega)).1.trans e4), (by rw [upN_ne (by decide)]; exact (hu _ _ (by omega) (by omega) (by omega)).1.trans e5)⟩, fun p hp => ?_, fun p hp => ?_, fun p hp => ?_, fun p hp => ?_, fun p hp => ?_⟩
    · rw [upN_ne (by decide)] at hp
      rw [upK_i (by decide), upK_i (by decide), upK_i (by decide), upK_i (by decide)]
      exact ⟨(hu _ _ (by omega) (by omega) (by omega)).1.trans (cp p hp).1, (hu _ _ (by omega) (by omega) (by omega)).1.trans (cp p hp).2⟩
    · rw [upN_ne (by decide)] at hp
      rw [upK_i (by decide), upK_i (by decide), upK_i (by decide), upK_i (by decide)]
      exact ⟨(hu _ _ (by omega) (by omega) (by omega)).1.trans (cq p hp).1, (hu _ _ (by omega) (by omega) (by omega)).1.trans (cq p hp).2⟩
    · rw [upN_eq] at hp
      by_cases e : p = n
      · subst e
        exact ⟨by rw [upK_eq]; exact c4, by rw [upK_i (show (8 : Nat) ≠ 2 by decide), upK_eq]; exact c3⟩
      · rw [upK_p e, upK_p e, upK_p e, upK_p e]
        exact ⟨(hu _ _ (by omega) (by omega) (by omega)).1.trans (co p (by omega)).1, (hu _ _ (by omega) (by omega) (by omega)).1.trans (co p (by omega)).2⟩
    · rw [upN_ne (by decide)] at hp
      rw [upK_i (by decide), upK_i (by decide), upK_i (by decide), upK_i (by decide)]
      exact ⟨(hu _ _ (by omega) (by omega) (by omega)).1.trans (cw p hp).1, (hu _ _ (by omega) (by omega) (by omega)).1.trans (cw p hp).2⟩
    · rw [upN_ne (by decide)] at hp
      rw [upK_i (by decide), upK_i (by decide)]
      exact (hu _ _ (by omega) (by omega) (by omega)).1.trans (ci p hp)
  · refine ⟨fun i hi => ?_, fun p hp => ?_, fun p hp => ?_, fun p hp => ?_, fun p hp => ?_, fun p hp => ?_⟩
    · by_cases e : i = 3
      · subst e
        rw [upN_eq]
        exact m1
      · rw [upN_ne e]
        exact (hv _ _ (by omega) (by omega) (by omega)).1.trans (o1 i hi)
    · rw [upN_ne (by decide)] at hp
      rw [upK_i (by decide), upK_i (by decide), upK_i (by decide), upK_i (by decide)]
      exact ⟨(hv _ _ (by omega) (by omega) (by omega)).1.trans (op p hp).1, (hv _ _ (by omega) (by omega) (by omega)).1.trans (op p hp).2⟩
    · rw [upN_ne (by decide)] at hp
      rw [upK_i (by decide), upK_i (by decide), upK_i (by decide), upK_i (by decide)]
      exact ⟨(hv _ _ (by omega) (by omega) (by omega)).1.trans (oq p hp).1, (hv _ _ (by omega) (by omega) (by omega)).1.trans (oq p hp).2⟩
    · rw [upN_eq] at hp
      by_cases e : p = n
      · subst e
        exact ⟨by rw [upK_eq]; exact m4, by rw [upK_i (show (8 : Nat) ≠ 2 by decide), upK_eq]; exact m3⟩
      · rw [upK_p e, upK_p e, upK_p e, upK_p e]
        exact ⟨(hv _ _ (by omega) (by omega) (by omega)).1.trans (oo p (by omega)).1, (hv _ _ (by omega) (by omega) (by omega)).1.trans (oo p (by omega)).2⟩
    · rw [upN_ne (by decide)] at hp
      rw [upK_i (by decide), upK_i (by decide), upK_i (by decide), upK_i (by decide)]
      exact ⟨(hv _ _ (by omega) (by omega) (by omega)).1.trans (ow p hp).1, (hv _ _ (by omega) (by omega) (by omega)).1.trans (ow p hp).2⟩
    · rw [upN_ne (by decide)] at hp
      rw [upK_i (by decide), upK_i (by decide)]
      exact (hv _ _ (by omega) (by omega) (by omega)).1.trans (oi p hp)
  · refine ⟨fun a ha => ?_, fun a ha i hi => ?_⟩
    · have h4 : a = 0 ∨ a = 1 ∨ a = 2 ∨ a = 3 := by omega
      rcases h4 with rfl | rfl | rfl | rfl
      · obtain ⟨q1, q2, q3⟩ := r1 0 (by decide)
        have z : upN N 3 (n + 1) (nS 0) = N 0 := upN_ne (by decide)
        rw [z]
        exact ⟨(hu _ _ (by omega) (by omega) (by omega)).1.trans q1, (hv 3 6 (by omega) (by omega) (by omega)).1.trans q2, q3⟩
      · obtain ⟨q1, q2, q3⟩ := r1 1 (by decide)
        have z : upN N 3 (n + 1) (nS 1) = N 2 := upN_ne (by decide)
        rw [z]
        exact ⟨(hu _ _ (by omega) (by omega) (by omega)).1.trans q1, (hv 3 8 (by omega) (by omega) (by omega)).1.trans q2, q3⟩
      · exact ⟨by rw [show upN N 3 (n + 1) (nS 2) = n + 1 from upN_eq]; exact c1, by rw [show upN N 3 (n + 1) (nS 2) = n + 1 from upN_eq]; exact m1, by rw [show upN N 3 (n + 1) (nS 2) = n + 1 from upN_eq]; exact hlt⟩
      · obtain ⟨q1, q2, q3⟩ := r1 3 (by decide)
        have z : upN N 3 (n + 1) (nS 3) = N 4 := upN_ne (by decide)
        rw [z]
        exact ⟨(hu _ _ (by omega) (by omega) (by omega)).1.trans q1, (hv 3 10 (by omega) (by omega) (by omega)).1.trans q2, q3⟩
    · have h4 : a = 0 ∨ a = 1 ∨ a = 2 ∨ a = 3 := by omega
      rcases h4 with rfl | rfl | rfl | rfl
      · have z : ¬ ((0 : Nat) = 2 ∧ i = n) := fun q => absurd q.1 (by decide)
        simp only [if_neg z]
        obtain ⟨q1, q2, q3⟩ := r2 0 (by decide) i (by rw [show upN N 3 (n + 1) (nS 0) = N 0 from upN_ne (by decide)] at hi; exact hi)
        exact ⟨q1, (hu _ _ (by omega) (by omega) (by omega)).2.trans q2, (hv 4 (7 * 1 + i) (by omega) (by omega) (by omega)).2.trans q3⟩
      · have z : ¬ ((1 : Nat) = 2 ∧ i = n) := fun q => absurd q.1 (by decide)
        simp only [if_neg z]
        obtain ⟨q1, q2, q3⟩ := r2 1 (by decide) i (by rw [show upN N 3 (n + 1) (nS 1) = N 2 from upN_ne (by decide)] at hi; exact hi)
        exact ⟨q1, (hu _ _ (by omega) (by omega) (by omega)).2.trans q2, (hv 5 (5 * 1 + i) (by omega) (by omega) (by omega)).2.trans q3⟩
      · have hi : i < n + 1 := by rw [show upN N 3 (n + 1) (nS 2) = n + 1 from upN_eq] at hi; exact hi
        by_cases e : i = n
        · subst e
          show WfD (if (2 : Nat) = 2 ∧ i = i then w else nm 2 i) ∧ gL u' (s + 2 + 2 * 2) i = wd256 (if (2 : Nat) = 2 ∧ i = i then w else nm 2 i) ∧ _ = wd27 (if (2 : Nat) = 2 ∧ i = i then w else nm 2 i)
          rw [if_pos ⟨rfl, rfl⟩]
          exact ⟨hw, c2, m2⟩
        · have z : ¬ ((2 : Nat) = 2 ∧ i = n) := fun q => e q.2
          show WfD (if (2 : Nat) = 2 ∧ i = n then w else nm 2 i) ∧ gL u' (s + 2 + 2 * 2) i = wd256 (if (2 : Nat) = 2 ∧ i = n then w else nm 2 i) ∧ _ = wd27 (if (2 : Nat) = 2 ∧ i = n then w else nm 2 i)
          rw [if_neg z]
          obtain ⟨q1, q2, q3⟩ := r2 2 (by decide) i (show i < N 3 by omega)
          exact ⟨q1, (hu _ _ (by omega) (by omega) (by omega)).2.trans q2, (hv 6 (3 * 1 + i) (by omega) (by omega) (by omega)).2.trans q3⟩
      · have z : ¬ ((3 : Nat) = 2 ∧ i = n) := fun q => absurd q.1 (by decide)
        simp only [if_neg z]
        obtain ⟨q1, q2, q3⟩ := r2 3 (by decide) i (by rw [show upN N 3 (n + 1) (nS 3) = N 4 from upN_ne (by decide)] at hi; exact hi)
        exact ⟨q1, (hu _ _ (by omega) (by omega) (by omega)).2.trans q2, (hv 7 (6 * 1 + i) (by omega) (by omega) (by omega)).2.trans q3⟩
theorem CtX.writ {u u' v v' : zM} {s n x y : Nat} {N : Nat → Nat} {K : Nat → Nat → Nat} {nm : Nat → Nat → List Nat} {w : List Nat} (h : CtX u v s N K nm) (hn : N 4 = n) (hlt : n < 6) (hx : x < N 2) (hy : y ≤ 60) (hw : WfD w)
    (hu : ∀ c k, s ≤ c → c ≤ s + 17 → ¬ ((c = s + 7 ∧ k = 1) ∨ (c = s + 8 ∧ k = n) ∨ (c = s + 15 ∧ k = n) ∨ (c = s + 16 ∧ k = n)) → gI u' c k = gI u c k ∧ gL u' c k = gL u c k)
    (hv : ∀ c k, 3 ≤ c → c ≤ 16 → ¬ ((c = 3 ∧ k = 10) ∨ (c = 7 ∧ k = 6 + n) ∨ (c = 14 ∧ k = 6 + n) ∨ (c = 15 ∧ k = 6 + n)) → gI v' c k = gI v c k ∧ gL v' c k = gL v c k)
    (c1 : gI u' (s + 7) 1 = nI (n + 1)) (c2 : gL u' (s + 8) n = wd256 w) (c3 : gI u' (s + 15) n = nI x) (c4 : gI u' (s + 16) n = nI y)
    (m1 : gI v' 3 10 = nI (n + 1)) (m2 : gL v' 7 (6 + n) = wd27 w) (m3 : gI v' 14 (6 + n) = nI x) (m4 : gI v' 15 (6 + n) = nI y) : ∃ N' K' nm', CtX u' v' s N' K' nm' := by
  obtain ⟨⟨n0, n1, n2, n3, n4, n5⟩, ⟨k0, k1, k2, k3, k4⟩, ⟨⟨e0, e1, e2, e3, e4, e5⟩, cp, cq, co, cw, ci⟩, ⟨o1, op, oq, oo, ow, oi⟩, ⟨r1, r2⟩⟩ := h
  refine ⟨upN N 4 (n + 1), upK (upK K 3 n x) 4 n y, fun a i => if a = 3 ∧ i = n then w else nm a i, ?_, ?_, ?_, ?_, ?_⟩
  · exact ⟨by rw [upN_ne (by decide)]; omega, by rw [upN_ne (by decide)]; omega, by rw [upN_ne (by decide)]; omega, by rw [upN_ne (by decide)]; omega, by rw [upN_eq]; omega, by rw [upN_ne (by decide)]; omega⟩
  · refine ⟨fun p hp => ?_, fun q hq => ?_, fun o ho => ?_, fun z hz => ?_, fun i hi => ?_⟩
    · rw [upN_ne (by decide)] at hp ⊢
      have h0 : ∀ q, upK (upK K 3 n x) 4 n y 0 q = K 0 q := fun q => by rw [upK_i (by decide), upK_i (by decide)]
      rw [h0, upK_i (by decide), upK_i (by decide)]
      obtain ⟨g1, g2, g3, g4⟩ := k0 p hp
      exact ⟨g1, g2, g3, fun q hq => by rw [h0]; exact g4 q hq⟩
    · rw [upN_ne (by decide)] at hq
      have g := k1 q hq
      rw [upK_i (by decide), upK_i (by decide), upK_i (by decide), upK_i (by decide)]
      rw [upN_ne (by decide)]
      exact g
    · rw [upN_ne (by decide)] at ho
      have g := k2 o ho
      rw [upK_i (by decide), upK_i (by decide), upK_i (by decide), upK_i (by decide)]
      rw [upN_ne (by decide)]
      exact g
    · rw [upN_eq] at hz
      simp only [upN_ne (show (0 : Nat) ≠ 4 by decide), upN_ne (show (2 : Nat) ≠ 4 by decide)]
      by_cases e : z = n
      · subst e
        rw [upK_i (show (3 : Nat) ≠ 4 by decide), upK_eq, upK_eq]
        exact ⟨hx, hy⟩
      · rw [upK_p e, upK_p e, upK_p e, upK_p e]
        exact k3 z (by omega)
    · rw [upN_ne (by decide)] at hi
      rw [upK_i (by decide), upK_i (by decide)]
      exact k4 i hi
  · refine ⟨⟨(by rw [upN_ne (by decide)]; exact (hu _ _ (by omega) (by omega) (by omega)).1.trans e0), (by rw [upN_ne (by decide)]; exact (hu _ _ (by omega) (by omega) (by omega)).1.trans e1), (by rw [upN_ne (by decide)]; exact (hu _ _ (by omega) (by omega) (by omega)).1.trans e2), (by rw [upN_ne (by decide)]; exact (hu _ _ (by omega) (by omega) (by omega)).1.trans e3), (by rw [upN_eq]; exact c1), (by rw [upN_ne (by decide)]; exact (hu _ _ (by omega) (by omega) (by omega)).1.trans e5)⟩, fun p hp => ?_, fun p hp => ?_, fun p hp => ?_, fun p hp => ?_, fun p hp => ?_⟩
    · rw [upN_ne (by decide)] at hp
      rw [upK_i (by decide), upK_i (by decide), upK_i (by decide), upK_i (by decide)]
      exact ⟨(hu _ _ (by omega) (by omega) (by omega)).1.trans (cp p hp).1, (hu _ _ (by omega) (by omega) (by omega)).1.trans (cp p hp).2⟩
    · rw [upN_ne (by decide)] at hp
      rw [upK_i (by decide), upK_i (by decide), upK_i (by decide), upK_i (by decide)]
      exact ⟨(hu _ _ (by omega) (by omega) (by omega)).1.trans (cq p hp).1, (hu _ _ (by omega) (by omega) (by omega)).1.trans (cq p hp).2⟩
    · rw [upN_ne (by decide)] at hp
      rw [upK_i (by decide), upK_i (by decide), upK_i (by decide), upK_i (by decide)]
      exact ⟨(hu _ _ (by omega) (by omega) (by omega)).1.trans (co p hp).1, (hu _ _ (by omega) (by omega) (by omega)).1.trans (co p hp).2⟩
    · rw [upN_eq] at hp
      by_cases e : p = n
      · subst e
        exact ⟨by rw [upK_i (show (3 : Nat) ≠ 4 by decide), upK_eq]; exact c3, by rw [upK_eq]; exact c4⟩
      · rw [upK_p e, upK_p e, upK_p e, upK_p e]
        exact ⟨(hu _ _ (by omega) (by omega) (by omega)).1.trans (cw p (by omega)).1, (hu _ _ (by omega) (by omega) (by omega)).1.trans (cw p (by omega)).2⟩
    · rw [upN_ne (by decide)] at hp
      rw [upK_i (by decide), upK_i (by decide)]
      exact (hu _ _ (by omega) (by omega) (by omega)).1.trans (ci p hp)
  · refine ⟨fun i hi => ?_, fun p hp => ?_, fun p hp => ?_, fun p hp => ?_, fun p hp => ?_, fun p hp => ?_⟩
    · by_cases e : i = 4
      · subst e
        rw [upN_eq]
        exact m1
      · rw [upN_ne e]
        exact (hv _ _ (by omega) (by omega) (by omega)).1.trans (o1 i hi)
    · rw [upN_ne (by decide)] at hp
      rw [upK_i (by decide), upK_i (by decide), upK_i (by decide), upK_i (by decide)]
      exact ⟨(hv _ _ (by omega) (by omega) (by omega)).1.trans (op p hp).1, (hv _ _ (by omega) (by omega) (by omega)).1.trans (op p hp).2⟩
    · rw [upN_ne (by decide)] at hp
      rw [upK_i (by decide), upK_i (by decide), upK_i (by decide), upK_i (by decide)]
      exact ⟨(hv _ _ (by omega) (by omega) (by omega)).1.trans (oq p hp).1, (hv _ _ (by omega) (by omega) (by omega)).1.trans (oq p hp).2⟩
    · rw [upN_ne (by decide)] at hp
      rw [upK_i (by decide), upK_i (by decide), upK_i (by decide), upK_i (by decide)]
      exact ⟨(hv _ _ (by omega) (by omega) (by omega)).1.trans (oo p hp).1, (hv _ _ (by omega) (by omega) (by omega)).1.trans (oo p hp).2⟩
    · rw [upN_eq] at hp
      by_cases e : p = n
      · subst e
        exact ⟨by rw [upK_i (show (3 : Nat) ≠ 4 by decide), upK_eq]; exact m3, by rw [upK_eq]; exact m4⟩
      · rw [upK_p e, upK_p e, upK_p e, upK_p e]
        exact ⟨(hv _ _ (by omega) (by omega) (by omega)).1.trans (ow p (by omega)).1, (hv _ _ (by omega) (by omega) (by omega)).1.trans (ow p (by omega)).2⟩
    · rw [upN_ne (by decide)] at hp
      rw [upK_i (by decide), upK_i (by decide)]
      exact (hv _ _ (by omega) (by omega) (by omega)).1.trans (oi p hp)
  · refine ⟨fun a ha => ?_, fun a ha i hi => ?_⟩
    · have h4 : a = 0 ∨ a = 1 ∨ a = 2 ∨ a = 3 := by omega
      rcases h4 with rfl | rfl | rfl | rfl
      · obtain ⟨q1, q2, q3⟩ := r1 0 (by decide)
        have z : upN N 4 (n + 1) (nS 0) = N 0 := upN_ne (by decide)
        rw [z]
        exact ⟨(hu _ _ (by omega) (by omega) (by omega)).1.trans q1, (hv 3 6 (by omega) (by omega) (by omega)).1.trans q2, q3⟩
      · obtain ⟨q1, q2, q3⟩ := r1 1 (by decide)
        have z : upN N 4 (n + 1) (nS 1) = N 2 := upN_ne (by decide)
        rw [z]
        exact ⟨(hu _ _ (by omega) (by omega) (by omega)).1.trans q1, (hv 3 8 (by omega) (by omega) (by omega)).1.trans q2, q3⟩
      · obtain ⟨q1, q2, q3⟩ := r1 2 (by decide)
        have z : upN N 4 (n + 1) (nS 2) = N 3 := upN_ne (by decide)
        rw [z]
        exact ⟨(hu _ _ (by omega) (by omega) (by omega)).1.trans q1, (hv 3 9 (by omega) (by omega) (by omega)).1.trans q2, q3⟩
      · exact ⟨by rw [show upN N 4 (n + 1) (nS 3) = n + 1 from upN_eq]; exact c1, by rw [show upN N 4 (n + 1) (nS 3) = n + 1 from upN_eq]; exact m1, by rw [show upN N 4 (n + 1) (nS 3) = n + 1 from upN_eq]; exact hlt⟩
    · have h4 : a = 0 ∨ a = 1 ∨ a = 2 ∨ a = 3 := by omega
      rcases h4 with rfl | rfl | rfl | rfl
      · have z : ¬ ((0 : Nat) = 3 ∧ i = n) := fun q => absurd q.1 (by decide)
        simp only [if_neg z]
        obtain ⟨q1, q2, q3⟩ := r2 0 (by decide) i (by rw [show upN N 4 (n + 1) (nS 0) = N 0 from upN_ne (by decide)] at hi; exact hi)
        exact ⟨q1, (hu _ _ (by omega) (by omega) (by omega)).2.trans q2, (hv 4 (7 * 1 + i) (by omega) (by omega) (by omega)).2.trans q3⟩
      · have z : ¬ ((1 : Nat) = 3 ∧ i = n) := fun q => absurd q.1 (by decide)
        simp only [if_neg z]
        obtain ⟨q1, q2, q3⟩ := r2 1 (by decide) i (by rw [show upN N 4 (n + 1) (nS 1) = N 2 from upN_ne (by decide)] at hi; exact hi)
        exact ⟨q1, (hu _ _ (by omega) (by omega) (by omega)).2.trans q2, (hv 5 (5 * 1 + i) (by omega) (by omega) (by omega)).2.trans q3⟩
      · have z : ¬ ((2 : Nat) = 3 ∧ i = n) := fun q => absurd q.1 (by decide)
        simp only [if_neg z]
        obtain ⟨q1, q2, q3⟩ := r2 2 (by decide) i (by rw [show upN N 4 (n + 1) (nS 2) = N 3 from upN_ne (by decide)] at hi; exact hi)
        exact ⟨q1, (hu _ _ (by omega) (by omega) (by omega)).2.trans q2, (hv 6 (3 * 1 + i) (by omega) (by omega) (by omega)).2.trans q3⟩
      · have hi : i < n + 1 := by rw [show upN N 4 (n + 1) (nS 3) = n + 1 from upN_eq] at hi; exact hi
        by_cases e : i = n
        · subst e
          show WfD (if (3 : Nat) = 3 ∧ i = i then w else nm 3 i) ∧ gL u' (s + 2 + 2 * 3) i = wd256 (if (3 : Nat) = 3 ∧ i = i then w else nm 3 i) ∧ _ = wd27 (if (3 : Nat) = 3 ∧ i = i then w else nm 3 i)
          rw [if_pos ⟨rfl, rfl⟩]
          exact ⟨hw, c2, m2⟩
        · have z : ¬ ((3 : Nat) = 3 ∧ i = n) := fun q => e q.2
          show WfD (if (3 : Nat) = 3 ∧ i = n then w else nm 3 i) ∧ gL u' (s + 2 + 2 * 3) i = wd256 (if (3 : Nat) = 3 ∧ i = n then w else nm 3 i) ∧ _ = wd27 (if (3 : Nat) = 3 ∧ i = n then w else nm 3 i)
          rw [if_neg z]
          obtain ⟨q1, q2, q3⟩ := r2 3 (by decide) i (show i < N 4 by omega)
          exact ⟨q1, (hu _ _ (by omega) (by omega) (by omega)).2.trans q2, (hv 7 (6 * 1 + i) (by omega) (by omega) (by omega)).2.trans q3⟩
