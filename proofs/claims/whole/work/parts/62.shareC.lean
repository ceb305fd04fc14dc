/-! ===== share: the class ===== -/
def bstC (u : zM) (O : Nat) (b : Option (Nat × Nat × (Nat → Int32))) : Prop := (b = none → gI u 70 7 = mI) ∧ ∀ p, b = some p → p.1 ≤ 10 ∧ p.2.1 ≤ 1000 ∧ gI u 70 7 = nI p.1 ∧ gI u 70 8 = nI p.2.1 ∧ ∀ o, o < O → gI u 81 o = p.2.2 o
def prI (j : Nat) : Int32 := if j = 0 then mI else nI (j - 1)
theorem prI_s (j : Nat) : prI (j + 1) = nI j := rfl
theorem prI_a : ∀ j, j < 4 → nI j + (-1) = prI j := by decide +kernel
theorem prI_b : ∀ j, j < 4 → nI j - 1 = prI j := by decide +kernel
theorem nI_mod {a d : Nat} (ha : a < 2 ^ 31) (h0 : 0 < d) (hd : d < 2 ^ 31) : nI a - nI a / nI d * nI d = nI (a % d) := by
  rw [pk_div ha h0 hd, pk_mul, pk_sub (Nat.div_mul_le_self a d), Nat.mod_eq_sub, Nat.mul_comm]
theorem rowQ_s (W o q : Nat) : rowQ W (o + 1) q = setR (rowQ W o (q / (W + 1))) o (if q % (W + 1) < W then nI (q % (W + 1)) else mI) := rfl
theorem keep8 {W : Nat} (hW : W ≤ 6) : ∀ j f r u, j ≤ 3 → j < f → r < 1000 → ∃ u', Ou_keepRow_8 f (nI W) (nI r) (prI j) u = some ((), u') ∧ (∀ o, o < j → gI u' 81 o = rowQ W j r o) ∧ Fr (fun c k => c = 81 ∧ k < j) u u' := by
  intro j
  induction j with
  | zero =>
    intro f r u _ hf _
    obtain ⟨f, rfl⟩ : ∃ z, f = z + 1 := ⟨f - 1, by omega⟩
    refine ⟨u, ?_, fun o h => absurd h (by omega), Fr.rf⟩
    show Ou_keepRow_8b _ _ _ _ _ = _
    unfold Ou_keepRow_8b
    rw [if_pos (show prI 0 < 0 by decide)]
  | succ j ih =>
    intro f r u hj hf hr
    obtain ⟨f, rfl⟩ : ∃ z, f = z + 1 := ⟨f - 1, by omega⟩
    have hx : r % (W + 1) < W + 1 := Nat.mod_lt _ (by omega)
    have hy : r / (W + 1) ≤ r := Nat.div_le_self _ _
    have e1 : nI W + 1 = nI (W + 1) := nI_1 W
    have e0 : ¬ nI (W + 1) = (0 : Int32) := fun q => by
      have := (nI_eq (b := 0) (by omega) (by omega)).mp q
      omega
    rw [prI_s, rowQ_s]
    have key : ∀ x, (x = if r % (W + 1) < W then nI (r % (W + 1)) else mI) → ∃ u', Ou_keepRow_8 f (nI W) (nI (r / (W + 1))) (prI j) (sI u 81 j x) = some ((), u') ∧ (∀ o, o < j + 1 → gI u' 81 o = setR (rowQ W j (r / (W + 1))) j (if r % (W + 1) < W then nI (r % (W + 1)) else mI) o) ∧ Fr (fun c k => c = 81 ∧ k < j + 1) u u' := by
      intro x hxx
      obtain ⟨u', a1, a2, a3⟩ := ih f (r / (W + 1)) (sI u 81 j x) (by omega) (by omega) (by omega)
      refine ⟨u', a1, fun o ho => ?_, Fr.tr (A := fun c k => c = 81 ∧ k < j + 1) (Fr.sI (A := fun c k => c = 81 ∧ k < j + 1) ⟨rfl, by omega⟩) (a3.mono (fun c k h => ⟨h.1, by omega⟩))⟩
      unfold setR
      by_cases h : o = j
      · subst h
        rw [if_pos rfl, a3.i (by omega), gs_eq ⟨rfl, rfl⟩, hxx]
      · rw [if_neg h]
        exact a2 o (by omega)
    by_cases hxW : r % (W + 1) < W
    · obtain ⟨u', a1, a2, a3⟩ := key (nI (r % (W + 1))) (by rw [if_pos hxW])
      refine ⟨u', ?_, a2, a3⟩
      show Ou_keepRow_8b _ _ _ _ _ = _
      unfold Ou_keepRow_8b
      rw [if_neg (show ¬ nI j < (0 : Int32) from nI_nlt (Nat.zero_le _) (by omega)), e1, if_neg e0, nI_mod (by omega) (by omega) (by omega), zl_e, if_neg e0, pk_div (by omega) (by omega) (by omega), zl_e, if_neg (nI_ge hxW (by omega)), if_pos (ib_nI (by omega) (by omega)), ix_nI (by omega), zl_e, prI_a j (by omega)]
      exact a1
    · obtain ⟨u', a1, a2, a3⟩ := key mI (by rw [if_neg hxW])
      refine ⟨u', ?_, a2, a3⟩
      show Ou_keepRow_8b _ _ _ _ _ = _
      unfold Ou_keepRow_8b
      rw [if_neg (show ¬ nI j < (0 : Int32) from nI_nlt (Nat.zero_le _) (by omega)), e1, if_neg e0, nI_mod (by omega) (by omega) (by omega), zl_e, if_neg e0, pk_div (by omega) (by omega) (by omega), zl_e, if_pos (nI_le (by omega) (by omega)), if_pos (ib_nI (by omega) (by omega)), ix_nI (by omega), zl_e, prI_a j (by omega)]
      exact a1
def wfin (v1 v2 v3 v4 v5 : Int32) (u : zM) : Option (Unit × zM) := zb (Ji_bitCount v4 u) (fun c1 u1 => if (gI u1 70 7) < c1 then (Ou_weighRow_129 v1 v2 v3 v5 c1 u1) else (if c1 = (gI u1 70 7) then (if (gI u1 70 8) ≤ v5 then (some ((), u1)) else (Ou_weighRow_129 v1 v2 v3 v5 c1 u1)) else (some ((), u1))))
def shC (c k : Nat) : Prop := c = 81 ∨ (c = 70 ∧ (k = 7 ∨ k = 8))
theorem wfin_eq {W O r tk y : Nat} {u : zM} {b : Option (Nat × Nat × (Nat → Int32))} (hW : W ≤ 6) (hO : O ≤ 3) (hr : r < 1000) (ht : tk < 1024) (hy : y ≤ 1000) (hb : bstC u O b) : ∃ u', wfin (nI r) (nI O) (nI W) (nI tk) (nI y) u = some ((), u') ∧ bstC u' O (updB (pop tk) y (rowQ W O r) b) ∧ Fr shC u u' := by
  have hp := pop_le tk
  have key : ∃ u', Ou_weighRow_129 (nI r) (nI O) (nI W) (nI y) (nI (pop tk)) u = some ((), u') ∧ bstC u' O (some (pop tk, y, rowQ W O r)) ∧ Fr shC u u' := by
    obtain ⟨u', a1, a2, a3⟩ := keep8 hW O zF r (sI (sI u 70 7 (nI (pop tk))) 70 8 (nI y)) hO (by unfold zF; omega) hr
    refine ⟨u', ?_, ⟨(fun h => nomatch h), fun p h => ?_⟩, ((Fr.sI (Or.inr ⟨rfl, Or.inl rfl⟩)).tr (Fr.sI (Or.inr ⟨rfl, Or.inr rfl⟩))).tr (a3.mono (fun c k h => Or.inl h.1))⟩
    · unfold Ou_weighRow_129 Ou_keepRow
      rw [zl_e, zl_e, prI_b O (by omega), zl_e, zb_eq a1]
    · injection h with h
      subst h
      refine ⟨hp, hy, (a3.i (by omega)).trans ((gs_ne (by omega)).trans (gs_eq ⟨rfl, rfl⟩)), (a3.i (by omega)).trans (gs_eq ⟨rfl, rfl⟩), a2⟩
  unfold wfin
  rw [zb_eq (bitCount_pop ht u)]
  obtain ⟨u', k1, k2, k3⟩ := key
  cases b with
  | none =>
    rw [hb.1 rfl, if_pos (mI_lt (by omega))]
    exact ⟨u', k1, k2, k3⟩
  | some p =>
    obtain ⟨p1, p2, p3, p4, p5⟩ := hb.2 p rfl
    rw [p3, p4]
    show ∃ u', _ ∧ bstC u' O (if p.1 < pop tk ∨ (pop tk = p.1 ∧ y < p.2.1) then some (pop tk, y, rowQ W O r) else some p) ∧ _
    by_cases q1 : p.1 < pop tk
    · rw [if_pos (nI_lt q1 (by omega)), if_pos (Or.inl q1)]
      exact ⟨u', k1, k2, k3⟩
    · rw [if_neg (nI_nlt (by omega) (by omega))]
      by_cases q2 : pop tk = p.1
      · rw [if_pos (show nI (pop tk) = nI p.1 by rw [q2])]
        by_cases q3 : y < p.2.1
        · rw [if_neg (nI_ge q3 (by omega)), if_pos (Or.inr ⟨q2, q3⟩)]
          exact ⟨u', k1, k2, k3⟩
        · rw [if_pos (nI_le (by omega) (by omega)), if_neg (by omega)]
          exact ⟨u, rfl, hb, Fr.rf⟩
      · rw [if_neg (fun h => q2 ((nI_eq (by omega) (by omega)).mp h)), if_neg (by omega)]
        exact ⟨u, rfl, hb, Fr.rf⟩
theorem stL_n (DS : Nat → Nat → Int32) (W : Nat) : ∀ j r, stL DS W j r none = none := by
  intro j
  induction j with
  | zero => intro r; rfl
  | succ j ih => intro r; rw [stL_s, stp_n, ih]
theorem weigh14 {DS : Nat → Nat → Int32} {W O r : Nat} {u : zM} (hW : W ≤ 6) (hO : O ≤ 3) (hD : ∀ o w, okD (DS o w)) (hT : ∀ o w, o < O → w < W → gI u 80 (6 * o + w) = DS o w) : ∀ j f ρ tk y, j ≤ O → j < f → ρ < 1000 → tk < 128 → y + 60 * j ≤ 1000 → Ou_weighRow_14 f (nI r) (nI O) (nI W) (nI tk) (nI y) (nI ρ) (prI j) u = (match stL DS W j ρ (some (tk, y)) with | none => some ((), u) | some p => wfin (nI r) (nI O) (nI W) (nI p.1) (nI p.2) u) := by
  intro j
  induction j with
  | zero =>
    intro f ρ tk y _ hf _ _ _
    obtain ⟨f, rfl⟩ : ∃ z, f = z + 1 := ⟨f - 1, by omega⟩
    show Ou_weighRow_14b _ _ _ _ _ _ _ _ _ = wfin _ _ _ _ _ _
    unfold Ou_weighRow_14b
    rw [if_pos (show prI 0 < 0 by decide)]
    rfl
  | succ j ih =>
    intro f ρ tk y hj hf hρ htk hy
    obtain ⟨f, rfl⟩ : ∃ z, f = z + 1 := ⟨f - 1, by omega⟩
    have hx : ρ % (W + 1) < W + 1 := Nat.mod_lt _ (by omega)
    have hyy : ρ / (W + 1) ≤ ρ := Nat.div_le_self _ _
    have e1 : nI W + 1 = nI (W + 1) := nI_1 W
    have e0 : ¬ nI (W + 1) = (0 : Int32) := fun q => by
      have := (nI_eq (b := 0) (by omega) (by omega)).mp q
      omega
    rw [prI_s, stL_s]
    show Ou_weighRow_14b _ _ _ _ _ _ _ _ _ = _
    unfold Ou_weighRow_14b
    rw [if_neg (show ¬ nI j < (0 : Int32) from nI_nlt (Nat.zero_le _) (by omega)), e1, if_neg e0, nI_mod (by omega) (by omega) (by omega), zl_e, if_neg e0, pk_div (by omega) (by omega) (by omega), zl_e, prI_a j (by omega)]
    generalize ρ % (W + 1) = x at *
    generalize ρ / (W + 1) = ρ' at *
    by_cases hxW : W ≤ x
    · rw [if_pos (nI_le hxW (by omega)), stp_W hxW]
      exact ih f ρ' tk y (by omega) (by omega) (by omega) htk (by omega)
    · have e6 : (nI j * 6) + nI x = nI (6 * j + x) := by rw [show (6 : Int32) = nI 6 from rfl, pk_mul, nI_add, Nat.mul_comm]
      rw [if_neg (nI_ge (by omega) (by omega)), e6, if_pos (ib_nI (by omega) (by omega)), ix_nI (by omega), hT j x (by omega) (by omega), zl_e, stp_s hxW, show ((nI tk >>> (nI x &&& 31)) &&& 1) = _ from bn_bit (show tk < 1024 by omega) (show x < 10 by omega), show nI tk ||| ((1 : Int32) <<< (nI x &&& 31)) = _ from bn_or (show tk < 1024 by omega) (show x < 10 by omega), zl_e]
      obtain ⟨o1, o2, o3, o4⟩ := okD_lt (hD j x)
      by_cases hd : DS j x = mI
      · rw [if_pos (show DS j x = -1 from hd), decide_eq_true (o1.mpr hd), Bool.or_true, if_pos rfl, stL_n]
      · rw [if_neg (show ¬ DS j x = -1 from hd), decide_eq_false (fun q => hd (o1.mp q)), Bool.or_false]
        obtain ⟨d1, d2⟩ := o4 hd
        cases tk.testBit x
        · rw [if_pos (show nI false.toNat = (0 : Int32) from rfl), if_neg (by decide), show nI y + DS j x = nI (y + dnI (DS j x)) by rw [d1, nI_add, ← d1], zl_e]
          exact ih f ρ' (tk ||| 2 ^ x) (y + dnI (DS j x)) (by omega) (by omega) (by omega) (or128 htk (p2_lt (by omega))) (by omega)
        · rw [if_neg (show ¬ nI true.toNat = (0 : Int32) by decide), if_pos rfl, stL_n]
theorem pfS_bd {DS : Nat → Nat → Int32} {W : Nat} (hW : W ≤ 6) (hD : ∀ o w, okD (DS o w)) : ∀ o q p, pfS DS W o q = some p → p.1 < 128 ∧ p.2 ≤ 60 * o := by
  intro o
  induction o with
  | zero =>
    intro q p h
    have h : some (0, 0) = some p := h
    injection h with h
    subst h
    exact ⟨by decide, by decide⟩
  | succ o ih =>
    intro q p h
    rw [pfS_e] at h
    cases hp : pfS DS W o (q / (W + 1)) with
    | none => rw [hp, stp_n] at h; exact nomatch h
    | some z =>
      obtain ⟨i1, i2⟩ := ih _ _ hp
      rw [hp] at h
      obtain ⟨tk, y⟩ := z
      by_cases hx : W ≤ q % (W + 1)
      · rw [stp_W hx] at h
        injection h with h
        subst h
        exact ⟨i1, by dsimp only at i2 ⊢; omega⟩
      · rw [stp_s hx] at h
        obtain ⟨o1, o2, o3, o4⟩ := okD_lt (hD o (q % (W + 1)))
        by_cases hd : DS o (q % (W + 1)) = mI
        · rw [decide_eq_true (o1.mpr hd), Bool.or_true, if_pos rfl] at h
          exact nomatch h
        · obtain ⟨d1, d2⟩ := o4 hd
          cases hb : (tk.testBit (q % (W + 1)) || decide (DS o (q % (W + 1)) < 0)) with
          | true => rw [hb, if_pos rfl] at h; exact nomatch h
          | false =>
            rw [hb, if_neg (by decide)] at h
            injection h with h
            subst h
            exact ⟨or128 i1 (p2_lt (by omega)), by dsimp only at i2 ⊢; omega⟩
theorem weighRow_eq {DS : Nat → Nat → Int32} {W O r : Nat} {u : zM} {b : Option (Nat × Nat × (Nat → Int32))} (hW : W ≤ 6) (hO : O ≤ 3) (hD : ∀ o w, okD (DS o w)) (hT : ∀ o w, o < O → w < W → gI u 80 (6 * o + w) = DS o w) (hr : r < 1000) (hb : bstC u O b) : ∃ u', Ou_weighRow (nI r) (nI O) (nI W) u = some ((), u') ∧ bstC u' O (wgh DS W O r b) ∧ Fr shC u u' := by
  unfold Ou_weighRow
  rw [prI_b O (by omega), zl_e]
  have e := weigh14 (r := r) (u := u) hW hO hD hT O zF r 0 0 (Nat.le_refl _) (by unfold zF; omega) hr (by decide) (by omega)
  rw [show (0 : Int32) = nI 0 from rfl, e, stL_pf]
  cases hp : pfS DS W O r with
  | none => exact ⟨u, rfl, by rw [wgh_n hp]; exact hb, Fr.rf⟩
  | some p =>
    obtain ⟨i1, i2⟩ := pfS_bd hW hD O r p hp
    rw [wgh_s hp]
    exact wfin_eq hW hO hr (by omega) (by omega) hb
theorem pw343 {W O : Nat} (hW : W ≤ 6) (hO : O ≤ 3) : (W + 1) ^ O ≤ 343 := Nat.le_trans (Nat.pow_le_pow_left (show W + 1 ≤ 7 by omega) O) (Nat.pow_le_pow_right (n := 7) (by decide) hO)
theorem allot_91 {DS : Nat → Nat → Int32} {W O : Nat} {u : zM} (hW : W ≤ 6) (hO : O ≤ 3) (hD : ∀ o w, okD (DS o w)) (hT : ∀ o w, o < O → w < W → gI u 80 (6 * o + w) = DS o w) (hb : gI u 70 7 = mI) : ∃ u', Ou_allot_91 zF (nI O) (nI W) (nI ((W + 1) ^ O)) 0 u = some ((), u') ∧ bstC u' O (foW (wgh DS W O) ((W + 1) ^ O) none) ∧ Fr shC u u' := by
  have hR := pw343 hW hO
  refine lprz (fun n (s : Int32 × zM) => Ou_allot_91 n (nI O) (nI W) (nI ((W + 1) ^ O)) s.1 s.2) (fun r s => s.1 = nI r ∧ bstC s.2 O (foW (wgh DS W O) r none) ∧ Fr shC u s.2) (fun z => ∃ u', z = some ((), u') ∧ bstC u' O (foW (wgh DS W O) ((W + 1) ^ O) none) ∧ Fr shC u u') ((W + 1) ^ O) (nI 0, u) (by omega) ⟨rfl, ⟨fun _ => hb, fun p h => (nomatch h)⟩, Fr.rf⟩ ?_ ?_
  · rintro n ⟨x, m⟩ ⟨h1, h2, h3⟩
    dsimp only at h1 h2 h3 ⊢
    subst h1
    refine ⟨m, ?_, h2, h3⟩
    show Ou_allot_91b _ _ _ _ _ _ = _
    unfold Ou_allot_91b
    rw [if_pos (nI_le (Nat.le_refl _) (by omega))]
  · rintro n r ⟨x, m⟩ hr ⟨h1, h2, h3⟩
    dsimp only at h1 h2 h3 ⊢
    subst h1
    right
    obtain ⟨m', a1, a2, a3⟩ := weighRow_eq hW hO hD (fun o w ho hw => (h3.i (by unfold shC; omega)).trans (hT o w ho hw)) (show r < 1000 by omega) h2
    refine ⟨(nI (r + 1), m'), ⟨rfl, a2, h3.tr a3⟩, ?_⟩
    show Ou_allot_91b _ _ _ _ _ _ = _
    unfold Ou_allot_91b
    rw [if_neg (nI_ge hr (by omega)), zb_eq a1, show nI r + 1 = nI (r + 1) from nI_1 r]
theorem allot_41 {u : zM} {t : Nat} {N S : Nat → Nat} {K : Nat → Nat → Nat} {E : Int32 → Int32 → Int32 → Int32 → Int32} (hW : Wf N K S) (hS : S 0 ≤ 600) (hu : NowC u t N K E 54 S) {o : Nat} (ho : o < N 3) (hO : ∀ d, d ≤ 60 → (∀ p, p < N 0 → gI u 77 (7 * d + p) = nI (itS E N K S d (1 + p))) ∧ (∀ q, q < N 2 → gI u 78 (5 * d + q) = nI (itS E N K S d (8 + q))) ∧ gI u 79 d = nI (wetS N (itS E N K S d))) (zr : Nat → Nat → Int32 → Int32 → Int32 → Int32 → zM → Option (Unit × zM)) (x : Int32) : ∃ u', Ou_allot_41 zF zr t 54 (nI (N 3)) (nI (N 4)) x (nI o) 0 u = zr t 54 (nI (N 3)) (nI (N 4)) x (nI (o + 1)) u' ∧ (∀ w, w < N 4 → gI u' 80 (6 * o + w) = dsv E N K S w o) ∧ Fr (fun c k => c = 80 ∧ 6 * o ≤ k) u u' := by
  have lt := layT hu.2.1
  have l54 : layC 54 = (17, 6) := rfl
  obtain ⟨n0, n1, n2, n3, n4, n5⟩ := hW.1
  refine lprz (fun n (s : Int32 × zM) => Ou_allot_41 n zr t 54 (nI (N 3)) (nI (N 4)) x (nI o) s.1 s.2) (fun k s => s.1 = nI k ∧ (∀ w, w < k → gI s.2 80 (6 * o + w) = dsv E N K S w o) ∧ Fr (fun c k => c = 80 ∧ 6 * o ≤ k) u s.2) (fun z => ∃ u', z = zr t 54 (nI (N 3)) (nI (N 4)) x (nI (o + 1)) u' ∧ (∀ w, w < N 4 → gI u' 80 (6 * o + w) = dsv E N K S w o) ∧ Fr (fun c k => c = 80 ∧ 6 * o ≤ k) u u') (N 4) (nI 0, u) (by omega) ⟨rfl, fun w h => absurd h (by omega), Fr.rf⟩ ?_ ?_
  · rintro n ⟨y, m⟩ ⟨h1, h2, h3⟩
    dsimp only at h1 h2 h3 ⊢
    subst h1
    refine ⟨m, ?_, h2, h3⟩
    show Ou_allot_41b _ _ _ _ _ _ _ _ _ _ = _
    unfold Ou_allot_41b
    rw [if_pos lt, if_pos l54, if_pos (nI_le (Nat.le_refl _) (by omega)), show nI o + 1 = nI (o + 1) from nI_1 o]
  · rintro n k ⟨y, m⟩ hk ⟨h1, h2, h3⟩
    dsimp only at h1 h2 h3 ⊢
    subst h1
    right
    have ht := hu.2.1
    have hm : NowC m t N K E 54 S := hu.st (fun c k _ _ _ => h3.i (by omega)) h3.2 (hu.2.2.2.2.fr hW.1 (fun j k _ _ _ => h3.i (by omega)))
    have e1 := daysToServe_eq hW hS hm ho hk (fun d hd => ⟨fun p hp => (h3.i (by omega)).trans ((hO d hd).1 p hp), fun q hq => (h3.i (by omega)).trans ((hO d hd).2.1 q hq), (h3.i (by omega)).trans (hO d hd).2.2⟩)
    have e6 : (nI o * 6) + nI k = nI (6 * o + k) := by rw [show (6 : Int32) = nI 6 from rfl, pk_mul, nI_add, Nat.mul_comm]
    refine ⟨(nI (k + 1), sI m 80 (6 * o + k) (dsv E N K S k o)), ⟨rfl, fun w hw => ?_, h3.tr (Fr.sI (A := fun c k => c = 80 ∧ 6 * o ≤ k) ⟨rfl, by omega⟩)⟩, ?_⟩
    · by_cases q : w = k
      · subst q
        exact gs_eq ⟨rfl, rfl⟩
      · exact (gs_ne (by omega)).trans (h2 w (by omega))
    · show Ou_allot_41b _ _ _ _ _ _ _ _ _ _ = _
      unfold Ou_allot_41b
      rw [if_pos lt, if_pos l54, if_neg (nI_ge hk (by omega)), zb_eq e1, e6, if_pos (ib_nI (by omega) (by omega)), ix_nI (by omega), zl_e, show nI k + 1 = nI (k + 1) from nI_1 k]
def dsT (E : Int32 → Int32 → Int32 → Int32 → Int32) (N : Nat → Nat) (K : Nat → Nat → Nat) (S : Nat → Nat) (o w : Nat) : Int32 := dsv E N K S w o
theorem allot_eq {u : zM} {t : Nat} {N S : Nat → Nat} {K : Nat → Nat → Nat} {E : Int32 → Int32 → Int32 → Int32 → Int32} (hW : Wf N K S) (hS : S 0 ≤ 600) (hu : NowC u t N K E 54 S) (hO : ∀ d, d ≤ 60 → (∀ p, p < N 0 → gI u 77 (7 * d + p) = nI (itS E N K S d (1 + p))) ∧ (∀ q, q < N 2 → gI u 78 (5 * d + q) = nI (itS E N K S d (8 + q))) ∧ gI u 79 d = nI (wetS N (itS E N K S d))) : ∃ u', Ou_allot t 54 u = some ((), u') ∧ bstC u' (N 3) (foW (wgh (dsT E N K S) (N 4) (N 3)) ((N 4 + 1) ^ N 3) none) ∧ Fr (fun c k => c = 80 ∨ shC c k) u u' := by
  have lt := layT hu.2.1
  have l54 : layC 54 = (17, 6) := rfl
  obtain ⟨n0, n1, n2, n3, n4, n5⟩ := hW.1
  unfold Ou_allot
  rw [if_pos lt, if_pos l54, show gI u (t + 5) 1 = nI (N 3) from hu.2.2.1.1.2.2.2.1, show gI u (t + 7) 1 = nI (N 4) from hu.2.2.1.1.2.2.2.2.1, zl_e, zl_e]
  refine lprz (fun n (s : Int32 × Int32 × zM) => Ou_allot_23 n t 54 (nI (N 3)) (nI (N 4)) s.1 s.2.1 s.2.2) (fun k s => s.1 = nI ((N 4 + 1) ^ k) ∧ s.2.1 = nI k ∧ (∀ o w, o < k → w < N 4 → gI s.2.2 80 (6 * o + w) = dsT E N K S o w) ∧ Fr (fun c _ => c = 80) u s.2.2) (fun z => ∃ u', z = some ((), u') ∧ bstC u' (N 3) (foW (wgh (dsT E N K S) (N 4) (N 3)) ((N 4 + 1) ^ N 3) none) ∧ Fr (fun c k => c = 80 ∨ shC c k) u u') (N 3) (nI 1, nI 0, u) (by omega) ⟨rfl, rfl, fun o w h => absurd h (by omega), Fr.rf⟩ ?_ ?_
  · rintro n ⟨x, y, m⟩ ⟨h1, h2, h3, h4⟩
    dsimp only at h1 h2 h3 h4 ⊢
    subst h1 h2
    obtain ⟨u', a1, a2, a3⟩ := allot_91 (DS := dsT E N K S) (u := sI m 70 7 mI) n4 n3 (fun o w => dsv_ok E N K S w o) (fun o w ho hw => (gs_ne (by omega)).trans (h3 o w ho hw)) (gs_eq ⟨rfl, rfl⟩)
    have F : Fr (fun c k => c = 80 ∨ shC c k) u u' := Fr.tr (Fr.tr (h4.mono (fun c k h => Or.inl h)) (Fr.sI (A := fun c k => c = 80 ∨ shC c k) (Or.inr (Or.inr ⟨rfl, Or.inl rfl⟩)))) (a3.mono (fun c k h => Or.inr h))
    refine ⟨u', ?_, a2, F⟩
    show Ou_allot_23b _ _ _ _ _ _ _ _ = _
    unfold Ou_allot_23b
    rw [if_pos lt, if_pos l54, if_pos (nI_le (Nat.le_refl _) (by omega)), zl_e]
    exact a1
  · rintro n k ⟨x, y, m⟩ hk ⟨h1, h2, h3, h4⟩
    dsimp only at h1 h2 h3 h4 ⊢
    subst h1 h2
    right
    have ht := hu.2.1
    have hm : NowC m t N K E 54 S := hu.st (fun c k _ _ _ => h4.i (by omega)) h4.2 (hu.2.2.2.2.fr hW.1 (fun j k _ _ _ => h4.i (by omega)))
    have hO' := fun d hd => (⟨fun p hp => (h4.i (by omega)).trans ((hO d hd).1 p hp), fun q hq => (h4.i (by omega)).trans ((hO d hd).2.1 q hq), (h4.i (by omega)).trans (hO d hd).2.2⟩ : (∀ p, p < N 0 → gI m 77 (7 * d + p) = nI (itS E N K S d (1 + p))) ∧ (∀ q, q < N 2 → gI m 78 (5 * d + q) = nI (itS E N K S d (8 + q))) ∧ gI m 79 d = nI (wetS N (itS E N K S d)))
    obtain ⟨m', a1, a2, a3⟩ := allot_41 hW hS hm hk hO' (Ou_allot_23 n) (nI ((N 4 + 1) ^ (k + 1)))
    refine ⟨(nI ((N 4 + 1) ^ (k + 1)), nI (k + 1), m'), ⟨rfl, rfl, fun o w ho hw => ?_, h4.tr (a3.mono (fun c k h => h.1))⟩, ?_⟩
    · by_cases q : o = k
      · subst q
        exact a2 w hw
      · exact (a3.i (by omega)).trans (h3 o w (by omega) hw)
    · show Ou_allot_23b _ _ _ _ _ _ _ _ = _
      unfold Ou_allot_23b
      rw [if_pos lt, if_pos l54, if_neg (nI_ge hk (by omega)), show nI (N 4) + 1 = nI (N 4 + 1) from nI_1 _, pk_mul, ← Nat.pow_succ, zl_e]
      exact a1
