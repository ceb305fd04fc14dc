/-! ===== chance: the reference ===== -/
theorem nextS_w {E : Int32 → Int32 → Int32 → Int32 → Int32} {N S : Nat → Nat} {K : Nat → Nat → Nat} (hN : WfN N) (f : Nat) {p : Nat} (hp : p < N 0) : nextS E N K f S (1 + p) = wbS E K p (S (1 + p)) f (S 0) := by
  obtain ⟨n0, n1, n2, n3, n4, n5⟩ := hN
  unfold nextS
  rw [upN_ne (by omega)]
  unfold rS
  rw [if_neg (by omega)]
  unfold gS
  rw [if_neg (by omega)]
  unfold wS
  rw [if_pos (by omega), Nat.add_sub_cancel_left]
/-- the reference goes a way of its own, and may go back -/
def GoX (v m : zM) (N : Nat → Nat) (K : Nat → Nat → Nat) (E : Int32 → Int32 → Int32 → Int32 → Int32) (F : Nat → Nat) : Prop := NowM m N K E F ∧ (∀ k, k < 25 → gI m 42 k = gI v 40 k) ∧ Fr goA v m
theorem GoX.step {v m : zM} {N F : Nat → Nat} {K : Nat → Nat → Nat} {E : Int32 → Int32 → Int32 → Int32 → Int32} (hW : Wf N K F) (h : GoX v m N K E F) (f : Nat) : ∃ m', Mo_passes (nI f) m = some ((), m') ∧ GoX v m' N K E (nextS E N K f F) := by
  obtain ⟨m', e1, e2, e3⟩ := Mo_passes_eq hW h.1 f
  exact ⟨m', e1, e2, fun k hk => (e3.i (by unfold pasA; omega)).trans (h.2.1 k hk), h.2.2.tr (e3.mono (fun c k q => by unfold pasA at q; unfold goA; omega))⟩
theorem GoX.back {v m : zM} {N S F : Nat → Nat} {K : Nat → Nat → Nat} {E : Int32 → Int32 → Int32 → Int32 → Int32} (hN : WfN N) (hz : NowM v N K E S) (h : GoX v m N K E F) : ∃ m', Mo_copies 42 0 40 0 m = some ((), m') ∧ GoX v m' N K E S ∧ ∀ k, k < 25 → gI m' 40 k = gI v 40 k := by
  obtain ⟨m', c1, c2, c3⟩ := Mo_copies_eq (v := m) (A := 42) (B := 40) (i := 0) (j := 0) (la := 25) (lb := 25) rfl rfl (by omega) (by omega) (by omega) (by omega) (by omega)
  have e : ∀ k, k < 25 → gI m' 40 k = gI v 40 k := fun k hk => by
    have := c2 k hk
    rw [Nat.zero_add] at this
    exact this.trans (h.2.1 k hk)
  have f : Fr goA v m' := h.2.2.tr (c3.mono (fun c k q => by unfold goA; omega))
  exact ⟨m', c1, ⟨hz.bk hN f e, fun k hk => (c3.i (by omega)).trans (h.2.1 k hk), f⟩, e⟩
theorem GoX.start {v : zM} {N S : Nat → Nat} {K : Nat → Nat → Nat} {E : Int32 → Int32 → Int32 → Int32 → Int32} (hN : WfN N) (hz : NowM v N K E S) : ∃ m', Mo_copies 40 0 42 0 v = some ((), m') ∧ GoX v m' N K E S ∧ ∀ k, k < 25 → gI m' 40 k = gI v 40 k := by
  obtain ⟨m', c1, c2, c3⟩ := Mo_copies_eq (v := v) (A := 40) (B := 42) (i := 0) (j := 0) (la := 25) (lb := 25) rfl rfl (by omega) (by omega) (by omega) (by omega) (by omega)
  have e : ∀ k, k < 25 → gI m' 40 k = gI v 40 k := fun k hk => c3.i (by omega)
  have f : Fr goA v m' := c3.mono (fun c k q => by unfold goA; omega)
  exact ⟨m', c1, ⟨hz.bk hN f e, fun k hk => by have := c2 k hk; rwa [Nat.zero_add] at this, f⟩, e⟩
theorem p10_le {k : Nat} (h : k ≤ 6) : 10 ^ k ≤ 1000000 := Nat.pow_le_pow_right (n := 10) (by decide) h
theorem chM_in {v m0 : zM} {N S : Nat → Nat} {K : Nat → Nat → Nat} {E : Int32 → Int32 → Int32 → Int32 → Int32} (hW : Wf N K S) (hS : S 0 ≤ 600) (hz : NowM v N K E S) (h : GoX v m0 N K E S) {p od D s A B : Nat} (hp : p < N 0) (hod : od ≤ 10) (hD : D ≤ 6) (hs : s < 64) (hA : A ≤ 1000000) (zr : Int32 → Int32 → Int32 → Int64 → Int64 → Int32 → zM → Option (Int32 × zM)) : ∃ m', Mo_chance_94 zF zr (nI p) (nI D) (nI od) (nL A) (nL B) (nI s) 1 0 m0 = zr (nI p) (nI D) (nI od) (nL (A + pvF (wbS E K p) od D (S (1 + p)) (S 0) s)) (nL B) (nI (s + 1)) m' ∧ GoX v m' N K E S ∧ ∀ k, k < 25 → gI m' 40 k = gI v 40 k := by
  obtain ⟨n0, n1, n2, n3, n4, n5⟩ := hW.1
  refine lprz (fun n (st : Int64 × Int32 × zM) => Mo_chance_94 n zr (nI p) (nI D) (nI od) (nL A) (nL B) (nI s) st.1 st.2.1 st.2.2) (fun k st => st.2.1 = nI k ∧ ∃ c F, st.1 = nL c ∧ c ≤ 10 ^ k ∧ Wf N K F ∧ F 0 = S 0 + k ∧ GoX v st.2.2 N K E F ∧ c * pvF (wbS E K p) od (D - k) (F (1 + p)) (S 0 + k) (s / 2 ^ k) = pvF (wbS E K p) od D (S (1 + p)) (S 0) s) (fun r => ∃ m', r = zr (nI p) (nI D) (nI od) (nL (A + pvF (wbS E K p) od D (S (1 + p)) (S 0) s)) (nL B) (nI (s + 1)) m' ∧ GoX v m' N K E S ∧ ∀ k, k < 25 → gI m' 40 k = gI v 40 k) D (nL 1, nI 0, m0) (by omega) ⟨rfl, 1, S, rfl, Nat.le_refl _, hW, rfl, h, by rw [Nat.one_mul, Nat.sub_zero, Nat.pow_zero, Nat.div_one, Nat.add_zero]⟩ ?_ ?_
  · rintro n ⟨x, y, m⟩ ⟨h1, c, F, h2, h3, h4, h5, h6, h7⟩
    dsimp only at h1 h2 h6 ⊢
    subst h1 h2
    obtain ⟨m', b1, b2, b3⟩ := h6.back hW.1 hz
    refine ⟨m', ?_, b2, b3⟩
    have hw9 := h4.2.2.2.1 p hp
    have c1 : gI m 40 (1 + p) = nI (F (1 + p)) := by have := h6.1.2.2.2.1 p hp; rwa [Nat.zero_add] at this
    have h10 := p10_le hD
    rw [Nat.sub_self] at h7
    have h7 : c * (if 1 ≤ F (1 + p) then 1 else 0) = pvF (wbS E K p) od D (S (1 + p)) (S 0) s := h7
    show Mo_chance_94b _ _ _ _ _ _ _ _ _ _ _ = _
    unfold Mo_chance_94b
    rw [if_pos (nI_le (Nat.le_refl _) (by omega)), show (1 : Int32) + nI p = nI (1 + p) from nI_add 1 p, if_pos (ib_nI (by omega) (by omega)), ix_nI (by omega), c1, show nI s + 1 = nI (s + 1) from nI_1 s, ← h7]
    by_cases q : 1 ≤ F (1 + p)
    · rw [if_neg (show ¬ nI (F (1 + p)) ≤ (0 : Int32) from nI_ge (show 0 < F (1 + p) by omega) (by omega)), if_pos q, zl_e, nL_add (by omega), zb_eq (show Mo_copies 42 0 40 0 m = _ from b1), Nat.mul_one]
    · rw [if_pos (show nI (F (1 + p)) ≤ (0 : Int32) by rw [show F (1 + p) = 0 by omega]; decide), if_neg q, zb_eq (show Mo_copies 42 0 40 0 m = _ from b1), Nat.mul_zero]
      rfl
  · rintro n k ⟨x, y, m⟩ hk ⟨h1, c, F, h2, h3, h4, h5, h6, h7⟩
    dsimp only at h1 h2 h6 ⊢
    subst h1 h2
    right
    have h10 := p10_le (show k ≤ 6 by omega)
    have e1 : (nI s >>> (nI k &&& 31)) &&& 1 = nI (s.testBit k).toNat := bn_bit (by omega) (by omega)
    have tb : (s / 2 ^ k).testBit 0 = s.testBit k := by rw [Nat.testBit_zero, Nat.testBit_eq_decide_div_mod_eq]
    obtain ⟨m', g1, g2⟩ := h6.step h4 (if s.testBit k then 9 else 0)
    have hc : c * (if s.testBit k then od else 10 - od) ≤ 10 ^ (k + 1) := by
      rw [Nat.pow_succ]
      exact Nat.mul_le_mul h3 (by split <;> omega)
    refine ⟨(nL (c * (if s.testBit k then od else 10 - od)), nI (k + 1), m'), ⟨rfl, _, _, rfl, hc, nextS_wf h4 _ (by omega), by rw [nextS_0, h5]; omega, g2, ?_⟩, ?_⟩
    · rw [← h7, show D - k = (D - (k + 1)) + 1 by omega, pvF_s, tb, nextS_w hW.1 _ hp, h5, Nat.mul_assoc, Nat.div_div_eq_div_mul, ← Nat.pow_succ]
      rfl
    · show Mo_chance_94b _ _ _ _ _ _ _ _ _ _ _ = Mo_chance_94 _ _ _ _ _ _ _ _ _ _ _
      have hc2 := p10_le (show k + 1 ≤ 6 by omega)
      unfold Mo_chance_94b Mo_chance_116 Mo_chance_135
      rw [if_neg (nI_ge hk (by omega)), e1, sub10 od (by omega), toL_nI (by omega), toL_nI (by omega), show nI k + 1 = nI (k + 1) from nI_1 k]
      revert g1 hc
      cases s.testBit k
      · intro g1 hc
        rw [if_neg (show ¬ nI false.toNat = (1 : Int32) by decide), if_pos rfl, zl_e, if_pos rfl, nL_mul (by exact Nat.lt_of_le_of_lt hc (by omega)) (by omega) (by omega), zb_eq (show Mo_passes 0 m = some ((), m') from g1)]
        rfl
      · intro g1 hc
        rw [if_pos (show nI true.toNat = (1 : Int32) from rfl), if_neg (show ¬ (1 : Int32) = 0 by decide), zl_e, if_neg (show ¬ (1 : Int32) = 0 by decide), nL_mul (by exact Nat.lt_of_le_of_lt hc (by omega)) (by omega) (by omega), zb_eq (show Mo_passes 9 m = some ((), m') from g1)]
        rfl
