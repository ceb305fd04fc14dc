/-! ===== how far one swims in days ===== -/
def tkF (T : Bool) (b l : Nat) : Nat := if T then l ||| (b &&& 1) else l
def sw (T : Bool) (L : Nat → Nat) (n w : Nat) (b l : Nat) : Nat → Nat × Nat
  | 0 => (b, tkF T b l)
  | k + 1 => (spr L n (sw T L n w b l k).1 w, tkF T (spr L n (sw T L n w b l k).1 w) (spr L n (sw T L n w b l k).2 w))
theorem sw_s (T : Bool) (L : Nat → Nat) (n w b l k : Nat) : sw T L n w b l (k + 1) = (spr L n (sw T L n w b l k).1 w, tkF T (spr L n (sw T L n w b l k).1 w) (spr L n (sw T L n w b l k).2 w)) := rfl
theorem tkF_lt {T : Bool} {b l : Nat} (hb : b < 128) (hl : l < 128) : tkF T b l < 128 := by
  unfold tkF
  split
  · exact or128 hl (and128 hb)
  · exact hl
theorem tkF_0 {T : Bool} {l : Nat} : tkF T 0 l = l := by
  unfold tkF
  split
  · rw [Nat.zero_and, Nat.or_zero]
  · rfl
theorem sw_lt {T : Bool} {L : Nat → Nat} {n w b l : Nat} (h : ∀ p, p < n → L p < 128) (hb : b < 128) (hl : l < 128) (k : Nat) : (sw T L n w b l k).1 < 128 ∧ (sw T L n w b l k).2 < 128 := by
  induction k with
  | zero => exact ⟨hb, tkF_lt hb hl⟩
  | succ k ih => exact ⟨spr_lt h ih.1, tkF_lt (spr_lt h ih.1) (spr_lt h ih.2)⟩
theorem sw_1 {T : Bool} {L : Nat → Nat} {n w b l : Nat} (k : Nat) : (sw T L n w b l k).1 = itr L n w b k := by
  induction k with
  | zero => rfl
  | succ k ih => rw [sw_s, ih]; rfl
theorem spr_0 {L : Nat → Nat} {n w : Nat} : spr L n 0 w = 0 := by
  unfold spr
  rw [Nat.zero_and, nx_0, Nat.zero_and, Nat.or_zero]
/-- with nothing without the writ, taking is nothing -/
theorem sw_b0 {T : Bool} {L : Nat → Nat} {n w l : Nat} (k : Nat) : sw T L n w 0 l k = sw false L n w 0 l k := by
  induction k with
  | zero => show (0, tkF T 0 l) = (0, tkF false 0 l); rw [tkF_0, tkF_0]
  | succ k ih =>
    rw [sw_s, sw_s, ih]
    have e : (sw false L n w 0 l k).1 = 0 := by rw [sw_1, itr_0]
    rw [e, spr_0, tkF_0, tkF_0]
theorem bn_and1 {a : Nat} (ha : a < 128) : nI a &&& nI 1 = nI (a &&& 1) := bn_and ha (by omega)
theorem and1_01 (a : Nat) : a &&& 1 = 0 ∨ a &&& 1 = 1 := by rw [Nat.and_one_is_mod]; omega
theorem Mo_swimsAll_eq {m : zM} {N F : Nat → Nat} {K : Nat → Nat → Nat} {E : Int32 → Int32 → Int32 → Int32 → Int32} (hW : Wf N K F) (hz : NowM m N K E F) {b l c : Nat} (hb : b < 128) (hl : l < 128) (h58 : gI m 1 58 = nI b) (h59 : gI m 1 59 = nI l) (hc : c ≤ 3) (T : Bool) : ∃ m', Mo_swimsAll (nI c) (bI T) m = some ((), m') ∧ gI m' 1 58 = nI (sw T (K 0) (N 0) (wetS N F) b l c).1 ∧ gI m' 1 59 = nI (sw T (K 0) (N 0) (wetS N F) b l c).2 ∧ Fr (fun a k => a = 1 ∧ (k = 58 ∨ k = 59)) m m' := by
  have hw := wetS_lt (S := F) hW.1
  have lk0 := NowM.lk hW hz
  have hL : ∀ p, p < N 0 → K 0 p < 128 := fun p hp => (lk0.2.2 p hp).2
  unfold Mo_swimsAll
  rw [zb_eq (Mo_wets_e hW hz)]
  generalize wetS N F = w at *
  refine lprz (fun n (s : Int32 × zM) => Mo_swimsAll_8 n (nI c) (bI T) (nI w) s.1 s.2) (fun k s => s.1 = nI k ∧ Fr (fun a k => a = 1 ∧ (k = 58 ∨ k = 59)) m s.2 ∧ (k ≤ c → gI s.2 1 58 = nI (sw T (K 0) (N 0) w b l k).1 ∧ ∃ l', l' < 128 ∧ gI s.2 1 59 = nI l' ∧ tkF T (sw T (K 0) (N 0) w b l k).1 l' = (sw T (K 0) (N 0) w b l k).2) ∧ (k = c + 1 → gI s.2 1 58 = nI (sw T (K 0) (N 0) w b l c).1 ∧ gI s.2 1 59 = nI (sw T (K 0) (N 0) w b l c).2)) (fun r => ∃ m', r = some ((), m') ∧ gI m' 1 58 = nI (sw T (K 0) (N 0) w b l c).1 ∧ gI m' 1 59 = nI (sw T (K 0) (N 0) w b l c).2 ∧ Fr (fun a k => a = 1 ∧ (k = 58 ∨ k = 59)) m m') (c + 1) (nI 0, m) (by omega) ⟨rfl, Fr.rf, fun _ => ⟨h58, l, hl, h59, rfl⟩, fun q => absurd q (by omega)⟩ ?_ ?_
  · rintro n ⟨x, m1⟩ ⟨h1, h2, h3, h4⟩
    dsimp only at h1 h2 h3 h4 ⊢
    subst h1
    refine ⟨m1, ?_, (h4 rfl).1, (h4 rfl).2, h2⟩
    show Mo_swimsAll_8b _ _ _ _ _ _ = _
    unfold Mo_swimsAll_8b
    rw [if_pos (nI_lt (by omega) (by omega))]
  · rintro n k ⟨x, m1⟩ hk ⟨h1, h2, h3, h4⟩
    dsimp only at h1 h2 h3 h4 ⊢
    subst h1
    right
    obtain ⟨g1, l', hl', g2, g3⟩ := h3 (by omega)
    obtain ⟨b1, b2⟩ := sw_lt (T := T) (w := w) hL hb hl k
    have hs := sw_s T (K 0) (N 0) w b l k
    generalize hq : sw T (K 0) (N 0) w b l k = q at *
    -- the writ is taken where it lies
    have key : ∃ m2, (∀ zr, Mo_swimsAll_8b zr (nI c) (bI T) (nI w) (nI k) m1 = Mo_swimsAll_38 zr (nI c) (bI T) (nI w) (nI k) m2) ∧ gI m2 1 58 = nI q.1 ∧ gI m2 1 59 = nI q.2 ∧ Fr (fun a k => a = 1 ∧ (k = 58 ∨ k = 59)) m m2 := by
      have e0 : ¬ nI c < nI k := nI_nlt (by omega) (by omega)
      cases T
      · refine ⟨m1, fun zr => ?_, g1, ?_, h2⟩
        · unfold Mo_swimsAll_8b
          rw [if_neg e0, if_pos (show bI false = (0 : Int32) from rfl)]
        · rw [g2, ← g3]; rfl
      · have g3 : l' ||| (q.1 &&& 1) = q.2 := g3
        have e2 : (gI m1 1 58 &&& 1 = (1 : Int32)) ↔ q.1 &&& 1 = 1 := by
          rw [g1, show (1 : Int32) = nI 1 from rfl, bn_and1 b1]
          exact nI_eq (by rcases and1_01 q.1 with h | h <;> omega) (by omega)
        rcases and1_01 q.1 with h | h
        · refine ⟨m1, fun zr => ?_, g1, ?_, h2⟩
          · unfold Mo_swimsAll_8b
            rw [if_neg e0, if_neg bIt_ne, if_neg (fun z => by have := e2.mp z; omega)]
          · rw [g2, ← g3, h, Nat.or_zero]
        · refine ⟨sI m1 1 59 (nI (l' ||| 1)), fun zr => ?_, (gs_ne (by omega)).trans g1, ?_, h2.tr (Fr.sI ⟨rfl, Or.inr rfl⟩)⟩
          · unfold Mo_swimsAll_8b
            rw [if_neg e0, if_neg bIt_ne, if_pos (e2.mpr h), zl_e, g2, show (1 : Int32) = nI 1 from rfl, bn_lor hl' (by omega)]
          · rw [gs_eq ⟨rfl, rfl⟩, ← g3, h]
    obtain ⟨m2, f1, f2, f3, f4⟩ := key
    have n1 : nI k + 1 = nI (k + 1) := nI_1 k
    by_cases hkc : k = c
    · refine ⟨(nI (k + 1), m2), ⟨rfl, f4, fun z => absurd z (by omega), fun _ => ?_⟩, ?_⟩
      · rw [← hkc, hq]; exact ⟨f2, f3⟩
      · show Mo_swimsAll_8b _ _ _ _ _ _ = _
        rw [f1]
        unfold Mo_swimsAll_38
        rw [if_pos (show nI k = nI c by rw [hkc]), n1]
    · have z2 : NowM m2 N K E F := hz.st hW.1 (fun a k _ _ => f4.i (by omega)) (hz.2.2.fr hW.1 (fun k _ => f4.i (by omega)))
      have lk2 := NowM.lk hW z2
      have x1 : nx (K 0) (q.1 &&& w) (N 0) < 128 := nx_lt hL _ (Nat.le_refl _)
      have x2 : nx (K 0) (q.2 &&& w) (N 0) < 128 := nx_lt hL _ (Nat.le_refl _)
      have e1 : Mo_nextTo (nI q.1 &&& nI w) m2 = some (nI (nx (K 0) (q.1 &&& w) (N 0)), m2) := by rw [bn_and b1 hw]; exact Mo_nextTo_eq lk2 (and128 b1)
      have p1 : nI q.1 ||| (nI (nx (K 0) (q.1 &&& w) (N 0)) &&& nI w) = nI (spr (K 0) (N 0) q.1 w) := by rw [bn_and x1 hw, bn_lor b1 (and128 x1)]; rfl
      let m3 := sI m2 1 58 (nI (spr (K 0) (N 0) q.1 w))
      have f5 : Fr (fun a k => a = 1 ∧ (k = 58 ∨ k = 59)) m m3 := f4.tr (Fr.sI ⟨rfl, Or.inl rfl⟩)
      have z3 : NowM m3 N K E F := hz.st hW.1 (fun a k _ _ => f5.i (by omega)) (hz.2.2.fr hW.1 (fun k _ => f5.i (by omega)))
      have lk3 := NowM.lk hW z3
      have g5 : gI m3 1 59 = nI q.2 := (gs_ne (by omega)).trans f3
      have e2 : Mo_nextTo (nI q.2 &&& nI w) m3 = some (nI (nx (K 0) (q.2 &&& w) (N 0)), m3) := by rw [bn_and b2 hw]; exact Mo_nextTo_eq lk3 (and128 b2)
      have p2 : nI q.2 ||| (nI (nx (K 0) (q.2 &&& w) (N 0)) &&& nI w) = nI (spr (K 0) (N 0) q.2 w) := by rw [bn_and x2 hw, bn_lor b2 (and128 x2)]; rfl
      refine ⟨(nI (k + 1), sI m3 1 59 (nI (spr (K 0) (N 0) q.2 w))), ⟨rfl, f5.tr (Fr.sI ⟨rfl, Or.inr rfl⟩), fun _ => ⟨?_, spr (K 0) (N 0) q.2 w, spr_lt hL b2, gs_eq ⟨rfl, rfl⟩, ?_⟩, fun z => absurd z (by omega)⟩, ?_⟩
      · rw [hs]
        exact (gs_ne (by omega)).trans (gs_eq ⟨rfl, rfl⟩)
      · rw [hs]
      · show Mo_swimsAll_8b _ _ _ _ _ _ = _
        rw [f1]
        unfold Mo_swimsAll_38
        rw [if_neg (fun z => hkc ((nI_eq (by omega) (by omega)).mp z)), f2, zb_eq e1, p1, zl_e]
        show zb (Mo_nextTo (gI m3 1 59 &&& nI w) m3) _ = _
        rw [g5, zb_eq e2, p2, zl_e, n1]
/-- swims of a day -/
theorem swC : ∀ a, a < 4 → ∀ b, b < 4 → ∀ s, s < 4 → (nI a - nI b ≤ nI s ↔ a - b ≤ s) := by decide +kernel
theorem swM : ∀ a, a < 4 → ∀ b, b < 4 → (if nI 0 < nI a - nI b then nI a - nI b else nI 0) = nI (a - b) := by decide +kernel
theorem swMax {a b : Nat} (ha : a < 4) (hb : b < 4) (u : zM) : Jm_max 0 (nI a - nI b) u = some (nI (a - b), u) := by
  have h : ∀ a, a < 4 → ∀ b, b < 4 → ((0 : Int32) < nI a - nI b ∧ nI a - nI b = nI (a - b)) ∨ (¬ (0 : Int32) < nI a - nI b ∧ a - b = 0 ∧ nI a - nI b ≤ 0) := by decide +kernel
  unfold Jm_max
  rcases h a ha b hb with ⟨h1, h2⟩ | ⟨h1, h2, h3⟩
  · simp only [h2] at *
    first
      | rw [if_pos h1]
      | rw [if_neg (Int32.not_le.mpr h1)]
      | rw [if_neg (Int32.not_lt.mpr (Int32.le_of_lt h1))]
  · rw [h2]
    first
      | rw [if_neg h1]; rfl
      | rw [if_pos h3]; rfl
      | rw [if_pos (Int32.not_lt.mp h1)]; rfl
