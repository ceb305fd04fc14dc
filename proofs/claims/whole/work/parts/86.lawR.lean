/-! ===== the law read: what is put, what is at hand ===== -/
theorem Hld.frr {u u' : zM} {c : Nat} : ∀ (P : List Int32) (i : Nat), Hld u c i P → (∀ k, i ≤ k → k < i + P.length → gI u' c k = gI u c k) → Hld u' c i P := by
  intro P
  induction P with
  | nil => intro _ _ _; trivial
  | cons x P ih => intro i h hf; exact ⟨(hf i (Nat.le_refl _) (by rw [List.length_cons]; omega)).trans h.1, ih (i + 1) h.2 (fun k h1 h2 => hf k (by omega) (by rw [List.length_cons]; omega))⟩
theorem Hld_put {u : zM} {c i : Nat} {P : List Int32} {x : Int32} (h : Hld u c i P) : Hld (sI u c (i + P.length) x) c i (P ++ [x]) := (Hld_app P [x] i).mpr ⟨Hld.frr P i h (fun k h1 h2 => gs_ne (by omega)), gs_eq ⟨rfl, rfl⟩, trivial⟩
def LSc (u : zM) (r : Nat) (P : List Int32) : Prop := gI u r 2 = nI P.length ∧ Hld u (r + 1) 0 P
def LSm (v : zM) (Q : List Int32) : Prop := gI v 1 27 = nI (1000 + Q.length) ∧ Hld v 19 1000 Q
def puC (r c k : Nat) : Prop := (c = r ∧ k = 2) ∨ c = r + 1
def puM (c k : Nat) : Prop := (c = 1 ∧ k = 27) ∨ (c = 19 ∧ 1000 ≤ k)
def pqC (r c k : Nat) : Prop := rdC c k ∨ puC r c k
def pqM (X d c k : Nat) : Prop := rdM c k ∨ puM c k ∨ (c = 20 ∧ d < k) ∨ (c = 21 ∧ (d < k ∨ (k = d ∧ X ≤ 1)))
theorem La_put_eq {u : zM} {r : Nat} (hr : layC r = (11, 3)) {P : List Int32} (h : LSc u r P) (hP : P.length < 1000) (x : Int32) : ∃ u', La_put r x u = some ((), u') ∧ LSc u' r (P ++ [x]) ∧ Fr (puC r) u u' := by
  refine ⟨sI (sI u (r + 1) P.length x) r 2 (nI (P.length + 1)), ?_, ⟨?_, ?_⟩, (Fr.sI (Or.inr rfl)).tr (Fr.sI (Or.inl ⟨rfl, rfl⟩))⟩
  · unfold La_put
    rw [if_pos hr, h.1, if_neg (show ¬ (1000 : Int32) ≤ nI P.length from @nI_ge P.length 1000 hP (by decide)), if_pos (ib_nI hP (by decide)), ix_nI (by omega), zl_e, show gI (sI u (r + 1) P.length x) r 2 = nI P.length from (gs_ne (by omega)).trans h.1, show nI P.length + 1 = nI (P.length + 1) from nI_1 _, zl_e]
  · rw [List.length_append]
    exact gs_eq ⟨rfl, rfl⟩
  · have := Hld_put (x := x) h.2
    rw [Nat.zero_add] at this
    exact Hld.fr _ _ this (fun k => gs_ne (by omega))
theorem La_put_any {u : zM} {r : Nat} (hr : layC r = (11, 3)) {L : Nat} (h : gI u r 2 = nI L) (hL : L ≤ 1000) (x : Int32) : ∃ u' L', La_put r x u = some ((), u') ∧ L' ≤ 1000 ∧ gI u' r 2 = nI L' ∧ Fr (puC r) u u' := by
  by_cases q : L = 1000
  · refine ⟨u, L, ?_, hL, h, Fr.rf⟩
    unfold La_put
    rw [if_pos hr, h, if_pos (show (1000 : Int32) ≤ nI L by rw [q]; decide)]
  · refine ⟨sI (sI u (r + 1) L x) r 2 (nI (L + 1)), L + 1, ?_, by omega, gs_eq ⟨rfl, rfl⟩, (Fr.sI (Or.inr rfl)).tr (Fr.sI (Or.inl ⟨rfl, rfl⟩))⟩
    unfold La_put
    rw [if_pos hr, h, if_neg (show ¬ (1000 : Int32) ≤ nI L from @nI_ge L 1000 (by omega) (by decide)), if_pos (ib_nI (by omega) (by decide)), ix_nI (by omega), zl_e, show gI (sI u (r + 1) L x) r 2 = nI L from (gs_ne (by omega)).trans h, show nI L + 1 = nI (L + 1) from nI_1 _, zl_e]
theorem Mo_puts_eq {v : zM} {Q : List Int32} (h : LSm v Q) (hQ : Q.length < 1000) (x : Int32) : ∃ v', Mo_puts x v = some ((), v') ∧ LSm v' (Q ++ [x]) ∧ Fr puM v v' := by
  refine ⟨sI (sI v 19 (1000 + Q.length) x) 1 27 (nI (1000 + Q.length + 1)), ?_, ⟨?_, ?_⟩, (Fr.sI (Or.inr ⟨rfl, by omega⟩)).tr (Fr.sI (Or.inl ⟨rfl, rfl⟩))⟩
  · unfold Mo_puts
    rw [h.1, if_pos (ib_nI (show 1000 + Q.length < 2000 by omega) (by decide)), ix_nI (by omega), zl_e, show gI (sI v 19 (1000 + Q.length) x) 1 27 = nI (1000 + Q.length) from (gs_ne (by omega)).trans h.1, show nI (1000 + Q.length) + 1 = nI (1000 + Q.length + 1) from nI_1 _, zl_e]
  · rw [List.length_append]
    exact gs_eq ⟨rfl, rfl⟩
  · exact Hld.fr _ _ (Hld_put (x := x) h.2) (fun k => gs_ne (by omega))
theorem LSc.fr {u u' : zM} {r : Nat} {P : List Int32} (h : LSc u r P) (hu : ∀ a k, a = r ∨ a = r + 1 → gI u' a k = gI u a k) : LSc u' r P := ⟨(hu _ _ (Or.inl rfl)).trans h.1, Hld.fr _ _ h.2 (fun k => hu _ _ (Or.inr rfl))⟩
theorem LSm.fr {v v' : zM} {Q : List Int32} (h : LSm v Q) (hv : ∀ a k, (a = 1 ∧ k = 27) ∨ (a = 19) → gI v' a k = gI v a k) : LSm v' Q := ⟨(hv _ _ (Or.inl ⟨rfl, rfl⟩)).trans h.1, Hld.fr _ _ h.2 (fun k => hv _ _ (Or.inr rfl))⟩
/-- tokens -/
theorem Fin.sgF {u v : zM} {c b e k m : Nat} {T : Nat → Nat} {w : List Nat} (h : Fin u v c T b e k w m) {s : Nat} (hs : s < 128) (q : ¬ (k = 3 ∧ T b = s)) : Ta_atSign (nI s) u = some (0, u) ∧ Mo_isSign (nI s) v = some (0, v) := by
  have := h.atS hs
  rw [decide_eq_false q] at this
  exact this
theorem Fin.sgT {u v : zM} {c b e k m : Nat} {T : Nat → Nat} {w : List Nat} (h : Fin u v c T b e k w m) {s : Nat} (hs : s < 128) (q : k = 3 ∧ T b = s) : Ta_atSign (nI s) u = some (1, u) ∧ Mo_isSign (nI s) v = some (1, v) := by
  have := h.atS hs
  rw [decide_eq_true q] at this
  exact this
theorem Fin.wdF {u v : zM} {c b e k m : Nat} {T : Nat → Nat} {w : List Nat} (h : Fin u v c T b e k w m) {kw : List Nat} (hk : wfB kw = true) {A B : Int64} (hA : wd256 kw = A) (hB : wd27 kw = B) (q : ¬ (k = 1 ∧ w = kw)) : Ta_atWord A u = some (0, u) ∧ Mo_isWord B v = some (0, v) := by
  have h1 := h.atW hk hA
  have h2 := h.isW hk hB
  rw [decide_eq_false q] at h1 h2
  exact ⟨h1, h2⟩
theorem Fin.wdT {u v : zM} {c b e k m : Nat} {T : Nat → Nat} {w : List Nat} (h : Fin u v c T b e k w m) {kw : List Nat} (hk : wfB kw = true) {A B : Int64} (hA : wd256 kw = A) (hB : wd27 kw = B) (q : k = 1 ∧ w = kw) : Ta_atWord A u = some (1, u) ∧ Mo_isWord B v = some (1, v) := by
  have h1 := h.atW hk hA
  have h2 := h.isW hk hB
  rw [decide_eq_true q] at h1 h2
  exact ⟨h1, h2⟩
theorem Fin.k6 {u v : zM} {c b e k m : Nat} {T : Nat → Nat} {w : List Nat} (h : Fin u v c T b e k w m) : gI v 1 6 = nI k ∧ k ≤ 4 ∧ (k = 0 → b = c) ∧ (k ≠ 0 → b < e) ∧ b ≤ e ∧ e ≤ c ∧ c ≤ 1000 := ⟨h.2.1.2.2.2.2.1.2, h.2.1.2.2.2.2.2.1, h.2.1.2.2.2.2.2.2.1, h.2.1.2.2.2.2.2.2.2.1, h.2.1.1, h.2.1.2.1, h.1.1.1⟩
theorem Fin.lgW {u v : zM} {c b e k m : Nat} {T : Nat → Nat} {w : List Nat} (h : Fin u v c T b e k w m) (hk1 : k = 1) {kw : List Nat} (hk : wfB kw = true) {B : Int64} (hB : wd27 kw = B) : (lg_cmp (gL v 1 7) B = 0) ↔ (w = kw) := by
  have h2 := h.isW hk hB
  unfold Mo_isWord at h2
  rw [h.k6.1, hk1, if_pos (show nI 1 = (1 : Int32) from rfl)] at h2
  by_cases q : lg_cmp (gL v 1 7) B = 0
  · rw [if_pos q] at h2
    by_cases q2 : w = kw
    · exact ⟨fun _ => q2, fun _ => q⟩
    · rw [decide_eq_false (fun z => q2 z.2)] at h2
      have h3 : (1 : Int32) = bI false := congrArg (fun z => match z with | some (a, _) => a | none => 0) h2
      exact absurd h3 (by decide)
  · rw [if_neg q] at h2
    by_cases q2 : w = kw
    · rw [decide_eq_true ⟨rfl, q2⟩] at h2
      have h3 : (0 : Int32) = bI true := congrArg (fun z => match z with | some (a, _) => a | none => 0) h2
      exact absurd h3 (by decide)
    · exact ⟨fun z => absurd z q, fun z => absurd z q2⟩
/-- a number or a fact at hand -/
theorem Fin.sim {u v : zM} {c b e k m : Nat} {T : Nat → Nat} {w : List Nat} (h : Fin u v c T b e k w m) : ∃ sx fx, La_simpleStep u = some (sx, u) ∧ Mo_fact v = some (fx, v) ∧ ((k = 2 ∧ fx = 0 ∧ sx = nI m ∧ m ≤ 9999 ∧ gI v 1 8 = nI m ∧ sx ≠ -13) ∨ (k = 1 ∧ simR sx fx ∧ ¬ fx ≤ 0 ∧ sx ≠ -13 ∧ w ≠ kw_not) ∨ (k ≠ 2 ∧ fx = 0 ∧ sx = -13)) := by
  have h6 := h.k6
  by_cases k2 : k = 2
  · obtain ⟨m1, m2, m3⟩ := h.2.1.2.2.2.2.2.2.2.2.2.1 k2
    refine ⟨nI m, 0, ?_, ?_, Or.inl ⟨k2, rfl, rfl, m1, m3, fun z => ?_⟩⟩
    · unfold La_simpleStep
      rw [zb_eq h.atN, decide_eq_true k2, if_neg bIt_ne, m2, toI_nL (by omega)]
    · unfold Mo_fact
      rw [h6.1, if_neg (show ¬ nI k = (1 : Int32) by rw [k2]; decide)]
    · have : (-13 : Int32) < nI m := Int32.lt_of_lt_of_le (show (-13 : Int32) < nI 0 by decide) (nI_le (Nat.zero_le m) (by omega))
      rw [z] at this
      exact absurd this (by decide)
  · have eN : Ta_atNumber u = some (0, u) := by have := h.atN; rw [decide_eq_false k2] at this; exact this
    unfold La_simpleStep Mo_fact
    rw [zb_eq eN, if_pos rfl, h6.1]
    by_cases k1 : k = 1
    · rw [if_pos (show nI k = (1 : Int32) by rw [k1]; rfl)]
      have L1 := h.lgW k1 (kw := kw_level) rfl k27_level
      have L2 := h.lgW k1 (kw := kw_falls) rfl k27_falls
      have L3 := h.lgW k1 (kw := kw_ways) rfl k27_ways
      have L4 := h.lgW k1 (kw := kw_date) rfl k27_date
      by_cases w1 : w = kw_level
      · rw [zb_eq (h.wdT (kw := kw_level) rfl k256_level k27_level ⟨k1, w1⟩).1, if_neg (show ¬ (1 : Int32) = 0 by decide), if_pos (L1.mpr w1)]
        exact ⟨_, _, rfl, rfl, Or.inr (Or.inl ⟨k1, Or.inr (Or.inl ⟨rfl, rfl⟩), by decide, by decide, by rw [w1]; decide⟩)⟩
      · rw [zb_eq (h.wdF (kw := kw_level) rfl k256_level k27_level (fun z => w1 z.2)).1, if_pos rfl, if_neg (fun z => w1 (L1.mp z))]
        by_cases w2 : w = kw_falls
        · rw [zb_eq (h.wdT (kw := kw_falls) rfl k256_falls k27_falls ⟨k1, w2⟩).1, if_neg (show ¬ (1 : Int32) = 0 by decide), if_pos (L2.mpr w2)]
          exact ⟨_, _, rfl, rfl, Or.inr (Or.inl ⟨k1, Or.inr (Or.inr (Or.inl ⟨rfl, rfl⟩)), by decide, by decide, by rw [w2]; decide⟩)⟩
        · rw [zb_eq (h.wdF (kw := kw_falls) rfl k256_falls k27_falls (fun z => w2 z.2)).1, if_pos rfl, if_neg (fun z => w2 (L2.mp z))]
          by_cases w3 : w = kw_ways
          · rw [zb_eq (h.wdT (kw := kw_ways) rfl k256_ways k27_ways ⟨k1, w3⟩).1, if_neg (show ¬ (1 : Int32) = 0 by decide), if_pos (L3.mpr w3)]
            exact ⟨_, _, rfl, rfl, Or.inr (Or.inl ⟨k1, Or.inr (Or.inr (Or.inr (Or.inl ⟨rfl, rfl⟩))), by decide, by decide, by rw [w3]; decide⟩)⟩
          · rw [zb_eq (h.wdF (kw := kw_ways) rfl k256_ways k27_ways (fun z => w3 z.2)).1, if_pos rfl, if_neg (fun z => w3 (L3.mp z))]
            by_cases w4 : w = kw_date
            · rw [zb_eq (h.wdT (kw := kw_date) rfl k256_date k27_date ⟨k1, w4⟩).1, if_neg (show ¬ (1 : Int32) = 0 by decide), if_pos (L4.mpr w4)]
              exact ⟨_, _, rfl, rfl, Or.inr (Or.inl ⟨k1, Or.inr (Or.inr (Or.inr (Or.inr ⟨rfl, rfl⟩))), by decide, by decide, by rw [w4]; decide⟩)⟩
            · rw [zb_eq (h.wdF (kw := kw_date) rfl k256_date k27_date (fun z => w4 z.2)).1, if_pos rfl, if_neg (fun z => w4 (L4.mp z))]
              exact ⟨_, _, rfl, rfl, Or.inr (Or.inr ⟨k2, rfl, rfl⟩)⟩
    · rw [if_neg (show ¬ nI k = (1 : Int32) from fun z => k1 ((nI_eq (b := 1) (by omega) (by decide)).mp z))]
      rw [zb_eq (h.wdF (kw := kw_level) rfl k256_level k27_level (fun z => k1 z.1)).1, if_pos rfl, zb_eq (h.wdF (kw := kw_falls) rfl k256_falls k27_falls (fun z => k1 z.1)).1, if_pos rfl, zb_eq (h.wdF (kw := kw_ways) rfl k256_ways k27_ways (fun z => k1 z.1)).1, if_pos rfl, zb_eq (h.wdF (kw := kw_date) rfl k256_date k27_date (fun z => k1 z.1)).1, if_pos rfl]
      exact ⟨_, _, rfl, rfl, Or.inr (Or.inr ⟨k2, rfl, rfl⟩)⟩
