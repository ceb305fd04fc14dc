/-! ===== what a reader asks of the token at hand ===== -/
def TokW (u v : zM) (c : Nat) (T : Nat → Nat) (b e k : Nat) (w : List Nat) (m : Nat) : Prop := b ≤ e ∧ e ≤ c ∧ (gI u 2 2 = nI e ∧ gI v 1 4 = nI e) ∧ (gI u 2 3 = nI b ∧ gI v 1 5 = nI b) ∧ (gI u 2 4 = nI k ∧ gI v 1 6 = nI k) ∧ k ≤ 4 ∧ (k = 0 → b = c) ∧ (k ≠ 0 → b < e) ∧ (k = 1 → WfD w ∧ gL u 2 5 = wd256 w ∧ gL v 1 7 = wd27 w) ∧ (k = 2 → m ≤ 9999 ∧ gL u 2 5 = nL m ∧ gI v 1 8 = nI m) ∧ (k = 3 → gL u 2 5 = nL (T b))
theorem Tok.ex {u v : zM} {c b e k : Nat} {T : Nat → Nat} (h : Tok u v c T b e k) : ∃ w m, TokW u v c T b e k w m := by
  obtain ⟨a1, a2, a3, a4, a5, a6, a7, a8, a9, b1, b2⟩ := h
  by_cases k1 : k = 1
  · obtain ⟨w, hw⟩ := a9 k1
    exact ⟨w, 0, a1, a2, a3, a4, a5, a6, a7, a8, fun _ => hw, fun q => absurd q (by omega), b2⟩
  · by_cases k2 : k = 2
    · obtain ⟨m, hm⟩ := b1 k2
      exact ⟨[], m, a1, a2, a3, a4, a5, a6, a7, a8, fun q => absurd q k1, fun _ => hm, b2⟩
    · exact ⟨[], 0, a1, a2, a3, a4, a5, a6, a7, a8, fun q => absurd q k1, fun q => absurd q k2, b2⟩
/-- both readers at the same token, without a fault -/
def Fin (u v : zM) (c : Nat) (T : Nat → Nat) (b e k : Nat) (w : List Nat) (m : Nat) : Prop := TkR u v c T ∧ TokW u v c T b e k w m ∧ gI u 2 6 = nI 0
theorem Fin.step {u v : zM} {c b e k m : Nat} {T : Nat → Nat} {w : List Nat} (h : Fin u v c T b e k w m) : ∃ u' v' b' e' k' w' m', Ta_step u = some ((), u') ∧ Mo_nextToken v = some ((), v') ∧ Fin u' v' c T b' e' k' w' m' ∧ e ≤ b' ∧ Fr stC u u' ∧ Fr stM v v' := by
  obtain ⟨h1, h2, h3⟩ := h
  obtain ⟨u', v', b', e', k', s1, s2, s3, s4, s5, s6⟩ := step_eq h1 h2.2.1 h2.2.2.1.1 h2.2.2.1.2
  obtain ⟨w', m', hx⟩ := s4.ex
  exact ⟨u', v', b', e', k', w', m', s1, s2, ⟨h1.st s5 s6, hx, (s5.i (by unfold stC; omega)).trans h3⟩, s3, s5, s6⟩
theorem Fin.fr {u u' v v' : zM} {c b e k m : Nat} {T : Nat → Nat} {w : List Nat} (h : Fin u v c T b e k w m) (hu : ∀ a j, (a = 2 ∧ 1 ≤ j) ∨ a = 3 → gI u' a j = gI u a j) (hl : gL u' 2 5 = gL u 2 5) (hv : ∀ a j, (a = 1 ∧ 3 ≤ j ∧ j ≤ 8) ∨ a = 2 → gI v' a j = gI v a j) (hm : gL v' 1 7 = gL v 1 7) : Fin u' v' c T b e k w m := by
  obtain ⟨h1, ⟨a1, a2, a3, a4, a5, a6, a7, a8, a9, b1, b2⟩, h3⟩ := h
  refine ⟨h1.fr (fun a k q => hu _ _ (by omega)) (fun a k q => hv _ _ (by omega)), ⟨a1, a2, ⟨(hu _ _ (by omega)).trans a3.1, (hv _ _ (by omega)).trans a3.2⟩, ⟨(hu _ _ (by omega)).trans a4.1, (hv _ _ (by omega)).trans a4.2⟩, ⟨(hu _ _ (by omega)).trans a5.1, (hv _ _ (by omega)).trans a5.2⟩, a6, a7, a8, fun q => ⟨(a9 q).1, hl.trans (a9 q).2.1, hm.trans (a9 q).2.2⟩, fun q => ⟨(b1 q).1, hl.trans (b1 q).2.1, (hv _ _ (by omega)).trans (b1 q).2.2⟩, fun q => hl.trans (b2 q)⟩, (hu _ _ (by omega)).trans h3⟩
theorem ite_b {p : Prop} [Decidable p] {u : zM} : (if p then some ((1 : Int32), u) else some ((0 : Int32), u)) = some (bI (decide p), u) := by
  by_cases h : p
  · rw [if_pos h, decide_eq_true h]; rfl
  · rw [if_neg h, decide_eq_false h]; rfl
theorem Fin.atW {u v : zM} {c b e k m : Nat} {T : Nat → Nat} {w : List Nat} (h : Fin u v c T b e k w m) {kw : List Nat} (hk : wfB kw = true) {A : Int64} (hA : wd256 kw = A) : Ta_atWord A u = some (bI (decide (k = 1 ∧ w = kw)), u) := by
  obtain ⟨h1, ⟨a1, a2, a3, a4, a5, a6, a7, a8, a9, b1, b2⟩, h3⟩ := h
  unfold Ta_atWord
  rw [h3, if_pos (show nI 0 = (0 : Int32) from rfl), a5.1]
  by_cases q : k = 1
  · rw [if_pos (show nI k = (1 : Int32) by rw [q]; rfl), (a9 q).2.1, ← hA, ite_b]
    congr 3
    apply decide_eq_decide.mpr
    rw [lg0, w256_eq (a9 q).1 (wfB_ok hk)]
    exact ⟨fun z => ⟨q, z⟩, fun z => z.2⟩
  · rw [if_neg (show ¬ nI k = (1 : Int32) from fun z => q ((nI_eq (b := 1) (by omega) (by decide)).mp z)), decide_eq_false (fun z => q z.1)]
    rfl
theorem Fin.isW {u v : zM} {c b e k m : Nat} {T : Nat → Nat} {w : List Nat} (h : Fin u v c T b e k w m) {kw : List Nat} (hk : wfB kw = true) {A : Int64} (hA : wd27 kw = A) : Mo_isWord A v = some (bI (decide (k = 1 ∧ w = kw)), v) := by
  obtain ⟨h1, ⟨a1, a2, a3, a4, a5, a6, a7, a8, a9, b1, b2⟩, h3⟩ := h
  unfold Mo_isWord
  rw [a5.2]
  by_cases q : k = 1
  · rw [if_pos (show nI k = (1 : Int32) by rw [q]; rfl), (a9 q).2.2, ← hA, ite_b]
    congr 3
    apply decide_eq_decide.mpr
    rw [lg0, w27_eq (a9 q).1 (wfB_ok hk)]
    exact ⟨fun z => ⟨q, z⟩, fun z => z.2⟩
  · rw [if_neg (show ¬ nI k = (1 : Int32) from fun z => q ((nI_eq (b := 1) (by omega) (by decide)).mp z)), decide_eq_false (fun z => q z.1)]
    rfl
theorem Fin.atS {u v : zM} {c b e k m : Nat} {T : Nat → Nat} {w : List Nat} (h : Fin u v c T b e k w m) {s : Nat} (hs : s < 128) : Ta_atSign (nI s) u = some (bI (decide (k = 3 ∧ T b = s)), u) ∧ Mo_isSign (nI s) v = some (bI (decide (k = 3 ∧ T b = s)), v) := by
  obtain ⟨h1, ⟨a1, a2, a3, a4, a5, a6, a7, a8, a9, b1, b2⟩, h3⟩ := h
  have hc := h1.1.1
  unfold Ta_atSign Mo_isSign
  rw [h3, if_pos (show nI 0 = (0 : Int32) from rfl), a5.1, a5.2]
  by_cases q : k = 3
  · have hb : b < c := by have := a8 (by omega); omega
    have hT := h1.1.2 b hb
    rw [if_pos (show nI k = (3 : Int32) by rw [q]; rfl), if_pos (show nI k = (3 : Int32) by rw [q]; rfl), b2 q, a4.2, if_pos (ib_nI (by omega) (by omega)), ix_nI (by omega), h1.2.2.2.2 b hb, toL_nI (by omega), ite_b, ite_b]
    refine ⟨?_, ?_⟩
    · congr 3
      apply decide_eq_decide.mpr
      rw [lg0, nL_eq (by omega) (by omega)]
      exact ⟨fun z => ⟨q, z⟩, fun z => z.2⟩
    · congr 3
      apply decide_eq_decide.mpr
      rw [nI_eq (by omega) (by omega)]
      exact ⟨fun z => ⟨q, z⟩, fun z => z.2⟩
  · rw [if_neg (show ¬ nI k = (3 : Int32) from fun z => q ((nI_eq (b := 3) (by omega) (by decide)).mp z)), if_neg (show ¬ nI k = (3 : Int32) from fun z => q ((nI_eq (b := 3) (by omega) (by decide)).mp z)), decide_eq_false (fun z => q z.1)]
    exact ⟨rfl, rfl⟩
theorem Fin.atN {u v : zM} {c b e k m : Nat} {T : Nat → Nat} {w : List Nat} (h : Fin u v c T b e k w m) : Ta_atNumber u = some (bI (decide (k = 2)), u) := by
  obtain ⟨h1, ⟨a1, a2, a3, a4, a5, a6, a7, a8, a9, b1, b2⟩, h3⟩ := h
  unfold Ta_atNumber
  rw [h3, if_pos (show nI 0 = (0 : Int32) from rfl), a5.1, ite_b]
  congr 3
  apply decide_eq_decide.mpr
  exact nI_eq (b := 2) (by omega) (by decide)
theorem Fin.fine {u v : zM} {c b e k m : Nat} {T : Nat → Nat} {w : List Nat} (h : Fin u v c T b e k w m) : Ta_isFine u = some (nI 1, u) := by
  unfold Ta_isFine
  rw [h.2.2, if_pos (show nI 0 = (0 : Int32) from rfl)]
  rfl
/-- a fault -/
def Bad (u : zM) (x : Nat) : Prop := gI u 2 6 = nI x ∧ x ≠ 0 ∧ x < 2 ^ 20
theorem Fin.fail {u v : zM} {c b e k m : Nat} {T : Nat → Nat} {w : List Nat} (h : Fin u v c T b e k w m) {j : Nat} (h0 : 0 < j) (hj : j < 16) : Ta_fail (nI j) u = some ((), sI u 2 6 (nI (j + 16 * b))) ∧ Mo_fails (nI j) v = some (nI 0, sI v 1 9 (nI (j + 16 * b))) ∧ Bad (sI u 2 6 (nI (j + 16 * b))) (j + 16 * b) := by
  obtain ⟨h1, ⟨a1, a2, a3, a4, a5, a6, a7, a8, a9, b1, b2⟩, h3⟩ := h
  have hc := h1.1.1
  have e : ∀ z, nI j + 16 * nI z = nI (j + 16 * z) := fun z => by rw [show (16 : Int32) = nI 16 from rfl, pk_mul, nI_add]
  refine ⟨?_, ?_, gs_eq ⟨rfl, rfl⟩, by omega, by omega⟩
  · unfold Ta_fail Ta_failAt
    rw [h3, if_pos (show nI 0 = (0 : Int32) from rfl), a4.1, e, zl_e, zs_e]
  · unfold Mo_fails
    rw [a4.2, e, zl_e]
    rfl
theorem Fin.failAt {u v : zM} {c b e k m : Nat} {T : Nat → Nat} {w : List Nat} (h : Fin u v c T b e k w m) {j z : Nat} (h0 : 0 < j) (hj : j < 16) (hz : z ≤ 1000) : Ta_failAt (nI j) (nI z) u = some ((), sI u 2 6 (nI (j + 16 * z))) ∧ Bad (sI u 2 6 (nI (j + 16 * z))) (j + 16 * z) := by
  have e : nI j + 16 * nI z = nI (j + 16 * z) := by rw [show (16 : Int32) = nI 16 from rfl, pk_mul, nI_add]
  refine ⟨?_, gs_eq ⟨rfl, rfl⟩, by omega, by omega⟩
  unfold Ta_failAt
  rw [h.2.2, if_pos (show nI 0 = (0 : Int32) from rfl), e, zl_e]
theorem Bad.n0 {u : zM} {x : Nat} (h : Bad u x) : ¬ gI u 2 6 = 0 := by
  rw [h.1]
  intro q
  have := (nI_eq (b := 0) (by have := h.2.2; omega) (by decide)).mp q
  exact h.2.1 this
theorem Bad.fine {u : zM} {x : Nat} (h : Bad u x) : Ta_isFine u = some (nI 0, u) := by unfold Ta_isFine; rw [if_neg h.n0]; rfl
theorem Bad.atW {u : zM} {x : Nat} (h : Bad u x) (A : Int64) : Ta_atWord A u = some (nI 0, u) := by unfold Ta_atWord; rw [if_neg h.n0]; rfl
theorem Bad.atS {u : zM} {x : Nat} (h : Bad u x) (s : Int32) : Ta_atSign s u = some (nI 0, u) := by unfold Ta_atSign; rw [if_neg h.n0]; rfl
theorem Bad.atN {u : zM} {x : Nat} (h : Bad u x) : Ta_atNumber u = some (nI 0, u) := by unfold Ta_atNumber; rw [if_neg h.n0]; rfl
theorem Bad.name {u : zM} {x : Nat} (h : Bad u x) : Ta_atName u = some (nI 0, u) := by unfold Ta_atName; rw [if_neg h.n0]; rfl
theorem Bad.failAt {u : zM} {x : Nat} (h : Bad u x) (a b : Int32) : Ta_failAt a b u = some ((), u) := by unfold Ta_failAt; rw [if_neg h.n0]
theorem Bad.fail {u : zM} {x : Nat} (h : Bad u x) (a : Int32) : Ta_fail a u = some ((), u) := by unfold Ta_fail; rw [zb_eq (h.failAt _ _)]
theorem Bad.passW {u : zM} {x : Nat} (h : Bad u x) (A : Int64) : Ta_passWord A u = some ((), u) := by unfold Ta_passWord; rw [zb_eq (h.atW A), if_pos (show nI 0 = (0 : Int32) from rfl), zb_eq (h.fail _)]
theorem Bad.passS {u : zM} {x : Nat} (h : Bad u x) (s : Int32) : Ta_passSign s u = some ((), u) := by unfold Ta_passSign; rw [zb_eq (h.atS s), if_pos (show nI 0 = (0 : Int32) from rfl), zb_eq (h.fail _)]
theorem Bad.passN {u : zM} {x : Nat} (h : Bad u x) (a b : Int32) : Ta_passNumber a b u = some (a, u) := by unfold Ta_passNumber; rw [zb_eq h.atN, if_pos (show nI 0 = (0 : Int32) from rfl), zb_eq (h.fail _)]
theorem Bad.told {u : zM} {x : Nat} (h : Bad u x) {r : Nat} (hr : layC r = (13, 2)) : Ta_passTold r u = some (-1, u) := by unfold Ta_passTold; rw [if_pos hr, zb_eq h.name, if_pos (show nI 0 = (0 : Int32) from rfl)]
theorem Bad.fr {u u' : zM} {x : Nat} (h : Bad u x) (e : gI u' 2 6 = gI u 2 6) : Bad u' x := ⟨e.trans h.1, h.2⟩
def rdC (c k : Nat) : Prop := c = 2 ∧ 2 ≤ k ∧ k ≤ 6
def rdM (c k : Nat) : Prop := c = 1 ∧ ((4 ≤ k ∧ k ≤ 9) ∨ k = 40)
theorem stC_rd {c k : Nat} (h : stC c k) : rdC c k := by unfold stC at h; unfold rdC; omega
theorem stM_rd {c k : Nat} (h : stM c k) : rdM c k := by unfold stM at h; unfold rdM; omega
/-- both went on to a later token, or both found the same fault -/
def Ok2 (u v u' v' : zM) (c : Nat) (T : Nat → Nat) (b : Nat) : Prop := ∃ b' e' k' w' m', Fin u' v' c T b' e' k' w' m' ∧ b < b' ∧ Fr rdC u u' ∧ Fr rdM v v'
def Bd2 (u v u' v' : zM) : Prop := ∃ x, Bad u' x ∧ gI v' 1 9 = nI x ∧ Fr rdC u u' ∧ Fr rdM v v'
theorem Fin.go {u v : zM} {c b e k m : Nat} {T : Nat → Nat} {w : List Nat} (h : Fin u v c T b e k w m) (hk : k ≠ 0) : ∃ u' v', Ta_step u = some ((), u') ∧ Mo_nextToken v = some ((), v') ∧ Ok2 u v u' v' c T b := by
  obtain ⟨u', v', b', e', k', w', m', s1, s2, s3, s4, s5, s6⟩ := h.step
  exact ⟨u', v', s1, s2, b', e', k', w', m', s3, by have := h.2.1.2.2.2.2.2.2.2.1 hk; omega, s5.mono (fun c k => stC_rd), s6.mono (fun c k => stM_rd)⟩
theorem Fin.bd {u v : zM} {c b e k m : Nat} {T : Nat → Nat} {w : List Nat} (h : Fin u v c T b e k w m) {j : Nat} (h0 : 0 < j) (hj : j < 16) : Bd2 u v (sI u 2 6 (nI (j + 16 * b))) (sI v 1 9 (nI (j + 16 * b))) := ⟨_, (h.fail h0 hj).2.2, gs_eq ⟨rfl, rfl⟩, Fr.sI (by unfold rdC; omega), Fr.sI (by unfold rdM; omega)⟩
theorem Fin.passW {u v : zM} {c b e k m : Nat} {T : Nat → Nat} {w : List Nat} (h : Fin u v c T b e k w m) {kw : List Nat} (hk : wfB kw = true) {A B : Int64} (hA : wd256 kw = A) (hB : wd27 kw = B) : ∃ u' v', Ta_passWord A u = some ((), u') ∧ ((Mo_needsWord B v = some (1, v') ∧ Ok2 u v u' v' c T b) ∨ (Mo_needsWord B v = some (0, v') ∧ Bd2 u v u' v')) := by
  unfold Ta_passWord Mo_needsWord
  rw [zb_eq (h.atW hk hA), zb_eq (h.isW hk hB)]
  by_cases q : k = 1 ∧ w = kw
  · rw [decide_eq_true q, if_neg bIt_ne, if_neg bIt_ne]
    obtain ⟨u', v', s1, s2, s3⟩ := h.go (by omega)
    exact ⟨u', v', by rw [zb_eq s1], Or.inl ⟨by rw [zb_eq s2], s3⟩⟩
  · rw [decide_eq_false q, if_pos (show bI false = (0 : Int32) from rfl), if_pos (show bI false = (0 : Int32) from rfl)]
    obtain ⟨f1, f2, f3⟩ := h.fail (j := 1) (by decide) (by decide)
    exact ⟨_, _, by rw [zb_eq (show Ta_fail 1 u = _ from f1)], Or.inr ⟨by rw [zb_eq (show Mo_fails 1 v = _ from f2)]; rfl, h.bd (by decide) (by decide)⟩⟩
theorem Fin.passS {u v : zM} {c b e k m : Nat} {T : Nat → Nat} {w : List Nat} (h : Fin u v c T b e k w m) : ∃ u' v', Ta_passSign 59 u = some ((), u') ∧ ((Mo_closes v = some (1, v') ∧ Ok2 u v u' v' c T b) ∨ (Mo_closes v = some (0, v') ∧ Bd2 u v u' v')) := by
  unfold Ta_passSign Mo_closes
  obtain ⟨a1, a2⟩ := h.atS (s := 59) (by decide)
  rw [zb_eq (show Ta_atSign 59 u = _ from a1), zb_eq (show Mo_isSign 59 v = _ from a2)]
  by_cases q : k = 3 ∧ T b = 59
  · rw [decide_eq_true q, if_neg bIt_ne, if_neg bIt_ne]
    obtain ⟨u', v', s1, s2, s3⟩ := h.go (by omega)
    exact ⟨u', v', by rw [zb_eq s1], Or.inl ⟨by rw [zb_eq s2], s3⟩⟩
  · rw [decide_eq_false q, if_pos (show bI false = (0 : Int32) from rfl), if_pos (show bI false = (0 : Int32) from rfl)]
    obtain ⟨f1, f2, f3⟩ := h.fail (j := 1) (by decide) (by decide)
    exact ⟨_, _, by rw [zb_eq (show Ta_fail 1 u = _ from f1)], Or.inr ⟨by rw [zb_eq (show Mo_fails 1 v = _ from f2)]; rfl, h.bd (by decide) (by decide)⟩⟩
theorem lg_lt {a b : Nat} (ha : a < 2 ^ 63) (hb : b < 2 ^ 63) : (lg_cmp (nL a) (nL b) < 0 ↔ a < b) ∧ (lg_cmp (nL a) (nL b) ≤ 0 ↔ a ≤ b) := by
  have h1 : (nL a > nL b) ↔ b < a := nL_lt hb ha
  have h2 : (nL a = nL b) ↔ a = b := nL_eq ha hb
  unfold lg_cmp
  by_cases q1 : b < a
  · rw [if_pos (h1.mpr q1)]
    exact ⟨⟨fun z => absurd z (by decide), fun z => by omega⟩, ⟨fun z => absurd z (by decide), fun z => by omega⟩⟩
  · rw [if_neg (fun z => q1 (h1.mp z))]
    by_cases q2 : a = b
    · rw [if_pos (h2.mpr q2)]
      exact ⟨⟨fun z => absurd z (by decide), fun z => by omega⟩, ⟨fun _ => by omega, fun _ => by decide⟩⟩
    · rw [if_neg (fun z => q2 (h2.mp z))]
      exact ⟨⟨fun _ => by omega, fun _ => by decide⟩, ⟨fun _ => by omega, fun _ => by decide⟩⟩
theorem Fin.passN {u v : zM} {c b e k m : Nat} {T : Nat → Nat} {w : List Nat} (h : Fin u v c T b e k w m) {lo hi : Nat} (hlo : lo < 2 ^ 20) (hhi : hi < 2 ^ 20) : ∃ x u' v', Ta_passNumber (nI lo) (nI hi) u = some (x, u') ∧ ((Mo_needsNumber (nI lo) (nI hi) v = some (1, v') ∧ x = nI m ∧ gI v' 1 40 = nI m ∧ lo ≤ m ∧ m ≤ hi ∧ k = 2 ∧ Ok2 u v u' v' c T b) ∨ (Mo_needsNumber (nI lo) (nI hi) v = some (0, v') ∧ Bd2 u v u' v')) := by
  have h0 := h
  obtain ⟨h1, ⟨a1, a2, a3, a4, a5, a6, a7, a8, a9, b1, b2⟩, h3⟩ := h
  unfold Ta_passNumber Mo_needsNumber
  rw [zb_eq h0.atN, a5.2]
  by_cases q : k = 2
  · obtain ⟨m1, m2, m3⟩ := b1 q
    obtain ⟨l1, l2⟩ := lg_lt (a := m) (b := lo) (by omega) (by omega)
    obtain ⟨l3, l4⟩ := lg_lt (a := m) (b := hi) (by omega) (by omega)
    rw [decide_eq_true q, if_neg bIt_ne, if_pos (show nI k = (2 : Int32) by rw [q]; rfl), m2, toL_nI (by omega), toL_nI (by omega), m3]
    have bad : ∃ x u' v', (zb (Ta_fail 4 u) (fun _ u2 => some (nI lo, u2))) = some (x, u') ∧ zb (Mo_fails 4 v) (fun c3 u4 => zbo c3 u4) = some (0, v') ∧ Bd2 u v u' v' := by
      obtain ⟨f1, f2, f3⟩ := h0.fail (j := 4) (by decide) (by decide)
      exact ⟨_, _, _, by rw [zb_eq (show Ta_fail 4 u = _ from f1)], by rw [zb_eq (show Mo_fails 4 v = _ from f2)]; rfl, h0.bd (by decide) (by decide)⟩
    unfold Mo_within
    by_cases q1 : m < lo
    · rw [if_pos (l1.mpr q1), if_pos (nI_lt q1 (by omega)), zb_eq rfl, if_pos rfl]
      obtain ⟨x, u', v', z1, z2, z3⟩ := bad
      exact ⟨x, u', v', z1, Or.inr ⟨z2, z3⟩⟩
    · rw [if_neg (fun z => q1 (l1.mp z)), if_neg (nI_nlt (by omega) (by omega))]
      by_cases q2 : hi < m
      · rw [if_neg (fun z => by have := l4.mp z; omega), if_pos (nI_lt q2 (by omega)), zb_eq rfl, if_pos rfl]
        obtain ⟨x, u', v', z1, z2, z3⟩ := bad
        exact ⟨x, u', v', z1, Or.inr ⟨z2, z3⟩⟩
      · rw [if_pos (l4.mpr (by omega)), if_neg (nI_nlt (by omega) (by omega)), zb_eq rfl, if_neg (show ¬ (1 : Int32) = 0 by decide), toI_nL (by omega), zl_e, m3, zl_e]
        have hf : Fin u (sI v 1 40 (nI m)) c T b e k w m := h0.fr (fun _ _ _ => rfl) rfl (fun a j q => gs_ne (by omega)) rfl
        obtain ⟨u', v', b', e', k', w', m', s1, s2, s3, s4, s5, s6⟩ := hf.step
        refine ⟨nI m, u', v', by rw [zb_eq s1], Or.inl ⟨by rw [zb_eq s2], rfl, (s6.i (by unfold stM; omega)).trans (gs_eq ⟨rfl, rfl⟩), by omega, by omega, q, b', e', k', w', m', s3, by have := a8 (by omega); omega, s5.mono (fun c k => stC_rd), (Fr.sI (by unfold rdM; omega)).tr (s6.mono (fun c k => stM_rd))⟩⟩
  · rw [decide_eq_false q, if_pos (show bI false = (0 : Int32) from rfl), if_neg (show ¬ nI k = (2 : Int32) from fun z => q ((nI_eq (b := 2) (by omega) (by decide)).mp z))]
    obtain ⟨f1, f2, f3⟩ := h0.fail (j := 1) (by decide) (by decide)
    exact ⟨_, _, _, by rw [zb_eq (show Ta_fail 1 u = _ from f1)], Or.inr ⟨by rw [zb_eq (show Mo_fails 1 v = _ from f2)]; rfl, h0.bd (by decide) (by decide)⟩⟩
def OkF (FC FM : Nat → Nat → Prop) (u v u' v' : zM) (c : Nat) (T : Nat → Nat) (b : Nat) : Prop := ∃ b' e' k' w' m', Fin u' v' c T b' e' k' w' m' ∧ b < b' ∧ Fr FC u u' ∧ Fr FM v v'
def BdF (FC FM : Nat → Nat → Prop) (u v u' v' : zM) : Prop := ∃ x, Bad u' x ∧ gI v' 1 9 = nI x ∧ Fr FC u u' ∧ Fr FM v v'
def rdW (c k : Nat) : Prop := rdM c k ∨ (c = 1 ∧ k = 41)
theorem Bd2.w {u v u' v' : zM} (h : Bd2 u v u' v') : BdF rdC rdW u v u' v' := by
  obtain ⟨x, h1, h2, h3, h4⟩ := h
  exact ⟨x, h1, h2, h3, h4.mono (fun c k q => Or.inl q)⟩
