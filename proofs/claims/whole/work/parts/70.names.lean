/-! ===== names ===== -/
def orB (P : Nat → Bool) : Nat → Nat → Bool
  | 0 => fun _ => false
  | r + 1 => fun k => P k || orB P r (k + 1)
theorem orB_s (P : Nat → Bool) (r k : Nat) : orB P (r + 1) k = (P k || orB P r (k + 1)) := rfl
def keptB (w : List Nat) : Bool := orB (fun i => decide (kwKept.getD i [] = w)) 23 0
theorem kept_256 : ∀ i, i < 23 → zKept.getD i 0 = wd256 (kwKept.getD i []) ∧ wfB (kwKept.getD i []) = true := by decide +kernel
theorem Ta_isKept_eq {u : zM} {w : List Nat} (hw : WfD w) : Ta_isKept (wd256 w) u = some (bI (keptB w), u) := by
  unfold Ta_isKept keptB
  refine lpd (fun n (s : Int32) => Ta_isKept_2 n (wd256 w) s u) (fun k => nI k) (fun k => some (bI (orB (fun i => decide (kwKept.getD i [] = w)) (23 - k) k), u)) 23 (by omega) (fun n => ?_) (fun n k hk => ?_)
  · show Ta_isKept_2b _ _ _ _ = _
    unfold Ta_isKept_2b
    rw [if_pos (show (23 : Int32) ≤ nI 23 by decide)]
    rfl
  · obtain ⟨e1, e2⟩ := kept_256 k hk
    have e3 : (lg_cmp (zKept.getD k 0) (wd256 w) = 0) ↔ kwKept.getD k [] = w := by rw [lg0, e1, w256_eq (wfB_ok e2) hw]
    have e4 : 23 - k = (23 - (k + 1)) + 1 := by omega
    show Ta_isKept_2b (Ta_isKept_2 n) _ _ _ = _ ∨ (Ta_isKept_2b (Ta_isKept_2 n) _ _ _ = Ta_isKept_2 n _ _ _ ∧ _)
    unfold Ta_isKept_2b
    rw [if_neg (show ¬ (23 : Int32) ≤ nI k from @nI_ge k 23 hk (by decide)), if_pos (ib_nI hk (by omega)), ix_nI (by omega), show nI k + 1 = nI (k + 1) from nI_1 k, e4, orB_s]
    by_cases q : kwKept.getD k [] = w
    · left
      rw [if_pos (e3.mpr q), decide_eq_true q]
      rfl
    · right
      rw [if_neg (fun z => q (e3.mp z)), decide_eq_false q, Bool.false_or]
      exact ⟨rfl, rfl⟩
theorem orK {kw w : List Nat} {B : Int64} {u : zM} (hB : wd27 kw = B) (hk : wfB kw = true) (hw : WfD w) {X : Option (Int32 × zM)} {b : Bool} (h : X = some (bI b, u)) : (if lg_cmp (wd27 w) B = 0 then some ((1 : Int32), u) else X) = some (bI (decide (kw = w) || b), u) := by
  have e : (lg_cmp (wd27 w) B = 0) ↔ kw = w := by
    rw [lg0, ← hB, w27_eq hw (wfB_ok hk)]
    exact ⟨Eq.symm, Eq.symm⟩
  by_cases q : kw = w
  · rw [if_pos (e.mpr q), decide_eq_true q]; rfl
  · rw [if_neg (fun z => q (e.mp z)), decide_eq_false q, h, Bool.false_or]
theorem Fin.kept {u v : zM} {c b e k m : Nat} {T : Nat → Nat} {w : List Nat} (h : Fin u v c T b e k w m) : Mo_isKept v = some (bI (!(decide (k = 1)) || keptB w), v) := by
  obtain ⟨h1, ⟨a1, a2, a3, a4, a5, a6, a7, a8, a9, b1, b2⟩, h3⟩ := h
  unfold Mo_isKept
  rw [a5.2]
  by_cases q : k = 1
  · obtain ⟨hw, w1, w2⟩ := a9 q
    rw [if_pos (show nI k = (1 : Int32) by rw [q]; rfl), w2, decide_eq_true q, Bool.not_true, Bool.false_or]
    exact orK k27_place rfl hw (orK k27_water rfl hw (orK k27_stream rfl hw (orK k27_person rfl hw (orK k27_in rfl hw (orK k27_otter rfl hw (orK k27_pace rfl hw (orK k27_writ rfl hw (orK k27_for rfl hw (orK k27_by rfl hw (orK k27_rain rfl hw (orK k27_wets rfl hw (orK k27_day rfl hw (orK k27_take rfl hw (orK k27_swim rfl hw (orK k27_serve rfl hw (orK k27_plain rfl hw (orK k27_wary rfl hw (orK k27_bather rfl hw (orK k27_dewy rfl hw (orK k27_not rfl hw (orK k27_and rfl hw (orK k27_or rfl hw (rfl)))))))))))))))))))))))
  · rw [if_neg (show ¬ nI k = (1 : Int32) from fun z => q ((nI_eq (b := 1) (by omega) (by decide)).mp z)), decide_eq_false q]
    rfl
/-- at a name; or a fault -/
theorem Fin.name {u v : zM} {c b e k m : Nat} {T : Nat → Nat} {w : List Nat} (h : Fin u v c T b e k w m) : (k = 1 ∧ keptB w = false ∧ Ta_atName u = some (nI 1, u) ∧ Mo_isKept v = some (nI 0, v)) ∨ (Mo_isKept v = some (nI 1, v) ∧ Ta_atName u = some (nI 0, sI u 2 6 (nI (1 + 16 * b)))) := by
  have h0 := h
  have e1 := h.kept
  obtain ⟨h1, ⟨a1, a2, a3, a4, a5, a6, a7, a8, a9, b1, b2⟩, h3⟩ := h
  obtain ⟨f1, f2, f3⟩ := h0.fail (j := 1) (by decide) (by decide)
  unfold Ta_atName
  rw [h3, if_pos (show nI 0 = (0 : Int32) from rfl), a5.1, e1]
  by_cases q : k = 1
  · obtain ⟨hw, w1, w2⟩ := a9 q
    rw [if_pos (show nI k = (1 : Int32) by rw [q]; rfl), w1, zb_eq (Ta_isKept_eq hw), decide_eq_true q]
    cases hb : keptB w
    · left
      exact ⟨q, rfl, by rw [if_pos (show bI false = (0 : Int32) from rfl)]; rfl, rfl⟩
    · right
      refine ⟨rfl, ?_⟩
      rw [if_neg bIt_ne, zb_eq (show Ta_fail 1 u = _ from f1)]
      rfl
  · right
    rw [if_neg (show ¬ nI k = (1 : Int32) from fun z => q ((nI_eq (b := 1) (by omega) (by decide)).mp z)), decide_eq_false q]
    refine ⟨rfl, ?_⟩
    rw [zb_eq (show Ta_fail 1 u = _ from f1)]
    rfl
theorem fst1_congr {P Q : Nat → Bool} : ∀ r k, (∀ i, k ≤ i → i < k + r → P i = Q i) → fst1 P r k = fst1 Q r k := by
  intro r
  induction r with
  | zero => intro k _; rfl
  | succ r ih =>
    intro k h
    rw [fst1_s, fst1_s, h k (by omega) (by omega), ih (k + 1) (fun i h1 h2 => h i (by omega) (by omega))]
theorem fst1_in {P : Nat → Bool} : ∀ r k, fst1 P r k = mI ∨ ∃ j, k ≤ j ∧ j < k + r ∧ P j = true ∧ fst1 P r k = nI j := by
  intro r
  induction r with
  | zero => intro k; exact Or.inl rfl
  | succ r ih =>
    intro k
    rw [fst1_s]
    cases h : P k
    · rw [if_neg (by decide)]
      rcases ih (k + 1) with h1 | ⟨j, j1, j2, j3, j4⟩
      · exact Or.inl h1
      · exact Or.inr ⟨j, by omega, by omega, j3, j4⟩
    · rw [if_pos rfl]
      exact Or.inr ⟨k, by omega, by omega, h, rfl⟩
theorem Na_find_eq {u : zM} {r n len : Nat} (z : Int64) (hl : layC r = (13, 2)) (hl2 : (layC (r + 1)).2 = len) (hn : gI u r 1 = nI n) (h1 : n ≤ len) (h2 : len ≤ 7) : Na_find r z u = some (fst1 (fun i => decide (gL u (r + 1) i = z)) n 0, u) := by
  unfold Na_find
  rw [if_pos hl]
  have := lpd (fun k (s : Int32) => Na_find_2 k r z s u) (fun k => nI k) (fun k => some (fst1 (fun i => decide (gL u (r + 1) i = z)) (n - k) k, u)) n (by omega) (fun k => ?_) (fun f k hk => ?_)
  · exact this
  · show Na_find_2b _ _ _ _ _ = _
    unfold Na_find_2b
    rw [if_pos hl, hn, if_pos (nI_le (Nat.le_refl _) (by omega)), Nat.sub_self]
    rfl
  · have e4 : n - k = (n - (k + 1)) + 1 := by omega
    show Na_find_2b (Na_find_2 f) _ _ _ _ = _ ∨ (Na_find_2b (Na_find_2 f) _ _ _ _ = Na_find_2 f _ _ _ _ ∧ _)
    unfold Na_find_2b
    rw [if_pos hl, hn, if_neg (nI_ge hk (by omega)), hl2, if_pos (ib_nI (by omega) (by omega)), ix_nI (by omega), show nI k + 1 = nI (k + 1) from nI_1 k, e4, fst1_s _ _ k]
    by_cases q : gL u (r + 1) k = z
    · left
      rw [if_pos (lg0.mpr q), decide_eq_true q]
      rfl
    · right
      rw [if_neg (fun t => q (lg0.mp t)), decide_eq_false q]
      exact ⟨rfl, by rw [if_neg (by decide)]⟩
theorem Mo_namedIn_eq {v : zM} {r o n len : Nat} (hl : (layM r).1 = 2) (hl2 : (layM r).2 = len) (h1 : o + n ≤ len) (h2 : len ≤ 14) : Mo_namedIn r (nI o) (nI n) v = some (fst1 (fun i => decide (gL v r (o + i) = gL v 1 7)) n 0, v) := by
  unfold Mo_namedIn
  rw [if_pos hl]
  have := lpd (fun k (s : Int32) => Mo_namedIn_3 k r (nI o) (nI n) s v) (fun k => nI (o + k)) (fun k => some (fst1 (fun i => decide (gL v r (o + i) = gL v 1 7)) (n - k) k, v)) n (by omega) (fun k => ?_) (fun f k hk => ?_)
  · exact this
  · show Mo_namedIn_3b _ _ _ _ _ _ = _
    unfold Mo_namedIn_3b
    rw [if_pos hl, nI_add, if_pos (nI_le (Nat.le_refl _) (by omega)), Nat.sub_self]
    rfl
  · have e4 : n - k = (n - (k + 1)) + 1 := by omega
    show Mo_namedIn_3b (Mo_namedIn_3 f) _ _ _ _ _ = _ ∨ (Mo_namedIn_3b (Mo_namedIn_3 f) _ _ _ _ _ = Mo_namedIn_3 f _ _ _ _ _ ∧ _)
    unfold Mo_namedIn_3b
    rw [if_pos hl, nI_add, if_neg (nI_ge (show o + k < o + n by omega) (by omega)), hl2, if_pos (ib_nI (by omega) (by omega)), ix_nI (by omega), pk_sub (show o ≤ o + k by omega), show o + k - o = k by omega, show nI (o + k) + 1 = nI (o + (k + 1)) from nI_1 _, e4, fst1_s _ _ k]
    by_cases q : gL v r (o + k) = gL v 1 7
    · left
      rw [if_pos (lg0.mpr q), decide_eq_true q]
      rfl
    · right
      rw [if_neg (fun t => q (lg0.mp t)), decide_eq_false q]
      exact ⟨rfl, by rw [if_neg (by decide)]⟩
def ln4 (s : Nat) : Nat := ([7, 5, 3, 6] : List Nat).getD s 0
/-- names told, and how many: class at t, reference at o -/
def NmR (u v : zM) (t o : Nat) (N : Nat → Nat) (nm : Nat → Nat → List Nat) : Prop := (∀ s, s < 4 → gI u (t + 1 + 2 * s) 1 = nI (N (nS s)) ∧ gI v 3 (6 * o + nS s) = nI (N (nS s)) ∧ N (nS s) ≤ ln4 s) ∧ ∀ s, s < 4 → ∀ i, i < N (nS s) → WfD (nm s i) ∧ gL u (t + 2 + 2 * s) i = wd256 (nm s i) ∧ gL v (4 + s) (ln4 s * o + i) = wd27 (nm s i)
def fnd (N : Nat → Nat) (nm : Nat → Nat → List Nat) (s : Nat) (w : List Nat) : Int32 := fst1 (fun i => decide (nm s i = w)) (N (nS s)) 0
theorem fnd_in (N : Nat → Nat) (nm : Nat → Nat → List Nat) (s : Nat) (w : List Nat) : fnd N nm s w = mI ∨ ∃ j, j < N (nS s) ∧ nm s j = w ∧ fnd N nm s w = nI j := by
  rcases fst1_in (P := fun i => decide (nm s i = w)) (N (nS s)) 0 with h | ⟨j, j1, j2, j3, j4⟩
  · exact Or.inl h
  · exact Or.inr ⟨j, by omega, of_decide_eq_true j3, j4⟩
theorem layN : ∀ s, s < 4 → ∀ t, (t = 4 ∨ t = 25) → layC (t + 1 + 2 * s) = (13, 2) ∧ (layC (t + 1 + 2 * s + 1)).2 = ln4 s ∧ (layM (4 + s)).1 = 2 ∧ (layM (4 + s)).2 = 2 * ln4 s ∧ ln4 s ≤ 7 := by
  intro s hs t ht
  have : s = 0 ∨ s = 1 ∨ s = 2 ∨ s = 3 := by omega
  rcases this with rfl | rfl | rfl | rfl <;> rcases ht with rfl | rfl <;> exact ⟨rfl, rfl, rfl, rfl, by decide⟩
theorem NmR.find {u v : zM} {t o : Nat} {N : Nat → Nat} {nm : Nat → Nat → List Nat} (h : NmR u v t o N nm) (ht : t = 4 ∨ t = 25) {s : Nat} (hs : s < 4) {w : List Nat} (hw : WfD w) : Na_find (t + 1 + 2 * s) (wd256 w) u = some (fnd N nm s w, u) := by
  obtain ⟨l1, l2, l3, l4, l5⟩ := layN s hs t ht
  obtain ⟨h1, h2⟩ := h
  obtain ⟨a1, a2, a3⟩ := h1 s hs
  rw [Na_find_eq (wd256 w) l1 l2 a1 a3 l5]
  unfold fnd
  congr 2
  apply fst1_congr
  intro i _ hi
  obtain ⟨b1, b2, b3⟩ := h2 s hs i (by omega)
  rw [show t + 1 + 2 * s + 1 = t + 2 + 2 * s by omega, b2]
  exact decide_eq_decide.mpr (w256_eq b1 hw)
/-- the reference's search, whatever stands there -/
def namM (s : Nat) (x : Int32) (v : zM) : Option (Int32 × zM) := if s = 0 then Mo_placeNamed x v else if s = 1 then Mo_personNamed x v else if s = 2 then Mo_otterNamed x v else Mo_writNamed x v
theorem NmR.findM {u v : zM} {t o : Nat} {N : Nat → Nat} {nm : Nat → Nat → List Nat} (h : NmR u v t o N nm) (ho : o ≤ 1) {s : Nat} (hs : s < 4) : ∃ x, namM s (nI o) v = some (x, v) ∧ ∀ w, WfD w → gL v 1 7 = wd27 w → x = fnd N nm s w := by
  obtain ⟨l1, l2, l3, l4, l5⟩ := layN s hs 4 (Or.inl rfl)
  obtain ⟨h1, h2⟩ := h
  obtain ⟨a1, a2, a3⟩ := h1 s hs
  have key : ∃ x, Mo_namedIn (4 + s) (nI (ln4 s * o)) (nI (N (nS s))) v = some (x, v) ∧ ∀ w, WfD w → gL v 1 7 = wd27 w → x = fnd N nm s w := by
    have hb : ln4 s * o + N (nS s) ≤ 2 * ln4 s := by
      have : o = 0 ∨ o = 1 := by omega
      rcases this with rfl | rfl <;> omega
    refine ⟨_, Mo_namedIn_eq l3 l4 hb (by omega), fun w hw e => ?_⟩
    unfold fnd
    apply fst1_congr
    intro i _ hi
    obtain ⟨b1, b2, b3⟩ := h2 s hs i (by omega)
    rw [b3, e]
    exact decide_eq_decide.mpr (w27_eq b1 hw)
  obtain ⟨x, k1, k2⟩ := key
  refine ⟨x, ?_, k2⟩
  have e6 : ∀ z, (6 * nI o) + nI z = nI (6 * o + z) := fun z => by rw [show (6 : Int32) = nI 6 from rfl, pk_mul, nI_add]
  have eo : ∀ z, nI z * nI o = nI (z * o) := fun z => pk_mul z o
  unfold namM
  have : s = 0 ∨ s = 1 ∨ s = 2 ∨ s = 3 := by omega
  rcases this with rfl | rfl | rfl | rfl
  · rw [if_pos rfl]
    unfold Mo_placeNamed
    rw [show (6 * nI o) + 0 = nI (6 * o + 0) from e6 0, show (7 : Int32) * nI o = nI (7 * o) from eo 7, if_pos (ib_nI (by omega) (by omega)), ix_nI (by omega), show gI v 3 (6 * o + 0) = nI (N (nS 0)) from a2, zb_eq (show Mo_namedIn 4 (nI (7 * o)) (nI (N (nS 0))) v = some (x, v) from k1)]
  · rw [if_neg (by decide), if_pos rfl]
    unfold Mo_personNamed
    rw [show (6 * nI o) + 2 = nI (6 * o + 2) from e6 2, show (5 : Int32) * nI o = nI (5 * o) from eo 5, if_pos (ib_nI (by omega) (by omega)), ix_nI (by omega), show gI v 3 (6 * o + 2) = nI (N (nS 1)) from a2, zb_eq (show Mo_namedIn 5 (nI (5 * o)) (nI (N (nS 1))) v = some (x, v) from k1)]
  · rw [if_neg (by decide), if_neg (by decide), if_pos rfl]
    unfold Mo_otterNamed
    rw [show (6 * nI o) + 3 = nI (6 * o + 3) from e6 3, show (3 : Int32) * nI o = nI (3 * o) from eo 3, if_pos (ib_nI (by omega) (by omega)), ix_nI (by omega), show gI v 3 (6 * o + 3) = nI (N (nS 2)) from a2, zb_eq (show Mo_namedIn 6 (nI (3 * o)) (nI (N (nS 2))) v = some (x, v) from k1)]
  · rw [if_neg (by decide), if_neg (by decide), if_neg (by decide)]
    unfold Mo_writNamed
    rw [show (6 * nI o) + 4 = nI (6 * o + 4) from e6 4, show (6 : Int32) * nI o = nI (6 * o) from eo 6, if_pos (ib_nI (by omega) (by omega)), ix_nI (by omega), show gI v 3 (6 * o + 4) = nI (N (nS 3)) from a2, zb_eq (show Mo_namedIn 7 (nI (6 * o)) (nI (N (nS 3))) v = some (x, v) from k1)]
/-- something told is found, at hand yet -/
theorem Fin.found {u v : zM} {c b e k m : Nat} {T : Nat → Nat} {w : List Nat} (h : Fin u v c T b e k w m) {t o : Nat} {N : Nat → Nat} {nm : Nat → Nat → List Nat} (hN : NmR u v t o N nm) (ht : t = 4 ∨ t = 25) (ho : o ≤ 1) {s : Nat} (hs : s < 4) : ∃ x, namM s (nI o) v = some (x, v) ∧ ((∃ j, j < N (nS s) ∧ k = 1 ∧ Ta_atName u = some (nI 1, u) ∧ Na_find (t + 1 + 2 * s) (gL u 2 5) u = some (nI j, u) ∧ Mo_isFound x v = some (1, sI v 1 40 (nI j))) ∨ (∃ u' v', Ta_passTold (t + 1 + 2 * s) u = some (-1, u') ∧ Mo_isFound x v = some (0, v') ∧ Bd2 u v u' v')) := by
  obtain ⟨l1, l2, l3, l4, l5⟩ := layN s hs t ht
  obtain ⟨x, x1, x2⟩ := hN.findM ho hs
  refine ⟨x, x1, ?_⟩
  unfold Mo_isFound Ta_passTold
  rcases h.name with ⟨n1, n2, n3, n4⟩ | ⟨n3, n4⟩
  · obtain ⟨hw, w1, w2⟩ := h.2.1.2.2.2.2.2.2.2.2.1 n1
    have ex := x2 w hw w2
    subst ex
    have ef := hN.find ht hs hw
    rw [← w1] at ef
    rw [zb_eq n4, if_pos (show nI 0 = (0 : Int32) from rfl), zl_e, show gI (sI v 1 40 (fnd N nm s w)) 1 40 = fnd N nm s w from gs_eq ⟨rfl, rfl⟩]
    rcases fnd_in N nm s w with ee | ⟨j, j1, j2, ee⟩
    · right
      rw [ee] at ef ⊢
      rw [if_neg (show ¬ (0 : Int32) ≤ mI by decide), if_pos l1, zb_eq n3, if_neg one_ne, zb_eq ef, if_pos (show mI = (-1 : Int32) from rfl)]
      have hf : Fin u (sI v 1 40 mI) c T b e k w m := h.fr (fun _ _ _ => rfl) rfl (fun a j q => gs_ne (by omega)) rfl
      obtain ⟨f1, f2, f3⟩ := hf.fail (j := 2) (by decide) (by decide)
      refine ⟨_, _, by rw [zb_eq (show Ta_fail 2 u = _ from f1)], by rw [zb_eq (show Mo_fails 2 (sI v 1 40 mI) = _ from f2)]; rfl, _, f3, gs_eq ⟨rfl, rfl⟩, Fr.sI (by unfold rdC; omega), (Fr.sI (by unfold rdM; omega)).tr (Fr.sI (by unfold rdM; omega))⟩
    · left
      rw [ee] at ef ⊢
      have hj7 : j < 2 ^ 31 := by have := (hN.1 s hs).2.2; omega
      exact ⟨j, j1, n1, n3, ef, by rw [if_pos (show (0 : Int32) ≤ nI j from nI_le (Nat.zero_le _) hj7)]⟩
  · right
    rw [zb_eq n3, if_neg one_ne, if_pos l1, zb_eq n4, if_pos (show nI 0 = (0 : Int32) from rfl)]
    obtain ⟨f1, f2, f3⟩ := h.fail (j := 1) (by decide) (by decide)
    exact ⟨_, _, rfl, by rw [zb_eq (show Mo_fails 1 v = _ from f2)]; rfl, h.bd (by decide) (by decide)⟩
theorem Fin.told {u v : zM} {c b e k m : Nat} {T : Nat → Nat} {w : List Nat} (h : Fin u v c T b e k w m) {t o : Nat} {N : Nat → Nat} {nm : Nat → Nat → List Nat} (hN : NmR u v t o N nm) (ht : t = 4 ∨ t = 25) (ho : o ≤ 1) {s : Nat} (hs : s < 4) : ∃ x, namM s (nI o) v = some (x, v) ∧ ∃ y u' v', Ta_passTold (t + 1 + 2 * s) u = some (y, u') ∧ ((Mo_passesFound x v = some (1, v') ∧ (∃ j, j < N (nS s) ∧ y = nI j ∧ gI v' 1 40 = nI j) ∧ Ok2 u v u' v' c T b) ∨ (Mo_passesFound x v = some (0, v') ∧ Bd2 u v u' v')) := by
  obtain ⟨l1, l2, l3, l4, l5⟩ := layN s hs t ht
  obtain ⟨x, x1, x2⟩ := h.found hN ht ho hs
  refine ⟨x, x1, ?_⟩
  unfold Mo_passesFound
  rcases x2 with ⟨j, j1, j2, j3, j4, j5⟩ | ⟨u', v', j1, j2, j3⟩
  · have hj7 : j < 2 ^ 31 := by have := (hN.1 s hs).2.2; omega
    have hf : Fin u (sI v 1 40 (nI j)) c T b e k w m := h.fr (fun _ _ _ => rfl) rfl (fun a j q => gs_ne (by omega)) rfl
    obtain ⟨u', v', b', e', k', w', m', s1, s2, s3, s4, s5, s6⟩ := hf.step
    refine ⟨nI j, u', v', ?_, Or.inl ⟨?_, ⟨j, j1, rfl, (s6.i (by unfold stM; omega)).trans (gs_eq ⟨rfl, rfl⟩)⟩, b', e', k', w', m', s3, by have := h.2.1.2.2.2.2.2.2.2.1 (by omega); omega, s5.mono (fun c k => stC_rd), (Fr.sI (by unfold rdM; omega)).tr (s6.mono (fun c k => stM_rd))⟩⟩
    · unfold Ta_passTold
      rw [if_pos l1, zb_eq j3, if_neg one_ne, zb_eq j4, if_neg (show ¬ nI j = (-1 : Int32) from mI_ne hj7), zb_eq s1]
    · rw [zb_eq j5, if_neg (show ¬ (1 : Int32) = 0 by decide), zb_eq s2]
  · refine ⟨-1, u', v', j1, Or.inr ⟨?_, j3⟩⟩
    rw [zb_eq j2, if_pos rfl]
theorem isTold_eq {u v : zM} {t o : Nat} {N : Nat → Nat} {nm : Nat → Nat → List Nat} (hN : NmR u v t o N nm) (ht : t = 4 ∨ t = 25) {w : List Nat} (hw : WfD w) : Co_isTold t (wd256 w) u = some (if fnd N nm 0 w = mI ∧ fnd N nm 1 w = mI ∧ fnd N nm 2 w = mI ∧ fnd N nm 3 w = mI then 0 else 1, u) := by
  have f0 : Na_find (t + 1) (wd256 w) u = _ := hN.find ht (s := 0) (by decide) hw
  have f1 : Na_find (t + 3) (wd256 w) u = _ := hN.find ht (s := 1) (by decide) hw
  have f2 : Na_find (t + 5) (wd256 w) u = _ := hN.find ht (s := 2) (by decide) hw
  have f3 : Na_find (t + 7) (wd256 w) u = _ := hN.find ht (s := 3) (by decide) hw
  unfold Co_isTold
  rw [if_pos (layT ht), zb_eq f0]
  by_cases q0 : fnd N nm 0 w = mI
  · rw [if_pos (show fnd N nm 0 w = -1 from q0), zb_eq f1]
    by_cases q1 : fnd N nm 1 w = mI
    · rw [if_pos (show fnd N nm 1 w = -1 from q1), zb_eq f2]
      by_cases q2 : fnd N nm 2 w = mI
      · rw [if_pos (show fnd N nm 2 w = -1 from q2), zb_eq f3]
        by_cases q3 : fnd N nm 3 w = mI
        · rw [if_pos (show fnd N nm 3 w = -1 from q3), if_pos ⟨q0, q1, q2, q3⟩]
        · rw [if_neg (show ¬ fnd N nm 3 w = -1 from q3), if_neg (fun z => q3 z.2.2.2)]
      · rw [if_neg (show ¬ fnd N nm 2 w = -1 from q2), if_neg (fun z => q2 z.2.2.1)]
    · rw [if_neg (show ¬ fnd N nm 1 w = -1 from q1), if_neg (fun z => q1 z.2.1)]
  · rw [if_neg (show ¬ fnd N nm 0 w = -1 from q0), if_neg (fun z => q0 z.1)]
theorem fnd_ge {N : Nat → Nat} {nm : Nat → Nat → List Nat} {s : Nat} {w : List Nat} (h : N (nS s) ≤ ln4 s) (hs : s < 4) : (0 ≤ fnd N nm s w ↔ ¬ fnd N nm s w = mI) ∧ (fnd N nm s w < 0 ↔ fnd N nm s w = mI) := by
  have h7 := (layN s hs 4 (Or.inl rfl)).2.2.2.2
  rcases fnd_in N nm s w with e | ⟨j, j1, j2, e⟩
  · rw [e]
    exact ⟨⟨fun z => absurd z (by decide), fun z => absurd rfl z⟩, ⟨fun _ => rfl, fun _ => by decide⟩⟩
  · rw [e]
    have q1 : ¬ nI j = mI := mI_ne (by omega)
    exact ⟨⟨fun _ => q1, fun _ => nI_le (Nat.zero_le _) (by omega)⟩, ⟨fun z => absurd z (nI_nlt (b := 0) (Nat.zero_le _) (by omega)), fun z => absurd z q1⟩⟩
theorem Fin.new {u v : zM} {c b e k m : Nat} {T : Nat → Nat} {w : List Nat} (h : Fin u v c T b e k w m) {t : Nat} {N : Nat → Nat} {nm : Nat → Nat → List Nat} (hN : NmR u v t 1 N nm) (ht : t = 4 ∨ t = 25) : ∃ y u' v', Co_passNewName t u = some (y, u') ∧ ((Mo_needsNew v = some (1, v') ∧ (y = wd256 w ∧ gL v' 1 41 = wd27 w ∧ WfD w) ∧ OkF rdC rdW u v u' v' c T b) ∨ (Mo_needsNew v = some (0, v') ∧ BdF rdC rdW u v u' v')) := by
  unfold Co_passNewName Mo_needsNew
  rw [if_pos (layT ht)]
  rcases h.name with ⟨n1, n2, n3, n4⟩ | ⟨n3, n4⟩
  · obtain ⟨hw, w1, w2⟩ := h.2.1.2.2.2.2.2.2.2.2.1 n1
    have eT := isTold_eq hN ht hw
    generalize hT : (if fnd N nm 0 w = mI ∧ fnd N nm 1 w = mI ∧ fnd N nm 2 w = mI ∧ fnd N nm 3 w = mI then (0 : Int32) else 1) = tt at eT
    rw [zb_eq n3, if_neg one_ne, w1, zl_e, zb_eq eT, zb_eq n4, if_pos (show nI 0 = (0 : Int32) from rfl)]
    obtain ⟨x0, y0, z0⟩ := hN.findM (s := 0) (by decide) (by decide)
    obtain ⟨x1, y1, z1⟩ := hN.findM (s := 1) (by decide) (by decide)
    obtain ⟨x2, y2, z2⟩ := hN.findM (s := 2) (by decide) (by decide)
    obtain ⟨x3, y3, z3⟩ := hN.findM (s := 3) (by decide) (by decide)
    rw [z0 w hw w2] at y0
    rw [z1 w hw w2] at y1
    rw [z2 w hw w2] at y2
    rw [z3 w hw w2] at y3
    obtain ⟨g0, _⟩ := fnd_ge (w := w) (nm := nm) (hN.1 0 (by decide)).2.2 (by decide)
    obtain ⟨g1, _⟩ := fnd_ge (w := w) (nm := nm) (hN.1 1 (by decide)).2.2 (by decide)
    obtain ⟨g2, _⟩ := fnd_ge (w := w) (nm := nm) (hN.1 2 (by decide)).2.2 (by decide)
    obtain ⟨_, g3⟩ := fnd_ge (w := w) (nm := nm) (hN.1 3 (by decide)).2.2 (by decide)
    rw [zb_eq (show Mo_placeNamed 1 v = some (fnd N nm 0 w, v) from y0), zb_eq (show Mo_personNamed 1 v = some (fnd N nm 1 w, v) from y1), zb_eq (show Mo_otterNamed 1 v = some (fnd N nm 2 w, v) from y2), zb_eq (show Mo_writNamed 1 v = some (fnd N nm 3 w, v) from y3)]
    obtain ⟨f1, f2, f3⟩ := h.fail (j := 3) (by decide) (by decide)
    have bad : ∃ u' v', zb (Ta_fail 3 u) (fun _ u4 => some (wd256 w, u4)) = some (wd256 w, u') ∧ zb (Mo_fails 3 v) (fun c3 u3 => zbo c3 u3) = some (0, v') ∧ Bd2 u v u' v' := ⟨_, _, by rw [zb_eq (show Ta_fail 3 u = _ from f1)], by rw [zb_eq (show Mo_fails 3 v = _ from f2)]; rfl, h.bd (by decide) (by decide)⟩
    obtain ⟨ub, vb, b1, b2, b3⟩ := bad
    by_cases q0 : fnd N nm 0 w = mI
    · rw [if_neg (fun z => g0.mp z q0)]
      by_cases q1 : fnd N nm 1 w = mI
      · rw [if_neg (fun z => g1.mp z q1)]
        by_cases q2 : fnd N nm 2 w = mI
        · rw [if_neg (fun z => g2.mp z q2)]
          by_cases q3 : fnd N nm 3 w = mI
          · rw [if_pos (g3.mpr q3), show tt = 0 by rw [← hT, if_pos ⟨q0, q1, q2, q3⟩], if_pos rfl, zl_e]
            have hf : Fin u (sL v 1 41 (gL v 1 7)) c T b e k w m := h.fr (fun _ _ _ => rfl) rfl (fun a j q => rfl) (by rw [gL_sL, if_neg (by decide)])
            obtain ⟨u', v', b', e', k', w', m', s1, s2, s3, s4, s5, s6⟩ := hf.step
            refine ⟨wd256 w, u', v', by rw [zb_eq s1], Or.inl ⟨by rw [zb_eq s2], ⟨rfl, (s6.l (by unfold stM; omega)).trans (sl_g.trans w2), hw⟩, b', e', k', w', m', s3, by have := h.2.1.2.2.2.2.2.2.2.1 (by omega); omega, s5.mono (fun c k => stC_rd), (Fr.sL (A := rdW) (Or.inr ⟨rfl, rfl⟩)).tr (s6.mono (fun c k q => Or.inl (stM_rd q)))⟩⟩
          · rw [if_neg (fun z => q3 (g3.mp z)), show tt = 1 by rw [← hT, if_neg (fun z => q3 z.2.2.2)], if_neg (show ¬ (1 : Int32) = 0 by decide)]
            exact ⟨_, ub, vb, b1, Or.inr ⟨b2, b3.w⟩⟩
        · rw [if_pos (g2.mpr q2), show tt = 1 by rw [← hT, if_neg (fun z => q2 z.2.2.1)], if_neg (show ¬ (1 : Int32) = 0 by decide)]
          exact ⟨_, ub, vb, b1, Or.inr ⟨b2, b3.w⟩⟩
      · rw [if_pos (g1.mpr q1), show tt = 1 by rw [← hT, if_neg (fun z => q1 z.2.1)], if_neg (show ¬ (1 : Int32) = 0 by decide)]
        exact ⟨_, ub, vb, b1, Or.inr ⟨b2, b3.w⟩⟩
    · rw [if_pos (g0.mpr q0), show tt = 1 by rw [← hT, if_neg (fun z => q0 z.1)], if_neg (show ¬ (1 : Int32) = 0 by decide)]
      exact ⟨_, ub, vb, b1, Or.inr ⟨b2, b3.w⟩⟩
  · rw [zb_eq n4, if_pos (show nI 0 = (0 : Int32) from rfl), zb_eq n3, if_neg one_ne]
    obtain ⟨f1, f2, f3⟩ := h.fail (j := 1) (by decide) (by decide)
    exact ⟨_, _, _, rfl, Or.inr ⟨by rw [zb_eq (show Mo_fails 1 v = _ from f2)]; rfl, (h.bd (by decide) (by decide)).w⟩⟩
theorem Bad.new {u : zM} {x t : Nat} (h : Bad u x) (ht : t = 4 ∨ t = 25) : Co_passNewName t u = some (0, u) := by
  unfold Co_passNewName
  rw [if_pos (layT ht), zb_eq h.name, if_pos (show nI 0 = (0 : Int32) from rfl)]
