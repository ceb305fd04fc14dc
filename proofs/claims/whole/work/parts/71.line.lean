/-! ===== a line of a session is read ===== -/
def snC (l : Nat) (c k : Nat) : Prop := rdC c k ∨ (l ≤ c ∧ c ≤ l + 3)
def snM (c k : Nat) : Prop := rdM c k ∨ (c = 32 ∧ k = 5) ∨ (33 ≤ c ∧ c ≤ 35 ∧ 200 ≤ k)
theorem zbo_1 (m : zM) : zbo 1 m = some (1, m) := rfl
theorem zbo_0 (m : zM) : zbo 0 m = some (0, m) := rfl
/-- the end of a line -/
theorem Fin.tail {u v : zM} {c b e k m : Nat} {T : Nat → Nat} {w : List Nat} (h : Fin u v c T b e k w m) {l n : Nat} (hl : l = 46 ∨ l = 50) (hn : gI u l 3 = nI n) (hm : gI v 32 5 = nI n) : ∃ u' v', zb (Ta_passSign 59 u) (fun _ u6 => zlet (sI u6 l 3 ((gI u6 l 3) + 1)) (fun u7 => some ((), u7))) = some ((), u') ∧ ((Mo_readsLine_182 v = some (1, v') ∧ gI u' l 3 = nI (n + 1) ∧ gI v' 32 5 = nI (n + 1) ∧ OkF (fun c k => rdC c k ∨ (c = l ∧ k = 3)) (fun c k => rdM c k ∨ (c = 32 ∧ k = 5)) u v u' v' c T b) ∨ (Mo_readsLine_182 v = some (0, v') ∧ BdF (fun c k => rdC c k ∨ (c = l ∧ k = 3)) (fun c k => rdM c k ∨ (c = 32 ∧ k = 5)) u v u' v')) := by
  have n1 : nI n + 1 = nI (n + 1) := nI_1 n
  have hf : Fin u (sI v 32 5 (nI (n + 1))) c T b e k w m := h.fr (fun _ _ _ => rfl) rfl (fun a j q => gs_ne (by omega)) rfl
  obtain ⟨u1, v1, s1, s2⟩ := hf.passS
  unfold Mo_readsLine_182
  rw [zb_eq s1, hm, n1, zl_e]
  rcases s2 with ⟨s2, b', e', k', w', m', s3, s4, s5, s6⟩ | ⟨s2, x, s3, s4, s5, s6⟩
  · have g : gI u1 l 3 = nI n := (s5.i (by unfold rdC; omega)).trans hn
    rw [g, n1, zl_e, zb_eq s2, zbo_1]
    refine ⟨sI u1 l 3 (nI (n + 1)), v1, rfl, Or.inl ⟨rfl, gs_eq ⟨rfl, rfl⟩, (s6.i (by unfold rdM; omega)).trans (gs_eq ⟨rfl, rfl⟩), b', e', k', w', m', s3.fr (fun a j q => gs_ne (by omega)) rfl (fun _ _ _ => rfl) rfl, s4, (s5.mono (fun c k q => Or.inl q)).tr (Fr.sI (Or.inr ⟨rfl, rfl⟩)), ?_⟩⟩
    exact Fr.tr (A := fun c k => rdM c k ∨ (c = 32 ∧ k = 5)) (Fr.sI (A := fun c k => rdM c k ∨ (c = 32 ∧ k = 5)) (Or.inr ⟨rfl, rfl⟩)) (s6.mono (fun c k q => Or.inl q))
  · have g : gI u1 l 3 = nI n := (s5.i (by unfold rdC; omega)).trans hn
    rw [g, n1, zl_e, zb_eq s2, zbo_0]
    refine ⟨sI u1 l 3 (nI (n + 1)), v1, rfl, Or.inr ⟨rfl, x, s3.fr (gs_ne (by omega)), s4, (s5.mono (fun c k q => Or.inl q)).tr (Fr.sI (Or.inr ⟨rfl, rfl⟩)), ?_⟩⟩
    exact Fr.tr (A := fun c k => rdM c k ∨ (c = 32 ∧ k = 5)) (Fr.sI (A := fun c k => rdM c k ∨ (c = 32 ∧ k = 5)) (Or.inr ⟨rfl, rfl⟩)) (s6.mono (fun c k q => Or.inl q))
theorem Bad.tail {u : zM} {x : Nat} (h : Bad u x) {l : Nat} (hl : l = 46 ∨ l = 50) : ∃ u', zb (Ta_passSign 59 u) (fun _ u6 => zlet (sI u6 l 3 ((gI u6 l 3) + 1)) (fun u7 => some ((), u7))) = some ((), u') ∧ Bad u' x ∧ Fr (fun c k => c = l ∧ k = 3) u u' := by
  rw [zb_eq (h.passS 59), zl_e]
  exact ⟨_, rfl, h.fr (gs_ne (by omega)), Fr.sI ⟨rfl, rfl⟩⟩
/-- which sort of line -/
theorem Fin.sort {u v : zM} {c b e k m : Nat} {T : Nat → Nat} {w : List Nat} (h : Fin u v c T b e k w m) : ∃ s, Ss_sortOf u = some (s, u) ∧ Mo_readsLine v = Mo_readsLine_57 s v ∧ (s = mI ∨ (k = 1 ∧ ∃ j, j ≤ 3 ∧ s = nI j)) := by
  have c0 := h.atW (kw := kw_day) rfl k256_day
  have c1 := h.atW (kw := kw_take) rfl k256_take
  have c2 := h.atW (kw := kw_swim) rfl k256_swim
  have c3 := h.atW (kw := kw_serve) rfl k256_serve
  have d0 := h.isW (kw := kw_day) rfl k27_day
  have d1 := h.isW (kw := kw_take) rfl k27_take
  have d2 := h.isW (kw := kw_swim) rfl k27_swim
  have d3 := h.isW (kw := kw_serve) rfl k27_serve
  unfold Ss_sortOf Mo_readsLine
  rw [zb_eq c0, zb_eq d0]
  by_cases q0 : k = 1 ∧ w = kw_day
  · rw [decide_eq_true q0, if_neg bIt_ne, if_neg bIt_ne]
    exact ⟨0, rfl, rfl, Or.inr ⟨q0.1, 0, by decide, rfl⟩⟩
  · rw [decide_eq_false q0, if_pos (show bI false = (0 : Int32) from rfl), if_pos (show bI false = (0 : Int32) from rfl), zb_eq c1, zb_eq d1]
    by_cases q1 : k = 1 ∧ w = kw_take
    · rw [decide_eq_true q1, if_neg bIt_ne, if_neg bIt_ne]
      exact ⟨1, rfl, rfl, Or.inr ⟨q1.1, 1, by decide, rfl⟩⟩
    · rw [decide_eq_false q1, if_pos (show bI false = (0 : Int32) from rfl), if_pos (show bI false = (0 : Int32) from rfl), zb_eq c2, zb_eq d2]
      by_cases q2 : k = 1 ∧ w = kw_swim
      · rw [decide_eq_true q2, if_neg bIt_ne, if_neg bIt_ne]
        exact ⟨2, rfl, rfl, Or.inr ⟨q2.1, 2, by decide, rfl⟩⟩
      · rw [decide_eq_false q2, if_pos (show bI false = (0 : Int32) from rfl), if_pos (show bI false = (0 : Int32) from rfl), zb_eq c3, zb_eq d3]
        by_cases q3 : k = 1 ∧ w = kw_serve
        · rw [decide_eq_true q3, if_neg bIt_ne, if_neg bIt_ne]
          exact ⟨3, rfl, rfl, Or.inr ⟨q3.1, 3, by decide, rfl⟩⟩
        · rw [decide_eq_false q3, if_pos (show bI false = (0 : Int32) from rfl), if_pos (show bI false = (0 : Int32) from rfl)]
          exact ⟨-1, rfl, rfl, Or.inl rfl⟩
theorem NmR.fr {u u' v v' : zM} {t o : Nat} {N : Nat → Nat} {nm : Nat → Nat → List Nat} (h : NmR u v t o N nm) (hu : ∀ c k, t ≤ c → c ≤ t + 8 → gI u' c k = gI u c k ∧ gL u' c k = gL u c k) (hv : ∀ c k, 3 ≤ c → c ≤ 7 → gI v' c k = gI v c k ∧ gL v' c k = gL v c k) : NmR u' v' t o N nm := by
  have hn : ∀ s, s < 4 → nS s ≤ 4 := by intro s hs; have : s = 0 ∨ s = 1 ∨ s = 2 ∨ s = 3 := by omega
                                        rcases this with rfl | rfl | rfl | rfl <;> decide
  refine ⟨fun s hs => ?_, fun s hs i hi => ?_⟩
  · obtain ⟨a1, a2, a3⟩ := h.1 s hs
    exact ⟨(hu _ _ (by omega) (by omega)).1.trans a1, (hv _ _ (by omega) (by omega)).1.trans a2, a3⟩
  · obtain ⟨a1, a2, a3⟩ := h.2 s hs i hi
    exact ⟨a1, (hu _ _ (by omega) (by omega)).2.trans a2, (hv _ _ (by omega) (by omega)).2.trans a3⟩
/-- lines so far -/
def LnR (u v : zM) (l : Nat) (N : Nat → Nat) (n : Nat) (W A B : Nat → Nat) : Prop := WfL N n W A B ∧ LiC u l n W A B ∧ LiM v 5 n W A B
theorem LnR.add {u u' v v' : zM} {l n : Nat} {N W A B : Nat → Nat} (h : LnR u v l N n W A B) (hn : n < 40) (hu : ∀ j k, 1 ≤ j → j ≤ 3 → k < n → gI u' (l + j) k = gI u (l + j) k) (hv : ∀ c k, 33 ≤ c → c ≤ 35 → k < n → gI v' c (200 + k) = gI v c (200 + k)) (h3 : gI u' l 3 = nI (n + 1)) (h5 : gI v' 32 5 = nI (n + 1)) {s a b : Nat} (q0 : s ≤ 3) (q1 : s = 1 → a < N 3 ∧ b < N 4) (q2 : s = 2 → a < N 3 ∧ b < N 0) (q3 : s = 3 → b < N 4) (c1 : gI u' (l + 1) n = nI s) (c2 : (s = 1 ∨ s = 2) → gI u' (l + 2) n = nI a ∧ gI u' (l + 3) n = nI b) (c3 : s = 3 → gI u' (l + 2) n = nI b) (m1 : gI v' 33 (200 + n) = nI s) (m2 : (s = 1 ∨ s = 2) → gI v' 34 (200 + n) = nI a) (m3 : s ≠ 0 → gI v' 35 (200 + n) = nI b) : ∃ W' A' B', LnR u' v' l N (n + 1) W' A' B' := by
  obtain ⟨⟨w1, w2⟩, ⟨d1, d2⟩, ⟨e1, e2⟩⟩ := h
  refine ⟨fun i => if i = n then s else W i, fun i => if i = n then a else A i, fun i => if i = n then b else B i, ⟨by omega, fun i hi => ?_⟩, ⟨h3, fun i hi => ?_⟩, ⟨h5, fun i hi => ?_⟩⟩
  · by_cases q : i = n
    · simp only [if_pos q]
      exact ⟨q0, q1, q2, q3⟩
    · simp only [if_neg q]
      exact w2 i (by omega)
  · by_cases q : i = n
    · simp only [if_pos q]
      subst q
      exact ⟨c1, c2, c3⟩
    · simp only [if_neg q]
      obtain ⟨r1, r2, r3⟩ := d2 i (by omega)
      exact ⟨(hu 1 i (by omega) (by omega) (by omega)).trans r1, fun z => ⟨(hu 2 i (by omega) (by omega) (by omega)).trans (r2 z).1, (hu 3 i (by omega) (by omega) (by omega)).trans (r2 z).2⟩, fun z => (hu 2 i (by omega) (by omega) (by omega)).trans (r3 z)⟩
  · by_cases q : i = n
    · simp only [if_pos q]
      subst q
      exact ⟨m1, m2, m3⟩
    · simp only [if_neg q]
      obtain ⟨r1, r2, r3⟩ := e2 i (by omega)
      exact ⟨(hv 33 i (by omega) (by omega) (by omega)).trans r1, fun z => (hv 34 i (by omega) (by omega) (by omega)).trans (r2 z), fun z => (hv 35 i (by omega) (by omega) (by omega)).trans (r3 z)⟩
/-- what a line leaves -/
def LnQ (u v : zM) (l : Nat) (N : Nat → Nat) (n : Nat) (c : Nat) (T : Nat → Nat) (b : Nat) (r : Option (Unit × zM)) (r' : Option (Int32 × zM)) : Prop := ∃ u' v', r = some ((), u') ∧ ((r' = some (1, v') ∧ (∃ W A B, LnR u' v' l N (n + 1) W A B) ∧ OkF (snC l) snM u v u' v' c T b) ∨ (r' = some (0, v') ∧ BdF (snC l) snM u v u' v'))
theorem tlC {l c k : Nat} (q : rdC c k ∨ (c = l ∧ k = 3)) : snC l c k := by unfold rdC at q; unfold snC rdC; omega
theorem tlM {c k : Nat} (q : rdM c k ∨ (c = 32 ∧ k = 5)) : snM c k := by unfold rdM at q; unfold snM rdM; omega
def TAIL (l : Nat) (u : zM) : Option (Unit × zM) := zb (Ta_passSign 59 u) (fun _ u6 => zlet (sI u6 l 3 ((gI u6 l 3) + 1)) (fun u7 => some ((), u7)))
/-- the end of a line, all else being there -/
theorem lineE {u v : zM} {c b e k m : Nat} {T : Nat → Nat} {w : List Nat} (h : Fin u v c T b e k w m) {l n : Nat} {N W A B : Nat → Nat} (hl : l = 46 ∨ l = 50) (hL : LnR u v l N n W A B) (hn : n < 40) {u0 v0 : zM} {s x y : Nat} (q0 : s ≤ 3) (q1 : s = 1 → x < N 3 ∧ y < N 4) (q2 : s = 2 → x < N 3 ∧ y < N 0) (q3 : s = 3 → y < N 4) (c1 : gI u (l + 1) n = nI s) (c2 : (s = 1 ∨ s = 2) → gI u (l + 2) n = nI x ∧ gI u (l + 3) n = nI y) (c3 : s = 3 → gI u (l + 2) n = nI y) (m1 : gI v 33 (200 + n) = nI s) (m2 : (s = 1 ∨ s = 2) → gI v 34 (200 + n) = nI x) (m3 : s ≠ 0 → gI v 35 (200 + n) = nI y) (f1 : Fr (snC l) u0 u) (f2 : Fr snM v0 v) {b0 : Nat} (hb : b0 < b) : LnQ u0 v0 l N n c T b0 (TAIL l u) (Mo_readsLine_182 v) := by
  obtain ⟨u', v', s1, s2⟩ := h.tail hl hL.2.1.1 hL.2.2.1
  refine ⟨u', v', s1, ?_⟩
  rcases s2 with ⟨s2, s3, s4, b', e', k', w', m', s5, s6, s7, s8⟩ | ⟨s2, z, s3, s4, s7, s8⟩
  · exact Or.inl ⟨s2, hL.add hn (fun j k _ _ _ => s7.i (by unfold rdC; omega)) (fun c k _ _ _ => s8.i (by unfold rdM; omega)) s3 s4 q0 q1 q2 q3 ((s7.i (by unfold rdC; omega)).trans c1) (fun z => ⟨(s7.i (by unfold rdC; omega)).trans (c2 z).1, (s7.i (by unfold rdC; omega)).trans (c2 z).2⟩) (fun z => (s7.i (by unfold rdC; omega)).trans (c3 z)) ((s8.i (by unfold rdM; omega)).trans m1) (fun z => (s8.i (by unfold rdM; omega)).trans (m2 z)) (fun z => (s8.i (by unfold rdM; omega)).trans (m3 z)), b', e', k', w', m', s5, by omega, f1.tr (s7.mono (fun c k q => tlC q)), f2.tr (s8.mono (fun c k q => tlM q))⟩
  · exact Or.inr ⟨s2, z, s3, s4, f1.tr (s7.mono (fun c k q => tlC q)), f2.tr (s8.mono (fun c k q => tlM q))⟩
theorem LnR.fr {u u' v v' : zM} {l n : Nat} {N W A B : Nat → Nat} (h : LnR u v l N n W A B) (h3 : gI u' l 3 = gI u l 3) (hu : ∀ j k, 1 ≤ j → j ≤ 3 → k < n → gI u' (l + j) k = gI u (l + j) k) (h5 : gI v' 32 5 = gI v 32 5) (hv : ∀ c k, 33 ≤ c → c ≤ 35 → k < n → gI v' c (200 + k) = gI v c (200 + k)) : LnR u' v' l N n W A B := by
  obtain ⟨w, ⟨d1, d2⟩, ⟨e1, e2⟩⟩ := h
  refine ⟨w, ⟨h3.trans d1, fun i hi => ?_⟩, ⟨h5.trans e1, fun i hi => ?_⟩⟩
  · obtain ⟨r1, r2, r3⟩ := d2 i hi
    exact ⟨(hu 1 i (by omega) (by omega) hi).trans r1, fun z => ⟨(hu 2 i (by omega) (by omega) hi).trans (r2 z).1, (hu 3 i (by omega) (by omega) hi).trans (r2 z).2⟩, fun z => (hu 2 i (by omega) (by omega) hi).trans (r3 z)⟩
  · obtain ⟨r1, r2, r3⟩ := e2 i hi
    exact ⟨(hv 33 i (by omega) (by omega) hi).trans r1, fun z => (hv 34 i (by omega) (by omega) hi).trans (r2 z), fun z => (hv 35 i (by omega) (by omega) hi).trans (r3 z)⟩
/-- the last name of a line, at its row; then the end -/
theorem lineN {u v : zM} {c b e k m : Nat} {T : Nat → Nat} {w : List Nat} (h : Fin u v c T b e k w m) {t l n : Nat} {N W A B : Nat → Nat} {nm : Nat → Nat → List Nat} (hN : NmR u v t 0 N nm) (ht : t = 4 ∨ t = 25) (hl : l = 46 ∨ l = 50) (hL : LnR u v l N n W A B) (hn : n < 40) {u0 v0 : zM} {s x σ r : Nat} (hs : s = 1 ∧ σ = 3 ∧ r = 3 ∨ s = 2 ∧ σ = 0 ∧ r = 3 ∨ s = 3 ∧ σ = 3 ∧ r = 2) (q1 : s = 1 ∨ s = 2 → x < N 3) (c1 : gI u (l + 1) n = nI s) (c2 : (s = 1 ∨ s = 2) → gI u (l + 2) n = nI x) (m1 : gI v 33 (200 + n) = nI s) (m2 : (s = 1 ∨ s = 2) → gI v 34 (200 + n) = nI x) (f1 : Fr (snC l) u0 u) (f2 : Fr snM v0 v) {b0 : Nat} (hb : b0 < b) : LnQ u0 v0 l N n c T b0 (zb (Ta_passTold (t + 1 + 2 * σ) u) (fun c1 u1 => zlet (sI u1 (l + r) n c1) (fun u2 => TAIL l u2))) (zb (namM σ 0 v) (fun c1 u1 => Mo_readsLine_164 (nI (200 + n)) c1 u1)) := by
  obtain ⟨X, x1, y, u1, v1, x2, x3⟩ := h.told hN ht (by decide) (s := σ) (by omega)
  rw [zb_eq x2, zl_e, zb_eq (show namM σ 0 v = some (X, v) from x1)]
  unfold Mo_readsLine_164
  rcases x3 with ⟨x3, ⟨j, j1, j2, j3⟩, b', e', k', w', m', s3, s4, s5, s6⟩ | ⟨x3, z, s3, s4, s5, s6⟩
  · rw [zb_eq x3, if_neg (show ¬ (1 : Int32) = 0 by decide), if_pos (ib_nI (by omega) (by omega)), ix_nI (by omega), j3, zl_e, j2]
    have hF : Fin (sI u1 (l + r) n (nI j)) (sI v1 35 (200 + n) (nI j)) c T b' e' k' w' m' := s3.fr (fun a i q => gs_ne (by omega)) rfl (fun a i q => gs_ne (by omega)) rfl
    have hL' : LnR (sI u1 (l + r) n (nI j)) (sI v1 35 (200 + n) (nI j)) l N n W A B := hL.fr ((gs_ne (by omega)).trans (s5.i (by unfold rdC; omega))) (fun i z _ _ _ => (gs_ne (by omega)).trans (s5.i (by unfold rdC; omega))) ((gs_ne (by omega)).trans (s6.i (by unfold rdM; omega))) (fun a z _ _ _ => (gs_ne (by omega)).trans (s6.i (by unfold rdM; omega)))
    have j1' : (s = 1 ∨ s = 3 → j < N 4) ∧ (s = 2 → j < N 0) := by
      rcases hs with ⟨z1, z2, z3⟩ | ⟨z1, z2, z3⟩ | ⟨z1, z2, z3⟩ <;> subst z2 <;> subst z1
      · exact ⟨fun _ => j1, fun z => absurd z (by decide)⟩
      · exact ⟨fun z => absurd z (by decide), fun _ => j1⟩
      · exact ⟨fun _ => j1, fun z => absurd z (by decide)⟩
    refine lineE hF hl hL' hn (s := s) (x := x) (y := j) (by omega) (fun z => ⟨q1 (Or.inl z), j1'.1 (Or.inl z)⟩) (fun z => ⟨q1 (Or.inr z), j1'.2 z⟩) (fun z => j1'.1 (Or.inr z)) ((gs_ne (by omega)).trans ((s5.i (by unfold rdC; omega)).trans c1)) (fun z => ⟨(gs_ne (by omega)).trans ((s5.i (by unfold rdC; omega)).trans (c2 z)), gs_eq (by omega)⟩) (fun z => gs_eq (by omega)) ((gs_ne (by omega)).trans ((s6.i (by unfold rdM; omega)).trans m1)) (fun z => (gs_ne (by omega)).trans ((s6.i (by unfold rdM; omega)).trans (m2 z))) (fun _ => gs_eq ⟨rfl, rfl⟩) ((f1.tr (s5.mono (fun c k q => Or.inl q))).tr (Fr.sI (by unfold snC; omega))) ((f2.tr (s6.mono (fun c k q => Or.inl q))).tr (Fr.sI (by unfold snM; omega))) (show b0 < b' by omega)
  · rw [zb_eq x3, if_pos rfl]
    have hB : Bad (sI u1 (l + r) n y) z := s3.fr (gs_ne (by omega))
    obtain ⟨u2, t1, t2, t3⟩ := hB.tail hl
    exact ⟨u2, v1, t1, Or.inr ⟨rfl, z, t2, s4, ((f1.tr (s5.mono (fun c k q => Or.inl q))).tr (Fr.sI (by unfold snC; omega))).tr (t3.mono (fun c k q => by unfold snC; omega)), f2.tr (s6.mono (fun c k q => Or.inl q))⟩⟩
