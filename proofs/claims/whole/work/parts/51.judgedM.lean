/-! ===== judged: the reference ===== -/
theorem jud216 {b : Bool} {x2 x3 : Int32} {i : Nat} (h2 : x2 = mI ∨ ∃ j, j < 40 ∧ x2 = nI j) (zr : Int32 → Int32 → Int32 → Int32 → zM → Option (Int32 × zM)) (x1 : Int32) (m : zM) : Mo_judged_216 zr x1 x2 x3 (nI i) (bI b) m = zr x1 (rfN b x2 i) x3 (nI (i + 1)) m := by
  unfold Mo_judged_216
  rw [show nI i + 1 = nI (i + 1) from nI_1 i]
  cases b
  · rw [if_pos (show bI false = (0 : Int32) from rfl)]
    by_cases q : x2 = mI
    · rw [if_neg (fun h => (ge0_mI h2).mp h q), q, rfN_m]
    · rw [if_pos ((ge0_mI h2).mpr q), rfN_n q]
  · rw [if_neg bIt_ne, rfN_t]
theorem jud204 {b : Bool} {x2 x3 : Int32} {i : Nat} (h2 : x2 = mI ∨ ∃ j, j < 40 ∧ x2 = nI j) (h3 : x3 = mI ∨ ∃ j, j < 40 ∧ x3 = nI j) (zr : Int32 → Int32 → Int32 → Int32 → zM → Option (Int32 × zM)) (x1 : Int32) (m : zM) : Mo_judged_204 zr x1 x2 x3 (nI i) (bI b) m = zr x1 (rfN b x2 i) (sfN b 3 x3 i) (nI (i + 1)) m := by
  unfold Mo_judged_204
  rw [jud216 h2, jud216 h2]
  cases b
  · rw [if_pos (show bI false = (0 : Int32) from rfl), sfN_f]
  · rw [if_neg bIt_ne]
    by_cases q : x3 = mI
    · rw [if_neg (fun h => (ge0_mI h3).mp h q), q, sfN_m]
    · rw [if_pos ((ge0_mI h3).mpr q), sfN_n q]
theorem judM_step {m : zM} {N S : Nat → Nat} {K : Nat → Nat → Nat} {E : Int32 → Int32 → Int32 → Int32 → Int32} (hW : Wf N K S) (hz : NowM m N K E S) {W A B i c : Nat} (hc : gI m 32 0 = nI c) (hi : i < c) (hc4 : c ≤ 40) (h3 : W ≤ 3) (h1 : W = 1 → A < N 3 ∧ B < N 4) (h2 : W = 2 → A < N 3 ∧ B < N 0) (h4 : W = 3 → B < N 4) (e0 : gI m 33 i = nI W) (e1 : (W = 1 ∨ W = 2) → gI m 34 i = nI A) (e2 : W ≠ 0 → gI m 35 i = nI B) (x1 : Int32) {x2 x3 : Int32} (hx2 : x2 = mI ∨ ∃ j, j < 40 ∧ x2 = nI j) (hx3 : x3 = mI ∨ ∃ j, j < 40 ∧ x3 = nI j) (zr : Int32 → Int32 → Int32 → Int32 → zM → Option (Int32 × zM)) : ∃ m', Mo_judged_41b zr x1 x2 x3 (nI i) m = zr x1 (rfN (lnB N K S W A B) x2 i) (sfN (lnB N K S W A B) W x3 i) (nI (i + 1)) m' ∧ NowM m' N K E (jn E N K W A B S) ∧ Fr pasA m m' := by
  have hI : ib (nI i) 240 = true := ib_nI (by omega) (by omega)
  have hx : ix (nI i) = i := ix_nI (by omega)
  unfold Mo_judged_41b
  rw [hc, if_neg (nI_ge hi (by omega)), if_pos hI, zl_e, if_pos hI, zl_e, if_pos hI, if_pos hI, if_pos hI, hx, e0]
  have h5 : W = 0 ∨ W = 1 ∨ W = 2 ∨ W = 3 := by omega
  rcases h5 with rfl | rfl | rfl | rfl
  · obtain ⟨m', f1, f2, f3⟩ := Mo_passesAsTold_eq hW hz
    refine ⟨m', ?_, f2, f3⟩
    rw [if_pos (show nI 0 = (0 : Int32) from rfl), zb_eq f1, sfN_ne (by omega)]
    exact jud216 (b := true) hx2 zr x1 m'
  · obtain ⟨m', f1, f2, f3⟩ := ln1M hW hz (h1 rfl).1 (h1 rfl).2 (Mo_judged_216 zr x1 x2 x3 (nI i))
    refine ⟨m', ?_, f2, f3.mono (fun c k h => by unfold pasA; omega)⟩
    rw [if_neg (show ¬ nI 1 = (0 : Int32) by decide), if_pos (show nI 1 = (1 : Int32) from rfl), e1 (Or.inl rfl), e2 (by omega), sfN_ne (by omega)]
    rw [f1, jud216 hx2]
  · obtain ⟨m', f1, f2, f3⟩ := ln2M hW hz (h2 rfl).1 (h2 rfl).2 (Mo_judged_216 zr x1 x2 x3 (nI i) (bI true)) (Mo_judged_216 zr x1 x2 x3 (nI i) (bI false))
    refine ⟨m', ?_, f2, f3.mono (fun c k h => by unfold pasA; omega)⟩
    rw [if_neg (show ¬ nI 2 = (0 : Int32) by decide), if_neg (show ¬ nI 2 = (1 : Int32) by decide), if_pos (show nI 2 = (2 : Int32) from rfl), e1 (Or.inr rfl), e2 (by omega), sfN_ne (by omega)]
    have g1 : ∀ u, Mo_judged_162 zr x1 x2 x3 (nI i) (nI A) (nI B) 1 u = zb (Mo_swims (nI A) (nI B) u) (fun _ u7 => Mo_judged_216 zr x1 x2 x3 (nI i) (bI true) u7) := by
      intro u
      unfold Mo_judged_162
      rw [if_neg (by decide)]
      rfl
    have g2 : ∀ u, Mo_judged_162 zr x1 x2 x3 (nI i) (nI A) (nI B) 0 u = Mo_judged_216 zr x1 x2 x3 (nI i) (bI false) u := by
      intro u
      unfold Mo_judged_162
      rw [if_pos rfl]
      rfl
    simp only [g1, g2]
    rw [f1]
    cases lnB N K S 2 A B
    · rw [if_neg (by decide), jud216 hx2]
    · rw [if_pos rfl, jud216 hx2]
  · obtain ⟨m', f1, f2, f3⟩ := ln3M hW hz A (h4 rfl) (Mo_judged_204 zr x1 x2 x3 (nI i))
    refine ⟨m', ?_, f2, f3.mono (fun c k h => by unfold pasA; omega)⟩
    rw [if_neg (show ¬ nI 3 = (0 : Int32) by decide), if_neg (show ¬ nI 3 = (1 : Int32) by decide), if_neg (show ¬ nI 3 = (2 : Int32) by decide), e2 (by omega)]
    rw [f1, jud204 hx2 hx3]
def asM (c k : Nat) : Prop := c = 40 ∨ scrM c k
theorem judM {v : zM} {N S : Nat → Nat} {K : Nat → Nat → Nat} {E : Int32 → Int32 → Int32 → Int32 → Int32} (hW : Wf N K S) (hz : NowM v N K E S) {c : Nat} {W A B : Nat → Nat} (hw : WfL N c W A B) (hm : LiM v 0 c W A B) {w : Nat} (hw2 : w ≤ 2) : ∃ v', Mo_judged (nI w) v = some (if w = 0 then (jR (jB E N K W A B) W c).1 else if w = 1 then (jR (jB E N K W A B) W c).2 else nI (sv3 N (jS E N K W A B c)), v') ∧ (∀ k, k < 25 → gI v' 40 k = gI v 40 k) ∧ Fr asM v v' := by
  have hz1 := hz.th hW.1
  have f0 : Fr (fun c k => c = 1 ∧ k = 0) v (sI v 1 0 0) := Fr.sI ⟨rfl, rfl⟩
  obtain ⟨v1, e1, e2, f1⟩ := Mo_copies_eq (v := sI v 1 0 0) (A := 40) (B := 41) (i := 0) (j := 0) (la := 25) (lb := 25) rfl rfl (by omega) (by omega) (by omega) (by omega) (by omega)
  have hz2 : NowM v1 N K E S := hz1.st hW.1 (fun c k h1 h2 => f1.i (by omega)) (hz1.2.2.fr hW.1 (fun k hk => f1.i (by omega)))
  obtain ⟨v2, e3, s3, f3⟩ := Mo_fresh0_eq hW.1 hz2.1
  have hz3 : NowM v2 N K E (begS K) := hz2.st hW.1 (fun c k h1 h2 => f3.i (by omega)) s3
  have hc4 := hw.1
  have key := lprz (fun n (s : Int32 × Int32 × Int32 × zM) => Mo_judged_41 n (nI w) s.1 s.2.1 s.2.2.1 s.2.2.2) (fun k s => s.1 = (jR (jB E N K W A B) W k).1 ∧ s.2.1 = (jR (jB E N K W A B) W k).2 ∧ s.2.2.1 = nI k ∧ NowM s.2.2.2 N K E (jS E N K W A B k) ∧ Fr pasA v2 s.2.2.2) (fun r => ∃ v', r = some (if w = 0 then (jR (jB E N K W A B) W c).1 else if w = 1 then (jR (jB E N K W A B) W c).2 else nI (sv3 N (jS E N K W A B c)), v') ∧ (∀ k, k < 25 → gI v' 40 k = gI v2 41 k) ∧ Fr pasA v2 v') c (mI, mI, nI 0, v2) (by omega) ⟨rfl, rfl, rfl, hz3, Fr.rf⟩ ?_ ?_
  · obtain ⟨v', k1, k2, k3⟩ := key
    refine ⟨v', ?_, fun k hk => ?_, (((f0.mono (fun c k h => by unfold asM scrM; omega)).tr (f1.mono (fun c k h => by unfold asM scrM; omega))).tr (f3.mono (fun c k h => by unfold asM; omega))).tr (k3.mono (fun c k h => by unfold pasA at h; unfold asM scrM; omega))⟩
    · unfold Mo_judged
      rw [zl_e, zb_eq (show Mo_within (nI w) 0 2 (sI v 1 0 0) = some (nI 1, sI v 1 0 0) from Mo_within_ok (n := 0) (m := 2) (by omega) (by omega) (by omega)), if_neg one_ne, zb_eq (show Mo_copies 40 0 41 0 (sI v 1 0 0) = some ((), v1) from e1), zb_eq e3]
      exact k1
    · rw [k2 k hk, f3.i (by omega)]
      have := e2 k hk
      rw [Nat.zero_add] at this
      rw [this]
      exact f0.i (by omega)
  · rintro n ⟨x1, x2, x3, m⟩ ⟨h1, h2, h3, h5, h6⟩
    dsimp only at h1 h2 h3 h5 h6 ⊢
    subst h1 h2 h3
    have g1 : gI m 32 0 = nI c := (h6.i (by unfold pasA; omega)).trans ((f3.i (by omega)).trans ((f1.i (by omega)).trans ((f0.i (by omega)).trans hm.1)))
    have hwf := (jS_wf (E := E) hW.1 hW.2.1 hw c (Nat.le_refl _)).1
    obtain ⟨m', c1, c2, c3⟩ := Mo_copies_eq (v := m) (A := 41) (B := 40) (i := 0) (j := 0) (la := 25) (lb := 25) rfl rfl (by omega) (by omega) (by omega) (by omega) (by omega)
    refine ⟨m', ?_, fun k hk => ?_, h6.tr (c3.mono (fun c k h => by unfold pasA; omega))⟩
    · show Mo_judged_41b _ _ _ _ _ _ = _
      unfold Mo_judged_41b
      have e5 : Mo_writsOf 3 m = _ := Mo_writsOf_eq hwf h5 (p := 3) (by omega)
      have c1 : Mo_copies 41 0 40 0 m = some ((), m') := c1
      rw [g1, if_pos (nI_le (Nat.le_refl _) (by omega)), zb_eq e5, zb_eq (bits_pop (wriS_lt hW.1 3) m), zb_eq c1, wriS_3 hW.1]
      have q : w = 0 ∨ w = 1 ∨ w = 2 := by omega
      rcases q with rfl | rfl | rfl <;> rfl
    · have := c2 k hk
      rw [Nat.zero_add] at this
      rw [this]
      exact h6.i (by unfold pasA; omega)
  · rintro n k ⟨x1, x2, x3, m⟩ hk ⟨h1, h2, h3, h5, h6⟩
    dsimp only at h1 h2 h3 h5 h6 ⊢
    subst h1 h2 h3
    have fr : ∀ a i, 32 ≤ a → a ≤ 35 → gI m a i = gI v a i := fun a i _ _ => (h6.i (by unfold pasA; omega)).trans ((f3.i (by omega)).trans ((f1.i (by omega)).trans (f0.i (by omega))))
    obtain ⟨q1, q2, q3, q4⟩ := hw.2 k hk
    obtain ⟨p1, p2, p3⟩ := hm.2 k hk
    rw [Nat.mul_zero, Nat.zero_add] at p1 p2 p3
    have hwf := (jS_wf (E := E) hW.1 hW.2.1 hw k (by omega)).1
    obtain ⟨ok1, ok2⟩ := jR_ok (jB E N K W A B) W k (by omega)
    obtain ⟨m', s1, s2, s3⟩ := judM_step hwf h5 (A := A k) (B := B k) ((fr _ _ (by omega) (by omega)).trans hm.1) hk hc4 q1 q2 q3 q4 ((fr _ _ (by omega) (by omega)).trans p1) (fun q => (fr _ _ (by omega) (by omega)).trans (p2 q)) (fun q => (fr _ _ (by omega) (by omega)).trans (p3 q)) (nI w) ok1 ok2 (Mo_judged_41 n)
    right
    exact ⟨(_, _, _, m'), ⟨rfl, rfl, rfl, s2, h6.tr s3⟩, s1⟩
theorem InvR.asd {n : Nat} {u u' v v' : zM} {t l : Nat} {N : Nat → Nat} {K : Nat → Nat → Nat} {E : Int32 → Int32 → Int32 → Int32 → Int32} {S : Nat → Nat} (h : InvR n u v t l N K E S) (hu : Fr (scrC t) u u') (hv : Fr asM v v') (hs : ∀ k, k < 25 → gI v' 40 k = gI v 40 k) : InvR (n + 1) u' v' t l N K E S := by
  have ht := h.2.2.1.2.1
  exact h.hd (Nat.le_succ _) (hu.mono (fun c k q => Or.inr (Or.inr q))) (hv.mono (fun c k q => q.elim (fun q => Or.inl q) (fun q => Or.inr (Or.inr q)))) h.1 (Nat.le_trans h.2.1 (Nat.le_succ _)) (h.2.2.1.2.2.2.2.fr h.1.1 (fun j k _ _ _ => hu.i (by unfold scrC; omega))) (h.2.2.2.1.2.2.fr h.1.1 (fun k hk => by rw [Nat.zero_add]; exact hs k hk)) (h.2.2.2.2.2.2.2.1.fr (Nat.le_succ _) (fun k _ _ => hu.i (by unfold scrC; omega)) (fun c k _ _ => hu.i (by unfold scrC; omega)) (hv.i (by unfold asM scrM; omega)) (fun k => hv.i (by unfold asM scrM; omega))) (fun _ _ => rfl)
theorem c_judged {n : Nat} {u v : zM} (h : Inv n u v) (hn : n < 600) (x : Int32) : ∃ r u' v', OW_judged x u = some (r, u') ∧ Mo_judged x v = some (r, v') ∧ Inv (n + 1) u' v' := by
  obtain ⟨h6, t, l, N, K, E, S, h⟩ := h
  rcases arg_ix x (n := 3) (by omega) with ⟨w, hw, rfl⟩ | hx
  · obtain ⟨c, W, A, B, hw', hc, hm⟩ := h.2.2.2.2.2.1
    obtain ⟨u', e1, f1⟩ := judC h.1 h.2.2.1 h.2.2.2.2.1 hw' hc (w := w) (by omega)
    obtain ⟨v', e2, g2, f2⟩ := judM h.1 h.2.2.2.1 hw' hm (w := w) (by omega)
    exact ⟨_, u', v', e1, e2, by omega, t, l, N, K, E, S, h.asd f1 f2 g2⟩
  · refine ⟨-2, u, sI v 1 0 0, ?_, ?_, by omega, t, l, N, K, E, S, h.th.up⟩
    · unfold OW_judged
      rw [zb_eq (show OW_within x 0 2 u = some (nI 0, u) from OW_within_no (m := 2) hx (by omega))]
      rfl
    · unfold Mo_judged
      rw [zl_e, zb_eq (show Mo_within x 0 2 (sI v 1 0 0) = some (nI 0, sI v 1 0 0) from Mo_within_no (m := 2) hx (by omega))]
      rfl
