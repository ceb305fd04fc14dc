/-! ===== share: both ===== -/
def goB (c k : Nat) : Prop := goA c k ∨ 47 ≤ c
theorem InvR.out2 {n : Nat} {u u' v v' : zM} {t l : Nat} {N : Nat → Nat} {K : Nat → Nat → Nat} {E : Int32 → Int32 → Int32 → Int32 → Int32} {S : Nat → Nat} (h : InvR n u v t l N K E S) (hu : Fr (fun c k => outA t c k ∨ scrC t c k) u u') (hv : Fr goB v v') (hs : ∀ k, k < 25 → gI v' 40 k = gI v 40 k) (ho : OutI u' N K E S) : InvR (n + 1) u' v' t l N K E S := by
  have h1 := h
  obtain ⟨a1, a2, a3, a4, a5, a6, a7, a8, a9, b1, b2, b3⟩ := h
  have ht := a3.2.1
  have hl := a5.2.2.1
  exact InvR.re h1 (hu.mono (fun c k h => by unfold outA scrC at h; unfold reC; omega)) (hv.mono (fun c k h => by unfold goB goA at h; unfold reM; omega)) a1 (by omega) (a3.2.2.2.2.fr a1.1 (fun j k _ _ _ => hu.i (by unfold outA scrC; omega))) (a4.2.2.fr a1.1 (fun k hk => by rw [Nat.zero_add]; exact hs k hk)) (a6.fr (hu.i (by unfold outA scrC; omega)) (fun j k _ _ _ => hu.i (by unfold outA scrC; omega)) (hv.i (by unfold goB goA; omega)) (fun c k _ _ _ => hv.i (by unfold goB goA; omega))) (a7.fr (hu.i (by unfold outA scrC; omega)) (fun j k _ _ _ _ => hu.i (by unfold outA scrC; omega)) (hv.i (by unfold goB goA; omega)) (fun c k _ _ _ _ => hv.i (by unfold goB goA; omega))) (a8.fr (by omega) (fun k _ _ => hu.i (by unfold outA scrC; omega)) (fun c k _ _ => hu.i (by unfold outA scrC; omega)) (hv.i (by unfold goB goA; omega)) (fun k => hv.i (by unfold goB goA; omega))) (a9.fr (by omega) (fun c k _ => hu.i (by unfold outA scrC; omega)) (fun c k _ => hv.i (by unfold goB goA; omega))) ho (b2.fr (hu.i (by unfold outA scrC; omega)) (fun k => hu.i (by unfold outA scrC; omega)) (hv.i (by unfold goB goA; omega)) (fun k => hv.i (by unfold goB goA; omega)))
def goE (c k : Nat) : Prop := goA c k ∨ c = 47
theorem NowM.bs {v v' : zM} {N S : Nat → Nat} {K : Nat → Nat → Nat} {E : Int32 → Int32 → Int32 → Int32 → Int32} (hN : WfN N) (h : NowM v N K E S) (hf : Fr goE v v') (hs : ∀ k, k < 25 → gI v' 40 k = gI v 40 k) : NowM v' N K E S := h.st hN (fun c k _ _ => hf.i (by unfold goE goA; omega)) (h.2.2.fr hN (fun k hk => by rw [Nat.zero_add]; exact hs k hk))
theorem share_38 {v m0 : zM} {N S : Nat → Nat} {K : Nat → Nat → Nat} {E : Int32 → Int32 → Int32 → Int32 → Int32} (hW : Wf N K S) (hS : S 0 ≤ 600) (hz : NowM v N K E S) (h40 : ∀ k, k < 25 → gI m0 40 k = gI v 40 k) (h0 : Fr goE v m0) {o : Nat} (ho : o < N 3) (x : Int32) (zr : Int32 → Int32 → zM → Option (Int32 × zM)) : ∃ m', Mo_share_38 zF zr x (nI o) 0 m0 = zr x (nI (o + 1)) m' ∧ (∀ w, w < N 4 → gI m' 47 (6 * o + w) = dsT E N K S o w) ∧ (∀ k, k < 6 * o → gI m' 47 k = gI m0 47 k) ∧ (∀ k, k < 25 → gI m' 40 k = gI v 40 k) ∧ Fr goE v m' := by
  obtain ⟨n0, n1, n2, n3, n4, n5⟩ := hW.1
  refine lprz (fun n (s : Int32 × zM) => Mo_share_38 n zr x (nI o) s.1 s.2) (fun k s => s.1 = nI k ∧ (∀ w, w < k → gI s.2 47 (6 * o + w) = dsT E N K S o w) ∧ (∀ k, k < 6 * o → gI s.2 47 k = gI m0 47 k) ∧ (∀ k, k < 25 → gI s.2 40 k = gI v 40 k) ∧ Fr goE v s.2) (fun z => ∃ m', z = zr x (nI (o + 1)) m' ∧ (∀ w, w < N 4 → gI m' 47 (6 * o + w) = dsT E N K S o w) ∧ (∀ k, k < 6 * o → gI m' 47 k = gI m0 47 k) ∧ (∀ k, k < 25 → gI m' 40 k = gI v 40 k) ∧ Fr goE v m') (N 4) (nI 0, m0) (by omega) ⟨rfl, fun w h => absurd h (by omega), fun _ _ => rfl, h40, h0⟩ ?_ ?_
  · rintro n ⟨y, m⟩ ⟨h1, h2, h3, h4, h5⟩
    dsimp only at h1 h2 h3 h4 h5 ⊢
    subst h1
    refine ⟨m, ?_, h2, h3, h4, h5⟩
    have zm := hz.bs hW.1 h5 h4
    show Mo_share_38b _ _ _ _ _ _ = _
    unfold Mo_share_38b
    rw [zm.1.1 4 (by omega), if_pos (nI_le (Nat.le_refl _) (by omega)), show nI o + 1 = nI (o + 1) from nI_1 o]
  · rintro n k ⟨y, m⟩ hk ⟨h1, h2, h3, h4, h5⟩
    dsimp only at h1 h2 h3 h4 h5 ⊢
    subst h1
    right
    have zm := hz.bs hW.1 h5 h4
    obtain ⟨m', d1, d2, d3⟩ := servesM hW hS zm ho hk
    have e6 : (6 * nI o) + nI k = nI (6 * o + k) := by rw [show (6 : Int32) = nI 6 from rfl, pk_mul, nI_add]
    refine ⟨(nI (k + 1), sI m' 47 (6 * o + k) (dsT E N K S o k)), ⟨rfl, fun w hw => ?_, fun j hj => ?_, fun j hj => ?_, (h5.tr (d3.mono (fun c k q => Or.inl q))).tr (Fr.sI (Or.inr rfl))⟩, ?_⟩
    · by_cases q : w = k
      · subst q
        exact gs_eq ⟨rfl, rfl⟩
      · exact (gs_ne (by omega)).trans ((d3.i (by unfold goA; omega)).trans (h2 w (by omega)))
    · exact (gs_ne (by omega)).trans ((d3.i (by unfold goA; omega)).trans (h3 j hj))
    · exact (gs_ne (by omega)).trans ((d2 j hj).trans (h4 j hj))
    · show Mo_share_38b _ _ _ _ _ _ = _
      unfold Mo_share_38b
      rw [zm.1.1 4 (by omega), if_neg (nI_ge hk (by omega)), zb_eq d1, e6, if_pos (ib_nI (by omega) (by omega)), ix_nI (by omega), zl_e, show nI k + 1 = nI (k + 1) from nI_1 k]
      rfl
/-- what is asked of the best -/
def shA (p : Nat × Nat × (Nat → Int32)) (x : Int32) : Int32 := if x = -1 then nI p.1 else if x = -2 then nI p.2.1 else p.2.2 (ix x)
theorem shareM {v : zM} {N S : Nat → Nat} {K : Nat → Nat → Nat} {E : Int32 → Int32 → Int32 → Int32 → Int32} (hW : Wf N K S) (hS : S 0 ≤ 600) (hz : NowM v N K E S) {x : Int32} (hx : x = -1 ∨ x = -2 ∨ ∃ o, o < N 3 ∧ x = nI o) {p : Nat × Nat × (Nat → Int32)} (hp : shT (dsT E N K S) (N 4) (N 3) 0 0 0 0 none = some p) : ∃ v', Mo_share_26 zF x 0 v = some (shA p x, v') ∧ (∀ k, k < 25 → gI v' 40 k = gI v 40 k) ∧ Fr goB v v' := by
  obtain ⟨n0, n1, n2, n3, n4, n5⟩ := hW.1
  refine lprz (fun n (s : Int32 × zM) => Mo_share_26 n x s.1 s.2) (fun k s => s.1 = nI k ∧ (∀ o w, o < k → w < N 4 → gI s.2 47 (6 * o + w) = dsT E N K S o w) ∧ (∀ k, k < 25 → gI s.2 40 k = gI v 40 k) ∧ Fr goE v s.2) (fun z => ∃ v', z = some (shA p x, v') ∧ (∀ k, k < 25 → gI v' 40 k = gI v 40 k) ∧ Fr goB v v') (N 3) (nI 0, v) (by omega) ⟨rfl, fun o w h => absurd h (by omega), fun _ _ => rfl, Fr.rf⟩ ?_ ?_
  · rintro n ⟨y, m⟩ ⟨h1, h2, h3, h4⟩
    dsimp only at h1 h2 h3 h4 ⊢
    subst h1
    have zm := hz.bs hW.1 h4 h3
    obtain ⟨u', a1, a2, a3, a4⟩ := shares_eq n4 n3 (fun o w => dsv_ok E N K S w o) (N 3) 8 0 0 0 0 none (sI m 1 63 mI) (by omega) (by omega) (by decide) (by omega) (DS := dsT E N K S) ⟨(gs_ne (by omega)).trans (zm.1.1 3 (by omega)), (gs_ne (by omega)).trans (zm.1.1 4 (by omega)), fun o w ho hw => (gs_ne (by omega)).trans (h2 o w ho hw)⟩ (fun k hk => absurd hk (by omega)) ⟨fun _ => gs_eq ⟨rfl, rfl⟩, fun p h => (nomatch h)⟩
    rw [hp] at a2
    obtain ⟨b1, b2, b3, b4, b5⟩ := a2.2 p rfl
    have F : Fr goB v u' := Fr.tr (Fr.tr (h4.mono (fun c k q => by unfold goE goA at q; unfold goB goA; omega)) (Fr.sI (A := goB) (by unfold goB goA; omega))) (a4.mono (fun c k q => by unfold shM at q; unfold goB goA; omega))
    refine ⟨u', ?_, fun k hk => (a4.i (by unfold shM; omega)).trans ((gs_ne (by omega)).trans (h3 k hk)), F⟩
    show Mo_share_26b _ _ _ _ = _
    unfold Mo_share_26b
    have e1 : Mo_shares 8 0 0 0 0 (sI m 1 63 (-1)) = some ((), u') := a1
    rw [zm.1.1 3 (by omega), if_pos (nI_le (Nat.le_refl _) (by omega)), zl_e, zb_eq e1, b3, b4]
    unfold shA
    rcases hx with rfl | rfl | ⟨o, ho, rfl⟩
    · rw [if_pos rfl, if_pos rfl]
    · rw [if_neg (by decide), if_pos rfl, if_neg (by decide), if_pos rfl]
    · have q1 : ¬ nI o = (-1 : Int32) := mI_ne (by omega)
      have q2 : ¬ nI o = (-2 : Int32) := fun q => by
        have h2 : (-2 : Int32) < 0 := by decide
        rw [← q] at h2
        exact absurd h2 (nI_nlt (b := 0) (Nat.zero_le _) (by omega))
      rw [if_neg q1, if_neg q2, if_neg q1, if_neg q2, if_pos (ib_nI (by omega) (by omega)), ix_nI (by omega), b5 o ho]
  · rintro n k ⟨y, m⟩ hk ⟨h1, h2, h3, h4⟩
    dsimp only at h1 h2 h3 h4 ⊢
    subst h1
    right
    have zm := hz.bs hW.1 h4 h3
    obtain ⟨m', a1, a2, a3, a4, a5⟩ := share_38 hW hS hz h3 h4 hk x (Mo_share_26 n)
    refine ⟨(nI (k + 1), m'), ⟨rfl, fun o w ho hw => ?_, a4, a5⟩, ?_⟩
    · by_cases q : o = k
      · subst q
        exact a2 w hw
      · exact (a3 _ (by omega)).trans (h2 o w (by omega) hw)
    · show Mo_share_26b _ _ _ _ = _
      unfold Mo_share_26b
      rw [zm.1.1 3 (by omega), if_neg (nI_ge hk (by omega))]
      exact a1
theorem c_share {n : Nat} {u v : zM} (h : Inv n u v) (hn : n < 600) (x : Int32) : ∃ r u' v', OW_share x u = some (r, u') ∧ Mo_share x v = some (r, v') ∧ Inv (n + 1) u' v' := by
  obtain ⟨h6, t, l, N, K, E, S, h0⟩ := h
  have h := h0.th
  have hS : S 0 ≤ 600 := Nat.le_trans h.2.1 h6
  have rt := h.2.2.1.1
  have lt := layT h.2.2.1.2.1
  obtain ⟨n0, n1, n2, n3, n4, n5⟩ := h.1.1
  have c3 : gI u (t + 5) 1 = nI (N 3) := h.2.2.1.2.2.1.1.2.2.2.1
  unfold Mo_share OW_share
  rw [zl_e, rt, if_pos lt, c3]
  generalize sI v 1 0 0 = v at *
  have m3 : gI v 3 3 = nI (N 3) := h.2.2.2.1.1.1 3 (by omega)
  rw [m3]
  by_cases q1 : x < -2
  · refine ⟨-3, u, v, ?_, ?_, by omega, t, l, N, K, E, S, h.up⟩
    · rw [zb_eq (show OW_within x (-2) (nI (N 3) - 1) u = some (0, u) by unfold OW_within; rw [if_pos q1]), if_pos rfl]
    · rw [if_pos q1]
  · by_cases q2 : x < nI (N 3)
    · have hx : x = -1 ∨ x = -2 ∨ ∃ o, o < N 3 ∧ x = nI o := by
        rcases arg_ix x (show N 3 < 2 ^ 31 by omega) with ⟨o, ho, e⟩ | e | e
        · exact Or.inr (Or.inr ⟨o, ho, e⟩)
        · have h1 : x.toInt < 0 := by have := Int32.lt_iff_toInt_lt.mp e; rwa [nI_toInt (by omega)] at this
          have h2 : -2 ≤ x.toInt := by
            have := Int32.not_lt.mp q1
            rw [Int32.le_iff_toInt_le] at this
            exact this
          have h3 : x.toInt = -1 ∨ x.toInt = -2 := by omega
          rcases h3 with h3 | h3
          · exact Or.inl (Int32.toInt.inj (h3.trans rfl))
          · exact Or.inr (Or.inl (Int32.toInt.inj (h3.trans rfl)))
        · exact absurd q2 (Int32.not_lt.mpr e)
      obtain ⟨u1, a1, a2, a3, a4, a5⟩ := foretell_eq h.1 h.2.2.1 hS h.2.2.2.2.2.2.2.2.2.1 (D := 60) (by omega)
      obtain ⟨u2, b1, b2, b3⟩ := allot_eq h.1 hS a3 a5
      have e0 : foW (fun j b => wgh (dsT E N K S) (N 4) (N 3) (0 * (N 4 + 1) ^ N 3 + j) b) ((N 4 + 1) ^ N 3) none = shT (dsT E N K S) (N 4) (N 3) 0 0 0 0 none := share_eq (dsT E N K S) (N 4) (N 3) (N 3) 0 0 none (by omega)
      have e0' : foW (wgh (dsT E N K S) (N 4) (N 3)) ((N 4 + 1) ^ N 3) none = shT (dsT E N K S) (N 4) (N 3) 0 0 0 0 none := by
        rw [← e0]
        apply foW_congr
        intro k _ b
        rw [Nat.zero_mul, Nat.zero_add]
      rw [e0'] at b2
      cases hp : shT (dsT E N K S) (N 4) (N 3) 0 0 0 0 none with
      | none => exact absurd hp (shT_ne _ _ _ _ _ _ _ _)
      | some p =>
        rw [hp] at b2
        obtain ⟨d1, d2, d3, d4, d5⟩ := b2.2 p rfl
        obtain ⟨v', f1, f2, f3⟩ := shareM h.1 hS h.2.2.2.1 hx hp
        have ht := h.2.2.1.2.1
        have ho : OutI u2 N K E S := a2.fr (fun _ _ => rfl) (b3.i (by unfold shC; omega)) (fun c k _ _ => b3.i (by unfold shC; omega))
        refine ⟨shA p x, u2, v', ?_, ?_, by omega, t, l, N, K, E, S, h.out2 ((a4.mono (fun c k q => Or.inl q)).tr (b3.mono (fun c k q => Or.inr (by unfold shC at q; unfold scrC; omega)))) f3 f2 ho⟩
        · have eW : OW_within x (-2) (nI (N 3) - 1) u = some (1, u) := by
            unfold OW_within
            rw [if_neg q1, if_neg (fun z => by have := (sub1_le (show N 3 < 2 ^ 31 by omega)).mp (show nI (N 3) - nI 1 < x from z); exact absurd q2 (Int32.not_lt.mpr this))]
          rw [zb_eq eW, if_neg (show ¬ (1 : Int32) = 0 by decide), rt, if_pos lt, zb_eq (show Ou_foretell t 54 60 u = some ((), u1) from a1), a3.1, if_pos lt, zb_eq b1, d3, d4]
          unfold shA
          rcases hx with rfl | rfl | ⟨o, ho, rfl⟩
          · rw [if_pos rfl, if_pos rfl]
          · rw [if_neg (by decide), if_pos rfl, if_neg (by decide), if_pos rfl]
          · have q1 : ¬ nI o = (-1 : Int32) := mI_ne (by omega)
            have q2 : ¬ nI o = (-2 : Int32) := fun q => by
              have h2 : (-2 : Int32) < 0 := by decide
              rw [← q] at h2
              exact absurd h2 (nI_nlt (b := 0) (Nat.zero_le _) (by omega))
            rw [if_neg q1, if_neg q2, if_neg q1, if_neg q2, if_pos (ib_nI (by omega) (by omega)), ix_nI (by omega), d5 o ho]
        · rw [if_neg q1, if_pos q2]
          exact f1
    · refine ⟨-3, u, v, ?_, ?_, by omega, t, l, N, K, E, S, h.up⟩
      · have eW : OW_within x (-2) (nI (N 3) - 1) u = some (0, u) := by
          unfold OW_within
          rw [if_neg q1, if_pos (show nI (N 3) - 1 < x from (sub1_le (show N 3 < 2 ^ 31 by omega)).mpr (Int32.not_lt.mp q2))]
        rw [zb_eq eW, if_pos rfl]
      · rw [if_neg q1, if_neg q2]
