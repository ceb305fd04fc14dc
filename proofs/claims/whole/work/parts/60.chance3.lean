/-! ===== chance: both ===== -/
theorem chM {v : zM} {N S : Nat → Nat} {K : Nat → Nat → Nat} {E : Int32 → Int32 → Int32 → Int32 → Int32} (hW : Wf N K S) (hS : S 0 ≤ 600) (hz : NowM v N K E S) {p od D : Nat} (hp : p < N 0) (hod : od ≤ 10) (hD : D ≤ 6) : ∃ v', Mo_chance_44 zF (nI p) (nI D) (nI od) 0 1 0 v = some (nI (cwF (wbS E K p) od D (S (1 + p)) (S 0) * 10 ^ (6 - D)), v') ∧ (∀ k, k < 25 → gI v' 40 k = gI v 40 k) ∧ Fr goA v v' := by
  obtain ⟨n0, n1, n2, n3, n4, n5⟩ := hW.1
  obtain ⟨m0, a1, a2, a3⟩ := GoX.start hW.1 hz
  have hle := cwF_le (wb := wbS E K p) hod D (S (1 + p)) (S 0)
  have h2D : 2 ^ D ≤ 64 := Nat.pow_le_pow_right (n := 2) (by decide) hD
  have h10 := p10_le hD
  have h10' : 0 < 10 ^ D := Nat.pow_pos (by decide)
  have key : ∃ v', Mo_chance_80 zF (nI p) (nI D) (nI od) (nL 0) (nL (10 ^ D)) (nI 0) m0 = some (nI (cwF (wbS E K p) od D (S (1 + p)) (S 0) * 10 ^ (6 - D)), v') ∧ (∀ k, k < 25 → gI v' 40 k = gI v 40 k) ∧ Fr goA v v' := by
    have hmono : ∀ s, s ≤ 2 ^ D → smN (pvF (wbS E K p) od D (S (1 + p)) (S 0)) s ≤ 1000000 := by
      have hm : ∀ a b, a ≤ b → smN (pvF (wbS E K p) od D (S (1 + p)) (S 0)) a ≤ smN (pvF (wbS E K p) od D (S (1 + p)) (S 0)) b := by
        intro a b h
        induction h with
        | refl => exact Nat.le_refl _
        | step h ih => rw [smN_s]; omega
      intro s hs
      have := hm s (2 ^ D) hs
      rw [pv_sum] at this
      omega
    refine lprz (fun n (st : Int64 × Int32 × zM) => Mo_chance_80 n (nI p) (nI D) (nI od) st.1 (nL (10 ^ D)) st.2.1 st.2.2) (fun s st => st.1 = nL (smN (pvF (wbS E K p) od D (S (1 + p)) (S 0)) s) ∧ st.2.1 = nI s ∧ GoX v st.2.2 N K E S ∧ ∀ k, k < 25 → gI st.2.2 40 k = gI v 40 k) (fun r => ∃ v', r = some (nI (cwF (wbS E K p) od D (S (1 + p)) (S 0) * 10 ^ (6 - D)), v') ∧ (∀ k, k < 25 → gI v' 40 k = gI v 40 k) ∧ Fr goA v v') (2 ^ D) (nL 0, nI 0, m0) (by omega) ⟨rfl, rfl, a2, a3⟩ ?_ ?_
    · rintro n ⟨x, y, m⟩ ⟨h1, h2, h3, h4⟩
      dsimp only at h1 h2 h3 h4 ⊢
      subst h1 h2
      refine ⟨m, ?_, h4, h3.2.2⟩
      show Mo_chance_80b _ _ _ _ _ _ _ _ = _
      unfold Mo_chance_80b
      rw [show (1 : Int32) <<< (nI D &&& 31) = nI (2 ^ D) from bn_shl (by omega), if_pos (nI_le (Nat.le_refl _) (by omega)), if_neg (show ¬ nL (10 ^ D) = (0 : Int64) from fun q => by have := (nL_eq (b := 0) (by omega) (by omega)).mp q; omega), pv_sum, lLM]
      generalize cwF (wbS E K p) od D (S (1 + p)) (S 0) = A at *
      have e : A * 1000000 / 10 ^ D = A * 10 ^ (6 - D) := by
        have : A * 1000000 = A * 10 ^ (6 - D) * 10 ^ D := by
          rw [Nat.mul_assoc, ← Nat.pow_add, Nat.sub_add_cancel hD]
        rw [this, Nat.mul_div_cancel _ h10']
      have hb : A * 10 ^ (6 - D) ≤ 1000000 := by
        have h1 := Nat.mul_le_mul hle (Nat.le_refl (10 ^ (6 - D)))
        rw [← Nat.pow_add, Nat.add_sub_cancel' hD] at h1
        exact h1
      rw [nL_mul (by omega) (by omega) (by omega), nL_div (by omega) (by omega), e, toI_nL (by omega)]
    · rintro n s ⟨x, y, m⟩ hs ⟨h1, h2, h3, h4⟩
      dsimp only at h1 h2 h3 h4 ⊢
      subst h1 h2
      right
      obtain ⟨m', b1, b2, b3⟩ := chM_in hW hS hz h3 (B := 10 ^ D) hp hod hD (show s < 64 by omega) (hmono s (by omega)) (Mo_chance_80 n)
      refine ⟨(_, nI (s + 1), m'), ⟨rfl, rfl, b2, b3⟩, ?_⟩
      show Mo_chance_80b _ _ _ _ _ _ _ _ = _
      unfold Mo_chance_80b
      rw [show (1 : Int32) <<< (nI D &&& 31) = nI (2 ^ D) from bn_shl (by omega), if_neg (nI_ge hs (by omega))]
      exact b1
  obtain ⟨v', b1, b2, b3⟩ := key
  refine ⟨v', ?_, b2, b3⟩
  refine lpz (fun n (st : Int64 × Int32) => Mo_chance_44 n (nI p) (nI D) (nI od) 0 st.1 st.2 v) (fun k => (nL (10 ^ k), nI k)) D _ (by omega) (fun n => ?_) (fun n k hk => ?_)
  · show Mo_chance_44b _ _ _ _ _ _ _ _ = _
    unfold Mo_chance_44b
    dsimp only
    rw [if_pos (nI_le (Nat.le_refl _) (by omega)), zb_eq (show Mo_copies 40 0 42 0 v = _ from a1)]
    exact b1
  · show Mo_chance_44b _ _ _ _ _ _ _ _ = Mo_chance_44 _ _ _ _ _ _ _ _
    have h10k := p10_le (show k ≤ 6 by omega)
    unfold Mo_chance_44b
    dsimp only
    rw [if_neg (nI_ge hk (by omega)), zl_e, lL10, nL_mul (by omega) (by omega) (by omega), ← Nat.pow_succ, show nI k + 1 = nI (k + 1) from nI_1 k]
theorem chC61 {u : zM} {A D : Nat} (hA : A ≤ 10 ^ D) (hD : D ≤ 6) : OW_chance_61 zF (nI A) (nI D) u = some (nI (A * 10 ^ (6 - D)), u) := by
  have := lpz (fun n (st : Int32 × Int32) => OW_chance_61 n st.1 st.2 u) (fun k => (nI (A * 10 ^ k), nI (D + k))) (6 - D) (some (nI (A * 10 ^ (6 - D)), u)) (by omega) (fun n => ?_) (fun n k hk => ?_)
  · rw [Nat.pow_zero, Nat.mul_one] at this
    exact this
  · show OW_chance_61b _ _ _ _ = _
    unfold OW_chance_61b
    dsimp only
    rw [if_pos (show (6 : Int32) ≤ nI (D + (6 - D)) from nI_le (a := 6) (by omega) (by omega))]
  · show OW_chance_61b _ _ _ _ = OW_chance_61 _ _ _ _
    unfold OW_chance_61b
    dsimp only
    rw [if_neg (show ¬ (6 : Int32) ≤ nI (D + k) from @nI_ge (D + k) 6 (show D + k < 6 by omega) (by decide)), zl_e, show (10 : Int32) = nI 10 from rfl, pk_mul, Nat.mul_assoc, ← Nat.pow_succ, show nI (D + k) + 1 = nI (D + k + 1) from nI_1 _]
    rfl
theorem c_chance {n : Nat} {u v : zM} (h : Inv n u v) (hn : n < 600) (x y z : Int32) : ∃ r u' v', OW_chance x y z u = some (r, u') ∧ Mo_chance x y z v = some (r, v') ∧ Inv (n + 1) u' v' := by
  obtain ⟨h6, t, l, N, K, E, S, h0⟩ := h
  have h := h0.th
  have hS : S 0 ≤ 600 := Nat.le_trans h.2.1 h6
  have rt := h.2.2.1.1
  have lt := layT h.2.2.1.2.1
  obtain ⟨n0, n1, n2, n3, n4, n5⟩ := h.1.1
  unfold Mo_chance OW_chance
  rw [zl_e]
  generalize sI v 1 0 0 = v at *
  rcases arg_ix x (show N 0 < 2 ^ 31 by omega) with ⟨p, hp, rfl⟩ | hx
  · rw [zb_eq (OW_isPlace_ok h.1 h.2.2.1 hp), if_neg one_ne, zb_eq (Mo_isPlace_ok h.1 h.2.2.2.1 hp), if_neg one_ne]
    rcases wth y (a := 1) (b := 6) (by omega) (by omega) with ⟨D, _, hD, rfl, ey⟩ | ey
    · rw [zb_eq (show OW_within (nI D) 1 6 u = _ from ey u), if_neg one_ne, zb_eq (show Mo_within (nI D) 1 6 v = _ from ey v), if_neg one_ne]
      rcases wth z (a := 0) (b := 10) (by omega) (by omega) with ⟨od, _, hod, rfl, ez⟩ | ez
      · rw [zb_eq (show OW_within (nI od) 0 10 u = _ from ez u), if_neg one_ne, zb_eq (show Mo_within (nI od) 0 10 v = _ from ez v), if_neg one_ne]
        have w9 := h.1.2.2.2.1 p hp
        obtain ⟨u1, r1⟩ := weighC h.1 hp hod D 8 (S (1 + p)) (S 0) u hD (by omega) h.2.2.1
        obtain ⟨e1, e2, e3⟩ : _ ∧ _ ∧ _ := r1.resolve_right (fun q => q (by omega))
        obtain ⟨v', d1, d2, d3⟩ := chM h.1 hS h.2.2.2.1 hp hod hD
        refine ⟨nI (cwF (wbS E K p) od D (S (1 + p)) (S 0) * 10 ^ (6 - D)), u1, v', ?_, d1, by omega, t, l, N, K, E, S, h.out (e3.mono (fun c k q => Or.inl (Or.inl q))) d3 d2 (h.2.2.2.2.2.2.2.2.2.1.fr (fun _ _ => rfl) (e3.i (by have := h.2.2.1.2.1; omega)) (fun c k _ _ => e3.i (by have := h.2.2.1.2.1; omega)))⟩
        rw [rt, if_pos lt, if_pos (ib_nI (by omega) (by omega)), ix_nI (by omega), show gI u 55 p = nI (S (1 + p)) from h.2.2.1.2.2.2.2.2.1 p hp, show gI u 54 5 = nI (S 0) from h.2.2.1.2.2.2.2.1, zb_eq e1]
        exact chC61 (cwF_le hod _ _ _) hD
      · refine ⟨mI, u, v, ?_, ?_, by omega, t, l, N, K, E, S, h.up⟩
        · rw [zb_eq (show OW_within z 0 10 u = _ from ez u)]; rfl
        · rw [zb_eq (show Mo_within z 0 10 v = _ from ez v)]; rfl
    · refine ⟨mI, u, v, ?_, ?_, by omega, t, l, N, K, E, S, h.up⟩
      · rw [zb_eq (show OW_within y 1 6 u = _ from ey u)]; rfl
      · rw [zb_eq (show Mo_within y 1 6 v = _ from ey v)]; rfl
  · refine ⟨mI, u, v, ?_, ?_, by omega, t, l, N, K, E, S, h.up⟩
    · rw [zb_eq (OW_isPlace_no h.1 h.2.2.1 hx)]; rfl
    · rw [zb_eq (Mo_isPlace_no h.1 h.2.2.2.1 hx)]; rfl
