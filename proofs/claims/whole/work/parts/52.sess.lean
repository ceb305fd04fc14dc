/-! ===== sessions by draws ===== -/
theorem wth (x : Int32) {a b : Nat} (hab : a ≤ b) (hb : b < 2 ^ 30) : (∃ j, a ≤ j ∧ j ≤ b ∧ x = nI j ∧ ∀ u, OW_within x (nI a) (nI b) u = some (nI 1, u)) ∨ (∀ u, OW_within x (nI a) (nI b) u = some (nI 0, u)) := by
  by_cases h1 : x < nI a
  · right
    intro u
    unfold OW_within
    rw [if_pos h1]
    rfl
  · by_cases h2 : nI b < x
    · right
      intro u
      unfold OW_within
      rw [if_neg h1, if_pos h2]
      rfl
    · rcases arg_ix x (n := b + 1) (by omega) with ⟨j, hj, rfl⟩ | h | h
      · left
        refine ⟨j, ?_, by omega, rfl, fun u => ?_⟩
        · by_cases q : a ≤ j
          · exact q
          · exact absurd ((nI_ltI (by omega) (by omega)).mpr (by omega)) h1
        · unfold OW_within
          rw [if_neg h1, if_neg h2]
          rfl
      · exact absurd (Int32.lt_of_lt_of_le h (nI_le (Nat.zero_le a) (by omega))) h1
      · exact absurd (Int32.lt_of_lt_of_le (nI_lt (Nat.lt_succ_self b) (by omega)) h) h2
/-- what is drawn for a day: what, which otter, which place or writ, the next number -/
def drO (D : Nat → Nat) (Q : Nat → Nat → Nat) (N : Nat → Nat) (G : Nat) : Nat × Nat × Nat × Nat :=
  if N 3 = 0 then (0, 0, 0, G) else
  if Q (D (D (D G))) 5 < 3 then (2, Q (D G) (N 3), Q (D (D G)) (N 0), D (D (D G))) else
  if N 4 = 0 then (0, 0, 0, D (D (D G))) else
  if Q (D (D (D G))) 5 = 3 then (1, Q (D G) (N 3), Q (D (D (D (D G)))) (N 4), D (D (D (D G))))
  else (3, Q (D G) (N 3), Q (D (D (D (D G)))) (N 4), D (D (D (D G))))
theorem drO_ok {D : Nat → Nat} {Q : Nat → Nat → Nat} (D_lt : ∀ G, D G < 2 ^ 31) (Q_lt : ∀ x m, 0 < m → Q x m < m) {N : Nat → Nat} {G : Nat} (h : N 3 = 0 ∨ 0 < N 0) (hG : G < 2 ^ 31) : ((drO D Q N G).1 = 1 → (drO D Q N G).2.1 < N 3 ∧ (drO D Q N G).2.2.1 < N 4) ∧ ((drO D Q N G).1 = 2 → (drO D Q N G).2.1 < N 3 ∧ (drO D Q N G).2.2.1 < N 0) ∧ ((drO D Q N G).1 = 3 → (drO D Q N G).2.2.1 < N 4) ∧ (drO D Q N G).2.2.2 < 2 ^ 31 := by
  unfold drO
  by_cases h3 : N 3 = 0
  · rw [if_pos h3]
    exact ⟨(by intro q; dsimp only at q; omega), (by intro q; dsimp only at q; omega), (by intro q; dsimp only at q; omega), hG⟩
  · rw [if_neg h3]
    have a1 : Q (D G) (N 3) < N 3 := Q_lt _ _ (by omega)
    split
    · exact ⟨(by intro q; dsimp only at q; omega), fun _ => ⟨a1, Q_lt _ _ (by omega)⟩, (by intro q; dsimp only at q; omega), D_lt _⟩
    · split
      · exact ⟨(by intro q; dsimp only at q; omega), (by intro q; dsimp only at q; omega), (by intro q; dsimp only at q; omega), D_lt _⟩
      · split
        · exact ⟨fun _ => ⟨a1, Q_lt _ _ (by omega)⟩, (by intro q; dsimp only at q; omega), (by intro q; dsimp only at q; omega), D_lt _⟩
        · exact ⟨(by intro q; dsimp only at q; omega), (by intro q; dsimp only at q; omega), fun _ => Q_lt _ _ (by omega), D_lt _⟩
theorem NowC.sl {u : zM} {t b a k : Nat} {x : Int64} {N S : Nat → Nat} {K : Nat → Nat → Nat} {E : Int32 → Int32 → Int32 → Int32 → Int32} (h : NowC u t N K E b S) : NowC (sL u a k x) t N K E b S := h
theorem NowM.sl {v : zM} {a k : Nat} {x : Int64} {N S : Nat → Nat} {K : Nat → Nat → Nat} {E : Int32 → Int32 → Int32 → Int32 → Int32} (h : NowM v N K E S) : NowM (sL v a k x) N K E S := h
theorem sl_g {u : zM} {a k : Nat} {x : Int64} : gL (sL u a k x) a k = x := by rw [gL_sL, if_pos ⟨rfl, rfl⟩]
def seA (t : Nat) (c k : Nat) : Prop := (60 ≤ c ∧ c ≤ 65) ∨ c = t + 20 ∨ (c = 1 ∧ k = 14)
theorem seA_st {t c k : Nat} (h : stepA 60 t c k) : seA t c k := by unfold stepA at h; unfold seA; omega
theorem OW_doDrawn_eq {D : Nat → Nat} {Q : Nat → Nat → Nat} (D_lt : ∀ G, D G < 2 ^ 31) (Q_lt : ∀ x m, 0 < m → Q x m < m) (OW_d : ∀ {u : zM} {G m : Nat}, gL u 1 14 = nL G → G < 2 ^ 31 → 0 < m → m < 2 ^ 31 → OW_draw (nI m) u = some (nI (Q (D G) m), sL u 1 14 (nL (D G)))) {m : zM} {t : Nat} {N S : Nat → Nat} {K : Nat → Nat → Nat} {E : Int32 → Int32 → Int32 → Int32 → Int32} (hW : Wf N K S) (hu : NowC m t N K E 60 S) {G : Nat} (hg : gL m 1 14 = nL G) (hG : G < 2 ^ 31) (h3 : 0 < N 3) : ∃ m', OW_doDrawn m = some (bI (decide ((drO D Q N G).1 = 3) && lnB N K S (drO D Q N G).1 (drO D Q N G).2.1 (drO D Q N G).2.2.1), m') ∧ NowC m' t N K E 60 (lnS N K S (drO D Q N G).1 (drO D Q N G).2.1 (drO D Q N G).2.2.1) ∧ gL m' 1 14 = nL (drO D Q N G).2.2.2 ∧ Fr (seA t) m m' := by
  have rt := hu.1
  have ht := hu.2.1
  have lt := layT ht
  have h0 : 0 < N 0 := Nat.lt_of_le_of_lt (Nat.zero_le _) (hW.2.1.2.2.1 0 h3).2.2
  obtain ⟨n0, n1, n2, n3, n4, n5⟩ := hW.1
  have c0 := hu.2.2.1.1.1
  have c3 := hu.2.2.1.1.2.2.2.1
  have c4 := hu.2.2.1.1.2.2.2.2.1
  have a1 : Q (D G) (N 3) < N 3 := Q_lt _ _ (by omega)
  have a2 : Q (D (D G)) (N 0) < N 0 := Q_lt _ _ (by omega)
  have a3 : Q (D (D (D G))) 5 < 5 := Q_lt _ _ (by omega)
  have e1 := OW_d (u := m) hg hG h3 (show N 3 < 2 ^ 31 by omega)
  have e2 := OW_d (u := sL m 1 14 (nL (D G))) sl_g (D_lt G) h0 (show N 0 < 2 ^ 31 by omega)
  have e3 : OW_draw 5 _ = _ := OW_d (u := sL (sL m 1 14 (nL (D G))) 1 14 (nL (D (D G)))) (m := 5) sl_g (D_lt _) (by omega) (by omega)
  have f3 : Fr (seA t) m (sL (sL (sL m 1 14 (nL (D G))) 1 14 (nL (D (D G)))) 1 14 (nL (D (D (D G))))) := ((Fr.sL (by unfold seA; omega)).tr (Fr.sL (by unfold seA; omega))).tr (Fr.sL (by unfold seA; omega))
  have hu3 : NowC (sL (sL (sL m 1 14 (nL (D G))) 1 14 (nL (D (D G)))) 1 14 (nL (D (D (D G))))) t N K E 60 S := hu
  have g3 : gL (sL (sL (sL m 1 14 (nL (D G))) 1 14 (nL (D (D G)))) 1 14 (nL (D (D (D G))))) 1 14 = nL (D (D (D G))) := sl_g
  unfold OW_doDrawn drO
  rw [if_neg (by omega : ¬ N 3 = 0), rt, if_pos lt, c3, zb_eq e1]
  rw [show gR (sL m 1 14 (nL (D G))) 1 1 = t from rt, if_pos lt, show gI (sL m 1 14 (nL (D G))) (t + 1) 1 = nI (N 0) from c0, zb_eq e2, zb_eq e3]
  generalize sL (sL (sL m 1 14 (nL (D G))) 1 14 (nL (D (D G)))) 1 14 (nL (D (D (D G)))) = m3 at *
  generalize Q (D (D (D G))) 5 = c at *
  generalize Q (D G) (N 3) = o at *
  generalize Q (D (D G)) (N 0) = p at *
  have q1 : ((3 : Int32) ≤ nI c) ↔ 3 ≤ c := nI_leI (a := 3) (by omega) (by omega)
  have hf : ∀ {a}, Fr (stepA 60 t) m3 a → Fr (seA t) m a := fun h => f3.tr (h.mono (fun c k => seA_st))
  have hg' : ∀ {a}, Fr (stepA 60 t) m3 a → gL a 1 14 = nL (D (D (D G))) := fun h => (h.l (by unfold stepA; omega)).trans g3
  by_cases hc : c < 3
  · rw [if_neg (fun h => by have := q1.mp h; omega), if_pos hc, hu3.1, if_pos lt]
    obtain ⟨m', d1, d2, d3⟩ := ln2C hW hu3 StA60 (by omega) a1 a2
    refine ⟨m', ?_, d2, hg' d3, hf d3⟩
    rw [zb_eq (show St_doLine 60 t 2 (nI o) (nI p) m3 = _ from d1)]
    rfl
  · rw [if_pos (q1.mpr (by omega)), if_neg hc, hu3.1, if_pos lt, show gI m3 (t + 7) 1 = nI (N 4) from hu3.2.2.1.1.2.2.2.2.1]
    by_cases h4 : N 4 = 0
    · rw [if_pos (show nI (N 4) = 0 by rw [h4]; rfl), if_pos h4]
      exact ⟨m3, rfl, hu3, g3, f3⟩
    · rw [if_neg (show ¬ nI (N 4) = (0 : Int32) from fun h => h4 ((nI_eq (b := 0) (by omega) (by omega)).mp h)), if_neg h4, if_pos lt]
      have e4 := OW_d g3 (D_lt _) (show 0 < N 4 by omega) (show N 4 < 2 ^ 31 by omega)
      have a4 : Q (D (D (D (D G)))) (N 4) < N 4 := Q_lt _ _ (by omega)
      rw [zb_eq e4]
      have hu4 : NowC (sL m3 1 14 (nL (D (D (D (D G)))))) t N K E 60 S := hu3
      have g4 : gL (sL m3 1 14 (nL (D (D (D (D G)))))) 1 14 = nL (D (D (D (D G)))) := sl_g
      have f4 : Fr (seA t) m (sL m3 1 14 (nL (D (D (D (D G)))))) := f3.tr (Fr.sL (by unfold seA; omega))
      generalize sL m3 1 14 (nL (D (D (D (D G))))) = m4 at *
      generalize Q (D (D (D (D G)))) (N 4) = w at *
      have q3 : (nI c = (3 : Int32)) ↔ c = 3 := nI_eq (b := 3) (by omega) (by omega)
      by_cases h5 : c = 3
      · rw [if_pos (q3.mpr h5), if_pos h5, hu4.1, if_pos lt]
        obtain ⟨m', d1, d2, d3⟩ := ln1C hW hu4 StA60 (by omega) a1 a4
        refine ⟨m', ?_, d2, (d3.l (by unfold stepA; omega)).trans g4, f4.tr (d3.mono (fun c k => seA_st))⟩
        rw [zb_eq (show St_doLine 60 t 1 (nI o) (nI w) m4 = _ from d1)]
        rfl
      · rw [if_neg (fun h => h5 (q3.mp h)), if_neg h5, hu4.1, if_pos lt]
        obtain ⟨m', d1, d2, d3⟩ := ln3C hW hu4 StA60 (by omega) o a4 (-1)
        refine ⟨m', ?_, d2, (d3.l (by unfold stepA; omega)).trans g4, f4.tr (d3.mono (fun c k => seA_st))⟩
        rw [zb_eq (show St_doLine 60 t 3 (nI w) (-1) m4 = _ from d1), zbo_bI]
        rfl
def seM (c k : Nat) : Prop := pasA c k ∨ (c = 1 ∧ k = 66)
theorem Mo_livesDay_eq {D : Nat → Nat} {Q : Nat → Nat → Nat} (D_lt : ∀ G, D G < 2 ^ 31) (Q_lt : ∀ x m, 0 < m → Q x m < m) (Mo_d : ∀ {v : zM} {G m : Nat}, gL v 1 66 = nL G → G < 2 ^ 31 → 0 < m → m < 2 ^ 31 → Mo_draws (nI m) v = some (nI (Q (D G) m), sL v 1 66 (nL (D G)))) {m : zM} {N S : Nat → Nat} {K : Nat → Nat → Nat} {E : Int32 → Int32 → Int32 → Int32 → Int32} (hW : Wf N K S) (hz : NowM m N K E S) {G : Nat} (hg : gL m 1 66 = nL G) (hG : G < 2 ^ 31) : ∃ m', Mo_livesDay m = some ((), m') ∧ NowM m' N K E (nextS E N K (rainS N K (lnS N K S (drO D Q N G).1 (drO D Q N G).2.1 (drO D Q N G).2.2.1 0)) (lnS N K S (drO D Q N G).1 (drO D Q N G).2.1 (drO D Q N G).2.2.1)) ∧ gL m' 1 66 = nL (drO D Q N G).2.2.2 ∧ Fr seM m m' := by
  obtain ⟨n0, n1, n2, n3, n4, n5⟩ := hW.1
  have c0 := hz.1.1 0 (by omega)
  have c3 := hz.1.1 3 (by omega)
  have c4 := hz.1.1 4 (by omega)
  unfold Mo_livesDay drO
  rw [c3]
  by_cases h3 : N 3 = 0
  · rw [if_pos (show nI (N 3) ≤ 0 by rw [h3]; decide), if_pos h3]
    obtain ⟨m', d1, d2, d3⟩ := Mo_passesAsTold_eq hW hz
    refine ⟨m', by rw [zb_eq d1], d2, (d3.l (by unfold pasA; omega)).trans hg, d3.mono (fun c k h => Or.inl h)⟩
  · rw [if_neg (show ¬ nI (N 3) ≤ (0 : Int32) from nI_ge (show 0 < N 3 by omega) (by omega)), if_neg h3]
    have h0 : 0 < N 0 := Nat.lt_of_le_of_lt (Nat.zero_le _) (hW.2.1.2.2.1 0 (by omega)).2.2
    have a1 : Q (D G) (N 3) < N 3 := Q_lt _ _ (by omega)
    have a2 : Q (D (D G)) (N 0) < N 0 := Q_lt _ _ (by omega)
    have a3 : Q (D (D (D G))) 5 < 5 := Q_lt _ _ (by omega)
    have e1 := Mo_d (v := m) hg hG (show 0 < N 3 by omega) (show N 3 < 2 ^ 31 by omega)
    have e2 := Mo_d (v := sL m 1 66 (nL (D G))) sl_g (D_lt G) h0 (show N 0 < 2 ^ 31 by omega)
    have e3 : Mo_draws 5 _ = _ := Mo_d (v := sL (sL m 1 66 (nL (D G))) 1 66 (nL (D (D G)))) (m := 5) sl_g (D_lt _) (by omega) (by omega)
    have f3 : Fr seM m (sL (sL (sL m 1 66 (nL (D G))) 1 66 (nL (D (D G)))) 1 66 (nL (D (D (D G))))) := ((Fr.sL (Or.inr ⟨rfl, rfl⟩)).tr (Fr.sL (Or.inr ⟨rfl, rfl⟩))).tr (Fr.sL (Or.inr ⟨rfl, rfl⟩))
    have hu3 : NowM (sL (sL (sL m 1 66 (nL (D G))) 1 66 (nL (D (D G)))) 1 66 (nL (D (D (D G))))) N K E S := hz
    have g3 : gL (sL (sL (sL m 1 66 (nL (D G))) 1 66 (nL (D (D G)))) 1 66 (nL (D (D (D G))))) 1 66 = nL (D (D (D G))) := sl_g
    rw [zb_eq e1, show gI (sL m 1 66 (nL (D G))) 3 0 = nI (N 0) from c0, zb_eq e2, zb_eq e3]
    generalize sL (sL (sL m 1 66 (nL (D G))) 1 66 (nL (D (D G)))) 1 66 (nL (D (D (D G)))) = m3 at *
    generalize Q (D (D (D G))) 5 = c at *
    generalize Q (D G) (N 3) = o at *
    generalize Q (D (D G)) (N 0) = p at *
    have q1 : ((3 : Int32) ≤ nI c) ↔ 3 ≤ c := nI_leI (a := 3) (by omega) (by omega)
    have q2 : (nI c ≤ (2 : Int32)) ↔ c ≤ 2 := nI_leI (b := 2) (by omega) (by omega)
    have wf1 : ∀ {W A B : Nat}, (W = 1 → A < N 3 ∧ B < N 4) → (W = 2 → A < N 3 ∧ B < N 0) → Wf N K (lnS N K S W A B) := fun h1 h2 => lnS_wf hW h1 h2
    by_cases hc : c < 3
    · rw [if_neg (fun h => by have := q1.mp h; omega), if_pos hc]
      have p61 : ∀ u, Mo_livesDay_61 (nI o) (nI c) u = zb (Mo_passesAsTold u) (fun _ u1 => some ((), u1)) := by
        intro u
        unfold Mo_livesDay_61
        rw [if_pos (q2.mpr (by omega))]
      obtain ⟨m', d1, d2, d3⟩ := ln2M hW hu3 a1 a2 (Mo_livesDay_61 (nI o) (nI c)) (Mo_livesDay_61 (nI o) (nI c))
      rw [d1, ite_self, p61]
      obtain ⟨m2, i1, i2, i3⟩ := Mo_passesAsTold_eq (wf1 (fun q => absurd q (by decide)) (fun _ => ⟨a1, a2⟩)) d2
      refine ⟨m2, by rw [zb_eq i1], i2, (i3.l (by unfold pasA; omega)).trans ((d3.l (by omega)).trans g3), (f3.tr (d3.mono (fun c k h => Or.inl (by unfold pasA; omega)))).tr (i3.mono (fun c k h => Or.inl h))⟩
    · rw [if_pos (q1.mpr (by omega)), if_neg hc]
      unfold Mo_livesDay_61
      rw [if_neg (fun h => by have := q2.mp h; omega), show gI m3 3 4 = nI (N 4) from hu3.1.1 4 (by omega)]
      by_cases h4 : N 4 = 0
      · rw [if_pos (show nI (N 4) ≤ 0 by rw [h4]; decide), if_pos h4]
        obtain ⟨m2, i1, i2, i3⟩ := Mo_passesAsTold_eq hW hu3
        exact ⟨m2, by rw [zb_eq i1], i2, (i3.l (by unfold pasA; omega)).trans g3, f3.tr (i3.mono (fun c k h => Or.inl h))⟩
      · rw [if_neg (show ¬ nI (N 4) ≤ (0 : Int32) from nI_ge (show 0 < N 4 by omega) (by omega)), if_neg h4]
        have e4 := Mo_d g3 (D_lt _) (show 0 < N 4 by omega) (show N 4 < 2 ^ 31 by omega)
        have a4 : Q (D (D (D (D G)))) (N 4) < N 4 := Q_lt _ _ (by omega)
        rw [zb_eq e4]
        have hu4 : NowM (sL m3 1 66 (nL (D (D (D (D G)))))) N K E S := hu3
        have g4 : gL (sL m3 1 66 (nL (D (D (D (D G)))))) 1 66 = nL (D (D (D (D G)))) := sl_g
        have f4 : Fr seM m (sL m3 1 66 (nL (D (D (D (D G)))))) := f3.tr (Fr.sL (Or.inr ⟨rfl, rfl⟩))
        generalize sL m3 1 66 (nL (D (D (D (D G))))) = m4 at *
        generalize Q (D (D (D (D G)))) (N 4) = w at *
        have q3 : (nI c = (3 : Int32)) ↔ c = 3 := nI_eq (b := 3) (by omega) (by omega)
        have q4 : (nI c = (4 : Int32)) ↔ c = 4 := nI_eq (b := 4) (by omega) (by omega)
        by_cases h5 : c = 3
        · rw [if_pos (q3.mpr h5), if_pos h5]
          have p113 : ∀ u, Mo_livesDay_113 (nI c) (nI w) u = zb (Mo_passesAsTold u) (fun _ u1 => some ((), u1)) := by
            intro u
            unfold Mo_livesDay_113
            rw [if_neg (fun h => by have := q4.mp h; omega)]
          obtain ⟨m', d1, d2, d3⟩ := ln1M hW hu4 a1 a4 (fun _ => Mo_livesDay_113 (nI c) (nI w))
          rw [d1, p113]
          obtain ⟨m2, i1, i2, i3⟩ := Mo_passesAsTold_eq (wf1 (fun _ => ⟨a1, a4⟩) (fun q => absurd q (by decide))) d2
          refine ⟨m2, by rw [zb_eq i1], i2, (i3.l (by unfold pasA; omega)).trans ((d3.l (by omega)).trans g4), (f4.tr (d3.mono (fun c k h => Or.inl (by unfold pasA; omega)))).tr (i3.mono (fun c k h => Or.inl h))⟩
        · rw [if_neg (fun h => h5 (q3.mp h)), if_neg h5]
          unfold Mo_livesDay_113
          rw [if_pos (q4.mpr (by omega))]
          obtain ⟨m', d1, d2, d3⟩ := ln3M hW hu4 o a4 (fun _ u => zb (Mo_passesAsTold u) (fun _ u1 => some ((), u1)))
          rw [d1]
          obtain ⟨m2, i1, i2, i3⟩ := Mo_passesAsTold_eq (wf1 (fun q => absurd q (by decide)) (fun q => absurd q (by decide))) d2
          refine ⟨m2, by rw [zb_eq i1], i2, (i3.l (by unfold pasA; omega)).trans ((d3.l (by omega)).trans g4), (f4.tr (d3.mono (fun c k h => Or.inl (by unfold pasA; omega)))).tr (i3.mono (fun c k h => Or.inl h))⟩
