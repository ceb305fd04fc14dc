/-! ===== what the constructors leave ===== -/
def zz0 : zM := (fun _ _ => 0, fun _ _ => 0, fun _ _ => 0, 0)
def rfL (lay : Nat → Nat × Nat) (r : Nat → Nat → Nat) (a k : Nat) : Nat := if rfo (lay a).1 k = 0 then r a k else a + rfo (lay a).1 k
/-- how many places of a cell may be references -/
def nrf (kn : Nat × Nat) : Nat := if 10 ≤ kn.1 then zNf (kn.1 - 10) else kn.2
def okR (lay : Nat → Nat × Nat) (u : zM) (a : Nat) : Bool := Nat.ble (lay a).1 6 && Nat.ble 1 (lay a).1 && Nat.ble (lay a).1 4 || (List.range (nrf (lay a))).all (fun k => Nat.beq (rfo (lay a).1 k) 0 || Nat.beq (u.2.2.1 a k) (a + rfo (lay a).1 k))
def okN (lay : Nat → Nat × Nat) (u : zM) (n : Nat) : Bool := Nat.beq (gN u) n && (List.range n).all (fun a => okR lay u (a + 1))
def okI (u : zM) (L : List (Nat × Nat)) : Bool := L.all (fun q => decide (gI u q.1 q.2 = 0))
theorem okI_use {u : zM} {L : List (Nat × Nat)} (h : okI u L = true) {a k : Nat} (hm : (a, k) ∈ L) : gI u a k = nI 0 := of_decide_eq_true (List.all_eq_true.mp h (a, k) hm)
abbrev ckCL : List (Nat × Nat) := [(5, 1), (4, 15), (7, 1), (9, 1), (11, 1), (4, 14), (22, 2), (54, 5), (46, 3), (66, 3), (1, 12), (1, 13), (181, 3), (196, 3), (211, 3), (226, 3), (70, 6), (2, 1)]
abbrev ckML : List (Nat × Nat) := [(3, 0), (3, 1), (3, 2), (3, 3), (3, 4), (3, 5), (17, 0), (18, 0), (40, 0), (32, 0), (36, 0), (1, 56), (45, 0), (45, 1), (45, 2), (45, 3), (1, 1)]
def ckC (o : Option (Unit × zM)) : Bool := match o with
  | none => false
  | some (_, u) => okN layC u 240 && (Nat.beq (gR u 1 1) 4 && Nat.beq (gR u 1 2) 25 && Nat.beq (gR u 1 3) 46 && Nat.beq (gR u 1 4) 50) && okI u ckCL
def ckM (o : Option (Unit × zM)) : Bool := match o with
  | none => false
  | some (_, u) => okN layM u 50 && okI u ckML
theorem initC : ckC (OW_initD 1 (sN zz0)) = true := by decide +kernel
theorem initM : ckM (Mo_initD 1 (sN zz0)) = true := by decide +kernel
theorem initC_ex : ∃ u, OW_initD 1 (sN zz0) = some ((), u) ∧ okN layC u 240 = true ∧ (gR u 1 1 = 4 ∧ gR u 1 2 = 25 ∧ gR u 1 3 = 46 ∧ gR u 1 4 = 50) ∧ okI u ckCL = true := by
  have h := initC
  generalize OW_initD 1 (sN zz0) = o at h ⊢
  cases o with
  | none => cases h
  | some q =>
    obtain ⟨⟨⟩, u⟩ := q
    simp only [ckC, Bool.and_eq_true] at h
    obtain ⟨⟨h1, ⟨⟨h2, h3⟩, h4⟩, h5⟩, h6⟩ := h
    exact ⟨u, rfl, h1, ⟨Nat.eq_of_beq_eq_true h2, Nat.eq_of_beq_eq_true h3, Nat.eq_of_beq_eq_true h4, Nat.eq_of_beq_eq_true h5⟩, h6⟩
theorem initM_ex : ∃ u, Mo_initD 1 (sN zz0) = some ((), u) ∧ okN layM u 50 = true ∧ okI u ckML = true := by
  have h := initM
  generalize Mo_initD 1 (sN zz0) = o at h ⊢
  cases o with
  | none => cases h
  | some q =>
    obtain ⟨⟨⟩, u⟩ := q
    simp only [ckM, Bool.and_eq_true] at h
    exact ⟨u, rfl, h.1, h.2⟩
theorem okN_n {lay : Nat → Nat × Nat} {u : zM} {n : Nat} (h : okN lay u n = true) : gN u = n := by
  simp only [okN, Bool.and_eq_true] at h
  exact Nat.eq_of_beq_eq_true h.1
theorem okN_r {lay : Nat → Nat × Nat} {u : zM} {n : Nat} (h : okN lay u n = true) {a k : Nat} (h1 : 1 ≤ a) (h2 : a ≤ n) (hb : ¬ (lay a).1 ≤ 4) (hk : k < nrf (lay a)) : rfL lay u.2.2.1 a k = u.2.2.1 a k := by
  simp only [okN, Bool.and_eq_true] at h
  have h3 := List.all_eq_true.mp h.2 (a - 1) (List.mem_range.mpr (by omega))
  rw [show a - 1 + 1 = a by omega] at h3
  simp only [okR, Bool.or_eq_true, Bool.and_eq_true, Nat.ble_eq] at h3
  rcases h3 with h3 | h3
  · exact absurd h3.2 hb
  · have h4 := List.all_eq_true.mp h3 k (List.mem_range.mpr hk)
    simp only [Bool.or_eq_true] at h4
    unfold rfL
    rcases h4 with h4 | h4
    · rw [if_pos (Nat.eq_of_beq_eq_true h4)]
    · by_cases q : rfo (lay a).1 k = 0
      · rw [if_pos q]
      · rw [if_neg q]
        exact (Nat.eq_of_beq_eq_true h4).symm
theorem arrV_ex {c : ClassId} {n : Nat} {f g : Nat → Value} (h : ∀ j, j < n → f j = g j) : arrV c n f = arrV c n g := by
  unfold arrV
  congr 1
  congr 1
  funext j
  exact h j j.isLt
theorem zRep.fix {D : zD} {b : Nat} {lay : Nat → Nat × Nat} {u : zM} {H : Heap} {n : Nat} (h : zRep D b lay zid (0, true) u H) (hok : okN lay u n = true) : zRep D b lay (rfL lay) (n, false) u H := by
  have hn := okN_n hok
  have hz : ∀ a, zok (n, false) u a → zok (0, true) u a := fun a ha => ⟨(zok_le ha).1, Or.inr ⟨rfl, by rw [hn]; exact (zok_le ha).2⟩⟩
  refine ⟨fun a k z g1 g2 g3 => h.1 a k z (hz a g1) g2 g3, fun a z g1 g2 => h.2.1 a z (hz a g1) g2, fun a k z g1 g2 g3 => ?_, fun a c z g1 g2 => ?_⟩
  · rw [h.2.2.1 a k z (hz a g1) g2 g3]
    refine congrArg some (arrV_ex (fun j hj => ?_))
    show zrv b (u.2.2.1 a j) = zrv b (rfL lay u.2.2.1 a j)
    rw [okN_r hok (zok_le g1).1 (zok_le g1).2 (by rw [g2]; show ¬ k ≤ 4; omega) (by rw [g2]; unfold nrf; rw [if_neg (show ¬ 10 ≤ k by omega)]; exact hj)]
  · refine (h.2.2.2 a c z (hz a g1) g2).to (fun k hk => ?_)
    have e : rfL lay u.2.2.1 a k = u.2.2.1 a k := okN_r hok (zok_le g1).1 (zok_le g1).2 (by rw [g2]; show ¬ 10 + c ≤ 4; omega) (by rw [g2]; unfold nrf; rw [if_pos (show 10 ≤ 10 + c by omega)]; show k < zNf (10 + c - 10); rw [Nat.add_sub_cancel_left]; exact hk)
    unfold zfv zid
    rw [e]
theorem inv0 {u v : zM} (r : gR u 1 1 = 4 ∧ gR u 1 2 = 25 ∧ gR u 1 3 = 46 ∧ gR u 1 4 = 50) (hu : okI u ckCL = true) (hv : okI v ckML = true) : Inv 0 u v := by
  have no : ∀ {p : Nat} {A : Prop}, p < 0 → A := fun h => absurd h (Nat.not_lt_zero _)
  have fu : ∀ {a k : Nat}, (a, k) ∈ ckCL → gI u a k = nI 0 := fun hm => okI_use hu hm
  have fv : ∀ {a k : Nat}, (a, k) ∈ ckML → gI v a k = nI 0 := fun hm => okI_use hv hm
  obtain ⟨l1, l2⟩ := Lw_untold (u := u) (v := v) (s := 4) (Or.inl rfl) (fu (by decide)) (fv (by decide)) (fv (by decide))
  refine ⟨by decide, 4, 46, fun _ => 0, fun _ _ => 0, _, fun _ => 0, ⟨⟨Nat.zero_le _, Nat.zero_le _, Nat.zero_le _, Nat.zero_le _, Nat.zero_le _, Nat.zero_le _⟩, ⟨fun _ h => no h, fun _ h => no h, fun _ h => no h, fun _ h => no h, fun _ h => no h⟩, ⟨Nat.two_pow_pos _, fun _ h => no h, fun _ h => no h, fun _ h => no h, fun _ h => no h⟩⟩, Nat.le_refl _,
    ⟨r.1, Or.inl rfl, ⟨⟨fu (by decide), fu (by decide), fu (by decide), fu (by decide), fu (by decide), fu (by decide)⟩, fun _ h => no h, fun _ h => no h, fun _ h => no h, fun _ h => no h, fun _ h => no h⟩, l1, ⟨fu (by decide), fun _ h => no h, fun _ h => no h, fun _ h => no h, fun _ h => no h⟩⟩,
    ⟨⟨fun i hi => ?_, fun _ h => no h, fun _ h => no h, fun _ h => no h, fun _ h => no h, fun _ h => no h⟩, l2, ⟨fv (by decide), fun _ h => no h, fun _ h => no h, fun _ h => no h, fun _ h => no h⟩⟩,
    ⟨r.2.1, r.2.2.1, Or.inl rfl, r.2.2.2⟩, ⟨0, fun _ => 0, fun _ => 0, fun _ => 0, ⟨Nat.zero_le _, fun _ h => no h⟩, ⟨fu (by decide), fun _ h => no h⟩, ⟨fv (by decide), fun _ h => no h⟩⟩, ⟨0, fun _ => 0, fun _ => 0, fun _ => false, Nat.zero_le _, fu (by decide), fv (by decide), fun _ h => no h⟩, ⟨0, 0, fun _ _ => 0, Nat.zero_le _, by decide, fu (by decide), fu (by decide), fv (by decide), fun _ h => no h⟩, fun k hk => ?_, OutI.none (fu (by decide)), fin_0 (fu (by decide)) (fv (by decide)), fun s hs i hi => no hi⟩
  · have h6 : i = 0 ∨ i = 1 ∨ i = 2 ∨ i = 3 ∨ i = 4 ∨ i = 5 := by omega
    rcases h6 with rfl | rfl | rfl | rfl | rfl | rfl <;> exact fv (by decide)
  · have h4 : k = 0 ∨ k = 1 ∨ k = 2 ∨ k = 3 := by omega
    rcases h4 with rfl | rfl | rfl | rfl <;> exact ⟨false, fu (by decide), fv (by decide), fun q => absurd q (by decide)⟩
