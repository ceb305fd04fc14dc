/-! ===== a line done ===== -/
def lnB (N : Nat → Nat) (K : Nat → Nat → Nat) (S : Nat → Nat) (W A B : Nat) : Bool := if W = 1 then tkB N S A B else if W = 2 then swB K S A B else if W = 3 then svB N K S B else true
def lnS (N : Nat → Nat) (K : Nat → Nat → Nat) (S : Nat → Nat) (W A B : Nat) : Nat → Nat := if lnB N K S W A B = false then S else if W = 1 then upN S (19 + B) A else if W = 2 then upN (upN S (13 + A) B) (16 + A) (S (16 + A) + 1) else if W = 3 then upN S (19 + B) 3 else S
theorem lnS_f {N : Nat → Nat} {K : Nat → Nat → Nat} {S : Nat → Nat} {W A B : Nat} (h : lnB N K S W A B = false) : lnS N K S W A B = S := by unfold lnS; rw [if_pos h]
theorem lnS_1 {N : Nat → Nat} {K : Nat → Nat → Nat} {S : Nat → Nat} {A B : Nat} (h : tkB N S A B = true) : lnS N K S 1 A B = upN S (19 + B) A := by
  have e : lnB N K S 1 A B = true := h
  unfold lnS
  rw [e]
  rfl
theorem lnS_2 {N : Nat → Nat} {K : Nat → Nat → Nat} {S : Nat → Nat} {A B : Nat} (h : swB K S A B = true) : lnS N K S 2 A B = upN (upN S (13 + A) B) (16 + A) (S (16 + A) + 1) := by
  have e : lnB N K S 2 A B = true := h
  unfold lnS
  rw [e]
  rfl
theorem lnS_3 {N : Nat → Nat} {K : Nat → Nat → Nat} {S : Nat → Nat} {A B : Nat} (h : svB N K S B = true) : lnS N K S 3 A B = upN S (19 + B) 3 := by
  have e : lnB N K S 3 A B = true := h
  unfold lnS
  rw [e]
  rfl
theorem lnS_0 {N : Nat → Nat} {K : Nat → Nat → Nat} {S : Nat → Nat} {W A B : Nat} (h : W = 0) : lnS N K S W A B = S := by
  subst h
  rfl
theorem swB_lt {K : Nat → Nat → Nat} {S : Nat → Nat} {o p : Nat} (h : swB K S o p = true) : S (16 + o) < K 2 o := by
  unfold swB at h
  rw [Bool.and_eq_true, decide_eq_true_eq] at h
  exact h.2.2.2
theorem lnS_day {N : Nat → Nat} {K : Nat → Nat → Nat} {S : Nat → Nat} {W A B : Nat} : lnS N K S W A B 0 = S 0 := by
  unfold lnS
  split
  · rfl
  · split
    · exact upN_ne (by omega)
    · split
      · rw [upN_ne (by omega), upN_ne (by omega)]
      · split
        · exact upN_ne (by omega)
        · rfl
theorem lnS_wf {N : Nat → Nat} {K : Nat → Nat → Nat} {S : Nat → Nat} {W A B : Nat} (hW : Wf N K S) (h1 : W = 1 → A < N 3 ∧ B < N 4) (h2 : W = 2 → A < N 3 ∧ B < N 0) : Wf N K (lnS N K S W A B) := by
  unfold lnS
  split
  · exact hW
  · rename_i hb
    have hb : lnB N K S W A B = true := by
      cases h : lnB N K S W A B
      · exact absurd h hb
      · rfl
    split
    · rename_i h
      exact hW.set (Or.inr (Or.inr ⟨by omega, Or.inl (h1 h).1⟩))
    · split
      · rename_i h
        subst h
        have h3 := swB_lt (show swB K S A B = true from hb)
        have h4 := (hW.2.1.2.2.1 A (h2 rfl).1).2.1
        have h5 := hW.1.2.2.2.1
        have h6 := (h2 rfl).1
        exact (hW.set (Or.inl ⟨by omega, by omega, (h2 rfl).2⟩)).set (Or.inr (Or.inl ⟨by omega, by omega, by omega⟩))
      · split
        · exact hW.set (Or.inr (Or.inr ⟨by omega, Or.inr (Or.inl rfl)⟩))
        · exact hW
theorem ln1C {u : zM} {t a : Nat} {N S : Nat → Nat} {K : Nat → Nat → Nat} {E : Int32 → Int32 → Int32 → Int32 → Int32} (hW : Wf N K S) (hu : NowC u t N K E a S) (hA : StA a) (ha : 54 ≤ a) {A B : Nat} (h1 : A < N 3) (h2 : B < N 4) : ∃ u', St_doLine a t (nI 1) (nI A) (nI B) u = some (bI (lnB N K S 1 A B), u') ∧ NowC u' t N K E a (lnS N K S 1 A B) ∧ Fr (stepA a t) u u' := by
  have lt := layT hu.2.1
  have e := St_mayTake_ok hW hu hA h1 h2
  obtain ⟨n0, n1, n2, n3, n4, n5⟩ := hW.1
  have e0 : lnB N K S 1 A B = tkB N S A B := rfl
  cases hb : tkB N S A B
  · refine ⟨u, ?_, ?_, Fr.rf⟩
    · unfold St_doLine
      rw [if_pos hA.1, if_pos lt, if_pos (show nI 1 = (1 : Int32) from rfl), zb_eq e, hb, e0, hb]
      rfl
    · rw [lnS_f (e0.trans hb)]
      exact hu
  · refine ⟨sI u (a + 5) B (hv A), ?_, ?_, Fr.sI (by unfold stepA; omega)⟩
    · unfold St_doLine
      rw [if_pos hA.1, if_pos lt, if_pos (show nI 1 = (1 : Int32) from rfl), zb_eq e, hb, e0, hb, if_neg bIt_ne, if_pos (ib_nI (by omega) (by omega)), zl_e, ix_nI (by omega), hv_ne (by omega)]
      rfl
    · rw [lnS_1 hb]
      exact hu.fr ha (Fr.sI (by unfold stepA; omega)) (StC.setH hW.1 hu.2.2.2.2 A (by omega))
theorem ln2C {u : zM} {t a : Nat} {N S : Nat → Nat} {K : Nat → Nat → Nat} {E : Int32 → Int32 → Int32 → Int32 → Int32} (hW : Wf N K S) (hu : NowC u t N K E a S) (hA : StA a) (ha : 54 ≤ a) {A B : Nat} (h1 : A < N 3) (h2 : B < N 0) : ∃ u', St_doLine a t (nI 2) (nI A) (nI B) u = some (bI (lnB N K S 2 A B), u') ∧ NowC u' t N K E a (lnS N K S 2 A B) ∧ Fr (stepA a t) u u' := by
  have lt := layT hu.2.1
  have e := St_maySwim_ok hW hu hA h1 h2
  obtain ⟨n0, n1, n2, n3, n4, n5⟩ := hW.1
  have e0 : lnB N K S 2 A B = swB K S A B := rfl
  cases hb : swB K S A B
  · refine ⟨u, ?_, ?_, Fr.rf⟩
    · unfold St_doLine
      rw [if_pos hA.1, if_pos lt, if_neg (show ¬ nI 2 = (1 : Int32) by decide), if_pos (show nI 2 = (2 : Int32) from rfl), zb_eq e, hb, e0, hb]
      rfl
    · rw [lnS_f (e0.trans hb)]
      exact hu
  · have hs := hu.2.2.2.2
    have e1 := (hs.2.2.2.1 A h1).2
    refine ⟨sI (sI u (a + 3) A (nI B)) (a + 4) A (nI (S (16 + A) + 1)), ?_, ?_, (Fr.sI (by unfold stepA; omega)).tr (Fr.sI (by unfold stepA; omega))⟩
    · have e2 : gI (sI u (a + 3) A (nI B)) (a + 4) A = nI (S (16 + A)) := (gs_ne (by omega)).trans e1
      have e3 : St_doSwim a (nI A) (nI B) u = some ((), sI (sI u (a + 3) A (nI B)) (a + 4) A (nI (S (16 + A) + 1))) := by
        unfold St_doSwim
        rw [if_pos hA.1, if_pos (ib_nI (by omega) (by omega)), zl_e, ix_nI (by omega), if_pos (ib_nI (by omega) (by omega)), if_pos (ib_nI (by omega) (by omega)), zl_e, e2, nI_1]
      unfold St_doLine
      rw [if_pos hA.1, if_pos lt, if_neg (show ¬ nI 2 = (1 : Int32) by decide), if_pos (show nI 2 = (2 : Int32) from rfl), zb_eq e, hb, e0, hb, if_neg bIt_ne, zb_eq e3]
      rfl
    · rw [lnS_2 hb]
      exact hu.fr ha ((Fr.sI (by unfold stepA; omega)).tr (Fr.sI (by unfold stepA; omega))) (StC.setM hW.1 (StC.setO hW.1 hs B (by omega)) _ (by omega))
theorem ln3C {u : zM} {t a : Nat} {N S : Nat → Nat} {K : Nat → Nat → Nat} {E : Int32 → Int32 → Int32 → Int32 → Int32} (hW : Wf N K S) (hu : NowC u t N K E a S) (hA : StA a) (ha : 54 ≤ a) (A : Nat) {B : Nat} (h2 : B < N 4) (y : Int32) : ∃ u', St_doLine a t (nI 3) (nI B) y u = some (bI (lnB N K S 3 A B), u') ∧ NowC u' t N K E a (lnS N K S 3 A B) ∧ Fr (stepA a t) u u' := by
  have lt := layT hu.2.1
  have e := St_mayServe_ok hW hu hA h2
  obtain ⟨n0, n1, n2, n3, n4, n5⟩ := hW.1
  have e0 : lnB N K S 3 A B = svB N K S B := rfl
  cases hb : svB N K S B
  · refine ⟨u, ?_, ?_, Fr.rf⟩
    · unfold St_doLine
      rw [if_pos hA.1, if_pos lt, if_neg (show ¬ nI 3 = (1 : Int32) by decide), if_neg (show ¬ nI 3 = (2 : Int32) by decide), if_pos (show nI 3 = (3 : Int32) from rfl), zb_eq e, hb, e0, hb]
      rfl
    · rw [lnS_f (e0.trans hb)]
      exact hu
  · refine ⟨sI u (a + 5) B (hv 3), ?_, ?_, Fr.sI (by unfold stepA; omega)⟩
    · unfold St_doLine
      rw [if_pos hA.1, if_pos lt, if_neg (show ¬ nI 3 = (1 : Int32) by decide), if_neg (show ¬ nI 3 = (2 : Int32) by decide), if_pos (show nI 3 = (3 : Int32) from rfl), zb_eq e, hb, e0, hb, if_neg bIt_ne, if_pos (ib_nI (by omega) (by omega)), zl_e, ix_nI (by omega)]
      rfl
    · rw [lnS_3 hb]
      exact hu.fr ha (Fr.sI (by unfold stepA; omega)) (StC.setH hW.1 hu.2.2.2.2 3 (by omega))
theorem ln0C {u : zM} {t a : Nat} {N S : Nat → Nat} {K : Nat → Nat → Nat} {E : Int32 → Int32 → Int32 → Int32 → Int32} (hW : Wf N K S) (hu : NowC u t N K E a S) (hA : StA a) (ha : 54 ≤ a) (x y : Int32) : ∃ u', St_doLine a t (nI 0) x y u = some (bI true, u') ∧ NowC u' t N K E a (nextS E N K (rainS N K (S 0)) S) ∧ Fr (stepA a t) u u' := by
  have lt := layT hu.2.1
  obtain ⟨u', e1, e2, e3⟩ := St_nextDay_eq hW hu hA ha
  refine ⟨u', ?_, e2, e3⟩
  unfold St_doLine
  rw [if_pos hA.1, if_pos lt, if_neg (show ¬ nI 0 = (1 : Int32) by decide), if_neg (show ¬ nI 0 = (2 : Int32) by decide), if_neg (show ¬ nI 0 = (3 : Int32) by decide), zb_eq e1]
  rfl
/-- the reference's -/
theorem ln1M {v : zM} {N S : Nat → Nat} {K : Nat → Nat → Nat} {E : Int32 → Int32 → Int32 → Int32 → Int32} (hW : Wf N K S) (hz : NowM v N K E S) {A B : Nat} (h1 : A < N 3) (h2 : B < N 4) {ρ : Type} (F : Int32 → zM → Option ρ) : ∃ v', zb (Mo_canTake (nI A) (nI B) v) (fun c6 u7 => if c6 = 0 then F c6 u7 else (if ib (19 + nI B) 25 = true then (zlet (sI u7 40 (ix (19 + nI B)) (nI A)) (fun u8 => F c6 u8)) else none)) = F (bI (lnB N K S 1 A B)) v' ∧ NowM v' N K E (lnS N K S 1 A B) ∧ Fr (fun c _ => c = 40) v v' := by
  have e := Mo_canTake_eq hW hz h1 h2
  obtain ⟨n0, n1, n2, n3, n4, n5⟩ := hW.1
  have e0 : lnB N K S 1 A B = tkB N S A B := rfl
  have e1 : (19 : Int32) + nI B = nI (19 + B) := nI_add 19 B
  rw [zb_eq e, e0]
  cases hb : tkB N S A B
  · refine ⟨v, ?_, ?_, Fr.rf⟩
    · rw [if_pos (show bI false = (0 : Int32) from rfl)]
    · rw [lnS_f (e0.trans hb)]
      exact hz
  · refine ⟨sI v 40 (19 + B) (hv A), ?_, ?_, Fr.sI rfl⟩
    · rw [if_neg bIt_ne, e1, if_pos (ib_nI (by omega) (by omega)), zl_e, ix_nI (by omega), hv_ne (by omega)]
    · rw [lnS_1 hb]
      exact hz.setH hW.1 A
theorem ln3M {v : zM} {N S : Nat → Nat} {K : Nat → Nat → Nat} {E : Int32 → Int32 → Int32 → Int32 → Int32} (hW : Wf N K S) (hz : NowM v N K E S) (A : Nat) {B : Nat} (h2 : B < N 4) {ρ : Type} (F : Int32 → zM → Option ρ) : ∃ v', zb (Mo_canServe (nI B) v) (fun c6 u7 => if c6 = 0 then F c6 u7 else (if ib (19 + nI B) 25 = true then (zlet (sI u7 40 (ix (19 + nI B)) 3) (fun u8 => F c6 u8)) else none)) = F (bI (lnB N K S 3 A B)) v' ∧ NowM v' N K E (lnS N K S 3 A B) ∧ Fr (fun c _ => c = 40) v v' := by
  have e := Mo_canServe_eq hW hz h2
  obtain ⟨n0, n1, n2, n3, n4, n5⟩ := hW.1
  have e0 : lnB N K S 3 A B = svB N K S B := rfl
  have e1 : (19 : Int32) + nI B = nI (19 + B) := nI_add 19 B
  rw [zb_eq e, e0]
  cases hb : svB N K S B
  · refine ⟨v, ?_, ?_, Fr.rf⟩
    · rw [if_pos (show bI false = (0 : Int32) from rfl)]
    · rw [lnS_f (e0.trans hb)]
      exact hz
  · refine ⟨sI v 40 (19 + B) (hv 3), ?_, ?_, Fr.sI rfl⟩
    · rw [if_neg bIt_ne, e1, if_pos (ib_nI (by omega) (by omega)), zl_e, ix_nI (by omega)]
      rfl
    · rw [lnS_3 hb]
      exact hz.setH hW.1 3
theorem ln2M {v : zM} {N S : Nat → Nat} {K : Nat → Nat → Nat} {E : Int32 → Int32 → Int32 → Int32 → Int32} (hW : Wf N K S) (hz : NowM v N K E S) {A B : Nat} (h1 : A < N 3) (h2 : B < N 0) {ρ : Type} (F G : zM → Option ρ) : ∃ v', zb (Mo_canSwim (nI A) v) (fun c5 u6 => if ((c5 >>> (nI B &&& 31)) &&& 1) = 1 then zb (Mo_swims (nI A) (nI B) u6) (fun _ u7 => F u7) else G u6) = (if lnB N K S 2 A B = true then F v' else G v') ∧ NowM v' N K E (lnS N K S 2 A B) ∧ Fr (fun c _ => c = 40) v v' := by
  have e := Mo_canSwim_eq hW hz h1
  obtain ⟨n0, n1, n2, n3, n4, n5⟩ := hW.1
  have e0 : lnB N K S 2 A B = swB K S A B := rfl
  have hc := canS_lt (S := S) (K := K) hW.1 A
  have hb2 := canS_bit (K := K) (S := S) (o := A) h2
  have e1 : (nI (canS N K S A) >>> (nI B &&& 31)) &&& 1 = nI (swB K S A B).toNat := by rw [← hb2]; exact bn_bit (by omega) (by omega)
  rw [zb_eq e, e0, e1]
  cases hb : swB K S A B
  · refine ⟨v, ?_, ?_, Fr.rf⟩
    · rw [if_neg (by decide), if_neg (by decide)]
    · rw [lnS_f (e0.trans hb)]
      exact hz
  · have x1 : gI v 40 (16 + A) = nI (S (16 + A)) := by have := (hz.2.2.2.2.2.1 A h1).2; rwa [Nat.zero_add] at this
    refine ⟨sI (sI v 40 (13 + A) (nI B)) 40 (16 + A) (nI (S (16 + A) + 1)), ?_, ?_, Fr.tr (A := fun c _ => c = 40) (Fr.sI (A := fun c _ => c = 40) rfl) (Fr.sI (A := fun c _ => c = 40) rfl)⟩
    · have e2 : gI (sI v 40 (13 + A) (nI B)) 40 (16 + A) = nI (S (16 + A)) := (gs_ne (by omega)).trans x1
      have e3 : Mo_swims (nI A) (nI B) v = some ((), sI (sI v 40 (13 + A) (nI B)) 40 (16 + A) (nI (S (16 + A) + 1))) := by
        have g1 : (13 : Int32) + nI A = nI (13 + A) := nI_add 13 A
        have g2 : (16 : Int32) + nI A = nI (16 + A) := nI_add 16 A
        unfold Mo_swims
        rw [g1, g2, if_pos (ib_nI (by omega) (by omega)), zl_e, ix_nI (by omega), if_pos (ib_nI (by omega) (by omega)), if_pos (ib_nI (by omega) (by omega)), zl_e, ix_nI (by omega), e2, nI_1]
      rw [if_pos (show nI true.toNat = (1 : Int32) from rfl), zb_eq e3, if_pos rfl]
    · rw [lnS_2 hb]
      exact (hz.set hW.1 B (by omega)).set hW.1 _ (by omega)
