/-! ===== the reference's reader: one round ===== -/
def noO (X k : Nat) (w : List Nat) (t : Nat) : Prop := (X = 3 → ¬ (k = 3 ∧ t = 42)) ∧ (X = 2 → ¬ (k = 3 ∧ t = 43) ∧ ¬ (k = 3 ∧ t = 45)) ∧ (X = 1 → ¬ (k = 3 ∧ t = 60) ∧ ¬ (k = 3 ∧ t = 61)) ∧ (X = 0 → ¬ (k = 1 ∧ w = kw_and) ∧ ¬ (k = 1 ∧ w = kw_or))
def noOp (X k : Nat) (w : List Nat) (t : Nat) (cm : Int32) : Prop := (X ≤ 3 → ¬ (k = 3 ∧ t = 42)) ∧ (X ≤ 2 → ¬ (k = 3 ∧ t = 43) ∧ ¬ (k = 3 ∧ t = 45)) ∧ (X ≤ 1 → cm = nI 1 ∨ (¬ (k = 3 ∧ t = 60) ∧ ¬ (k = 3 ∧ t = 61))) ∧ (X = 0 → ¬ (k = 1 ∧ w = kw_and) ∧ ¬ (k = 1 ∧ w = kw_or))
theorem noOp.dn {X k : Nat} {w : List Nat} {t : Nat} {cm : Int32} (h : noOp (X + 1) k w t cm) (h0 : noO X k w t) : noOp X k w t cm := by
  obtain ⟨a1, a2, a3, a4⟩ := h
  obtain ⟨b1, b2, b3, b4⟩ := h0
  refine ⟨fun q => ?_, fun q => ?_, fun q => ?_, fun q => b4 q⟩
  · by_cases z : X = 3
    · exact b1 z
    · exact a1 (by omega)
  · by_cases z : X = 2
    · exact b2 z
    · exact a2 (by omega)
  · by_cases z : X = 1
    · exact Or.inr (b3 z)
    · exact a3 (by omega)
def opT (X k : Nat) (w : List Nat) (t : Nat) (o x : Int32) : Prop := (X = 0 ∧ k = 1 ∧ ((w = kw_and ∧ o = -6 ∧ x = nI 26) ∨ (w = kw_or ∧ o = -7 ∧ x = nI 27))) ∨ (X = 1 ∧ k = 3 ∧ ((t = 60 ∧ o = -8 ∧ x = nI 24) ∨ (t = 61 ∧ o = -9 ∧ x = nI 25))) ∨ (X = 2 ∧ k = 3 ∧ ((t = 43 ∧ o = -10 ∧ x = nI 20) ∨ (t = 45 ∧ o = -11 ∧ x = nI 21))) ∨ (X = 3 ∧ k = 3 ∧ t = 42 ∧ o = -12 ∧ x = nI 22)
theorem opT.op {X k : Nat} {w : List Nat} {t : Nat} {o x : Int32} (h : opT X k w t o x) : opR X o x := by
  rcases h with ⟨hX, _, ⟨_, h⟩ | ⟨_, h⟩⟩ | ⟨hX, _, ⟨_, h⟩ | ⟨_, h⟩⟩ | ⟨hX, _, ⟨_, h⟩ | ⟨_, h⟩⟩ | ⟨hX, _, _, h⟩
  · exact Or.inl ⟨hX, Or.inl h⟩
  · exact Or.inl ⟨hX, Or.inr h⟩
  · exact Or.inr (Or.inl ⟨hX, Or.inl h⟩)
  · exact Or.inr (Or.inl ⟨hX, Or.inr h⟩)
  · exact Or.inr (Or.inr (Or.inl ⟨hX, Or.inl h⟩))
  · exact Or.inr (Or.inr (Or.inl ⟨hX, Or.inr h⟩))
  · exact Or.inr (Or.inr (Or.inr ⟨hX, h⟩))
theorem opT.k0 {X k : Nat} {w : List Nat} {t : Nat} {o x : Int32} (h : opT X k w t o x) : k ≠ 0 := by
  rcases h with ⟨_, h, _⟩ | ⟨_, h, _⟩ | ⟨_, h, _⟩ | ⟨_, h, _⟩ <;> omega
def cmpS (v : zM) (X d : Nat) : zM := if X = 0 then sI v 21 d (nI 0) else if X = 1 then sI v 21 d (nI 1) else v
theorem cmpS_0 {v : zM} {d : Nat} : cmpS v 0 d = sI v 21 d (nI 0) := rfl
theorem cmpS_1 {v : zM} {d : Nat} : cmpS v 1 d = sI v 21 d (nI 1) := rfl
theorem cmpS_2 {v : zM} {d : Nat} : cmpS v 2 d = v := rfl
theorem cmpS_3 {v : zM} {d : Nat} : cmpS v 3 d = v := rfl
theorem ne10 : ¬ (1 : Int32) = 0 := by decide
theorem rf_op {u v : zM} {c b e k m : Nat} {T : Nat → Nat} {w : List Nat} (h : Fin u v c T b e k w m) {X d n : Nat} {o x : Int32} (ho : opT X k w (T b) o x) (hd : d < 7) (h1 : X = 1 → gI v 21 d = nI 0) : Mo_reads_11 (n + 1) (nI d) 0 v = zb (Mo_puts x v) (fun _ v1 => zb (Mo_nextToken (cmpS v1 X d)) (fun _ v2 => Mo_reads_11 n (nI d) 1 v2)) := by
  have hI : ib (nI d) 7 = true := ib_nI hd (by decide)
  have hx : ix (nI d) = d := ix_nI (by omega)
  show Mo_reads_11b (Mo_reads_11 n) (nI d) 0 v = _
  unfold Mo_reads_11b
  rw [if_pos rfl]
  rcases ho with ⟨rfl, hk, ho⟩ | ⟨rfl, hk, ho⟩ | ⟨rfl, hk, ho⟩ | ⟨rfl, hk, ht, rfl, rfl⟩
  · have sF : ∀ s, s < 128 → Mo_isSign (nI s) v = some (0, v) := fun s hs => (h.sgF hs (by omega)).2
    rw [zb_eq (show Mo_isSign 43 v = _ from sF 43 (by decide)), if_pos rfl, zb_eq (show Mo_isSign 45 v = _ from sF 45 (by decide)), if_pos rfl, zb_eq (show Mo_isSign 42 v = _ from sF 42 (by decide)), if_pos rfl, zb_eq (show Mo_isSign 60 v = _ from sF 60 (by decide)), if_pos rfl, zb_eq (show Mo_isSign 61 v = _ from sF 61 (by decide)), if_pos rfl]
    unfold Mo_reads_304 Mo_reads_324 Mo_reads_342
    simp only [if_pos hI, hx, zl_e, cmpS_0]
    rcases ho with ⟨hw, rfl, rfl⟩ | ⟨hw, rfl, rfl⟩
    · have e1 := (h.wdT (kw := kw_and) rfl k256_and k27_and ⟨hk, hw⟩).2
      rw [zb_eq e1, if_neg ne10, zb_eq e1, if_neg ne10]
      rfl
    · have e1 := (h.wdF (kw := kw_and) rfl k256_and k27_and (by rw [hw]; exact fun z => absurd z.2 (by decide))).2
      have e2 := (h.wdT (kw := kw_or) rfl k256_or k27_or ⟨hk, hw⟩).2
      rw [zb_eq e1, if_pos rfl, zb_eq e2, if_neg ne10, zb_eq e1, if_pos rfl]
      rfl
  · have t2 : T b = 60 ∨ T b = 61 := by rcases ho with h | h <;> omega
    rw [zb_eq (show Mo_isSign 43 v = _ from (h.sgF (s := 43) (by decide) (by omega)).2), if_pos rfl, zb_eq (show Mo_isSign 45 v = _ from (h.sgF (s := 45) (by decide) (by omega)).2), if_pos rfl, zb_eq (show Mo_isSign 42 v = _ from (h.sgF (s := 42) (by decide) (by omega)).2), if_pos rfl]
    unfold Mo_reads_263 Mo_reads_289
    simp only [if_pos hI, hx, zl_e, cmpS_1]
    rcases ho with ⟨ht, rfl, rfl⟩ | ⟨ht, rfl, rfl⟩
    · have e1 : Mo_isSign 60 v = _ := (h.sgT (s := 60) (by decide) ⟨hk, ht⟩).2
      rw [zb_eq e1, if_neg ne10, if_pos (show gI v 21 d = 0 from h1 rfl), zb_eq e1, if_neg ne10]
      rfl
    · have e1 : Mo_isSign 60 v = _ := (h.sgF (s := 60) (by decide) (by omega)).2
      have e2 : Mo_isSign 61 v = _ := (h.sgT (s := 61) (by decide) ⟨hk, ht⟩).2
      rw [zb_eq e1, if_pos rfl, zb_eq e2, if_neg ne10, if_pos (show gI v 21 d = 0 from h1 rfl), zb_eq e1, if_pos rfl]
      rfl
  · unfold Mo_reads_206
    simp only [cmpS_2]
    rcases ho with ⟨ht, rfl, rfl⟩ | ⟨ht, rfl, rfl⟩
    · have e1 : Mo_isSign 43 v = _ := (h.sgT (s := 43) (by decide) ⟨hk, ht⟩).2
      rw [zb_eq e1, if_neg ne10, zb_eq e1, if_neg ne10]
      rfl
    · have e1 : Mo_isSign 43 v = _ := (h.sgF (s := 43) (by decide) (by omega)).2
      have e2 : Mo_isSign 45 v = _ := (h.sgT (s := 45) (by decide) ⟨hk, ht⟩).2
      rw [zb_eq e1, if_pos rfl, zb_eq e2, if_neg ne10, zb_eq e1, if_pos rfl, zb_eq e2, if_neg ne10]
      rfl
  · unfold Mo_reads_206
    simp only [cmpS_3]
    have e1 : Mo_isSign 43 v = _ := (h.sgF (s := 43) (by decide) (by omega)).2
    have e2 : Mo_isSign 45 v = _ := (h.sgF (s := 45) (by decide) (by omega)).2
    have e3 : Mo_isSign 42 v = _ := (h.sgT (s := 42) (by decide) ⟨hk, ht⟩).2
    rw [zb_eq e1, if_pos rfl, zb_eq e2, if_pos rfl, zb_eq e3, if_neg ne10, zb_eq e1, if_pos rfl, zb_eq e2, if_pos rfl]
    rfl
theorem rf_304 {u v : zM} {c b e k m : Nat} {T : Nat → Nat} {w : List Nat} (h : Fin u v c T b e k w m) {d n : Nat} (ho : noOp 0 k w (T b) (gI v 21 d)) (hd : d < 7) : Mo_reads_11 (n + 1) (nI d) 0 v = zb (Mo_isSign 41 v) (fun c3 u3 => if c3 = 0 then (Mo_reads_399 (nI d) u3) else (if nI d ≤ 0 then (Mo_reads_399 (nI d) u3) else (zb (Mo_puts 29 u3) (fun _ u4 => Mo_reads_379 zF (Mo_reads_11 n) ((nI d) + (-1)) 0 u4)))) := by
  have hI : ib (nI d) 7 = true := ib_nI hd (by decide)
  have hx : ix (nI d) = d := ix_nI (by omega)
  obtain ⟨o1, o2, o3, o4⟩ := ho
  show Mo_reads_11b (Mo_reads_11 n) (nI d) 0 v = _
  have e304 : Mo_reads_304 (Mo_reads_11 n) (nI d) 0 v = zb (Mo_isSign 41 v) (fun c3 u3 => if c3 = 0 then (Mo_reads_399 (nI d) u3) else (if nI d ≤ 0 then (Mo_reads_399 (nI d) u3) else (zb (Mo_puts 29 u3) (fun _ u4 => Mo_reads_379 zF (Mo_reads_11 n) ((nI d) + (-1)) 0 u4)))) := by
    unfold Mo_reads_304
    rw [zb_eq (h.wdF (kw := kw_and) rfl k256_and k27_and (o4 rfl).1).2, if_pos rfl, zb_eq (h.wdF (kw := kw_or) rfl k256_or k27_or (o4 rfl).2).2, if_pos rfl]
  unfold Mo_reads_11b
  rw [if_pos rfl, zb_eq (show Mo_isSign 43 v = _ from (h.sgF (s := 43) (by decide) (o2 (by omega)).1).2), if_pos rfl, zb_eq (show Mo_isSign 45 v = _ from (h.sgF (s := 45) (by decide) (o2 (by omega)).2).2), if_pos rfl, zb_eq (show Mo_isSign 42 v = _ from (h.sgF (s := 42) (by decide) (o1 (by omega))).2), if_pos rfl]
  rcases o3 (by omega) with cm | ⟨q1, q2⟩
  · have e263 : Mo_reads_263 (Mo_reads_11 n) (nI d) 0 v = Mo_reads_304 (Mo_reads_11 n) (nI d) 0 v := by
      unfold Mo_reads_263
      rw [if_pos hI, hx, if_neg (show ¬ gI v 21 d = 0 by rw [cm]; decide)]
    have e1 := h.atS (s := 60) (by decide)
    have e2 := h.atS (s := 61) (by decide)
    rw [zb_eq (show Mo_isSign 60 v = _ from e1.2), zb_eq (show Mo_isSign 61 v = _ from e2.2), e263, ite_self, ite_self, e304]
  · rw [zb_eq (show Mo_isSign 60 v = _ from (h.sgF (s := 60) (by decide) q1).2), if_pos rfl, zb_eq (show Mo_isSign 61 v = _ from (h.sgF (s := 61) (by decide) q2).2), if_pos rfl, e304]
/-- the nots that end with a part -/
def popR (v : zM) (d q : Nat) : Prop := q ≤ d ∧ (q = 0 ∨ ¬ gI v 20 q = 1) ∧ ∀ j, q < j → j ≤ d → gI v 20 j = 1
theorem popR.fr {v v' : zM} {d q : Nat} (h : popR v d q) (hv : ∀ j, j ≤ d → gI v' 20 j = gI v 20 j) : popR v' d q := by
  obtain ⟨h1, h2, h3⟩ := h
  refine ⟨h1, ?_, fun j a b => (hv j b).trans (h3 j a b)⟩
  rcases h2 with h | h
  · exact Or.inl h
  · exact Or.inr (by rw [hv q h1]; exact h)
theorem pop152 (zr : Int32 → Int32 → zM → Option (Int32 × zM)) (x : Int32) (v : zM) (q : Nat) : ∀ d f, d < 7 → d < f → popR v d q → Mo_reads_152 f zr (nI d) x v = zb (Mo_nextToken v) (fun _ u1 => zr (nI q) x u1) := by
  intro d
  induction d with
  | zero =>
    intro f _ hf h
    obtain ⟨f, rfl⟩ : ∃ z, f = z + 1 := ⟨f - 1, by omega⟩
    have hq : q = 0 := by have := h.1; omega
    show Mo_reads_152b zr (Mo_reads_152 f zr) (nI 0) x v = _
    unfold Mo_reads_152b
    rw [if_pos (show nI 0 ≤ (0 : Int32) by decide), hq]
  | succ d ih =>
    intro f h7 hf h
    obtain ⟨f, rfl⟩ : ∃ z, f = z + 1 := ⟨f - 1, by omega⟩
    have e : nI (d + 1) + (-1) = nI d := by
      rw [show (-1 : Int32) = -(nI 1) from rfl, ← Int32.sub_eq_add_neg, pk_sub (by omega)]
      rfl
    show Mo_reads_152b zr (Mo_reads_152 f zr) (nI (d + 1)) x v = _
    unfold Mo_reads_152b
    rw [if_neg (show ¬ nI (d + 1) ≤ (0 : Int32) from nI_ge (show 0 < d + 1 by omega) (by omega)), if_pos (ib_nI h7 (by decide)), ix_nI (by omega), e]
    by_cases z : q = d + 1
    · rw [if_neg (show ¬ gI v 20 (d + 1) = 1 from z ▸ (h.2.1.resolve_left (by omega))), z]
    · rw [if_pos (h.2.2 (d + 1) (by have := h.1; omega) (Nat.le_refl _))]
      exact ih f (by omega) (by omega) ⟨by have := h.1; omega, h.2.1, fun j a b => h.2.2 j a (by omega)⟩
theorem pop379 (zr : Int32 → Int32 → zM → Option (Int32 × zM)) (x : Int32) (v : zM) (q : Nat) : ∀ d f, d < 7 → d < f → popR v d q → Mo_reads_379 f zr (nI d) x v = zb (Mo_nextToken v) (fun _ u1 => zr (nI q) x u1) := by
  intro d
  induction d with
  | zero =>
    intro f _ hf h
    obtain ⟨f, rfl⟩ : ∃ z, f = z + 1 := ⟨f - 1, by omega⟩
    have hq : q = 0 := by have := h.1; omega
    show Mo_reads_379b zr (Mo_reads_379 f zr) (nI 0) x v = _
    unfold Mo_reads_379b
    rw [if_pos (show nI 0 ≤ (0 : Int32) by decide), hq]
  | succ d ih =>
    intro f h7 hf h
    obtain ⟨f, rfl⟩ : ∃ z, f = z + 1 := ⟨f - 1, by omega⟩
    have e : nI (d + 1) + (-1) = nI d := by
      rw [show (-1 : Int32) = -(nI 1) from rfl, ← Int32.sub_eq_add_neg, pk_sub (by omega)]
      rfl
    show Mo_reads_379b zr (Mo_reads_379 f zr) (nI (d + 1)) x v = _
    unfold Mo_reads_379b
    rw [if_neg (show ¬ nI (d + 1) ≤ (0 : Int32) from nI_ge (show 0 < d + 1 by omega) (by omega)), if_pos (ib_nI h7 (by decide)), ix_nI (by omega), e]
    by_cases z : q = d + 1
    · rw [if_neg (show ¬ gI v 20 (d + 1) = 1 from z ▸ (h.2.1.resolve_left (by omega))), z]
    · rw [if_pos (h.2.2 (d + 1) (by have := h.1; omega) (Nat.le_refl _))]
      exact ih f (by omega) (by omega) ⟨by have := h.1; omega, h.2.1, fun j a b => h.2.2 j a (by omega)⟩
