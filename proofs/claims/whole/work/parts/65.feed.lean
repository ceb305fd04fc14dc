/-! ===== feed ===== -/
/-- a sign of a long -/
def byI (a : Int64) (s : Int32) : Int32 := Int64.toInt32 ((a.toUInt64 >>> ((Int32.toInt64 s).toUInt64 &&& Int64.toUInt64 63)).toInt64 &&& 255)
def okS (x : Int32) : Bool := decide (x = 10) || (decide (32 ≤ x) && decide (x ≤ 126))
theorem okS_ok {x : Int32} (h : okS x = true) : ∃ s, (s = 10 ∨ (32 ≤ s ∧ s ≤ 126)) ∧ x = nI s := by
  unfold okS at h
  rw [Bool.or_eq_true, Bool.and_eq_true, decide_eq_true_eq, decide_eq_true_eq, decide_eq_true_eq] at h
  rcases h with h | ⟨h1, h2⟩
  · exact ⟨10, Or.inl rfl, h⟩
  · rcases arg_ix x (n := 127) (by decide) with ⟨j, hj, rfl⟩ | h | h
    · refine ⟨j, Or.inr ⟨?_, by omega⟩, rfl⟩
      exact (nI_leI (a := 32) (by decide) (by omega)).mp h1
    · exact absurd (Int32.lt_of_lt_of_le h (Int32.le_trans (show nI 0 ≤ (32 : Int32) by decide) h1)) (Int32.lt_irrefl)
    · exact absurd (Int32.le_trans h h2) (by decide)
/-- the tape: how many signs, which -/
def WfT (c : Nat) (T : Nat → Nat) : Prop := c ≤ 1000 ∧ ∀ i, i < c → T i = 10 ∨ (32 ≤ T i ∧ T i ≤ 126)
def TpC (u : zM) (c : Nat) (T : Nat → Nat) : Prop := gI u 2 1 = nI c ∧ ∀ i, i < c → gI u 3 i = nI (T i)
def TpM (v : zM) (c : Nat) (T : Nat → Nat) : Prop := gI v 1 1 = nI c ∧ ∀ i, i < c → gI v 2 i = nI (T i)
theorem TapI.two {u v : zM} (h : TapI u v) : ∃ c T, WfT c T ∧ TpC u c T ∧ TpM v c T := by
  obtain ⟨c, a1, a2, a3, a4⟩ := h
  refine ⟨c, fun i => ix (gI u 3 i), ⟨a1, fun i hi => ?_⟩, ⟨a2, fun i hi => ?_⟩, ⟨a3, fun i hi => ?_⟩⟩
  · obtain ⟨s, b1, b2, b3⟩ := a4 i hi
    show ix (gI u 3 i) = 10 ∨ (32 ≤ ix (gI u 3 i) ∧ ix (gI u 3 i) ≤ 126)
    rw [b2, ix_nI (by omega)]
    exact b1
  · obtain ⟨s, b1, b2, b3⟩ := a4 i hi
    show _ = nI (ix (gI u 3 i))
    rw [b2, ix_nI (by omega)]
  · obtain ⟨s, b1, b2, b3⟩ := a4 i hi
    show _ = nI (ix (gI u 3 i))
    rw [b2, b3, ix_nI (by omega)]
theorem TapI.of {u v : zM} {c : Nat} {T : Nat → Nat} (h : WfT c T) (h1 : TpC u c T) (h2 : TpM v c T) : TapI u v := ⟨c, h.1, h1.1, h2.1, fun i hi => ⟨T i, h.2 i hi, h1.2 i hi, h2.2 i hi⟩⟩
def apS (st : Nat × (Nat → Nat)) (x : Int32) : Nat × (Nat → Nat) := if (decide (st.1 < 1000) && okS x) = true then (st.1 + 1, fun i => if i = st.1 then ix x else st.2 i) else st
theorem apS_wf {st : Nat × (Nat → Nat)} (h : WfT st.1 st.2) (x : Int32) : WfT (apS st x).1 (apS st x).2 := by
  unfold apS
  split
  · rename_i q
    rw [Bool.and_eq_true, decide_eq_true_eq] at q
    obtain ⟨s, h1, h2⟩ := okS_ok q.2
    refine ⟨by have := q.1; show st.1 + 1 ≤ 1000; omega, fun i hi => ?_⟩
    show (if i = st.1 then ix x else st.2 i) = 10 ∨ (32 ≤ (if i = st.1 then ix x else st.2 i) ∧ (if i = st.1 then ix x else st.2 i) ≤ 126)
    by_cases e : i = st.1
    · rw [if_pos e, h2, ix_nI (by omega)]
      exact h1
    · rw [if_neg e]
      exact h.2 i (by have hi : i < st.1 + 1 := hi; omega)
  · exact h
def apN (a : Int64) (st : Nat × (Nat → Nat)) : Nat → Nat × (Nat → Nat)
  | 0 => st
  | k + 1 => apS (apN a st k) (byI a (nI (56 - 8 * k)))
theorem apN_wf {a : Int64} {st : Nat × (Nat → Nat)} (h : WfT st.1 st.2) (k : Nat) : WfT (apN a st k).1 (apN a st k).2 := by
  induction k with
  | zero => exact h
  | succ k ih => exact apS_wf ih _
theorem nar8 : ∀ s, s < 127 → (Int32.toInt8 ((Int32.toInt8 (nI s)).toInt32)).toInt32 = nI s := by decide +kernel
theorem shfC : ∀ k, k < 8 → nI (56 - 8 * k) + (-8) = (if k = 7 then -8 else nI (56 - 8 * (k + 1))) := by decide +kernel
def shI (k : Nat) : Int32 := if k = 8 then -8 else nI (56 - 8 * k)
theorem shI_s : ∀ k, k < 8 → shI k = nI (56 - 8 * k) ∧ shI k + (-8) = shI (k + 1) ∧ ¬ shI k < 0 := by decide +kernel
theorem apC_step {m : zM} {st : Nat × (Nat → Nat)} (hw : WfT st.1 st.2) (h : TpC m st.1 st.2) (a : Int64) {k : Nat} (hk : k < 8) (zr : Int64 → Int32 → zM → Option (Unit × zM)) : ∃ m', Ta_append_3b zr a (shI k) m = zr a (shI (k + 1)) m' ∧ TpC m' (apS st (byI a (nI (56 - 8 * k)))).1 (apS st (byI a (nI (56 - 8 * k)))).2 ∧ Fr (fun c j => (c = 2 ∧ j = 1) ∨ c = 3) m m' := by
  obtain ⟨s1, s2, s3⟩ := shI_s k hk
  have h1000 := hw.1
  unfold Ta_append_3b Ta_append_36
  rw [if_neg s3, zl_e, s2]
  rw [show Int64.toInt32 ((a.toUInt64 >>> ((Int32.toInt64 (shI k)).toUInt64 &&& Int64.toUInt64 63)).toInt64 &&& 255) = byI a (nI (56 - 8 * k)) by rw [s1]; rfl]
  generalize byI a (nI (56 - 8 * k)) = x
  rw [h.1]
  have key : okS x = true → ∃ m', (if (1000 : Int32) ≤ nI st.1 then zr a (shI (k + 1)) m else (if ib (nI st.1) 1000 = true then (zlet (sI m 3 (ix (nI st.1)) ((Int32.toInt8 ((Int32.toInt8 x).toInt32)).toInt32)) (fun u1 => zlet (sI u1 2 1 ((gI u1 2 1) + 1)) (fun u2 => zr a (shI (k + 1)) u2))) else none)) = zr a (shI (k + 1)) m' ∧ TpC m' (apS st x).1 (apS st x).2 ∧ Fr (fun c j => (c = 2 ∧ j = 1) ∨ c = 3) m m' := by
    intro ok
    obtain ⟨s, q1, rfl⟩ := okS_ok ok
    by_cases hl : st.1 < 1000
    · have e : apS st (nI s) = (st.1 + 1, fun i => if i = st.1 then s else st.2 i) := by
        unfold apS
        rw [ok, decide_eq_true hl, Bool.and_self, if_pos rfl, ix_nI (by omega)]
      rw [e, if_neg (show ¬ (1000 : Int32) ≤ nI st.1 from @nI_ge st.1 1000 hl (by decide)), if_pos (ib_nI hl (by omega)), ix_nI (by omega), nar8 s (by omega), zl_e, show gI (sI m 3 st.1 (nI s)) 2 1 = nI st.1 from (gs_ne (by omega)).trans h.1, zl_e, show nI st.1 + 1 = nI (st.1 + 1) from nI_1 _]
      refine ⟨_, rfl, ⟨gs_eq ⟨rfl, rfl⟩, fun i hi => ?_⟩, Fr.tr (A := fun c j => (c = 2 ∧ j = 1) ∨ c = 3) (Fr.sI (A := fun c j => (c = 2 ∧ j = 1) ∨ c = 3) (Or.inr rfl)) (Fr.sI (A := fun c j => (c = 2 ∧ j = 1) ∨ c = 3) (Or.inl ⟨rfl, rfl⟩))⟩
      show _ = nI (if i = st.1 then s else st.2 i)
      have hi : i < st.1 + 1 := hi
      by_cases ei : i = st.1
      · rw [if_pos ei, gs_ne (by omega), gs_eq ⟨rfl, ei⟩]
      · rw [if_neg ei, gs_ne (by omega), gs_ne (by omega)]
        exact h.2 i (by omega)
    · have e : apS st (nI s) = st := by unfold apS; rw [decide_eq_false hl, Bool.false_and, if_neg (by decide)]
      rw [e, if_pos (show (1000 : Int32) ≤ nI st.1 from nI_le (a := 1000) (by omega) (by omega))]
      exact ⟨m, rfl, h, Fr.rf⟩
  have no : okS x = false → apS st x = st := fun q => by unfold apS; rw [q, Bool.and_false, if_neg (by decide)]
  by_cases q10 : x = 10
  · rw [if_pos q10]
    exact key (by unfold okS; rw [decide_eq_true q10]; rfl)
  · rw [if_neg q10]
    unfold OW_within
    by_cases q32 : x < 32
    · rw [if_pos q32, zb_eq rfl, if_pos rfl]
      have : okS x = false := by unfold okS; rw [decide_eq_false q10, decide_eq_false (Int32.not_le.mpr q32)]; rfl
      exact ⟨m, rfl, by rw [no this]; exact h, Fr.rf⟩
    · rw [if_neg q32]
      by_cases q126 : 126 < x
      · rw [if_pos q126, zb_eq rfl, if_pos rfl]
        have : okS x = false := by unfold okS; rw [decide_eq_false q10, decide_eq_false (Int32.not_le.mpr q126), Bool.and_false]; rfl
        exact ⟨m, rfl, by rw [no this]; exact h, Fr.rf⟩
      · rw [if_neg q126, zb_eq rfl, if_neg (show ¬ (1 : Int32) = 0 by decide), h.1]
        exact key (by unfold okS; rw [decide_eq_true (Int32.not_lt.mp q32), decide_eq_true (Int32.not_lt.mp q126), Bool.and_self, Bool.or_true])
theorem apC {u : zM} {st : Nat × (Nat → Nat)} (hw : WfT st.1 st.2) (h : TpC u st.1 st.2) (a : Int64) : ∃ u', Ta_append a u = some ((), u') ∧ TpC u' (apN a st 8).1 (apN a st 8).2 ∧ Fr (fun c j => (c = 2 ∧ j = 1) ∨ c = 3) u u' := by
  unfold Ta_append
  refine lprz (fun n (s : Int32 × zM) => Ta_append_3 n a s.1 s.2) (fun k s => s.1 = shI k ∧ TpC s.2 (apN a st k).1 (apN a st k).2 ∧ Fr (fun c j => (c = 2 ∧ j = 1) ∨ c = 3) u s.2) (fun r => ∃ u', r = some ((), u') ∧ TpC u' (apN a st 8).1 (apN a st 8).2 ∧ Fr (fun c j => (c = 2 ∧ j = 1) ∨ c = 3) u u') 8 (shI 0, u) (by omega) ⟨rfl, h, Fr.rf⟩ ?_ ?_
  · rintro n ⟨x, m⟩ ⟨h1, h2, h3⟩
    dsimp only at h1 h2 h3 ⊢
    subst h1
    refine ⟨m, ?_, h2, h3⟩
    show Ta_append_3b _ _ _ _ = _
    unfold Ta_append_3b
    rw [if_pos (show shI 8 < 0 by decide)]
  · rintro n k ⟨x, m⟩ hk ⟨h1, h2, h3⟩
    dsimp only at h1 h2 h3 ⊢
    subst h1
    right
    obtain ⟨m', a1, a2, a3⟩ := apC_step (apN_wf hw k) h2 a hk (Ta_append_3 n)
    exact ⟨(shI (k + 1), m'), ⟨rfl, a2, h3.tr a3⟩, a1⟩
def feS (a b c : Int64) (j : Nat) : Int64 := if j < 8 then a else if j < 16 then b else c
def feN (a b c : Int64) (st : Nat × (Nat → Nat)) : Nat → Nat × (Nat → Nat)
  | 0 => st
  | j + 1 => apS (feN a b c st j) (byI (feS a b c j) (nI (56 - 8 * (j % 8))))
theorem feN_wf {a b c : Int64} {st : Nat × (Nat → Nat)} (h : WfT st.1 st.2) (k : Nat) : WfT (feN a b c st k).1 (feN a b c st k).2 := by
  induction k with
  | zero => exact h
  | succ k ih => exact apS_wf ih _
theorem feN_ap {a b c : Int64} {st : Nat × (Nat → Nat)} : feN a b c st 24 = apN c (apN b (apN a st 8) 8) 8 := by
  have h1 : ∀ k, k ≤ 8 → feN a b c st k = apN a st k := by
    intro k
    induction k with
    | zero => intro _; rfl
    | succ k ih =>
      intro hk
      show apS (feN a b c st k) (byI (feS a b c k) (nI (56 - 8 * (k % 8)))) = apS (apN a st k) (byI a (nI (56 - 8 * k)))
      rw [ih (by omega), show feS a b c k = a from if_pos (by omega), Nat.mod_eq_of_lt (by omega)]
  have h2 : ∀ k, k ≤ 8 → feN a b c st (8 + k) = apN b (apN a st 8) k := by
    intro k
    induction k with
    | zero => intro _; exact h1 8 (by omega)
    | succ k ih =>
      intro hk
      show apS (feN a b c st (8 + k)) (byI (feS a b c (8 + k)) (nI (56 - 8 * ((8 + k) % 8)))) = apS (apN b (apN a st 8) k) (byI b (nI (56 - 8 * k)))
      have e : feS a b c (8 + k) = b := by unfold feS; rw [if_neg (by omega), if_pos (by omega)]
      rw [ih (by omega), e, Nat.add_mod_left, Nat.mod_eq_of_lt (by omega)]
  have h3 : ∀ k, k ≤ 8 → feN a b c st (16 + k) = apN c (apN b (apN a st 8) 8) k := by
    intro k
    induction k with
    | zero => intro _; exact h2 8 (by omega)
    | succ k ih =>
      intro hk
      show apS (feN a b c st (16 + k)) (byI (feS a b c (16 + k)) (nI (56 - 8 * ((16 + k) % 8)))) = apS (apN c (apN b (apN a st 8) 8) k) (byI c (nI (56 - 8 * k)))
      have e : feS a b c (16 + k) = c := by unfold feS; rw [if_neg (by omega), if_neg (by omega)]
      rw [ih (by omega), e, show (16 + k) % 8 = k by omega]
  exact h3 8 (by omega)
theorem shM24 : ∀ j, j < 24 → 56 - (8 * (nI j &&& 7)) = nI (56 - 8 * (j % 8)) := by decide +kernel
def feM (c k : Nat) : Prop := (c = 1 ∧ k = 1) ∨ c = 2
theorem fe39 {m : zM} {st : Nat × (Nat → Nat)} (hw : WfT st.1 st.2) (h : TpM m st.1 st.2) (a b c s0 : Int64) {j : Nat} (hj : j < 24) (zr : Int64 → Int64 → Int64 → Int32 → zM → Option (Int32 × zM)) : ∃ m', Mo_feed_39 zr a b c (nI j) s0 m = zr a b c (nI (j + 1)) m' ∧ TpM m' (apS st (byI s0 (nI (56 - 8 * (j % 8))))).1 (apS st (byI s0 (nI (56 - 8 * (j % 8))))).2 ∧ Fr feM m m' := by
  have h1000 := hw.1
  unfold Mo_feed_39 Mo_feed_93
  rw [zl_e, shM24 j hj, show nI j + 1 = nI (j + 1) from nI_1 j]
  rw [show Int64.toInt32 ((s0.toUInt64 >>> ((Int32.toInt64 (nI (56 - 8 * (j % 8)))).toUInt64 &&& Int64.toUInt64 63)).toInt64 &&& 255) = byI s0 (nI (56 - 8 * (j % 8))) from rfl]
  generalize byI s0 (nI (56 - 8 * (j % 8))) = x
  rw [h.1]
  by_cases hl : st.1 < 1000
  · rw [if_neg (show ¬ (1000 : Int32) ≤ nI st.1 from @nI_ge st.1 1000 hl (by decide)), if_pos (ib_nI hl (by omega)), ix_nI (by omega)]
    have key : okS x = true → ∃ m', (zlet (sI m 2 st.1 x) (fun u1 => zlet (sI u1 1 1 ((gI u1 1 1) + 1)) (fun u2 => zr a b c (nI (j + 1)) u2))) = zr a b c (nI (j + 1)) m' ∧ TpM m' (apS st x).1 (apS st x).2 ∧ Fr feM m m' := by
      intro ok
      obtain ⟨s, q1, rfl⟩ := okS_ok ok
      have e : apS st (nI s) = (st.1 + 1, fun i => if i = st.1 then s else st.2 i) := by
        unfold apS
        rw [ok, decide_eq_true hl, Bool.and_self, if_pos rfl, ix_nI (by omega)]
      rw [e, zl_e, show gI (sI m 2 st.1 (nI s)) 1 1 = nI st.1 from (gs_ne (by omega)).trans h.1, zl_e, show nI st.1 + 1 = nI (st.1 + 1) from nI_1 _]
      refine ⟨_, rfl, ⟨gs_eq ⟨rfl, rfl⟩, fun i hi => ?_⟩, (Fr.sI (A := feM) (Or.inr rfl)).tr (Fr.sI (A := feM) (Or.inl ⟨rfl, rfl⟩))⟩
      show _ = nI (if i = st.1 then s else st.2 i)
      have hi : i < st.1 + 1 := hi
      by_cases ei : i = st.1
      · rw [if_pos ei, gs_ne (by omega), gs_eq ⟨rfl, ei⟩]
      · rw [if_neg ei, gs_ne (by omega), gs_ne (by omega)]
        exact h.2 i (by omega)
    have no : okS x = false → apS st x = st := fun q => by unfold apS; rw [q, Bool.and_false, if_neg (by decide)]
    by_cases q10 : x = 10
    · rw [if_pos q10]
      exact key (by unfold okS; rw [decide_eq_true q10]; rfl)
    · rw [if_neg q10]
      by_cases q32 : x < 32
      · rw [if_pos q32]
        have : okS x = false := by unfold okS; rw [decide_eq_false q10, decide_eq_false (Int32.not_le.mpr q32)]; rfl
        exact ⟨m, rfl, by rw [no this]; exact h, Fr.rf⟩
      · rw [if_neg q32]
        by_cases q126 : 126 < x
        · rw [if_pos q126]
          have : okS x = false := by unfold okS; rw [decide_eq_false q10, decide_eq_false (Int32.not_le.mpr q126), Bool.and_false]; rfl
          exact ⟨m, rfl, by rw [no this]; exact h, Fr.rf⟩
        · rw [if_neg q126]
          exact key (by unfold okS; rw [decide_eq_true (Int32.not_lt.mp q32), decide_eq_true (Int32.not_lt.mp q126), Bool.and_self, Bool.or_true])
  · rw [if_pos (show (1000 : Int32) ≤ nI st.1 from nI_le (a := 1000) (by omega) (by omega))]
    have e : apS st x = st := by unfold apS; rw [decide_eq_false hl, Bool.false_and, if_neg (by decide)]
    rw [e]
    exact ⟨m, rfl, h, Fr.rf⟩
theorem feedM {v : zM} {st : Nat × (Nat → Nat)} (hw : WfT st.1 st.2) (h : TpM v st.1 st.2) (a b c : Int64) : ∃ v', Mo_feed_8 zF a b c 0 v = some (nI (feN a b c st 24).1, v') ∧ TpM v' (feN a b c st 24).1 (feN a b c st 24).2 ∧ Fr feM v v' := by
  refine lprz (fun n (s : Int32 × zM) => Mo_feed_8 n a b c s.1 s.2) (fun k s => s.1 = nI k ∧ TpM s.2 (feN a b c st k).1 (feN a b c st k).2 ∧ Fr feM v s.2) (fun r => ∃ v', r = some (nI (feN a b c st 24).1, v') ∧ TpM v' (feN a b c st 24).1 (feN a b c st 24).2 ∧ Fr feM v v') 24 (nI 0, v) (by omega) ⟨rfl, h, Fr.rf⟩ ?_ ?_
  · rintro n ⟨x, m⟩ ⟨h1, h2, h3⟩
    dsimp only at h1 h2 h3 ⊢
    subst h1
    refine ⟨m, ?_, h2, h3⟩
    show Mo_feed_8b _ _ _ _ _ _ = _
    unfold Mo_feed_8b
    rw [if_pos (show (24 : Int32) ≤ nI 24 by decide), h2.1]
  · rintro n k ⟨x, m⟩ hk ⟨h1, h2, h3⟩
    dsimp only at h1 h2 h3 ⊢
    subst h1
    right
    obtain ⟨m', a1, a2, a3⟩ := fe39 (feN_wf hw k) h2 a b c (feS a b c k) hk (Mo_feed_8 n)
    refine ⟨(nI (k + 1), m'), ⟨rfl, a2, h3.tr a3⟩, ?_⟩
    show Mo_feed_8b _ _ _ _ _ _ = _
    rw [← a1]
    unfold Mo_feed_8b feS
    rw [if_neg (show ¬ (24 : Int32) ≤ nI k from @nI_ge k 24 hk (by decide))]
    by_cases q8 : k < 8
    · rw [if_neg (show ¬ (8 : Int32) ≤ nI k from @nI_ge k 8 q8 (by decide)), if_pos q8]
    · rw [if_pos (show (8 : Int32) ≤ nI k from nI_le (a := 8) (by omega) (by omega)), if_neg q8]
      by_cases q16 : k < 16
      · rw [if_neg (show ¬ (16 : Int32) ≤ nI k from @nI_ge k 16 q16 (by decide)), if_pos q16]
      · rw [if_pos (show (16 : Int32) ≤ nI k from nI_le (a := 16) (by omega) (by omega)), if_neg q16]
theorem InvR.tape {n : Nat} {u u' v v' : zM} {t l : Nat} {N : Nat → Nat} {K : Nat → Nat → Nat} {E : Int32 → Int32 → Int32 → Int32 → Int32} {S : Nat → Nat} (h : InvR n u v t l N K E S) (hu : Fr (fun c _ => c = 2 ∨ c = 3) u u') (hv : Fr (fun c k => (c = 1 ∧ k ≠ 56) ∨ c = 2) v v') (htp : TapI u' v') : InvR (n + 1) u' v' t l N K E S := by
  have h1 := h
  obtain ⟨a1, a2, a3, a4, a5, a6, a7, a8, a9, b1, b2, b3⟩ := h
  have ht := a3.2.1
  have hl := a5.2.2.1
  exact InvR.re h1 (hu.mono (fun c k h => by unfold reC; omega)) (hv.mono (fun c k h => by unfold reM; omega)) a1 (by omega) (a3.2.2.2.2.fr a1.1 (fun j k _ _ _ => hu.i (by omega))) (a4.2.2.fr a1.1 (fun k hk => hv.i (by omega))) (a6.fr (hu.i (by omega)) (fun j k _ _ _ => hu.i (by omega)) (hv.i (by omega)) (fun c k _ _ _ => hv.i (by omega))) (a7.fr (hu.i (by omega)) (fun j k _ _ _ _ => hu.i (by omega)) (hv.i (by omega)) (fun c k _ _ _ _ => hv.i (by omega))) (a8.fr (by omega) (fun k _ _ => hu.i (by omega)) (fun c k _ _ => hu.i (by omega)) (hv.i (by omega)) (fun k => hv.i (by omega))) (a9.fr (by omega) (fun c k _ => hu.i (by omega)) (fun c k _ => hv.i (by omega))) (b1.fr (fun _ _ => rfl) (hu.i (by omega)) (fun c k _ _ => hu.i (by omega))) htp
theorem c_feed {n : Nat} {u v : zM} (h : Inv n u v) (hn : n < 600) (a b c : Int64) : ∃ r u' v', OW_feed a b c u = some (r, u') ∧ Mo_feed a b c v = some (r, v') ∧ Inv (n + 1) u' v' := by
  obtain ⟨h6, t, l, N, K, E, S, h0⟩ := h
  have h := h0.th
  unfold Mo_feed OW_feed
  rw [zl_e]
  generalize sI v 1 0 0 = v at *
  obtain ⟨q, T, w1, w2, w3⟩ := h.2.2.2.2.2.2.2.2.2.2.1.two
  obtain ⟨u1, a1, a2, a3⟩ := apC (st := (q, T)) w1 w2 a
  obtain ⟨u2, b1, b2, b3⟩ := apC (apN_wf (st := (q, T)) w1 8) a2 b
  obtain ⟨u3, c1, c2, c3⟩ := apC (apN_wf (apN_wf (st := (q, T)) w1 8) 8) b2 c
  obtain ⟨v', d1, d2, d3⟩ := feedM (st := (q, T)) w1 w3 a b c
  rw [feN_ap] at d1 d2
  have htp := TapI.of (apN_wf (a := c) (apN_wf (a := b) (apN_wf (a := a) (st := (q, T)) w1 8) 8) 8) c2 d2
  refine ⟨_, u3, v', ?_, d1, by omega, t, l, N, K, E, S, h.tape (((a3.tr b3).tr c3).mono (fun c k h => by omega)) (d3.mono (fun c k h => by unfold feM at h; omega)) htp⟩
  rw [zb_eq a1, zb_eq b1, zb_eq c1, c2.1]
