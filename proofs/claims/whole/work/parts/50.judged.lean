/-! ===== judged ===== -/
theorem cnt_s (P : Nat → Bool) (n : Nat) : cnt P (n + 1) = if P n then cnt P n + 1 else cnt P n := rfl
theorem cnt_congr {P Q : Nat → Bool} : ∀ n, (∀ k, k < n → P k = Q k) → cnt P n = cnt Q n := by
  intro n
  induction n with
  | zero => intro _; rfl
  | succ n ih =>
    intro h
    rw [cnt_s, cnt_s, ih (fun k hk => h k (by omega)), h n (by omega)]
theorem cnt_up {P Q : Nat → Bool} {b : Nat} (hP : P b = false) (hQ : Q b = true) (h : ∀ k, k ≠ b → P k = Q k) : ∀ n, b < n → cnt Q n = cnt P n + 1 := by
  intro n
  induction n with
  | zero => intro h; omega
  | succ n ih =>
    intro hb
    rw [cnt_s, cnt_s]
    by_cases hn : b = n
    · subst hn
      rw [hP, hQ, if_pos rfl, if_neg (by decide), cnt_congr b (fun k hk => h k (by omega))]
    · rw [ih (by omega), h n (by omega)]
      split <;> rfl
/-- how many writs are served -/
def sv3 (N S : Nat → Nat) : Nat := cnt (fun w => decide (S (19 + w) = 3)) (N 4)
theorem sv3_le (N S : Nat → Nat) : sv3 N S ≤ N 4 := cnt_le _ _
theorem wriS_3 {N S : Nat → Nat} (hN : WfN N) : pop (wriS N S 3) = sv3 N S := pop_mk _ (by have := hN.2.2.2.2.1; omega)
theorem sv3_beg {N : Nat → Nat} {K : Nat → Nat → Nat} : sv3 N (begS K) = 0 := by
  unfold sv3
  have : ∀ n, cnt (fun w => decide (begS K (19 + w) = 3)) n = 0 := by
    intro n
    induction n with
    | zero => rfl
    | succ n ih => rw [cnt_s, ih, begS_h]; rfl
  exact this _
theorem nextS_19 {E : Int32 → Int32 → Int32 → Int32 → Int32} {N S : Nat → Nat} {K : Nat → Nat → Nat} (hN : WfN N) (f : Nat) {i : Nat} (h : 19 ≤ i) : nextS E N K f S i = S i := by
  obtain ⟨n0, n1, n2, n3, n4, n5⟩ := hN
  unfold nextS
  rw [upN_ne (by omega)]
  unfold rS
  rw [if_neg (by omega)]
  unfold gS
  rw [if_neg (by omega)]
  unfold wS
  rw [if_neg (by omega)]
theorem sv3_next {E : Int32 → Int32 → Int32 → Int32 → Int32} {N S : Nat → Nat} {K : Nat → Nat → Nat} (hN : WfN N) (f : Nat) : sv3 N (nextS E N K f S) = sv3 N S := cnt_congr _ (fun k _ => by rw [nextS_19 hN f (by omega)])
theorem sv3_ln {N S : Nat → Nat} {K : Nat → Nat → Nat} {W A B : Nat} (hW : Wf N K S) (h1 : W = 1 → A < N 3 ∧ B < N 4) (h2 : W = 2 → A < N 3 ∧ B < N 0) (h3 : W = 3 → B < N 4) : sv3 N (lnS N K S W A B) = sv3 N S + (lnB N K S W A B && decide (W = 3)).toNat := by
  have n3 := hW.1.2.2.2.1
  cases hb : lnB N K S W A B
  · rw [lnS_f hb]
    rfl
  · by_cases w1 : W = 1
    · subst w1
      have hb : tkB N S A B = true := hb
      rw [lnS_1 hb]
      have q := (h1 rfl).1
      unfold tkB at hb
      rw [decide_eq_true_eq] at hb
      refine cnt_congr _ (fun k hk => ?_)
      by_cases e : 19 + k = 19 + B
      · rw [e, upN_eq, hb.2.1]
        apply decide_eq_decide.mpr
        omega
      · rw [upN_ne e]
    · by_cases w2 : W = 2
      · subst w2
        rw [lnS_2 hb]
        have q := (h2 rfl).1
        refine cnt_congr _ (fun k hk => ?_)
        rw [upN_ne (by omega), upN_ne (by omega)]
      · by_cases w3 : W = 3
        · subst w3
          have hb : svB N K S B = true := hb
          rw [lnS_3 hb]
          unfold svB at hb
          rw [Bool.and_eq_true, decide_eq_true_eq] at hb
          refine cnt_up (b := B) (decide_eq_false (by omega)) (decide_eq_true upN_eq) (fun k hk => ?_) _ (h3 rfl)
          rw [upN_ne (by omega)]
        · have : lnS N K S W A B = S := by unfold lnS; rw [if_neg (by rw [hb]; decide), if_neg w1, if_neg w2, if_neg w3]
          rw [this, decide_eq_false w3]
          rfl
/-- a line's state -/
def jn (E : Int32 → Int32 → Int32 → Int32 → Int32) (N : Nat → Nat) (K : Nat → Nat → Nat) (W A B : Nat) (S : Nat → Nat) : Nat → Nat := if W = 0 then nextS E N K (rainS N K (S 0)) S else lnS N K S W A B
def jS (E : Int32 → Int32 → Int32 → Int32 → Int32) (N : Nat → Nat) (K : Nat → Nat → Nat) (W A B : Nat → Nat) : Nat → Nat → Nat
  | 0 => begS K
  | k + 1 => jn E N K (W k) (A k) (B k) (jS E N K W A B k)
theorem jn_wf {E : Int32 → Int32 → Int32 → Int32 → Int32} {N S : Nat → Nat} {K : Nat → Nat → Nat} {W A B : Nat} (hW : Wf N K S) (hd : S 0 + 1 < 2 ^ 20) (h1 : W = 1 → A < N 3 ∧ B < N 4) (h2 : W = 2 → A < N 3 ∧ B < N 0) : Wf N K (jn E N K W A B S) ∧ jn E N K W A B S 0 ≤ S 0 + 1 := by
  unfold jn
  split
  · exact ⟨nextS_wf hW _ hd, by rw [nextS_0]; omega⟩
  · exact ⟨lnS_wf hW h1 h2, by rw [lnS_day]; omega⟩
theorem jS_wf {E : Int32 → Int32 → Int32 → Int32 → Int32} {N : Nat → Nat} {K : Nat → Nat → Nat} {c : Nat} {W A B : Nat → Nat} (hN : WfN N) (hK : WfK N K) (hw : WfL N c W A B) : ∀ k, k ≤ c → Wf N K (jS E N K W A B k) ∧ jS E N K W A B k 0 ≤ k := by
  intro k
  induction k with
  | zero => intro _; exact ⟨begS_wf hN hK, by show begS K 0 ≤ 0; rw [begS_0]; omega⟩
  | succ k ih =>
    intro hk
    obtain ⟨i1, i2⟩ := ih (by omega)
    obtain ⟨q1, q2, q3, q4⟩ := hw.2 k (by omega)
    have hc := hw.1
    obtain ⟨j1, j2⟩ := jn_wf (E := E) i1 (by omega) q2 q3
    exact ⟨j1, by show jn E N K _ _ _ _ 0 ≤ _; omega⟩
def jB (E : Int32 → Int32 → Int32 → Int32 → Int32) (N : Nat → Nat) (K : Nat → Nat → Nat) (W A B : Nat → Nat) (k : Nat) : Bool := lnB N K (jS E N K W A B k) (W k) (A k) (B k)
def rfN (b : Bool) (x : Int32) (i : Nat) : Int32 := if b = false ∧ x = mI then nI i else x
def sfN (b : Bool) (W : Nat) (y : Int32) (i : Nat) : Int32 := if b = true ∧ W = 3 ∧ y = mI then nI i else y
def jR (b : Nat → Bool) (W : Nat → Nat) : Nat → Int32 × Int32
  | 0 => (mI, mI)
  | k + 1 => (rfN (b k) (jR b W k).1 k, sfN (b k) (W k) (jR b W k).2 k)
theorem rfN_ok {b : Bool} {x : Int32} {i : Nat} (h : x = mI ∨ ∃ j, j < 40 ∧ x = nI j) (hi : i < 40) : rfN b x i = mI ∨ ∃ j, j < 40 ∧ rfN b x i = nI j := by
  unfold rfN
  split
  · exact Or.inr ⟨i, hi, rfl⟩
  · exact h
theorem sfN_ok {b : Bool} {W : Nat} {x : Int32} {i : Nat} (h : x = mI ∨ ∃ j, j < 40 ∧ x = nI j) (hi : i < 40) : sfN b W x i = mI ∨ ∃ j, j < 40 ∧ sfN b W x i = nI j := by
  unfold sfN
  split
  · exact Or.inr ⟨i, hi, rfl⟩
  · exact h
theorem jR_ok (b : Nat → Bool) (W : Nat → Nat) : ∀ k, k ≤ 40 → ((jR b W k).1 = mI ∨ ∃ j, j < 40 ∧ (jR b W k).1 = nI j) ∧ ((jR b W k).2 = mI ∨ ∃ j, j < 40 ∧ (jR b W k).2 = nI j) := by
  intro k
  induction k with
  | zero => intro _; exact ⟨Or.inl rfl, Or.inl rfl⟩
  | succ k ih =>
    intro hk
    obtain ⟨i1, i2⟩ := ih (by omega)
    exact ⟨rfN_ok i1 (by omega), sfN_ok i2 (by omega)⟩
theorem ge0_mI {x : Int32} (h : x = mI ∨ ∃ j, j < 40 ∧ x = nI j) : (0 ≤ x) ↔ ¬ x = mI := by
  rcases h with rfl | ⟨j, hj, rfl⟩
  · exact ⟨fun q => absurd q (by decide), fun q => absurd rfl q⟩
  · exact ⟨fun _ => mI_ne (by omega), fun _ => nI_le (Nat.zero_le _) (by omega)⟩
theorem rfN_t {x : Int32} {i : Nat} : rfN true x i = x := if_neg (fun h => absurd h.1 (by decide))
theorem rfN_m {i : Nat} : rfN false mI i = nI i := if_pos ⟨rfl, rfl⟩
theorem rfN_n {b : Bool} {x : Int32} {i : Nat} (h : ¬ x = mI) : rfN b x i = x := if_neg (fun q => h q.2)
theorem sfN_f {W : Nat} {x : Int32} {i : Nat} : sfN false W x i = x := if_neg (fun h => absurd h.1 (by decide))
theorem sfN_m {i : Nat} : sfN true 3 mI i = nI i := if_pos ⟨rfl, rfl, rfl⟩
theorem sfN_n {b : Bool} {W : Nat} {x : Int32} {i : Nat} (h : ¬ x = mI) : sfN b W x i = x := if_neg (fun q => h q.2.2)
theorem sfN_ne {b : Bool} {W : Nat} {x : Int32} {i : Nat} (h : W ≠ 3) : sfN b W x i = x := if_neg (fun q => h q.2.1)
theorem jud101 {m : zM} {l W i s : Nat} {b : Bool} (hl : gR m 1 3 = l) (ll : layC l = (16, 4)) (hi : i < 40) (h3 : W ≤ 3) (e0 : gI m (l + 1) i = nI W) (x1 x2 x3 : Int32) (zr : Int32 → Int32 → Int32 → Int32 → Int32 → zM → Option (Int32 × zM)) : OW_judged_101 zr x1 x2 x3 (nI s) (nI i) (bI b) m = zr x1 x2 (sfN b W x3 i) (nI (s + (b && decide (W = 3)).toNat)) (nI (i + 1)) m := by
  have hI : ib (nI i) 40 = true := ib_nI (by omega) (by omega)
  have g3 : (nI W = (3 : Int32)) ↔ W = 3 := nI_eq (b := 3) (by omega) (by omega)
  have g4 : nI i + 1 = nI (i + 1) := nI_1 i
  have g5 : nI s + 1 = nI (s + 1) := nI_1 s
  have g6 : (-1 : Int32) = mI := rfl
  unfold OW_judged_101
  rw [hl, g4, g5, g6]
  cases b
  · rw [if_pos (show bI false = (0 : Int32) from rfl), sfN_f]
    rfl
  · rw [if_neg bIt_ne, if_pos ll, if_pos hI, ix_nI (by omega), e0]
    by_cases q : W = 3
    · subst q
      rw [if_pos (show nI 3 = (3 : Int32) from rfl)]
      by_cases q2 : x3 = mI
      · subst q2
        rw [if_pos rfl, sfN_m]
        rfl
      · rw [if_neg q2, sfN_n q2]
        rfl
    · rw [if_neg (fun h => q (g3.mp h)), sfN_ne q, decide_eq_false q]
      rfl
/-- the class: one line -/
theorem judC_line {m : zM} {t : Nat} {N S : Nat → Nat} {K : Nat → Nat → Nat} {E : Int32 → Int32 → Int32 → Int32 → Int32} (hW : Wf N K S) (hu : NowC m t N K E 60 S) {l W A B i : Nat} (h3 : W ≤ 3) (h1 : W = 1 → A < N 3 ∧ B < N 4) (h2 : W = 2 → A < N 3 ∧ B < N 0) (h4 : W = 3 → B < N 4) (e0 : gI m (l + 1) i = nI W) (e1 : (W = 1 ∨ W = 2) → gI m (l + 2) i = nI A ∧ gI m (l + 3) i = nI B) (e2 : W = 3 → gI m (l + 2) i = nI B) : ∃ m', St_doLine 60 t (gI m (l + 1) i) (gI m (l + 2) i) (gI m (l + 3) i) m = some (bI (lnB N K S W A B), m') ∧ NowC m' t N K E 60 (jn E N K W A B S) ∧ Fr (stepA 60 t) m m' := by
  rw [e0]
  have h5 : W = 0 ∨ W = 1 ∨ W = 2 ∨ W = 3 := by omega
  rcases h5 with rfl | rfl | rfl | rfl
  · exact ln0C hW hu StA60 (by omega) _ _
  · rw [(e1 (Or.inl rfl)).1, (e1 (Or.inl rfl)).2]
    exact ln1C hW hu StA60 (by omega) (h1 rfl).1 (h1 rfl).2
  · rw [(e1 (Or.inr rfl)).1, (e1 (Or.inr rfl)).2]
    exact ln2C hW hu StA60 (by omega) (h2 rfl).1 (h2 rfl).2
  · rw [e2 rfl]
    exact ln3C hW hu StA60 (by omega) A (h4 rfl) _
theorem judC_step {m : zM} {t : Nat} {N S : Nat → Nat} {K : Nat → Nat → Nat} {E : Int32 → Int32 → Int32 → Int32 → Int32} (hW : Wf N K S) (hu : NowC m t N K E 60 S) {l W A B i c s : Nat} (hl : gR m 1 3 = l) (hll : l = 46 ∨ l = 50) (hc : gI m l 3 = nI c) (hi : i < c) (hc4 : c ≤ 40) (h3 : W ≤ 3) (h1 : W = 1 → A < N 3 ∧ B < N 4) (h2 : W = 2 → A < N 3 ∧ B < N 0) (h4 : W = 3 → B < N 4) (e0 : gI m (l + 1) i = nI W) (e1 : (W = 1 ∨ W = 2) → gI m (l + 2) i = nI A ∧ gI m (l + 3) i = nI B) (e2 : W = 3 → gI m (l + 2) i = nI B) (x1 x2 x3 : Int32) (zr : Int32 → Int32 → Int32 → Int32 → Int32 → zM → Option (Int32 × zM)) : ∃ m', OW_judged_33b zr x1 x2 x3 (nI s) (nI i) m = zr x1 (rfN (lnB N K S W A B) x2 i) (sfN (lnB N K S W A B) W x3 i) (nI (s + (lnB N K S W A B && decide (W = 3)).toNat)) (nI (i + 1)) m' ∧ NowC m' t N K E 60 (jn E N K W A B S) ∧ Fr (stepA 60 t) m m' := by
  obtain ⟨m', f1, f2, f3⟩ := judC_line hW hu h3 h1 h2 h4 e0 e1 e2
  refine ⟨m', ?_, f2, f3⟩
  have ll : layC l = (16, 4) := by rcases hll with h | h <;> subst h <;> rfl
  have lt := layT hu.2.1
  have ht := hu.2.1
  have rt := hu.1
  have r1 : gR m' 1 3 = l := (f3.r _ _).trans hl
  have g1 : gI m' (l + 1) i = nI W := (f3.i (by unfold stepA; omega)).trans e0
  have hI : ib (nI i) 40 = true := ib_nI (by omega) (by omega)
  unfold OW_judged_33b
  rw [hl, if_pos ll, hc, if_neg (nI_ge hi (by omega)), rt, if_pos lt, if_pos ll, if_pos hI, if_pos ll, if_pos hI, if_pos ll, if_pos hI, ix_nI (by omega), zb_eq f1]
  have g6 : (-1 : Int32) = mI := rfl
  rw [jud101 r1 ll (by omega) h3 g1, jud101 r1 ll (by omega) h3 g1, g6]
  cases lnB N K S W A B
  · rw [if_pos (show bI false = (0 : Int32) from rfl)]
    by_cases q : x2 = mI
    · subst q
      rw [if_pos rfl, rfN_m]
    · rw [if_neg q, rfN_n q]
  · rw [if_neg bIt_ne, rfN_t]
theorem judC {u : zM} {t l : Nat} {N S : Nat → Nat} {K : Nat → Nat → Nat} {E : Int32 → Int32 → Int32 → Int32 → Int32} (hW : Wf N K S) (hu : NowC u t N K E 54 S) (hr : RefI u t l) {c : Nat} {W A B : Nat → Nat} (hw : WfL N c W A B) (hc : LiC u l c W A B) {w : Nat} (hw2 : w ≤ 2) : ∃ u', OW_judged (nI w) u = some (if w = 0 then (jR (jB E N K W A B) W c).1 else if w = 1 then (jR (jB E N K W A B) W c).2 else nI (sv3 N (jS E N K W A B c)), u') ∧ Fr (scrC t) u u' := by
  have rt := hu.1
  have ht := hu.2.1
  have lt := layT ht
  have hll := hr.2.2.1
  have ll : layC l = (16, 4) := by rcases hll with h | h <;> subst h <;> rfl
  obtain ⟨u2, e1, s1, f1⟩ := St_begin_eq hW.1 ht hu.2.2.1 StA60 (by omega)
  have hu2 : NowC u2 t N K E 60 (begS K) := hu.st (fun c k h1 h2 h3 => f1.i (by omega)) f1.2 s1
  have key := lprz (fun n (s : Int32 × Int32 × Int32 × Int32 × zM) => OW_judged_33 n (nI w) s.1 s.2.1 s.2.2.1 s.2.2.2.1 s.2.2.2.2) (fun k s => s.1 = (jR (jB E N K W A B) W k).1 ∧ s.2.1 = (jR (jB E N K W A B) W k).2 ∧ s.2.2.1 = nI (sv3 N (jS E N K W A B k)) ∧ s.2.2.2.1 = nI k ∧ NowC s.2.2.2.2 t N K E 60 (jS E N K W A B k) ∧ Fr (stepA 60 t) u2 s.2.2.2.2) (fun r => ∃ u', r = some (if w = 0 then (jR (jB E N K W A B) W c).1 else if w = 1 then (jR (jB E N K W A B) W c).2 else nI (sv3 N (jS E N K W A B c)), u') ∧ Fr (stepA 60 t) u2 u') c (mI, mI, nI 0, nI 0, u2) (by have := hw.1; omega) ⟨rfl, rfl, by rw [show jS E N K W A B 0 = begS K from rfl, sv3_beg], rfl, hu2, Fr.rf⟩ ?_ ?_
  · obtain ⟨u', k1, k2⟩ := key
    refine ⟨u', ?_, (f1.mono (fun c k h => by unfold scrC; omega)).tr (k2.mono (fun c k h => by unfold stepA at h; unfold scrC; omega))⟩
    unfold OW_judged
    rw [zb_eq (show OW_within (nI w) 0 2 u = some (nI 1, u) from OW_within_ok (n := 0) (m := 2) (by omega) (by omega) (by omega)), if_neg one_ne, rt, if_pos lt, zb_eq e1]
    exact k1
  · rintro n ⟨x1, x2, x3, x4, m⟩ ⟨h1, h2, h3, h4, h5, h6⟩
    dsimp only at h1 h2 h3 h4 h5 h6 ⊢
    subst h1 h2 h3 h4
    refine ⟨m, ?_, h6⟩
    show OW_judged_33b _ _ _ _ _ _ _ = _
    have r1 : gR m 1 3 = l := (h6.r _ _).trans ((f1.r _ _).trans hr.2.1)
    have g1 : gI m l 3 = nI c := (h6.i (by unfold stepA; omega)).trans ((f1.i (by omega)).trans hc.1)
    have hc4 := hw.1
    unfold OW_judged_33b
    rw [r1, if_pos ll, g1, if_pos (nI_le (Nat.le_refl _) (by omega))]
    have q : w = 0 ∨ w = 1 ∨ w = 2 := by omega
    rcases q with rfl | rfl | rfl <;> rfl
  · rintro n k ⟨x1, x2, x3, x4, m⟩ hk ⟨h1, h2, h3, h4, h5, h6⟩
    dsimp only at h1 h2 h3 h4 h5 h6 ⊢
    subst h1 h2 h3 h4
    have r1 : gR m 1 3 = l := (h6.r _ _).trans ((f1.r _ _).trans hr.2.1)
    have fr : ∀ j i, j ≤ 3 → gI m (l + j) i = gI u (l + j) i := fun j i hj => (h6.i (by unfold stepA; omega)).trans (f1.i (by omega))
    obtain ⟨q1, q2, q3, q4⟩ := hw.2 k hk
    obtain ⟨p1, p2, p3⟩ := hc.2 k hk
    have hwf := (jS_wf (E := E) hW.1 hW.2.1 hw k (by omega)).1
    obtain ⟨m', s1, s2, s3⟩ := judC_step hwf h5 (s := sv3 N (jS E N K W A B k)) (A := A k) (B := B k) r1 hll ((fr 0 3 (by omega)).trans hc.1) hk hw.1 q1 q2 q3 q4 ((fr 1 k (by omega)).trans p1) (fun q => ⟨(fr 2 k (by omega)).trans (p2 q).1, (fr 3 k (by omega)).trans (p2 q).2⟩) (fun q => (fr 2 k (by omega)).trans (p3 q)) (nI w) (jR (jB E N K W A B) W k).1 (jR (jB E N K W A B) W k).2 (OW_judged_33 n)
    right
    refine ⟨(_, _, _, _, m'), ⟨rfl, rfl, ?_, rfl, s2, h6.tr s3⟩, s1⟩
    show nI _ = nI (sv3 N (jn E N K (W k) (A k) (B k) (jS E N K W A B k)))
    congr 1
    unfold jn
    by_cases z : W k = 0
    · rw [if_pos z, sv3_next hW.1, decide_eq_false (by omega), Bool.and_false]
      rfl
    · rw [if_neg z, sv3_ln hwf q2 q3 q4]
