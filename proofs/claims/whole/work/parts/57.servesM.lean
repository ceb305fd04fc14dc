/-! ===== serves: the reference; intime ===== -/
theorem servesM_lp {v m0 : zM} {N S : Nat → Nat} {K : Nat → Nat → Nat} {E : Int32 → Int32 → Int32 → Int32 → Int32} (hW : Wf N K S) (hS : S 0 ≤ 600) (h : GoM v m0 N K E S 0) (T : Bool) {o w b l : Nat} (ho : o < N 3) (hw : w < N 4) (hb : b < 128) (hl : l < 128) (h58 : gI m0 1 58 = nI b) (h59 : gI m0 1 59 = nI l) : ∃ v', Mo_servesIn_111 zF (nI o) (bI T) (nI (K 3 w)) (-1) 0 m0 = some (fst1 (dsP T E N K S w o b l) 61 0, v') ∧ (∀ k, k < 25 → gI v' 40 k = gI v 40 k) ∧ Fr goA v v' := by
  obtain ⟨n0, n1, n2, n3, n4, n5⟩ := hW.1
  have lk0 := NowM.lk (itS_wf (E := E) hW 0 (by omega)) h.1
  have hL : ∀ p, p < N 0 → K 0 p < 128 := fun p hp => (lk0.2.2 p hp).2
  have hq := (hW.2.1.2.2.2.1 w hw).1
  have hk3 := (hW.2.1.2.1 (K 3 w) hq).1
  have hlt := fun d => prD_lt (T := T) (E := E) (S := S) (o := o) hL hb hl d
  refine lprz (fun n (s : Int32 × Int32 × zM) => Mo_servesIn_111 n (nI o) (bI T) (nI (K 3 w)) s.1 s.2.1 s.2.2) (fun k s => s.2.1 = nI k ∧ GoM v s.2.2 N K E S k ∧ gI s.2.2 1 58 = nI (prD T E N K S o b l k).1 ∧ gI s.2.2 1 59 = nI (prD T E N K S o b l k).2 ∧ ((s.1 = mI ∧ fst1 (dsP T E N K S w o b l) 61 0 = fst1 (dsP T E N K S w o b l) (61 - k) k) ∨ (∃ j, j ≤ 60 ∧ s.1 = nI j ∧ fst1 (dsP T E N K S w o b l) 61 0 = nI j))) (fun r => ∃ v', r = some (fst1 (dsP T E N K S w o b l) 61 0, v') ∧ (∀ k, k < 25 → gI v' 40 k = gI v 40 k) ∧ Fr goA v v') 61 (mI, nI 0, m0) (by omega) ⟨rfl, h, h58, h59, Or.inl ⟨rfl, rfl⟩⟩ ?_ ?_
  · rintro n ⟨x, y, m⟩ ⟨h1, h2, h3, h4, h5⟩
    dsimp only at h1 h2 h3 h4 h5 ⊢
    subst h1
    obtain ⟨v', b1, b2, b3⟩ := go_back h2
    refine ⟨v', ?_, b2, b3⟩
    show Mo_servesIn_111b _ _ _ _ _ _ _ = _
    unfold Mo_servesIn_111b
    rw [if_pos (show (60 : Int32) < nI 61 by decide), zb_eq (show Mo_copies 42 0 40 0 m = _ from b1)]
    rcases h5 with ⟨h5, h6⟩ | ⟨j, _, h5, h6⟩
    · rw [h5, h6]; rfl
    · rw [h5, h6]
  · rintro n k ⟨x, y, m⟩ hk ⟨h1, h2, h3, h4, h5⟩
    dsimp only at h1 h2 h3 h4 h5 ⊢
    subst h1
    rcases h5 with ⟨h5, h6⟩ | ⟨j, hj, h5, h6⟩
    · right
      subst h5
      have hwk := itS_wf (E := E) hW k (by omega)
      obtain ⟨b1, b2⟩ := hlt k
      have hsw := swD_lt hW ho k
      have q1 := (hW.2.1.2.2.1 o ho).2.1
      have q2 := (hwk.2.2.2.2.2.1 o ho).2
      have hpl := hwk.2.2.2.2.1 (K 3 w) hq
      have hsrv := hwk.2.2.2.1 (itS E N K S k (8 + K 3 w)) hpl
      obtain ⟨m1, s1, s2, s3, s4⟩ := Mo_swimsAll_eq hwk h2.1 b1 b2 h3 h4 hsw T
      have g1 := h2.fr1 hW.1 s4
      obtain ⟨m2, p1, p2, p3⟩ := go_step58 hW (by omega) g1
      rw [← prD_s] at s2 s3
      have c13 : gI m 13 o = nI (K 2 o) := (h2.1.1.2.2.2.1 o ho).1
      have c16 : gI m 40 (16 + o) = nI (itS E N K S k (16 + o)) := by have := (h2.1.2.2.2.2.2.1 o ho).2; rwa [Nat.zero_add] at this
      have eM : Jm_max 0 (nI (K 2 o) - nI (itS E N K S k (16 + o))) m = some (nI (swD K S o k), m) := by
        rw [swMax (by omega) (by omega), itS_sw (by omega)]
        rfl
      have e16 : (16 : Int32) + nI o = nI (16 + o) := nI_add 16 o
      have e8 : (8 : Int32) + nI (K 3 w) = nI (8 + K 3 w) := nI_add 8 _
      have c8 : gI m1 40 (8 + K 3 w) = nI (itS E N K S k (8 + K 3 w)) := by have := g1.1.2.2.2.2.1 (K 3 w) hq; rwa [Nat.zero_add] at this
      have cw1 : gI m1 40 (1 + itS E N K S k (8 + K 3 w)) = nI (itS E N K S k (1 + itS E N K S k (8 + K 3 w))) := by have := g1.1.2.2.2.1 _ hpl; rwa [Nat.zero_add] at this
      have e1' : (1 : Int32) + nI (itS E N K S k (8 + K 3 w)) = nI (1 + itS E N K S k (8 + K 3 w)) := nI_add 1 _
      have eS := Mo_isServed_eq hwk g1.1 hq hsrv
      have n1 : nI k + 1 = nI (k + 1) := nI_1 k
      have hb2 := hlt (k + 1)
      have eB : (gI m1 1 59 >>> (nI (itS E N K S k (8 + K 3 w)) &&& 31)) &&& 1 = nI ((prD T E N K S o b l (k + 1)).2.testBit (itS E N K S k (8 + K 3 w))).toNat := by
        rw [s3]
        exact bn_bit (by omega) (by omega)
      have e1 : fst1 (dsP T E N K S w o b l) (61 - k) k = if dsP T E N K S w o b l k then nI k else fst1 (dsP T E N K S w o b l) (61 - (k + 1)) (k + 1) := by
        rw [show 61 - k = (61 - (k + 1)) + 1 by omega]
        exact fst1_s _ _ _
      refine ⟨(if dsP T E N K S w o b l k = true then nI k else mI, nI (k + 1), m2), ⟨rfl, p2, (p3 _).trans s2, (p3 _).trans s3, ?_⟩, ?_⟩
      · rw [h6, e1]
        cases dsP T E N K S w o b l k
        · left; exact ⟨by rw [if_neg (by decide)], by rw [if_neg (by decide)]⟩
        · right; exact ⟨k, by omega, by rw [if_pos rfl], by rw [if_pos rfl]⟩
      · show Mo_servesIn_111b _ _ _ _ _ _ _ = Mo_servesIn_111 _ _ _ _ _ _ _
        unfold Mo_servesIn_111b
        rw [if_neg (show ¬ (60 : Int32) < nI k from nI_nlt (a := 60) (b := k) (by omega) (by omega)), if_neg (show ¬ (0 : Int32) ≤ mI by decide), if_pos (ib_nI (by omega) (by omega)), e16, if_pos (ib_nI (by omega) (by omega)), ix_nI (by omega), ix_nI (by omega), c13, c16, zb_eq eM, zb_eq s1, e8, if_pos (ib_nI (by omega) (by omega)), ix_nI (by omega), c8, eB, if_pos (ib_nI (by omega) (by omega)), e1', if_pos (ib_nI (by omega) (by omega)), ix_nI (by omega), cw1, zb_eq eS, zb_eq p1, zb_eq p1, n1]
        unfold dsP
        cases (prD T E N K S o b l (k + 1)).2.testBit (itS E N K S k (8 + K 3 w))
        · rw [if_neg (show ¬ nI false.toNat = (1 : Int32) by decide), Bool.false_and, if_neg (show ¬ false = true by decide)]
        · rw [if_pos (show nI true.toNat = (1 : Int32) from rfl), Bool.true_and]
          cases srv (K 1 (K 3 w)) (itS E N K S k (1 + itS E N K S k (8 + K 3 w)))
          · rw [if_pos (show bI false = (0 : Int32) from rfl), if_neg (show ¬ false = true by decide)]
          · rw [if_neg bIt_ne, if_pos rfl]
    · left
      obtain ⟨v', b1, b2, b3⟩ := go_back h2
      refine ⟨v', ?_, b2, b3⟩
      show Mo_servesIn_111b _ _ _ _ _ _ _ = _
      unfold Mo_servesIn_111b
      rw [if_neg (show ¬ (60 : Int32) < nI k from nI_nlt (a := 60) (b := k) (by omega) (by omega)), h5, if_pos (show (0 : Int32) ≤ nI j from nI_le (Nat.zero_le _) (by omega)), zb_eq (show Mo_copies 42 0 40 0 m = _ from b1), h6]
theorem servesM {v : zM} {N S : Nat → Nat} {K : Nat → Nat → Nat} {E : Int32 → Int32 → Int32 → Int32 → Int32} (hW : Wf N K S) (hS : S 0 ≤ 600) (hz : NowM v N K E S) {o w : Nat} (ho : o < N 3) (hw : w < N 4) : ∃ v', Mo_servesIn (nI w) (nI o) v = some (dsv E N K S w o, v') ∧ (∀ k, k < 25 → gI v' 40 k = gI v 40 k) ∧ Fr goA v v' := by
  obtain ⟨n0, n1, n2, n3, n4, n5⟩ := hW.1
  have h5 := hol_lt hW hw
  have m4 := hv_m h5
  have me := hv_eq h5 (show o < 4 by omega)
  have hat := (hW.2.2.2.2.2.1 o ho).1
  have hb : 2 ^ S (13 + o) < 128 := p2_lt (by omega)
  have c19 : gI v 40 (19 + w) = hv (S (19 + w)) := by have := hz.2.2.2.2.2.2 w hw; rwa [Nat.zero_add] at this
  have e19 : (19 : Int32) + nI w = nI (19 + w) := nI_add 19 w
  have e13 : (13 : Int32) + nI o = nI (13 + o) := nI_add 13 o
  obtain ⟨m1, b1, b2⟩ := go_start hW hz
  have b1 : Mo_copies 40 0 42 0 v = some ((), m1) := b1
  have i25 : ib (nI (13 + o)) 25 = true := ib_nI (by omega) (by omega)
  have c13 : ∀ x, gI (sI m1 1 58 x) 40 (13 + o) = nI (S (13 + o)) := fun x => by have := (b2.1.2.2.2.2.2.1 o ho).1; rw [Nat.zero_add] at this; exact (gs_ne (by omega)).trans this
  have c13' : gI m1 40 (13 + o) = nI (S (13 + o)) := by have := (b2.1.2.2.2.2.2.1 o ho).1; rwa [Nat.zero_add] at this
  have c14 : ∀ x y, gI (sI (sI m1 1 58 x) 1 59 y) 14 w = nI (K 3 w) := fun x y => (gs_ne (by omega)).trans ((gs_ne (by omega)).trans (b2.1.1.2.2.2.2.1 w hw).1)
  have sh : (1 : Int32) <<< (nI (S (13 + o)) &&& 31) = nI (2 ^ S (13 + o)) := bn_shl (by omega)
  unfold Mo_servesIn
  rw [e19, if_pos (ib_nI (by omega) (by omega)), ix_nI (by omega), c19]
  unfold dsv dsB dsL
  by_cases q4 : S (19 + w) = 4
  · have qo : ¬ S (19 + w) = o := by omega
    rw [if_pos (show hv (S (19 + w)) = -1 from m4.mpr q4), if_pos (Or.inl q4), if_pos q4, if_neg qo]
    obtain ⟨v', d1, d2, d3⟩ := servesM_lp hW hS ((b2.s1 hW.1 (k := 58) (by omega) (by omega) (nI (2 ^ S (13 + o)))).s1 hW.1 (k := 59) (by omega) (by omega) 0) true (o := o) (w := w) (b := 2 ^ S (13 + o)) (l := 0) ho hw hb (by decide) ((gs_ne (by omega)).trans (gs_eq ⟨rfl, rfl⟩)) (gs_eq ⟨rfl, rfl⟩)
    refine ⟨v', ?_, d2, d3⟩
    unfold Mo_servesIn_18 Mo_servesIn_38
    rw [if_neg (show ¬ (1 : Int32) = 0 by decide), zb_eq b1, if_neg (show ¬ (1 : Int32) = 0 by decide), e13, if_pos i25, ix_nI (by omega), c13', sh]
    unfold Mo_servesIn_71 Mo_servesIn_94
    rw [zl_e, if_neg (show ¬ (1 : Int32) = 0 by decide), zl_e, if_pos (ib_nI (by omega) (by omega)), ix_nI (by omega), c14, zl_e]
    exact d1
  · rw [if_neg (show ¬ hv (S (19 + w)) = -1 from fun q => q4 (m4.mp q))]
    unfold Mo_servesIn_18
    rw [if_pos rfl, e19, if_pos (ib_nI (by omega) (by omega)), ix_nI (by omega), c19]
    by_cases qo : S (19 + w) = o
    · rw [if_pos (me.mpr qo), if_pos (Or.inr qo), if_neg q4, if_pos qo]
      obtain ⟨v', d1, d2, d3⟩ := servesM_lp hW hS ((b2.s1 hW.1 (k := 58) (by omega) (by omega) 0).s1 hW.1 (k := 59) (by omega) (by omega) (nI (2 ^ S (13 + o)))) false (o := o) (w := w) (b := 0) (l := 2 ^ S (13 + o)) ho hw (by decide) hb ((gs_ne (by omega)).trans (gs_eq ⟨rfl, rfl⟩)) (gs_eq ⟨rfl, rfl⟩)
      refine ⟨v', ?_, d2, d3⟩
      unfold Mo_servesIn_38
      rw [zb_eq b1, if_pos rfl]
      unfold Mo_servesIn_71 Mo_servesIn_94
      rw [zl_e, if_pos rfl, e13, if_pos i25, ix_nI (by omega), c13, sh, zl_e, if_pos (ib_nI (by omega) (by omega)), ix_nI (by omega), c14, zl_e, dsP_b0]
      exact d1
    · rw [if_neg (fun q => qo (me.mp q)), if_neg (show ¬ (S (19 + w) = 4 ∨ S (19 + w) = o) by omega)]
      exact ⟨v, rfl, fun _ _ => rfl, Fr.rf⟩
theorem c_serves {n : Nat} {u v : zM} (h : Inv n u v) (hn : n < 600) (x y : Int32) : ∃ r u' v', OW_serves x y u = some (r, u') ∧ Mo_serves x y v = some (r, v') ∧ Inv (n + 1) u' v' := by
  obtain ⟨h6, t, l, N, K, E, S, h0⟩ := h
  have h := h0.th
  have hS : S 0 ≤ 600 := Nat.le_trans h.2.1 h6
  have rt := h.2.2.1.1
  have lt := layT h.2.2.1.2.1
  obtain ⟨n0, n1, n2, n3, n4, n5⟩ := h.1.1
  unfold Mo_serves OW_serves
  rw [zl_e]
  generalize sI v 1 0 0 = v at *
  rcases arg_ix x (show N 4 < 2 ^ 31 by omega) with ⟨w, hw, rfl⟩ | hx
  · rcases arg_ix y (show N 3 < 2 ^ 31 by omega) with ⟨o, ho, rfl⟩ | hy
    · obtain ⟨u1, a1, a2, a3, a4, a5⟩ := foretell_eq h.1 h.2.2.1 hS h.2.2.2.2.2.2.2.2.2.1 (D := 60) (by omega)
      have e1 := daysToServe_eq h.1 hS a3 ho hw a5
      obtain ⟨v', d1, d2, d3⟩ := servesM h.1 hS h.2.2.2.1 ho hw
      refine ⟨dsv E N K S w o, u1, v', ?_, ?_, by omega, t, l, N, K, E, S, h.out (a4.mono (fun c k q => Or.inl q)) d3 d2 a2⟩
      · rw [zb_eq (OW_isWrit_ok h.1 h.2.2.1 hw), if_neg one_ne, zb_eq (OW_isOtter_ok h.1 h.2.2.1 ho), if_neg one_ne, rt, if_pos lt, zb_eq (show Ou_foretell t 54 60 u = some ((), u1) from a1), a3.1, if_pos lt, zb_eq e1]
      · rw [zb_eq (Mo_isWrit_ok h.1 h.2.2.2.1 hw), if_neg one_ne, zb_eq (Mo_isOtter_ok h.1 h.2.2.2.1 ho), if_neg one_ne, zb_eq d1]
    · refine ⟨mI, u, v, ?_, ?_, by omega, t, l, N, K, E, S, h.up⟩
      · rw [zb_eq (OW_isWrit_ok h.1 h.2.2.1 hw), if_neg one_ne, zb_eq (OW_isOtter_no h.1 h.2.2.1 hy)]; rfl
      · rw [zb_eq (Mo_isWrit_ok h.1 h.2.2.2.1 hw), if_neg one_ne, zb_eq (Mo_isOtter_no h.1 h.2.2.2.1 hy)]; rfl
  · refine ⟨mI, u, v, ?_, ?_, by omega, t, l, N, K, E, S, h.up⟩
    · rw [zb_eq (OW_isWrit_no h.1 h.2.2.1 hx)]; rfl
    · rw [zb_eq (Mo_isWrit_no h.1 h.2.2.2.1 hx)]; rfl
/-- in time: of so many days, or none -/
def itP (x : Int32) (d b : Nat) : Bool := !decide (x < 0) && decide (nI d + x ≤ nI b)
theorem NowM.bk {v v' : zM} {N S : Nat → Nat} {K : Nat → Nat → Nat} {E : Int32 → Int32 → Int32 → Int32 → Int32} (hN : WfN N) (h : NowM v N K E S) (hf : Fr goA v v') (hs : ∀ k, k < 25 → gI v' 40 k = gI v 40 k) : NowM v' N K E S := h.st hN (fun c k _ _ => hf.i (by unfold goA; omega)) (h.2.2.fr hN (fun k hk => by rw [Nat.zero_add]; exact hs k hk))
theorem intimeC {u : zM} {t : Nat} {N S : Nat → Nat} {K : Nat → Nat → Nat} {E : Int32 → Int32 → Int32 → Int32 → Int32} (hW : Wf N K S) (hS : S 0 ≤ 600) (hu : NowC u t N K E 54 S) {w : Nat} (hw : w < N 4) (hO : ∀ d, d ≤ 60 → (∀ p, p < N 0 → gI u 77 (7 * d + p) = nI (itS E N K S d (1 + p))) ∧ (∀ q, q < N 2 → gI u 78 (5 * d + q) = nI (itS E N K S d (8 + q))) ∧ gI u 79 d = nI (wetS N (itS E N K S d))) : OW_intime_31 zF (nI w) 0 0 u = some (nI (mk (fun o => itP (dsv E N K S w o) (S 0) (K 4 w)) (N 3)), u) := by
  have rt := hu.1
  have lt := layT hu.2.1
  obtain ⟨n0, n1, n2, n3, n4, n5⟩ := hW.1
  have c3 := hu.2.2.1.1.2.2.2.1
  have cw := (hu.2.2.1.2.2.2.2.1 w hw).2
  have s0 := hu.2.2.2.2.1
  have h60 := (hW.2.1.2.2.2.1 w hw).2
  refine lpz (fun n (s : Int32 × Int32) => OW_intime_31 n (nI w) s.1 s.2 u) (fun k => (nI (mk (fun o => itP (dsv E N K S w o) (S 0) (K 4 w)) k), nI k)) (N 3) _ (by omega) (fun n => ?_) (fun n k hk => ?_)
  · show OW_intime_31b _ _ _ _ _ = _
    unfold OW_intime_31b
    dsimp only
    rw [rt, if_pos lt, c3, if_pos (nI_le (Nat.le_refl _) (by omega))]
  · show OW_intime_31b _ _ _ _ _ = OW_intime_31 _ _ _ _ _
    have hm := mk_1024 (fun o => itP (dsv E N K S w o) (S 0) (K 4 w)) (show k ≤ 10 by omega)
    unfold OW_intime_31b
    rw [rt, if_pos lt, c3, if_neg (nI_ge hk (by omega)), if_pos lt, zb_eq (daysToServe_eq hW hS hu hk hw hO), rt, if_pos lt, if_pos (ib_nI (by omega) (by omega)), ix_nI (by omega), cw, s0, show nI k + 1 = nI (k + 1) from nI_1 k, zl_e, show nI (mk (fun o => itP (dsv E N K S w o) (S 0) (K 4 w)) k) ||| ((1 : Int32) <<< (nI k &&& 31)) = _ from bn_or hm (by omega)]
    have g6 : (-1 : Int32) = mI := rfl
    rw [mk_s, g6]
    dsimp only
    rcases dsv_ok E N K S w k with e | ⟨j, hj, e⟩
    · rw [e, if_pos rfl]
      have : itP mI (S 0) (K 4 w) = false := by unfold itP; rw [decide_eq_true (show mI < 0 by decide)]; rfl
      rw [this, if_neg (by decide)]
    · rw [e, if_neg (mI_ne (by omega))]
      have h0 : ¬ nI j < 0 := nI_nlt (b := 0) (Nat.zero_le _) (by omega)
      by_cases q : nI (K 4 w) < nI (S 0) + nI j
      · rw [if_pos q]
        have : itP (nI j) (S 0) (K 4 w) = false := by unfold itP; rw [decide_eq_false (Int32.not_le.mpr q), Bool.and_false]
        rw [this, if_neg (by decide)]
      · rw [if_neg q]
        have : itP (nI j) (S 0) (K 4 w) = true := by unfold itP; rw [decide_eq_true (Int32.not_lt.mp q), decide_eq_false h0]; rfl
        rw [this, if_pos rfl]
theorem intimeM {v : zM} {N S : Nat → Nat} {K : Nat → Nat → Nat} {E : Int32 → Int32 → Int32 → Int32 → Int32} (hW : Wf N K S) (hS : S 0 ≤ 600) (hz : NowM v N K E S) {w : Nat} (hw : w < N 4) : ∃ v', Mo_intime_19 zF (nI w) 0 0 v = some (nI (mk (fun o => itP (dsv E N K S w o) (S 0) (K 4 w)) (N 3)), v') ∧ (∀ k, k < 25 → gI v' 40 k = gI v 40 k) ∧ Fr goA v v' := by
  obtain ⟨n0, n1, n2, n3, n4, n5⟩ := hW.1
  refine lprz (fun n (s : Int32 × Int32 × zM) => Mo_intime_19 n (nI w) s.1 s.2.1 s.2.2) (fun k s => s.1 = nI (mk (fun o => itP (dsv E N K S w o) (S 0) (K 4 w)) k) ∧ s.2.1 = nI k ∧ (∀ k, k < 25 → gI s.2.2 40 k = gI v 40 k) ∧ Fr goA v s.2.2) (fun r => ∃ v', r = some (nI (mk (fun o => itP (dsv E N K S w o) (S 0) (K 4 w)) (N 3)), v') ∧ (∀ k, k < 25 → gI v' 40 k = gI v 40 k) ∧ Fr goA v v') (N 3) (nI 0, nI 0, v) (by omega) ⟨rfl, rfl, fun _ _ => rfl, Fr.rf⟩ ?_ ?_
  · rintro n ⟨x, y, m⟩ ⟨h1, h2, h3, h4⟩
    dsimp only at h1 h2 h3 h4 ⊢
    subst h1 h2
    refine ⟨m, ?_, h3, h4⟩
    have zm := hz.bk hW.1 h4 h3
    show Mo_intime_19b _ _ _ _ _ = _
    unfold Mo_intime_19b
    rw [zm.1.1 3 (by omega), if_pos (nI_le (Nat.le_refl _) (by omega))]
  · rintro n k ⟨x, y, m⟩ hk ⟨h1, h2, h3, h4⟩
    dsimp only at h1 h2 h3 h4 ⊢
    subst h1 h2
    right
    have zm := hz.bk hW.1 h4 h3
    obtain ⟨m', d1, d2, d3⟩ := servesM hW hS zm hk hw
    have h3' : ∀ k, k < 25 → gI m' 40 k = gI v 40 k := fun k hk => (d2 k hk).trans (h3 k hk)
    have h4' := h4.tr d3
    have zm' := hz.bk hW.1 h4' h3'
    have hm := mk_1024 (fun o => itP (dsv E N K S w o) (S 0) (K 4 w)) (show k ≤ 10 by omega)
    refine ⟨(nI (mk (fun o => itP (dsv E N K S w o) (S 0) (K 4 w)) (k + 1)), nI (k + 1), m'), ⟨rfl, rfl, h3', h4'⟩, ?_⟩
    show Mo_intime_19b _ _ _ _ _ = Mo_intime_19 _ _ _ _ _
    unfold Mo_intime_19b
    have cw : gI m' 15 w = nI (K 4 w) := (zm'.1.2.2.2.2.1 w hw).2
    have s0 : gI m' 40 0 = nI (S 0) := zm'.2.2.1
    rw [zm.1.1 3 (by omega), if_neg (nI_ge hk (by omega)), zb_eq d1, if_pos (ib_nI (by omega) (by omega)), ix_nI (by omega), cw, s0, show nI k + 1 = nI (k + 1) from nI_1 k]
    simp only [zl_e]
    rw [show nI (mk (fun o => itP (dsv E N K S w o) (S 0) (K 4 w)) k) ||| ((1 : Int32) <<< (nI k &&& 31)) = _ from bn_or hm (by omega), show nI (mk (fun o => itP (dsv E N K S w o) (S 0) (K 4 w)) k) ||| 0 = _ from bn_or0 _, mk_s]
    unfold itP
    by_cases q0 : dsv E N K S w k < 0
    · rw [if_pos q0, decide_eq_true q0, Bool.not_true, Bool.false_and, if_neg (by decide)]
    · rw [if_neg q0, decide_eq_false q0]
      by_cases q : nI (K 4 w) < nI (S 0) + dsv E N K S w k
      · rw [if_pos q, decide_eq_false (Int32.not_le.mpr q), if_neg (by decide)]
      · rw [if_neg q, decide_eq_true (Int32.not_lt.mp q)]
        rfl
theorem c_intime {n : Nat} {u v : zM} (h : Inv n u v) (hn : n < 600) (x : Int32) : ∃ r u' v', OW_intime x u = some (r, u') ∧ Mo_intime x v = some (r, v') ∧ Inv (n + 1) u' v' := by
  obtain ⟨h6, t, l, N, K, E, S, h0⟩ := h
  have h := h0.th
  have hS : S 0 ≤ 600 := Nat.le_trans h.2.1 h6
  have rt := h.2.2.1.1
  have lt := layT h.2.2.1.2.1
  obtain ⟨n0, n1, n2, n3, n4, n5⟩ := h.1.1
  unfold Mo_intime OW_intime
  rw [zl_e]
  generalize sI v 1 0 0 = v at *
  rcases arg_ix x (show N 4 < 2 ^ 31 by omega) with ⟨w, hw, rfl⟩ | hx
  · obtain ⟨u1, a1, a2, a3, a4, a5⟩ := foretell_eq h.1 h.2.2.1 hS h.2.2.2.2.2.2.2.2.2.1 (D := 60) (by omega)
    obtain ⟨v', d1, d2, d3⟩ := intimeM h.1 hS h.2.2.2.1 hw
    refine ⟨nI (mk (fun o => itP (dsv E N K S w o) (S 0) (K 4 w)) (N 3)), u1, v', ?_, ?_, by omega, t, l, N, K, E, S, h.out (a4.mono (fun c k q => Or.inl q)) d3 d2 a2⟩
    · rw [zb_eq (OW_isWrit_ok h.1 h.2.2.1 hw), if_neg one_ne, rt, if_pos lt, zb_eq (show Ou_foretell t 54 60 u = some ((), u1) from a1)]
      exact intimeC h.1 hS a3 hw a5
    · rw [zb_eq (Mo_isWrit_ok h.1 h.2.2.2.1 hw), if_neg one_ne]
      exact d1
  · refine ⟨mI, u, v, ?_, ?_, by omega, t, l, N, K, E, S, h.up⟩
    · rw [zb_eq (OW_isWrit_no h.1 h.2.2.1 hx)]; rfl
    · rw [zb_eq (Mo_isWrit_no h.1 h.2.2.2.1 hx)]; rfl
