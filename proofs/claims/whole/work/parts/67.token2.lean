/-! ===== numbers, signs; a step ===== -/
theorem num_eq {u v : zM} {c b : Nat} {T : Nat → Nat} (h : TkR u v c T) (hb : b < c) (h1 : gI u 2 2 = nI b) (h2 : gI v 1 4 = nI b) (h3 : gI u 2 3 = nI b) (h4 : gI v 1 5 = nI b) (h5 : gL u 2 5 = 0) (h6 : gI v 1 8 = 0) (hl : 48 ≤ T b ∧ T b ≤ 57) : ∃ u' v' e k, Ta_readNumber u = some ((), u') ∧ Mo_nextToken_224 zF v = some ((), v') ∧ Tok u' v' c T b e k ∧ Fr stC u u' ∧ Fr stM v v' := by
  have hc := h.1.1
  unfold Ta_readNumber
  refine lpj Ta_readNumber_0 Mo_nextToken_224 (fun k s t => ∃ p, b ≤ p ∧ p + k = c ∧ gI s 2 2 = nI p ∧ gI t 1 4 = nI p ∧ (p - b ≤ 4 → ∃ x, x < 10 ^ (p - b) ∧ gL s 2 5 = nL x ∧ gI t 1 8 = nI x) ∧ Fr lpC u s ∧ Fr lpM v t) (fun r r' => ∃ u' v' e k, r = some ((), u') ∧ r' = some ((), v') ∧ Tok u' v' c T b e k ∧ Fr stC u u' ∧ Fr stM v v') ?_ (c - b) (c - b) zF zF u v (Nat.le_refl _) (by unfold zF; omega) (by unfold zF; omega) ⟨b, Nat.le_refl _, by omega, h1, h2, fun _ => ⟨0, by rw [Nat.sub_self]; decide, h5, h6⟩, Fr.rf, Fr.rf⟩
  rintro n m k s t ⟨p, p1, p2, p3, p4, p6, p7, p8⟩
  have hk : TkR s t c T := h.st (p7.mono (fun c k => lpC_st)) (p8.mono (fun c k => lpM_st))
  have s3 : gI s 2 3 = nI b := (p7.i (by unfold lpC; omega)).trans h3
  have t5 : gI t 1 5 = nI b := (p8.i (by unfold lpM; omega)).trans h4
  have eS := sgnAt hk.1 hk.2.2.2.1 hk.2.2.2.2 (show p ≤ c by omega)
  show (∃ u' v' e k, Ta_readNumber_0b (Ta_readNumber_0 n) s = some ((), u') ∧ Mo_nextToken_224b (Mo_nextToken_224 m) t = some ((), v') ∧ _) ∨ ∃ k' s' t', _ ∧ _ ∧ Ta_readNumber_0b (Ta_readNumber_0 n) s = _ ∧ Mo_nextToken_224b (Mo_nextToken_224 m) t = _
  by_cases go : p < c ∧ 48 ≤ T p ∧ T p ≤ 57
  · right
    obtain ⟨q1, q2, q3⟩ := go
    have hI : ib (nI p) 1000 = true := ib_nI (by omega) (by omega)
    have n48 : nI (T p) - 48 = nI (T p - 48) := pk_sub q2
    have eC : Ta_readNumber_0b (Ta_readNumber_0 n) s = Ta_readNumber_0 n (sI (sL s 2 5 ((gL s 2 5 * 10) + nL (T p - 48))) 2 2 (nI (p + 1))) := by
      unfold Ta_readNumber_0b
      rw [p3, hk.2.1, if_neg (nI_ge q1 (by omega)), if_pos hI, ix_nI (by omega), hk.2.2.1 p q1, if_neg (show ¬ nI (T p) < (48 : Int32) from nI_nlt (a := T p) (b := 48) (by omega) (by omega)), if_pos hI, if_neg (show ¬ (57 : Int32) < nI (T p) from nI_nlt (a := 57) (by omega) (by omega)), if_pos hI, n48, toL_nI (by omega), zl_e, show gI (sL s 2 5 ((gL s 2 5 * 10) + nL (T p - 48))) 2 2 = nI p from p3, zl_e, show nI p + 1 = nI (p + 1) from nI_1 p]
    have eM : Mo_nextToken_224b (Mo_nextToken_224 m) t = Mo_nextToken_224 m (if 4 ≤ p - b then sI t 1 4 (nI (p + 1)) else sI (sI t 1 8 (gI t 1 8 * 10 + nI (T p) - 48)) 1 4 (nI (p + 1))) := by
      unfold Mo_nextToken_224b
      rw [p4, zb_eq eS, if_pos q1, if_neg (show ¬ nI (T p) < (48 : Int32) from nI_nlt (a := T p) (b := 48) (by omega) (by omega)), p4, zb_eq eS, if_pos q1, if_neg (show ¬ (57 : Int32) < nI (T p) from nI_nlt (a := 57) (by omega) (by omega)), p4, t5, pk_sub p1, zb_eq eS, if_pos q1, zl_e, zl_e, show nI p + 1 = nI (p + 1) from nI_1 p, show gI (sI t 1 8 (gI t 1 8 * 10 + nI (T p) - 48)) 1 4 = nI p from (gs_ne (by omega)).trans p4, zl_e, show nI p + 1 = nI (p + 1) from nI_1 p]
      by_cases q8 : 4 ≤ p - b
      · rw [if_pos (show (4 : Int32) ≤ nI (p - b) from nI_le (a := 4) q8 (by omega)), if_pos q8]
      · rw [if_neg (show ¬ (4 : Int32) ≤ nI (p - b) from @nI_ge (p - b) 4 (by omega) (by decide)), if_neg q8]
    refine ⟨k - 1, _, _, by omega, ⟨p + 1, by omega, by omega, gs_eq ⟨rfl, rfl⟩, ?_, fun q8 => ?_, (p7.tr (Fr.sL (by unfold lpC; omega))).tr (Fr.sI (by unfold lpC; omega)), ?_⟩, eC, eM⟩
    · split
      · exact gs_eq ⟨rfl, rfl⟩
      · exact gs_eq ⟨rfl, rfl⟩
    · obtain ⟨x, x1, x2, x3⟩ := p6 (by omega)
      have hp4 : 10 ^ (p - b) ≤ 10 ^ 3 := Nat.pow_le_pow_right (by decide) (by omega)
      have hps : 10 ^ (p + 1 - b) = 10 ^ (p - b) * 10 := by rw [show p + 1 - b = (p - b) + 1 by omega, Nat.pow_succ]
      refine ⟨x * 10 + (T p - 48), by rw [hps]; omega, ?_, ?_⟩
      · show gL (sL s 2 5 _) 2 5 = _
        rw [sl_g, x2, lL10, nL_mul (by omega) (by omega) (by omega), nL_add (by omega)]
      · rw [if_neg (by omega), gs_ne (by omega), gs_eq ⟨rfl, rfl⟩, x3, show (10 : Int32) = nI 10 from rfl, pk_mul, nI_add, show (48 : Int32) = nI 48 from rfl, pk_sub (by omega)]
        congr 1
        omega
    · split
      · exact p8.tr (Fr.sI (by unfold lpM; omega))
      · exact (p8.tr (Fr.sI (by unfold lpM; omega))).tr (Fr.sI (by unfold lpM; omega))
  · left
    have hne : p ≠ b := fun e => go (by subst e; exact ⟨hb, hl.1, hl.2⟩)
    have eC : Ta_readNumber_0b (Ta_readNumber_0 n) s = some ((), sI s 2 4 (nI (if 4 < p - b then 4 else 2))) := by
      have e74 : Ta_readNumber_78 s = some ((), sI s 2 4 (nI (if 4 < p - b then 4 else 2))) := by
        unfold Ta_readNumber_78
        rw [p3, s3, pk_sub p1]
        by_cases q : 4 < p - b
        · rw [if_pos (show (4 : Int32) < nI (p - b) from nI_lt (a := 4) q (by omega)), if_pos q]
          rfl
        · rw [if_neg (show ¬ (4 : Int32) < nI (p - b) from nI_nlt (a := 4) (by omega) (by omega)), if_neg q]
          rfl
      unfold Ta_readNumber_0b
      rw [e74, p3, hk.2.1]
      by_cases q1 : p < c
      · have hI : ib (nI p) 1000 = true := ib_nI (by omega) (by omega)
        have hT := hk.1.2 p q1
        rw [if_neg (nI_ge q1 (by omega)), if_pos hI, ix_nI (by omega), hk.2.2.1 p q1]
        by_cases q2 : 48 ≤ T p
        · rw [if_neg (show ¬ nI (T p) < (48 : Int32) from nI_nlt (a := T p) (b := 48) (by omega) (by omega)), if_pos hI, if_pos (show (57 : Int32) < nI (T p) from nI_lt (a := 57) (by omega) (by omega))]
        · rw [if_pos (show nI (T p) < (48 : Int32) from nI_lt (b := 48) (by omega) (by omega))]
      · rw [if_pos (nI_le (by omega) (by omega))]
    have eM : Mo_nextToken_224b (Mo_nextToken_224 m) t = some ((), sI t 1 6 (nI (if 4 < p - b then 4 else 2))) := by
      have e188 : Mo_nextToken_299 t = some ((), sI t 1 6 (nI (if 4 < p - b then 4 else 2))) := by
        unfold Mo_nextToken_299
        rw [p4, t5, pk_sub p1]
        by_cases q : 4 < p - b
        · rw [if_neg (show ¬ nI (p - b) ≤ (4 : Int32) from @nI_ge 4 (p - b) q (by omega)), if_pos q]
          rfl
        · rw [if_pos (show nI (p - b) ≤ (4 : Int32) from nI_le (b := 4) (by omega) (by omega)), if_neg q]
          rfl
      unfold Mo_nextToken_224b
      rw [p4, zb_eq eS]
      by_cases q2 : nI (if p < c then T p else 0) < (48 : Int32)
      · rw [if_pos q2, e188]
      · rw [if_neg q2, p4, zb_eq eS]
        have q1 : p < c := by
          by_cases q : p < c
          · exact q
          · rw [if_neg q] at q2
            exact absurd (show nI 0 < (48 : Int32) by decide) q2
        rw [if_pos q1] at q2 ⊢
        have hT := hk.1.2 p q1
        have q3 : 48 ≤ T p := by
          by_cases z : 48 ≤ T p
          · exact z
          · exact absurd (nI_lt (b := 48) (by omega) (by omega)) q2
        rw [if_pos (show (57 : Int32) < nI (T p) from nI_lt (a := 57) (by omega) (by omega)), e188]
    refine ⟨_, _, p, if 4 < p - b then 4 else 2, eC, eM, ⟨p1, by omega, ⟨(gs_ne (by omega)).trans p3, (gs_ne (by omega)).trans p4⟩, ⟨(gs_ne (by omega)).trans s3, (gs_ne (by omega)).trans t5⟩, ⟨gs_eq ⟨rfl, rfl⟩, gs_eq ⟨rfl, rfl⟩⟩, by split <;> omega, fun q => by split at q <;> omega, fun _ => by omega, fun q => by split at q <;> omega, fun q => ?_, fun q => by split at q <;> omega⟩, (p7.mono (fun c k => lpC_st)).tr (Fr.sI (by unfold stC; omega)), (p8.mono (fun c k => lpM_st)).tr (Fr.sI (by unfold stM; omega))⟩
    have q8 : p - b ≤ 4 := by split at q <;> omega
    obtain ⟨x, x1, x2, x3⟩ := p6 q8
    have hp4 : 10 ^ (p - b) ≤ 10 ^ 4 := Nat.pow_le_pow_right (by decide) q8
    exact ⟨x, by omega, x2, (gs_ne (by omega)).trans x3⟩
/-- which signs are tokens -/
def sgB (s : Nat) : Bool := decide ((40 ≤ s ∧ s ≤ 43) ∨ s = 45 ∨ (59 ≤ s ∧ s ≤ 61))
theorem isSign_eq {s : Nat} (h : s < 127) (u : zM) : Ta_isSign (nI s) u = some (bI (sgB s), u) := by
  have e : ∀ k, k < 127 → (nI s = nI k ↔ s = k) := fun k hk => nI_eq (by omega) (by omega)
  unfold Ta_isSign sgB
  simp only [show (40 : Int32) = nI 40 from rfl, show (41 : Int32) = nI 41 from rfl, show (60 : Int32) = nI 60 from rfl, show (61 : Int32) = nI 61 from rfl, show (43 : Int32) = nI 43 from rfl, show (45 : Int32) = nI 45 from rfl, show (42 : Int32) = nI 42 from rfl, show (59 : Int32) = nI 59 from rfl, e 40 (by decide), e 41 (by decide), e 60 (by decide), e 61 (by decide), e 43 (by decide), e 45 (by decide), e 42 (by decide), e 59 (by decide)]
  by_cases q : (40 ≤ s ∧ s ≤ 43) ∨ s = 45 ∨ (59 ≤ s ∧ s ≤ 61)
  · rw [decide_eq_true q]
    have : s = 40 ∨ s = 41 ∨ s = 42 ∨ s = 43 ∨ s = 45 ∨ s = 59 ∨ s = 60 ∨ s = 61 := by omega
    rcases this with rfl | rfl | rfl | rfl | rfl | rfl | rfl | rfl <;> rfl
  · rw [decide_eq_false q, if_neg (by omega), if_neg (by omega), if_neg (by omega), if_neg (by omega), if_neg (by omega), if_neg (by omega), if_neg (by omega), if_neg (by omega)]
    rfl
theorem sign_eq {u v : zM} {c b : Nat} {T : Nat → Nat} (h : TkR u v c T) (hb : b < c) (h1 : gI u 2 2 = nI b) (h2 : gI v 1 4 = nI b) (h3 : gI u 2 3 = nI b) (h4 : gI v 1 5 = nI b) : ∃ u' v' e k, Ta_step_154 u = some ((), u') ∧ Mo_nextToken_322 (nI (T b)) v = some ((), v') ∧ Tok u' v' c T b e k ∧ Fr stC u u' ∧ Fr stM v v' := by
  have hc := h.1.1
  have hT := h.1.2 b hb
  have hI : ib (nI b) 1000 = true := ib_nI (by omega) (by omega)
  have n1 : nI b + 1 = nI (b + 1) := nI_1 b
  have u3 := h.2.2.1 b hb
  have eC : Ta_step_154 u = some ((), sI (sI (sL u 2 5 (nL (T b))) 2 4 (nI (if sgB (T b) = true then 3 else 4))) 2 2 (nI (b + 1))) := by
    unfold Ta_step_154
    rw [h1, if_pos hI, ix_nI (by omega), u3, toL_nI (by omega), zl_e, show gI (sL u 2 5 (nL (T b))) 2 2 = nI b from h1, if_pos hI, ix_nI (by omega), show gI (sL u 2 5 (nL (T b))) 3 b = nI (T b) from u3, zb_eq (isSign_eq (by omega) _)]
    cases sgB (T b)
    · rw [if_pos (show bI false = (0 : Int32) from rfl), zl_e, show gI (sI (sL u 2 5 (nL (T b))) 2 4 4) 2 2 = nI b from (gs_ne (by omega)).trans h1, zl_e, n1]
      rfl
    · rw [if_neg bIt_ne, zl_e, show gI (sI (sL u 2 5 (nL (T b))) 2 4 3) 2 2 = nI b from (gs_ne (by omega)).trans h1, zl_e, n1]
      rfl
  have eM : Mo_nextToken_322 (nI (T b)) v = some ((), sI (sI v 1 4 (nI (b + 1))) 1 6 (nI (if sgB (T b) = true then 3 else 4))) := by
    have e45 : (nI (T b) = (45 : Int32)) ↔ T b = 45 := nI_eq (b := 45) (by omega) (by decide)
    have l59 : (nI (T b) < (59 : Int32)) ↔ T b < 59 := nI_ltI (b := 59) (by omega) (by decide)
    have g61 : ((61 : Int32) < nI (T b)) ↔ 61 < T b := nI_ltI (a := 61) (by decide) (by omega)
    have l40 : (nI (T b) < (40 : Int32)) ↔ T b < 40 := nI_ltI (b := 40) (by omega) (by decide)
    have l43 : (nI (T b) ≤ (43 : Int32)) ↔ T b ≤ 43 := nI_leI (b := 43) (by omega) (by decide)
    have e345 : ∀ m, ¬ (40 ≤ T b ∧ T b ≤ 43) → Mo_nextToken_345 (nI (T b)) m = some ((), sI m 1 6 (nI (if sgB (T b) = true then 3 else 4))) := by
      intro m hno
      unfold Mo_nextToken_345 sgB
      simp only [e45, l59, g61]
      by_cases q1 : T b = 45
      · rw [if_pos q1, decide_eq_true (by omega)]; rfl
      · rw [if_neg q1]
        by_cases q2 : T b < 59
        · rw [if_pos q2, decide_eq_false (by omega)]; rfl
        · rw [if_neg q2]
          by_cases q3 : 61 < T b
          · rw [if_pos q3, decide_eq_false (by omega)]; rfl
          · rw [if_neg q3, decide_eq_true (by omega)]; rfl
    unfold Mo_nextToken_322
    rw [h2, n1, zl_e]
    simp only [l40, l43]
    by_cases q1 : T b < 40
    · rw [if_pos q1, e345 _ (by omega)]
    · rw [if_neg q1]
      by_cases q2 : T b ≤ 43
      · rw [if_pos q2]
        have : sgB (T b) = true := decide_eq_true (by omega)
        rw [this]
        rfl
      · rw [if_neg q2, e345 _ (by omega)]
  refine ⟨_, _, b + 1, if sgB (T b) = true then 3 else 4, eC, eM, ⟨by omega, by omega, ⟨gs_eq ⟨rfl, rfl⟩, (gs_ne (by omega)).trans (gs_eq ⟨rfl, rfl⟩)⟩, ⟨(gs_ne (by omega)).trans ((gs_ne (by omega)).trans h3), (gs_ne (by omega)).trans ((gs_ne (by omega)).trans h4)⟩, ⟨(gs_ne (by omega)).trans (gs_eq ⟨rfl, rfl⟩), gs_eq ⟨rfl, rfl⟩⟩, by split <;> omega, fun q => by split at q <;> omega, fun _ => by omega, fun q => by split at q <;> omega, fun q => by split at q <;> omega, fun _ => sl_g⟩, ((Fr.sL (by unfold stC; omega)).tr (Fr.sI (by unfold stC; omega))).tr (Fr.sI (by unfold stC; omega)), (Fr.sI (by unfold stM; omega)).tr (Fr.sI (by unfold stM; omega))⟩
theorem step52 {u v : zM} {c b : Nat} {T : Nat → Nat} (h : TkR u v c T) (hb : b ≤ c) (h1 : gI u 2 2 = nI b) (h2 : gI v 1 4 = nI b) : ∃ u' v' e k, Ta_step_52 u = some ((), u') ∧ Mo_nextToken_52 v = some ((), v') ∧ Tok u' v' c T b e k ∧ Fr stC u u' ∧ Fr stM v v' := by
  have hc := h.1.1
  let u1 := sL (sI u 2 3 (nI b)) 2 5 0
  let v1 := sI (sL (sI v 1 5 (nI b)) 1 7 0) 1 8 0
  have fC : Fr stC u u1 := (Fr.sI (by unfold stC; omega)).tr (Fr.sL (by unfold stC; omega))
  have fM : Fr stM v v1 := ((Fr.sI (by unfold stM; omega)).tr (Fr.sL (by unfold stM; omega))).tr (Fr.sI (by unfold stM; omega))
  have hk : TkR u1 v1 c T := h.st fC fM
  have a1 : gI u1 2 2 = nI b := show gI (sI u 2 3 (nI b)) 2 2 = nI b from (gs_ne (by omega)).trans h1
  have a2 : gI v1 1 4 = nI b := (gs_ne (by omega)).trans (show gI (sI v 1 5 (nI b)) 1 4 = nI b from (gs_ne (by omega)).trans h2)
  have a3 : gI u1 2 3 = nI b := show gI (sI u 2 3 (nI b)) 2 3 = nI b from gs_eq ⟨rfl, rfl⟩
  have a4 : gI v1 1 5 = nI b := (gs_ne (by omega)).trans (show gI (sI v 1 5 (nI b)) 1 5 = nI b from gs_eq ⟨rfl, rfl⟩)
  have a5 : gL u1 2 5 = 0 := sl_g
  have a6 : gL v1 1 7 = 0 := sl_g
  have a7 : gI v1 1 8 = 0 := gs_eq ⟨rfl, rfl⟩
  have key : ∃ u' v' e k, (if gI u1 2 2 < gI u1 2 1 then (if ib (gI u1 2 2) 1000 = true then (if (gI u1 3 (ix (gI u1 2 2))) < 97 then (Ta_step_119 u1) else (if ib (gI u1 2 2) 1000 = true then (if 122 < (gI u1 3 (ix (gI u1 2 2))) then (Ta_step_119 u1) else (zb (Ta_readWord u1) (fun _ u3 => some ((), u3)))) else none)) else none) else (zlet (sI u1 2 4 0) (fun u4 => some ((), u4)))) = some ((), u') ∧ (if (gI v1 1 4) = (gI v1 1 3) then (zlet (sI v1 1 6 0) (fun u4 => some ((), u4))) else (if ib (gI v1 1 4) 1000 = true then (zlet (gI v1 2 (ix (gI v1 1 4))) (fun x1 => if x1 < 97 then (Mo_nextToken_212 x1 v1) else (if 122 < x1 then (Mo_nextToken_212 x1 v1) else (Mo_nextToken_109 zF v1)))) else none)) = some ((), v') ∧ Tok u' v' c T b e k ∧ Fr stC u1 u' ∧ Fr stM v1 v' := by
    rw [a1, a2, hk.2.1, hk.2.2.2.1]
    by_cases q : b < c
    · have hT := hk.1.2 b q
      have hI : ib (nI b) 1000 = true := ib_nI (by omega) (by omega)
      have l97 : (nI (T b) < (97 : Int32)) ↔ T b < 97 := nI_ltI (b := 97) (by omega) (by decide)
      have g122 : ((122 : Int32) < nI (T b)) ↔ 122 < T b := nI_ltI (a := 122) (by decide) (by omega)
      have l48 : (nI (T b) < (48 : Int32)) ↔ T b < 48 := nI_ltI (b := 48) (by omega) (by decide)
      have g57 : ((57 : Int32) < nI (T b)) ↔ 57 < T b := nI_ltI (a := 57) (by decide) (by omega)
      rw [if_pos (nI_lt q (by omega)), if_pos hI, ix_nI (by omega), hk.2.2.1 b q, if_pos hI, if_neg (show ¬ nI b = nI c from fun z => by have := (nI_eq (by omega) (by omega)).mp z; omega), if_pos hI, hk.2.2.2.2 b q, zl_e]
      simp only [l97, g122]
      have oth : ¬ (97 ≤ T b ∧ T b ≤ 122) → ∃ u' v' e k, Ta_step_119 u1 = some ((), u') ∧ Mo_nextToken_212 (nI (T b)) v1 = some ((), v') ∧ Tok u' v' c T b e k ∧ Fr stC u1 u' ∧ Fr stM v1 v' := by
        intro hno
        unfold Ta_step_119 Mo_nextToken_212
        rw [a1, if_pos hI, ix_nI (by omega), hk.2.2.1 b q, if_pos hI]
        simp only [l48, g57]
        by_cases q1 : T b < 48
        · rw [if_pos q1, if_pos q1]
          exact sign_eq hk q a1 a2 a3 a4
        · rw [if_neg q1, if_neg q1]
          by_cases q2 : 57 < T b
          · rw [if_pos q2, if_pos q2]
            exact sign_eq hk q a1 a2 a3 a4
          · rw [if_neg q2, if_neg q2]
            obtain ⟨u', v', e, k, b1, b2, b3⟩ := num_eq hk q a1 a2 a3 a4 a5 a7 ⟨by omega, by omega⟩
            exact ⟨u', v', e, k, by rw [zb_eq b1], b2, b3⟩
      by_cases q1 : T b < 97
      · rw [if_pos q1, if_pos q1]
        exact oth (by omega)
      · rw [if_neg q1, if_neg q1]
        by_cases q2 : 122 < T b
        · rw [if_pos q2, if_pos q2]
          exact oth (by omega)
        · rw [if_neg q2, if_neg q2]
          obtain ⟨u', v', e, k, b1, b2, b3⟩ := word_eq hk q a1 a2 a3 a4 a5 a6 ⟨by omega, by omega⟩
          exact ⟨u', v', e, k, by rw [zb_eq b1], b2, b3⟩
    · have e : b = c := by omega
      rw [if_neg (nI_nlt (by omega) (by omega)), if_pos (by rw [e]), zl_e, zl_e]
      exact ⟨_, _, b, 0, rfl, rfl, ⟨Nat.le_refl _, hb, ⟨(gs_ne (by omega)).trans a1, (gs_ne (by omega)).trans a2⟩, ⟨(gs_ne (by omega)).trans a3, (gs_ne (by omega)).trans a4⟩, ⟨gs_eq ⟨rfl, rfl⟩, gs_eq ⟨rfl, rfl⟩⟩, by omega, fun _ => e, fun z => absurd rfl z, fun z => absurd z (by decide), fun z => absurd z (by decide), fun z => absurd z (by decide)⟩, Fr.sI (by unfold stC; omega), Fr.sI (by unfold stM; omega)⟩
  obtain ⟨u', v', e, k, b1, b2, b3, b4, b5⟩ := key
  refine ⟨u', v', e, k, ?_, ?_, b3, fC.tr b4, fM.tr b5⟩
  · unfold Ta_step_52
    rw [h1, zl_e, zl_e]
    exact b1
  · unfold Mo_nextToken_52
    rw [h2, zl_e, zl_e, zl_e]
    exact b2
theorem step_eq {u v : zM} {c p : Nat} {T : Nat → Nat} (h : TkR u v c T) (hp : p ≤ c) (h1 : gI u 2 2 = nI p) (h2 : gI v 1 4 = nI p) : ∃ u' v' b e k, Ta_step u = some ((), u') ∧ Mo_nextToken v = some ((), v') ∧ p ≤ b ∧ Tok u' v' c T b e k ∧ Fr stC u u' ∧ Fr stM v v' := by
  have hc := h.1.1
  unfold Ta_step Mo_nextToken
  refine lpj Ta_step_0 Mo_nextToken_0 (fun k s t => ∃ q, p ≤ q ∧ q + k = c ∧ gI s 2 2 = nI q ∧ gI t 1 4 = nI q ∧ Fr lpC u s ∧ Fr lpM v t) (fun r r' => ∃ u' v' b e k, r = some ((), u') ∧ r' = some ((), v') ∧ p ≤ b ∧ Tok u' v' c T b e k ∧ Fr stC u u' ∧ Fr stM v v') ?_ (c - p) (c - p) zF zF u v (Nat.le_refl _) (by unfold zF; omega) (by unfold zF; omega) ⟨p, Nat.le_refl _, by omega, h1, h2, Fr.rf, Fr.rf⟩
  rintro n m k s t ⟨q, q1, q2, q3, q4, q5, q6⟩
  have hk : TkR s t c T := h.st (q5.mono (fun c k => lpC_st)) (q6.mono (fun c k => lpM_st))
  show (∃ u' v' b e k, Ta_step_0b (Ta_step_0 n) s = some ((), u') ∧ Mo_nextToken_0b (Mo_nextToken_0 m) t = some ((), v') ∧ _) ∨ ∃ k' s' t', _ ∧ _ ∧ Ta_step_0b (Ta_step_0 n) s = _ ∧ Mo_nextToken_0b (Mo_nextToken_0 m) t = _
  have done : Ta_step_0b (Ta_step_0 n) s = Ta_step_52 s → Mo_nextToken_0b (Mo_nextToken_0 m) t = Mo_nextToken_52 t → (∃ u' v' b e k, Ta_step_0b (Ta_step_0 n) s = some ((), u') ∧ Mo_nextToken_0b (Mo_nextToken_0 m) t = some ((), v') ∧ p ≤ b ∧ Tok u' v' c T b e k ∧ Fr stC u u' ∧ Fr stM v v') := by
    intro e1 e2
    obtain ⟨u', v', e, k, b1, b2, b3, b4, b5⟩ := step52 hk (by omega) q3 q4
    exact ⟨u', v', q, e, k, e1.trans b1, e2.trans b2, q1, b3, (q5.mono (fun c k => lpC_st)).tr b4, (q6.mono (fun c k => lpM_st)).tr b5⟩
  by_cases qc : q < c
  · have hI : ib (nI q) 1000 = true := ib_nI (by omega) (by omega)
    have hT := hk.1.2 q qc
    have e10 : (nI (T q) = (10 : Int32)) ↔ T q = 10 := nI_eq (b := 10) (by omega) (by decide)
    have e32 : (nI (T q) = (32 : Int32)) ↔ T q = 32 := nI_eq (b := 32) (by omega) (by decide)
    have eC : Ta_step_0b (Ta_step_0 n) s = if T q = 10 then Ta_step_0 n (sI s 2 2 (nI (q + 1))) else if T q = 32 then Ta_step_0 n (sI s 2 2 (nI (q + 1))) else Ta_step_52 s := by
      unfold Ta_step_0b
      rw [q3, hk.2.1, if_neg (nI_ge qc (by omega)), if_pos hI, ix_nI (by omega), hk.2.2.1 q qc, if_pos hI, zl_e, show nI q + 1 = nI (q + 1) from nI_1 q]
      simp only [e10, e32]
    have eM : Mo_nextToken_0b (Mo_nextToken_0 m) t = if T q = 32 then Mo_nextToken_0 m (sI t 1 4 (nI (q + 1))) else if T q = 10 then Mo_nextToken_0 m (sI t 1 4 (nI (q + 1))) else Mo_nextToken_52 t := by
      unfold Mo_nextToken_0b
      rw [q4, hk.2.2.2.1, if_neg (nI_ge qc (by omega)), if_pos hI, ix_nI (by omega), hk.2.2.2.2 q qc, if_pos hI, zl_e, show nI q + 1 = nI (q + 1) from nI_1 q]
      simp only [e10, e32]
    by_cases sp : T q = 10 ∨ T q = 32
    · right
      refine ⟨k - 1, sI s 2 2 (nI (q + 1)), sI t 1 4 (nI (q + 1)), by omega, ⟨q + 1, by omega, by omega, gs_eq ⟨rfl, rfl⟩, gs_eq ⟨rfl, rfl⟩, q5.tr (Fr.sI (by unfold lpC; omega)), q6.tr (Fr.sI (by unfold lpM; omega))⟩, ?_, ?_⟩
      · rw [eC]
        rcases sp with sp | sp
        · rw [if_pos sp]
        · rw [if_neg (by omega), if_pos sp]
      · rw [eM]
        rcases sp with sp | sp
        · rw [if_neg (by omega), if_pos sp]
        · rw [if_pos sp]
    · left
      exact done (by rw [eC, if_neg (by omega), if_neg (by omega)]) (by rw [eM, if_neg (by omega), if_neg (by omega)])
  · left
    refine done ?_ ?_
    · unfold Ta_step_0b
      rw [q3, hk.2.1, if_pos (nI_le (by omega) (by omega))]
    · unfold Mo_nextToken_0b
      rw [q4, hk.2.2.2.1, if_pos (nI_le (by omega) (by omega))]
