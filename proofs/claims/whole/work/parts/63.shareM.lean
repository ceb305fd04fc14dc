/-! ===== share: the reference ===== -/
def bstM (u : zM) (O : Nat) (b : Option (Nat × Nat × (Nat → Int32))) : Prop := (b = none → gI u 1 63 = mI) ∧ ∀ p, b = some p → p.1 ≤ 10 ∧ p.2.1 ≤ 1000 ∧ gI u 1 63 = nI p.1 ∧ gI u 1 64 = nI p.2.1 ∧ ∀ o, o < O → gI u 49 o = p.2.2 o
def shM (c k : Nat) : Prop := c = 48 ∨ c = 49 ∨ (c = 1 ∧ (k = 63 ∨ k = 64))
theorem bstM.fr {u u' : zM} {O : Nat} {b : Option (Nat × Nat × (Nat → Int32))} (h : bstM u O b) (hf : Fr (fun c _ => c = 48) u u') : bstM u' O b := ⟨fun q => (hf.i (by omega)).trans (h.1 q), fun p q => ⟨(h.2 p q).1, (h.2 p q).2.1, (hf.i (by omega)).trans (h.2 p q).2.2.1, (hf.i (by omega)).trans (h.2 p q).2.2.2.1, fun o ho => (hf.i (by omega)).trans ((h.2 p q).2.2.2.2 o ho)⟩⟩
theorem shares_50 {u : zM} (zq : Int32 → Int32 → Int32 → Int32 → zM → Option (Unit × zM)) : Mo_shares_50 zF zq 0 u = some ((), wrM u 49 0 (fun k => gI u 48 k) 3) := by
  refine lpz (fun n (s : Int32 × zM) => Mo_shares_50 n zq s.1 s.2) (fun k => (nI k, wrM u 49 0 (fun k => gI u 48 k) k)) 3 _ (by omega) (fun n => ?_) (fun n k hk => ?_)
  · show Mo_shares_50b zq _ _ _ = _
    unfold Mo_shares_50b
    rw [if_pos (show (3 : Int32) ≤ nI 3 by decide)]
  · show Mo_shares_50b zq _ _ _ = Mo_shares_50 _ _ _ _
    have e : gI (wrM u 49 0 (fun k => gI u 48 k) k) 48 k = gI u 48 k := wrM_ne (by omega)
    unfold Mo_shares_50b
    rw [if_neg (show ¬ (3 : Int32) ≤ nI k from @nI_ge k 3 hk (by decide)), if_pos (ib_nI (by omega) (by omega)), if_pos (ib_nI (by omega) (by omega)), ix_nI (by omega), zl_e, e, show nI k + 1 = nI (k + 1) from nI_1 k, wrM_s, Nat.zero_add]
/-- what does not change -/
def shF (u : zM) (DS : Nat → Nat → Int32) (W O : Nat) : Prop := gI u 3 3 = nI O ∧ gI u 3 4 = nI W ∧ ∀ o w, o < O → w < W → gI u 47 (6 * o + w) = DS o w
theorem shF.fr {u u' : zM} {DS : Nat → Nat → Int32} {W O : Nat} (h : shF u DS W O) (hf : Fr shM u u') : shF u' DS W O := ⟨(hf.i (by unfold shM; omega)).trans h.1, (hf.i (by unfold shM; omega)).trans h.2.1, fun o w ho hw => (hf.i (by unfold shM; omega)).trans (h.2.2 o w ho hw)⟩
theorem Int32.tri (a b : Nat) (ha : a < 2 ^ 31) (hb : b < 2 ^ 31) : (nI a < nI b ↔ a < b) ∧ (nI a = nI b ↔ a = b) := ⟨nI_ltI ha hb, nI_eq ha hb⟩
theorem shares_leaf {DS : Nat → Nat → Int32} {W O q tk y : Nat} {u : zM} {b : Option (Nat × Nat × (Nat → Int32))} (hO : O ≤ 3) (hF : shF u DS W O) (hy : y ≤ 1000) (hr : ∀ k, k < O → gI u 48 k = rowQ W O q k) (hb : bstM u O b) (zq : Int32 → Int32 → Int32 → Int32 → zM → Option (Unit × zM)) (x : Int32) : ∃ u', Mo_shares_b zq (nI O) x (nI (pop tk)) (nI y) u = some ((), u') ∧ bstM u' O (updB (pop tk) y (rowQ W O q) b) ∧ (∀ k, gI u' 48 k = gI u 48 k) ∧ Fr shM u u' := by
  have hp := pop_le tk
  have key : bstM (wrM (sI (sI u 1 63 (nI (pop tk))) 1 64 (nI y)) 49 0 (fun k => gI (sI (sI u 1 63 (nI (pop tk))) 1 64 (nI y)) 48 k) 3) O (some (pop tk, y, rowQ W O q)) ∧ (∀ k, gI (wrM (sI (sI u 1 63 (nI (pop tk))) 1 64 (nI y)) 49 0 (fun k => gI (sI (sI u 1 63 (nI (pop tk))) 1 64 (nI y)) 48 k) 3) 48 k = gI u 48 k) ∧ Fr shM u (wrM (sI (sI u 1 63 (nI (pop tk))) 1 64 (nI y)) 49 0 (fun k => gI (sI (sI u 1 63 (nI (pop tk))) 1 64 (nI y)) 48 k) 3) := by
    refine ⟨⟨(fun h => nomatch h), fun p h => ?_⟩, fun k => ?_, ((Fr.sI (by unfold shM; omega)).tr (Fr.sI (by unfold shM; omega))).tr (wrM_fr _ _ _ _ _ (fun j _ _ => by unfold shM; omega))⟩
    · injection h with h
      subst h
      refine ⟨hp, hy, (wrM_ne (by omega)).trans ((gs_ne (by omega)).trans (gs_eq ⟨rfl, rfl⟩)), (wrM_ne (by omega)).trans (gs_eq ⟨rfl, rfl⟩), fun o ho => ?_⟩
      have e : gI (sI (sI u 1 63 (nI (pop tk))) 1 64 (nI y)) 48 o = gI u 48 o := (gs_ne (by omega)).trans (gs_ne (by omega))
      rw [wrM_g, if_pos (by omega), Nat.sub_zero, e]
      exact hr o ho
    · exact (wrM_ne (by omega)).trans ((gs_ne (by omega)).trans (gs_ne (by omega)))
  unfold Mo_shares_b
  rw [hF.1, if_pos rfl]
  cases b with
  | none =>
    have h63 := hb.1 rfl
    rw [h63, if_neg (show ¬ nI (pop tk) < mI from Int32.not_lt.mpr (Int32.le_of_lt (mI_lt (by omega)))), if_neg (mI_ne (by omega)), zl_e, zl_e, shares_50]
    exact ⟨_, rfl, key⟩
  | some p =>
    obtain ⟨p1, p2, p3, p4, p5⟩ := hb.2 p rfl
    rw [p3, p4]
    show ∃ u', _ ∧ bstM u' O (if p.1 < pop tk ∨ (pop tk = p.1 ∧ y < p.2.1) then some (pop tk, y, rowQ W O q) else some p) ∧ _
    by_cases q1 : pop tk < p.1
    · rw [if_pos (nI_lt q1 (by omega)), if_neg (by omega)]
      exact ⟨u, rfl, hb, fun _ => rfl, Fr.rf⟩
    · rw [if_neg (nI_nlt (by omega) (by omega))]
      by_cases q2 : pop tk = p.1
      · rw [if_pos (show nI (pop tk) = nI p.1 by rw [q2])]
        by_cases q3 : y < p.2.1
        · rw [if_pos (nI_lt q3 (by omega)), if_pos (Or.inr ⟨q2, q3⟩), zl_e, zl_e, shares_50]
          exact ⟨_, rfl, key⟩
        · rw [if_neg (nI_nlt (by omega) (by omega)), if_neg (by omega)]
          exact ⟨u, rfl, hb, fun _ => rfl, Fr.rf⟩
      · rw [if_neg (fun h => q2 ((nI_eq (by omega) (by omega)).mp h)), if_pos (Or.inl (by omega)), zl_e, zl_e, shares_50]
        exact ⟨_, rfl, key⟩
theorem rowQ_app {W o q w k : Nat} (hw : w < W + 1) (hk : k < o) : rowQ W (o + 1) (q * (W + 1) + w) k = rowQ W o q k := by
  rw [rowQ_s]
  unfold setR
  rw [if_neg (by omega), Nat.mul_comm, Nat.mul_add_div (by omega), Nat.div_eq_of_lt hw, Nat.add_zero]
theorem rowQ_last {W o q w : Nat} (hw : w < W + 1) : rowQ W (o + 1) (q * (W + 1) + w) o = if w < W then nI w else mI := by
  rw [rowQ_s]
  unfold setR
  rw [if_pos rfl, Nat.mul_comm, Nat.mul_add_mod, Nat.mod_eq_of_lt hw]
theorem shares_eq {DS : Nat → Nat → Int32} {W O : Nat} (hW : W ≤ 6) (hO : O ≤ 3) (hD : ∀ o w, okD (DS o w)) : ∀ d f o q tk y b u, o + d = O → d < f → tk < 128 → y + 60 * d ≤ 1000 → shF u DS W O → (∀ k, k < o → gI u 48 k = rowQ W o q k) → bstM u O b → ∃ u', Mo_shares f (nI o) (nI tk) (nI (pop tk)) (nI y) u = some ((), u') ∧ bstM u' O (shT DS W d o q tk y b) ∧ (∀ k, k < o → gI u' 48 k = gI u 48 k) ∧ Fr shM u u' := by
  intro d
  induction d with
  | zero =>
    intro f o q tk y b u ho hf htk hy hF hr hb
    rw [Nat.add_zero] at ho
    subst ho
    obtain ⟨f, rfl⟩ : ∃ z, f = z + 1 := ⟨f - 1, by omega⟩
    obtain ⟨u', a1, a2, a3, a4⟩ := shares_leaf (tk := tk) hO hF (by omega) hr hb (Mo_shares f) (nI tk)
    exact ⟨u', a1, a2, fun k _ => a3 k, a4⟩
  | succ d ih =>
    intro f o q tk y b u ho hf htk hy hF hr hb
    obtain ⟨f, rfl⟩ : ∃ z, f = z + 1 := ⟨f - 1, by omega⟩
    show ∃ u', Mo_shares_b (Mo_shares f) (nI o) (nI tk) (nI (pop tk)) (nI y) u = some ((), u') ∧ _
    unfold Mo_shares_b
    rw [hF.1, if_neg (fun h => by have := (nI_eq (by omega) (by omega)).mp h; omega), shT_s]
    have hi3 : ib (nI o) 3 = true := ib_nI (by omega) (by omega)
    have o1 : nI o + 1 = nI (o + 1) := nI_1 o
    refine lprz (fun n (s : Int32 × zM) => Mo_shares_80 n (Mo_shares f) (nI o) (nI tk) (nI (pop tk)) (nI y) s.1 s.2) (fun w s => s.1 = nI w ∧ bstM s.2 O (foW (fun w b => if (tk.testBit w || decide (DS o w < 0)) = true then b else shT DS W d (o + 1) (q * (W + 1) + w) (tk ||| 2 ^ w) (y + dnI (DS o w)) b) w b) ∧ (∀ k, k < o → gI s.2 48 k = gI u 48 k) ∧ Fr shM u s.2) (fun z => ∃ u', z = some ((), u') ∧ bstM u' O (shT DS W d (o + 1) (q * (W + 1) + W) tk y (foW (fun w b => if (tk.testBit w || decide (DS o w < 0)) = true then b else shT DS W d (o + 1) (q * (W + 1) + w) (tk ||| 2 ^ w) (y + dnI (DS o w)) b) W b)) ∧ (∀ k, k < o → gI u' 48 k = gI u 48 k) ∧ Fr shM u u') W (nI 0, u) (by omega) ⟨rfl, hb, fun _ _ => rfl, Fr.rf⟩ ?_ ?_
    · rintro n ⟨x, m⟩ ⟨h1, h2, h3, h4⟩
      dsimp only at h1 h2 h3 h4 ⊢
      subst h1
      have f48 : Fr (fun c _ => c = 48) m (sI m 48 o mI) := Fr.sI rfl
      have F1 : Fr shM u (sI m 48 o mI) := h4.tr (Fr.sI (Or.inl rfl))
      obtain ⟨u', a1, a2, a3, a4⟩ := ih f (o + 1) (q * (W + 1) + W) tk y _ (sI m 48 o mI) (by omega) (by omega) htk (by omega) (hF.fr F1) (fun k hk => by
        by_cases e : k = o
        · subst e
          rw [gs_eq ⟨rfl, rfl⟩, rowQ_last (by omega), if_neg (by omega)]
        · rw [gs_ne (by omega), rowQ_app (by omega) (by omega), h3 k (by omega)]
          exact hr k (by omega)) (h2.fr f48)
      refine ⟨u', ?_, a2, fun k hk => (a3 k (by omega)).trans ((gs_ne (by omega)).trans (h3 k hk)), F1.tr a4⟩
      show Mo_shares_80b _ _ _ _ _ _ _ _ = _
      unfold Mo_shares_80b
      rw [show gI m 3 4 = nI W from (hF.fr h4).2.1, if_pos (nI_le (Nat.le_refl _) (by omega)), if_pos hi3, ix_nI (by omega), zl_e, o1, zb_eq (show Mo_shares f (nI (o + 1)) (nI tk) (nI (pop tk)) (nI y) (sI m 48 o (-1)) = some ((), u') from a1)]
    · rintro n w ⟨x, m⟩ hw ⟨h1, h2, h3, h4⟩
      dsimp only at h1 h2 h3 h4 ⊢
      subst h1
      right
      have hFm := hF.fr h4
      have w1 : nI w + 1 = nI (w + 1) := nI_1 w
      have e6 : (6 * nI o) + nI w = nI (6 * o + w) := by rw [show (6 : Int32) = nI 6 from rfl, pk_mul, nI_add]
      obtain ⟨p1, p2, p3, p4⟩ := okD_lt (hD o w)
      have eb : ((nI tk >>> (nI w &&& 31)) &&& 1) = nI (tk.testBit w).toNat := bn_bit (by omega) (by omega)
      have hs : ∀ zr, Mo_shares_80b (Mo_shares f) zr (nI o) (nI tk) (nI (pop tk)) (nI y) (nI w) m = if (tk.testBit w || decide (DS o w < 0)) = true then zr (nI o) (nI tk) (nI (pop tk)) (nI y) (nI (w + 1)) m else zb (Mo_shares f (nI (o + 1)) (nI (tk ||| 2 ^ w)) (nI (pop tk + 1)) (nI (y + dnI (DS o w))) (sI m 48 o (nI w))) (fun _ u4 => zr (nI o) (nI tk) (nI (pop tk)) (nI y) (nI (w + 1)) u4) := by
        intro zr
        unfold Mo_shares_80b
        rw [hFm.2.1, if_neg (nI_ge hw (by omega)), eb, w1, e6, if_pos (ib_nI (by omega) (by omega)), ix_nI (by omega), hFm.2.2 o w (by omega) hw, if_pos hi3, ix_nI (by omega), zl_e, if_pos (ib_nI (by omega) (by omega)), show gI (sI m 48 o (nI w)) 47 (6 * o + w) = DS o w from (gs_ne (by omega)).trans (hFm.2.2 o w (by omega) hw), o1, show nI tk ||| ((1 : Int32) <<< (nI w &&& 31)) = _ from bn_or (show tk < 1024 by omega) (show w < 10 by omega), show nI (pop tk) + 1 = nI (pop tk + 1) from nI_1 _]
        cases tk.testBit w
        · rw [if_neg (show ¬ nI false.toNat = (1 : Int32) by decide), Bool.false_or]
          by_cases hd : DS o w = mI
          · rw [if_neg (fun z => p2.mp z hd), decide_eq_true (p1.mpr hd), if_pos rfl]
          · obtain ⟨d1, d2⟩ := p4 hd
            rw [if_pos (p2.mpr hd), decide_eq_false (fun z => hd (p1.mp z)), if_neg (by decide), show nI y + DS o w = nI (y + dnI (DS o w)) by rw [d1, nI_add, ← d1]]
        · rw [if_pos (show nI true.toNat = (1 : Int32) from rfl), Bool.true_or, if_pos rfl]
      show ∃ s', _ ∧ Mo_shares_80b _ _ _ _ _ _ _ _ = _
      rw [hs, foW_s]
      cases hc : (tk.testBit w || decide (DS o w < 0))
      · rw [Bool.or_eq_false_iff] at hc
        obtain ⟨c1, c2⟩ := hc
        have hd : ¬ DS o w = mI := fun z => by rw [decide_eq_true (p1.mpr z)] at c2; exact absurd c2 (by decide)
        obtain ⟨d1, d2⟩ := p4 hd
        have f48 : Fr (fun c _ => c = 48) m (sI m 48 o (nI w)) := Fr.sI rfl
        have F1 : Fr shM u (sI m 48 o (nI w)) := h4.tr (Fr.sI (Or.inl rfl))
        obtain ⟨u', a1, a2, a3, a4⟩ := ih f (o + 1) (q * (W + 1) + w) (tk ||| 2 ^ w) (y + dnI (DS o w)) _ (sI m 48 o (nI w)) (by omega) (by omega) (or128 htk (p2_lt (by omega))) (by omega) (hF.fr F1) (fun k hk => by
          by_cases e : k = o
          · subst e
            rw [gs_eq ⟨rfl, rfl⟩, rowQ_last (by omega), if_pos hw]
          · rw [gs_ne (by omega), rowQ_app (by omega) (by omega), h3 k (by omega)]
            exact hr k (by omega)) (h2.fr f48)
        rw [pop_or c1 (by omega)] at a1
        refine ⟨(nI (w + 1), u'), ⟨rfl, ?_, fun k hk => (a3 k (by omega)).trans ((gs_ne (by omega)).trans (h3 k hk)), F1.tr a4⟩, ?_⟩
        · dsimp only
          rw [if_neg (by decide)]
          exact a2
        · rw [if_neg (by decide), zb_eq a1]
      · refine ⟨(nI (w + 1), m), ⟨rfl, ?_, h3, h4⟩, by rw [if_pos rfl]⟩
        dsimp only
        rw [if_pos rfl]
        exact h2
