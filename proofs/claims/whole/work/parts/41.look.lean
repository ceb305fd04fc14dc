/-! ===== look ===== -/
def lkJ (G : Nat → Nat) (b : Nat) (st : Nat × Int32) : Nat → Nat × Int32
  | 0 => st
  | j + 1 => if G (j + 1) < (lkJ G b st j).1 then (G (j + 1), nI (b + (j + 1))) else lkJ G b st j
theorem lkJ_s (G : Nat → Nat) (b : Nat) (st : Nat × Int32) (j : Nat) : lkJ G b st (j + 1) = if G (j + 1) < (lkJ G b st j).1 then (G (j + 1), nI (b + (j + 1))) else lkJ G b st j := rfl
theorem lkJ_le {G : Nat → Nat} {b B : Nat} {st : Nat × Int32} (hG : ∀ j, G j ≤ B) (hs : st.1 ≤ B) (j : Nat) : (lkJ G b st j).1 ≤ B := by
  induction j with
  | zero => exact hs
  | succ j ih =>
    rw [lkJ_s]
    split
    · exact hG _
    · exact ih
def lkP (G : Nat → Nat → Nat) (al : Nat) : Nat → Nat × Int32
  | 0 => (al, mI)
  | p + 1 => lkJ (G p) (10 * p) (lkP G al p) 9
theorem lkP_le {G : Nat → Nat → Nat} {al B : Nat} (hG : ∀ p j, G p j ≤ B) (ha : al ≤ B) (p : Nat) : (lkP G al p).1 ≤ B := by
  induction p with
  | zero => exact ha
  | succ p ih => exact lkJ_le (hG p) ih 9
theorem cnt_mono {P Q : Nat → Bool} (h : ∀ k, P k = true → Q k = true) (n : Nat) : cnt P n ≤ cnt Q n := by
  induction n with
  | zero => exact Nat.le_refl 0
  | succ n ih =>
    show (if P n then _ else _) ≤ (if Q n then _ else _)
    cases hp : P n
    · rw [if_neg (by decide)]
      split <;> omega
    · rw [if_pos rfl, if_pos (h n hp)]
      omega
def soF (E : Int32 → Int32 → Int32 → Int32 → Int32) (K : Nat → Nat → Nat) (S : Nat → Nat) (s p m r : Nat) : Bool := s.testBit r && decide (m ≤ wbS E K p (S (1 + p)) r (S 0))
theorem soF_le (E : Int32 → Int32 → Int32 → Int32 → Int32) (K : Nat → Nat → Nat) (S : Nat → Nat) (s p m : Nat) : cnt (soF E K S s p m) 10 ≤ pop s := cnt_mono (fun k h => by unfold soF at h; simp at h; exact h.1) 10
def grF (E : Int32 → Int32 → Int32 → Int32 → Int32) (K : Nat → Nat → Nat) (S : Nat → Nat) (s p m : Nat) : Nat := max (cnt (soF E K S s p m) 10) (pop s - cnt (soF E K S s p m) 10)
theorem grF_le (E : Int32 → Int32 → Int32 → Int32 → Int32) (K : Nat → Nat → Nat) (S : Nat → Nat) (s p m : Nat) : grF E K S s p m ≤ 10 := by
  have h1 := soF_le E K S s p m
  have h2 := pop_le s
  unfold grF
  omega
theorem max_eq {a b : Nat} (ha : a < 2 ^ 31) (hb : b < 2 ^ 31) (u : zM) : Jm_max (nI a) (nI b) u = some (nI (max a b), u) := by
  unfold Jm_max
  simp only [nI_ltI ha hb]
  by_cases h : a < b
  · rw [if_pos h, Nat.max_eq_right (by omega)]
  · rw [if_neg h, Nat.max_eq_left (by omega)]
theorem fillTomorrow_eq {u : zM} {t : Nat} {N S : Nat → Nat} {K : Nat → Nat → Nat} {E : Int32 → Int32 → Int32 → Int32 → Int32} (hW : Wf N K S) (hu : NowC u t N K E 54 S) {p : Nat} (hp : p < N 0) : ∃ u', OW_fillTomorrow (nI p) u = some ((), u') ∧ NowC u' t N K E 54 S ∧ (∀ r, r < 10 → gI u' 84 r = nI (wbS E K p (S (1 + p)) r (S 0))) ∧ Fr (fun a _ => a = t + 20 ∨ a = 84) u u' := by
  unfold OW_fillTomorrow
  have ht := hu.2.1
  have lt := layT ht
  have hn0 : N 0 ≤ 7 := hW.1.1
  refine lprz (fun n (s : Int32 × zM) => OW_fillTomorrow_2 n (nI p) s.1 s.2) (fun k s => s.1 = nI k ∧ NowC s.2 t N K E 54 S ∧ (∀ r, r < k → gI s.2 84 r = nI (wbS E K p (S (1 + p)) r (S 0))) ∧ Fr (fun a _ => a = t + 20 ∨ a = 84) u s.2) (fun y => ∃ u', y = some ((), u') ∧ NowC u' t N K E 54 S ∧ (∀ r, r < 10 → gI u' 84 r = nI (wbS E K p (S (1 + p)) r (S 0))) ∧ Fr (fun a _ => a = t + 20 ∨ a = 84) u u') 10 (0, u) (by omega) ⟨rfl, hu, fun r hr => absurd hr (by omega), Fr.rf⟩ (fun n s hh => ?_) (fun n k s hk hh => Or.inr ?_)
  · obtain ⟨x, m⟩ := s
    obtain ⟨e, h1, h2, h3⟩ := hh
    dsimp only at e h1 h2 h3
    subst e
    refine ⟨m, ?_, h1, h2, h3⟩
    show OW_fillTomorrow_2b _ _ _ _ = _
    simp (disch := omega) only [OW_fillTomorrow_2b, li0, li1, li2, li3, li4, li5, li6, li7, li8, li9, li10, li11, li12, li13, li14, li15, li16, li17, li18, li19, li20, li21, li22, li23, li24, li25, li26, li27, li28, li29, li30, li31, li32, li37, li40, li41, li42, li43, li45, li47, li48, li57, li59, li60, li61, li63, li64, li75, li97, li98, li99, li100, li120, li122, li126, li200, li240, li255, li305, li306, li375, li400, li427, li428, li1000, li2000, li9999, neg_nI1, ↓reduceIte, nI_leI, nI_ltI, nI_eq, nI_add, nI_1, pk_mul, ix_nI, ib_nI, if_true, if_false, eq_self, true_and, and_true, not_false_eq_true, not_true_eq_false, Nat.reduceEqDiff, Nat.reduceLeDiff, Nat.reduceLT, Nat.reduceAdd, Nat.reduceMul]
  · obtain ⟨x, m⟩ := s
    obtain ⟨e, h1, h2, h3⟩ := hh
    dsimp only at e h1 h2 h3
    subst e
    obtain ⟨m', f1, f2⟩ := Co_waterBehind_eq hW h1 (l := S (1 + p)) (f := k) (d := S 0) hp
    have rt := h1.1
    have s0 : gI m 54 5 = nI (S 0) := h1.2.2.2.2.1
    have sp : gI m 55 p = nI (S (1 + p)) := h1.2.2.2.2.2.1 _ hp
    refine ⟨(nI (k + 1), sI m' 84 k (nI (wbS E K p (S (1 + p)) k (S 0)))), ⟨rfl, ?_, fun r hr => ?_, (h3.tr (f2.mono (fun a k h => Or.inl h))).tr (Fr.sI (Or.inr rfl))⟩, ?_⟩
    · exact h1.st (fun c i _ _ _ => by rw [gs_ne (by omega), f2.i (by omega)]) f2.2 (h1.2.2.2.2.fr hW.1 (fun j i _ _ _ => by rw [gs_ne (by omega), f2.i (by omega)]))
    · show gI (sI _ _ _ _) _ _ = _
      by_cases e : r = k
      · subst e; exact gs_eq ⟨rfl, rfl⟩
      · rw [gs_ne (by omega), f2.i (by omega)]; exact h2 r (by omega)
    · show OW_fillTomorrow_2b _ _ _ _ = OW_fillTomorrow_2 _ _ _ _
      simp (disch := omega) only [OW_fillTomorrow_2b, rt, lt, s0, sp, f1, show ¬ 9 < k by omega, zl_e, zs_e, li0, li1, li2, li3, li4, li5, li6, li7, li8, li9, li10, li11, li12, li13, li14, li15, li16, li17, li18, li19, li20, li21, li22, li23, li24, li25, li26, li27, li28, li29, li30, li31, li32, li37, li40, li41, li42, li43, li45, li47, li48, li57, li59, li60, li61, li63, li64, li75, li97, li98, li99, li100, li120, li122, li126, li200, li240, li255, li305, li306, li375, li400, li427, li428, li1000, li2000, li9999, neg_nI1, ↓reduceIte, nI_leI, nI_ltI, nI_eq, nI_add, nI_1, pk_mul, ix_nI, ib_nI, if_true, if_false, eq_self, true_and, and_true, not_false_eq_true, not_true_eq_false, Nat.reduceEqDiff, Nat.reduceLeDiff, Nat.reduceLT, Nat.reduceAdd, Nat.reduceMul]
theorem soMuch_eq {u : zM} {S : Nat → Nat} {K : Nat → Nat → Nat} {E : Int32 → Int32 → Int32 → Int32 → Int32} {p s m : Nat} (hs : s < 1024) (hm : m ≤ 9) (h : ∀ r, r < 10 → gI u 84 r = nI (wbS E K p (S (1 + p)) r (S 0))) : OW_rainsWithSoMuch (nI m) (nI s) u = some (nI (cnt (soF E K S s p m) 10), u) := by
  unfold OW_rainsWithSoMuch
  refine lpz (fun n (z : Int32 × Int32) => OW_rainsWithSoMuch_5 n (nI m) (nI s) z.1 z.2 u) (fun k => (nI (cnt (soF E K S s p m) k), nI k)) 10 _ (by omega) (fun n => ?_) (fun n k hk => ?_)
  · show OW_rainsWithSoMuch_5b _ _ _ _ _ _ = _
    simp (disch := omega) only [OW_rainsWithSoMuch_5b, li0, li1, li2, li3, li4, li5, li6, li7, li8, li9, li10, li11, li12, li13, li14, li15, li16, li17, li18, li19, li20, li21, li22, li23, li24, li25, li26, li27, li28, li29, li30, li31, li32, li37, li40, li41, li42, li43, li45, li47, li48, li57, li59, li60, li61, li63, li64, li75, li97, li98, li99, li100, li120, li122, li126, li200, li240, li255, li305, li306, li375, li400, li427, li428, li1000, li2000, li9999, neg_nI1, ↓reduceIte, nI_leI, nI_ltI, nI_eq, nI_add, nI_1, pk_mul, ix_nI, ib_nI, if_true, if_false, eq_self, true_and, and_true, not_false_eq_true, not_true_eq_false, Nat.reduceEqDiff, Nat.reduceLeDiff, Nat.reduceLT, Nat.reduceAdd, Nat.reduceMul]
  · show OW_rainsWithSoMuch_5b _ _ _ _ _ _ = OW_rainsWithSoMuch_5 _ _ _ _ _ _
    have h1 := h k hk
    have wl : wbS E K p (S (1 + p)) k (S 0) ≤ 9 := clN_le _
    have e : cnt (soF E K S s p m) (k + 1) = if soF E K S s p m k then cnt (soF E K S s p m) k + 1 else cnt (soF E K S s p m) k := rfl
    rw [e]
    unfold soF
    generalize wbS E K p (S (1 + p)) k (S 0) = Y at h1 wl ⊢
    simp (disch := omega) only [OW_rainsWithSoMuch_5b, h1, show ¬ 9 < k by omega, zl_e, zs_e, li0, li1, li2, li3, li4, li5, li6, li7, li8, li9, li10, li11, li12, li13, li14, li15, li16, li17, li18, li19, li20, li21, li22, li23, li24, li25, li26, li27, li28, li29, li30, li31, li32, li37, li40, li41, li42, li43, li45, li47, li48, li57, li59, li60, li61, li63, li64, li75, li97, li98, li99, li100, li120, li122, li126, li200, li240, li255, li305, li306, li375, li400, li427, li428, li1000, li2000, li9999, neg_nI1, ↓reduceIte, nI_leI, nI_ltI, nI_eq, nI_add, nI_1, pk_mul, ix_nI, ib_nI, if_true, if_false, eq_self, true_and, and_true, not_false_eq_true, not_true_eq_false, Nat.reduceEqDiff, Nat.reduceLeDiff, Nat.reduceLT, Nat.reduceAdd, Nat.reduceMul, bn_bit hs (show k < 10 by omega), bit_lt, bit_0]
    cases s.testBit k
    · rfl
    · rw [if_neg (show ¬ nI true.toNat = nI 0 by decide)]
      by_cases hc : Y < m
      · rw [if_pos hc, decide_eq_false (by omega)]; rfl
      · rw [if_neg hc, decide_eq_true (by omega)]; rfl
