/-! ===== bridges ===== -/
theorem nx_bit (L : Nat → Nat) (s q : Nat) : ∀ n, (nx L s n).testBit q = true ↔ ∃ r, r < n ∧ s.testBit r = true ∧ (L r).testBit q = true := by
  intro n
  induction n with
  | zero => exact ⟨fun h => by rw [show nx L s 0 = 0 from rfl, Nat.zero_testBit] at h; exact absurd h (by decide), fun ⟨r, h, _⟩ => absurd h (by omega)⟩
  | succ n ih =>
    rw [nx_s]
    by_cases hb : s.testBit n = true
    · rw [if_pos hb, Nat.testBit_or, Bool.or_eq_true, ih]
      constructor
      · rintro (⟨r, h1, h2⟩ | h)
        · exact ⟨r, by omega, h2⟩
        · exact ⟨n, by omega, hb, h⟩
      · rintro ⟨r, h1, h2, h3⟩
        by_cases hr : r = n
        · subst hr; exact Or.inr h3
        · exact Or.inl ⟨r, by omega, h2, h3⟩
    · rw [if_neg hb, ih]
      constructor
      · rintro ⟨r, h1, h2⟩
        exact ⟨r, by omega, h2⟩
      · rintro ⟨r, h1, h2, h3⟩
        by_cases hr : r = n
        · subst hr; exact absurd h2 hb
        · exact ⟨r, by omega, h2, h3⟩
/-- by at most k streams from p to q -/
def Wk (L : Nat → Nat) (n : Nat) : Nat → Nat → Nat → Prop
  | 0 => fun p q => p = q
  | k + 1 => fun p q => Wk L n k p q ∨ ∃ r, r < n ∧ Wk L n k p r ∧ (L r).testBit q = true
theorem Wk_s {L : Nat → Nat} {n k p q : Nat} : Wk L n (k + 1) p q ↔ Wk L n k p q ∨ ∃ r, r < n ∧ Wk L n k p r ∧ (L r).testBit q = true := Iff.rfl
theorem Wk_h {L : Nat → Nat} {n : Nat} : ∀ k p q, p < n → q < n → (Wk L n (k + 1) p q ↔ Wk L n k p q ∨ ∃ r, r < n ∧ (L p).testBit r = true ∧ Wk L n k r q) := by
  intro k
  induction k with
  | zero =>
    intro p q hp hq
    constructor
    · rintro (h | ⟨r, h1, h2, h3⟩)
      · exact Or.inl h
      · have h2 : p = r := h2
        subst h2
        exact Or.inr ⟨q, hq, h3, rfl⟩
    · rintro (h | ⟨r, h1, h2, h3⟩)
      · exact Or.inl h
      · have h3 : r = q := h3
        subst h3
        exact Or.inr ⟨p, hp, rfl, h2⟩
  | succ k ih =>
    intro p q hp hq
    constructor
    · rintro (h | ⟨r, h1, h2, h3⟩)
      · exact Or.inl h
      · rcases (ih p r hp h1).mp h2 with h | ⟨s, s1, s2, s3⟩
        · exact Or.inl (Or.inr ⟨r, h1, h, h3⟩)
        · exact Or.inr ⟨s, s1, s2, Or.inr ⟨r, h1, s3, h3⟩⟩
    · rintro (h | ⟨r, h1, h2, h3⟩)
      · exact Or.inl h
      · rcases h3 with h | ⟨s, s1, s2, s3⟩
        · exact Or.inl ((ih p q hp hq).mpr (Or.inr ⟨r, h1, h2, h⟩))
        · exact Or.inr ⟨s, s1, (ih p s hp s1).mpr (Or.inr ⟨r, h1, h2, s2⟩), s3⟩
theorem Wk_y {L : Nat → Nat} {n : Nat} (hL : ∀ p q, p < n → q < n → (L p).testBit q = (L q).testBit p) : ∀ k p q, p < n → q < n → (Wk L n k p q ↔ Wk L n k q p) := by
  intro k
  induction k with
  | zero => intro p q _ _; exact ⟨fun h => Eq.symm h, fun h => Eq.symm h⟩
  | succ k ih =>
    intro p q hp hq
    rw [Wk_s, Wk_h k q p hq hp, ih p q hp hq]
    constructor
    · rintro (h | ⟨r, h1, h2, h3⟩)
      · exact Or.inl h
      · exact Or.inr ⟨r, h1, by rw [hL q r hq h1]; exact h3, (ih p r hp h1).mp h2⟩
    · rintro (h | ⟨r, h1, h2, h3⟩)
      · exact Or.inl h
      · exact Or.inr ⟨r, h1, (ih p r hp h1).mpr h3, by rw [← hL q r hq h1]; exact h2⟩
theorem itr_Wk {L : Nat → Nat} {n p : Nat} (hp : p < n) : ∀ k q, q < n → ((itr L n (2 ^ n - 1) (2 ^ p) k).testBit q = true ↔ Wk L n k p q) := by
  intro k
  induction k with
  | zero =>
    intro q hq
    show (2 ^ p).testBit q = true ↔ p = q
    rw [Nat.testBit_two_pow]
    exact decide_eq_true_iff
  | succ k ih =>
    intro q hq
    show (itr L n (2 ^ n - 1) (2 ^ p) k ||| (nx L (itr L n (2 ^ n - 1) (2 ^ p) k &&& (2 ^ n - 1)) n &&& (2 ^ n - 1))).testBit q = true ↔ _
    rw [itr_sub (p2_all hp), Nat.testBit_or, Nat.testBit_and, Nat.testBit_two_pow_sub_one, decide_eq_true hq, Bool.and_true, Bool.or_eq_true, nx_bit, ih q hq, Wk_s]
    constructor
    · rintro (h | ⟨r, h1, h2, h3⟩)
      · exact Or.inl h
      · exact Or.inr ⟨r, h1, (ih r h1).mp h2, h3⟩
    · rintro (h | ⟨r, h1, h2, h3⟩)
      · exact Or.inl h
      · exact Or.inr ⟨r, h1, (ih r h1).mpr h2, h3⟩
theorem itr_sym {L : Nat → Nat} {n p q : Nat} (hL : ∀ p q, p < n → q < n → (L p).testBit q = (L q).testBit p) (hp : p < n) (hq : q < n) (k : Nat) : (itr L n (2 ^ n - 1) (2 ^ p) k).testBit q = (itr L n (2 ^ n - 1) (2 ^ q) k).testBit p := by
  have h1 := itr_Wk (L := L) hp k q hq
  have h2 := itr_Wk (L := L) hq k p hp
  have h3 := Wk_y hL k p q hp hq
  apply Bool.eq_iff_iff.mpr
  rw [h1, h2, h3]
/-- a stream flipped -/
def flp (L : Nat → Nat) (p q : Nat) : Nat → Nat := fun i => if i = p then L p ^^^ 2 ^ q else if i = q then L q ^^^ 2 ^ p else L i
theorem flp_c {L : Nat → Nat} {p q : Nat} (h : p ≠ q) : flp L p q = flp L q p := by
  funext i
  unfold flp
  by_cases h1 : i = p
  · rw [if_pos h1, if_neg (by omega), if_pos h1]
  · by_cases h2 : i = q
    · rw [if_neg h1, if_pos h2, if_pos h2]
    · rw [if_neg h1, if_neg h2, if_neg h2, if_neg h1]
theorem flp_bit {L : Nat → Nat} {p q : Nat} (hpq : p ≠ q) (i j : Nat) : ((flp L p q) i).testBit j = ((L i).testBit j ^^ decide ((i = p ∧ j = q) ∨ (i = q ∧ j = p))) := by
  unfold flp
  by_cases h1 : i = p
  · subst h1
    rw [if_pos rfl, Nat.testBit_xor, Nat.testBit_two_pow]
    congr 1
    apply decide_eq_decide.mpr
    omega
  · rw [if_neg h1]
    by_cases h2 : i = q
    · subst h2
      rw [if_pos rfl, Nat.testBit_xor, Nat.testBit_two_pow]
      congr 1
      apply decide_eq_decide.mpr
      omega
    · rw [if_neg h2, decide_eq_false (by omega), Bool.xor_false]
theorem flp_sym {L : Nat → Nat} {n p q : Nat} (hpq : p ≠ q) (hL : ∀ p q, p < n → q < n → (L p).testBit q = (L q).testBit p) : ∀ i j, i < n → j < n → ((flp L p q) i).testBit j = ((flp L p q) j).testBit i := by
  intro i j hi hj
  rw [flp_bit hpq, flp_bit hpq, hL i j hi hj]
  congr 1
  apply decide_eq_decide.mpr
  omega
theorem flp_lt {L : Nat → Nat} {n p q : Nat} (hp : p < 7) (hq : q < 7) (h : ∀ i, i < n → L i < 128) (hpn : p < n) (hqn : q < n) : ∀ i, i < n → flp L p q i < 128 := by
  intro i hi
  unfold flp
  split
  · exact xor128 (h p hpn) (p2_lt hq)
  · split
    · exact xor128 (h q hqn) (p2_lt hp)
    · exact h i hi
/-- both flips, and back -/
theorem flip_back (u : zM) (A p q : Nat) (x y : Int32) (hpq : p ≠ q) : sI (sI (sI (sI u A p x) A q y) A p (gI u A p)) A q (gI u A q) = u := by
  show ((fun a k => _), u.2) = (u.1, u.2)
  congr 1
  funext a k
  show (if a = A ∧ k = q then u.1 A q else if a = A ∧ k = p then u.1 A p else if a = A ∧ k = q then y else if a = A ∧ k = p then x else u.1 a k) = u.1 a k
  by_cases h1 : a = A ∧ k = q
  · rw [if_pos h1, h1.1, h1.2]
  · rw [if_neg h1]
    by_cases h2 : a = A ∧ k = p
    · rw [if_pos h2, h2.1, h2.2]
    · rw [if_neg h2, if_neg h1, if_neg h2]
theorem xor_back (a b : Nat) : a ^^^ b ^^^ b = a := by rw [Nat.xor_assoc, Nat.xor_self, Nat.xor_zero]
def brB (L : Nat → Nat) (n p q : Nat) : Bool := (L p).testBit q && !(itr (flp L p q) n (2 ^ n - 1) (2 ^ p) 7).testBit q
theorem brB_sym {L : Nat → Nat} {n p q : Nat} (hpq : p ≠ q) (hL : ∀ p q, p < n → q < n → (L p).testBit q = (L q).testBit p) (hp : p < n) (hq : q < n) : brB L n p q = brB L n q p := by
  unfold brB
  rw [hL p q hp hq, ← flp_c hpq, itr_sym (flp_sym hpq hL) hp hq]
def flC (u : zM) (A : Nat) (L : Nat → Nat) (p q : Nat) : zM := sI (sI u A p (nI (L p ^^^ 2 ^ q))) A q (nI (L q ^^^ 2 ^ p))
theorem flC_g {u : zM} {A n : Nat} {L : Nat → Nat} {p q : Nat} (hpq : p ≠ q) (h : ∀ i, i < n → gI u A i = nI (L i)) (i : Nat) (hi : i < n) : gI (flC u A L p q) A i = nI (flp L p q i) := by
  unfold flC flp
  rw [gI_sI, gI_sI]
  by_cases h1 : i = p
  · rw [if_neg (by omega), if_pos ⟨rfl, h1⟩, if_pos h1]
  · by_cases h2 : i = q
    · rw [if_pos ⟨rfl, h2⟩, if_neg h1, if_pos h2]
    · rw [if_neg (by omega), if_neg (by omega), if_neg h1, if_neg h2, h i hi]
theorem flC_back {u : zM} {A : Nat} {L : Nat → Nat} {p q : Nat} (hpq : p ≠ q) (hp : gI u A p = nI (L p)) (hq : gI u A q = nI (L q)) : flC (flC u A L p q) A (flp L p q) p q = u := by
  have e1 : flp L p q p ^^^ 2 ^ q = L p := by unfold flp; rw [if_pos rfl, xor_back]
  have e2 : flp L p q q ^^^ 2 ^ p = L q := by unfold flp; rw [if_neg (by omega), if_pos rfl, xor_back]
  show sI (sI (sI (sI u A p _) A q _) A p (nI (flp L p q p ^^^ 2 ^ q))) A q (nI (flp L p q q ^^^ 2 ^ p)) = u
  rw [e1, e2, ← hp, ← hq]
  exact flip_back u A p q _ _ hpq
theorem Co_flipLink_eq {u : zM} {t n : Nat} {L : Nat → Nat} (h : LkC u t n L) {p q : Nat} (hpq : p ≠ q) (hp : p < n) (hq : q < n) : Co_flipLink t (nI p) (nI q) u = some ((), flC u (t + 10) L p q) := by
  obtain ⟨h7, lt, h0, h1⟩ := h
  have a1 := h1 p hp
  have a2 := h1 q hq
  have e : gI (sI u (t + 10) p (nI (L p ^^^ 2 ^ q))) (t + 10) q = nI (L q) := (gs_ne (by omega)).trans a2.1
  simp (disch := omega) only [Co_flipLink, flC, lt, zl_e, zs_e, li0, li1, li2, li3, li4, li5, li6, li7, li8, li9, li10, li11, li12, li13, li14, li15, li16, li17, li18, li19, li20, li21, li22, li23, li24, li25, li26, li27, li28, li29, li30, li31, li32, li37, li40, li41, li42, li43, li45, li47, li48, li57, li59, li60, li61, li63, li64, li75, li97, li98, li99, li100, li120, li122, li126, li200, li240, li255, li305, li306, li375, li400, li427, li428, li1000, li2000, li9999, neg_nI1, ↓reduceIte, nI_leI, nI_ltI, nI_eq, nI_add, nI_1, pk_mul, ix_nI, ib_nI, if_true, if_false, eq_self, true_and, and_true, not_false_eq_true, not_true_eq_false, Nat.reduceEqDiff, Nat.reduceLeDiff, Nat.reduceLT, Nat.reduceAdd, Nat.reduceMul, a1.1, bn_xor a1.2 (show q < 7 by omega), e, bn_xor a2.2 (show p < 7 by omega)]
theorem LkC.fl {u : zM} {t n : Nat} {L : Nat → Nat} (h : LkC u t n L) {p q : Nat} (hpq : p ≠ q) (hp : p < n) (hq : q < n) : LkC (flC u (t + 10) L p q) t n (flp L p q) := by
  obtain ⟨h7, lt, h0, h1⟩ := h
  refine ⟨h7, lt, ?_, fun i hi => ⟨flC_g hpq (fun i hi => (h1 i hi).1) i hi, flp_lt (by omega) (by omega) (fun i hi => (h1 i hi).2) hp hq i hi⟩⟩
  unfold flC
  rw [gs_ne (by omega), gs_ne (by omega)]
  exact h0
theorem OW_isBridge_eq {u : zM} {t a : Nat} {N S : Nat → Nat} {K : Nat → Nat → Nat} {E : Int32 → Int32 → Int32 → Int32 → Int32} (hW : Wf N K S) (hu : NowC u t N K E a S) {p q : Nat} (hp : p < N 0) (hq : q < N 0) (hpq : p ≠ q) (hb : (K 0 p).testBit q = true) : OW_isBridge (nI p) (nI q) u = some (bI (brB (K 0) (N 0) p q), u) := by
  have k0 := NowC.lk hW hu
  have k1 := k0.fl hpq hp hq
  have e1 := Co_flipLink_eq k0 hpq hp hq
  have e2 := Co_flipLink_eq k1 hpq hp hq
  rw [flC_back hpq (k0.2.2.2 p hp).1 (k0.2.2.2 q hq).1] at e2
  have n0 := hW.1.1
  have rt := hu.1
  have lt := layT hu.2.1
  have r1 : gR (flC u (t + 10) (K 0) p q) 1 1 = t := rt
  have e3 := Co_spreadAll_eq k1 (p2_lt (show p < 7 by omega)) (all_lt n0)
  have c1 := k1.2.2.1
  have hlt := itr_lt (op := 2 ^ N 0 - 1) (fun i hi => (k1.2.2.2 i hi).2) (p2_lt (show p < 7 by omega)) 7
  have e4 : brB (K 0) (N 0) p q = !(itr (flp (K 0) p q) (N 0) (2 ^ N 0 - 1) (2 ^ p) 7).testBit q := by unfold brB; rw [hb, Bool.true_and]
  rw [e4]
  generalize itr (flp (K 0) p q) (N 0) (2 ^ N 0 - 1) (2 ^ p) 7 = A at *
  generalize flC u (t + 10) (K 0) p q = u1 at *
  simp (disch := omega) only [OW_isBridge, rt, lt, e1, r1, Co_allPlaces, c1, zl_e, zs_e, li0, li1, li2, li3, li4, li5, li6, li7, li8, li9, li10, li11, li12, li13, li14, li15, li16, li17, li18, li19, li20, li21, li22, li23, li24, li25, li26, li27, li28, li29, li30, li31, li32, li37, li40, li41, li42, li43, li45, li47, li48, li57, li59, li60, li61, li63, li64, li75, li97, li98, li99, li100, li120, li122, li126, li200, li240, li255, li305, li306, li375, li400, li427, li428, li1000, li2000, li9999, neg_nI1, ↓reduceIte, nI_leI, nI_ltI, nI_eq, nI_add, nI_1, pk_mul, ix_nI, ib_nI, if_true, if_false, eq_self, true_and, and_true, not_false_eq_true, not_true_eq_false, Nat.reduceEqDiff, Nat.reduceLeDiff, Nat.reduceLT, Nat.reduceAdd, Nat.reduceMul, all_eq n0, bn_shl (show p < 10 by omega), e3, e2, bn_bit (show A < 1024 by omega) (show q < 10 by omega)]
  cases A.testBit q
  · rw [if_pos (show nI false.toNat = nI 0 from rfl)]; rfl
  · rw [if_neg (show ¬ nI true.toNat = nI 0 by decide)]; rfl
def smN (f : Nat → Nat) : Nat → Nat
  | 0 => 0
  | n + 1 => smN f n + f n
theorem smN_s (f : Nat → Nat) (n : Nat) : smN f (n + 1) = smN f n + f n := rfl
theorem smN_le {f : Nat → Nat} {b : Nat} : ∀ n, (∀ k, k < n → f k ≤ b) → smN f n ≤ b * n := by
  intro n
  induction n with
  | zero => intro _; exact Nat.zero_le _
  | succ n ih =>
    intro h
    rw [smN_s, Nat.mul_succ]
    exact Nat.add_le_add (ih (fun k hk => h k (by omega))) (h n (by omega))
theorem smN_congr {f g : Nat → Nat} : ∀ n, (∀ k, k < n → f k = g k) → smN f n = smN g n := by
  intro n
  induction n with
  | zero => intro _; rfl
  | succ n ih =>
    intro h
    rw [smN_s, smN_s, ih (fun k hk => h k (by omega)), h n (by omega)]
/-- pairs counted row by row, from either side -/
theorem pairs_eq (f : Nat → Nat → Nat) {n : Nat} (h : n ≤ 7) : smN (fun p => smN (fun j => f p (p + 1 + j)) (n - 1 - p)) n = smN (fun a => smN (fun b => f b a) a) n := by
  have h8 : n = 0 ∨ n = 1 ∨ n = 2 ∨ n = 3 ∨ n = 4 ∨ n = 5 ∨ n = 6 ∨ n = 7 := by omega
  rcases h8 with rfl | rfl | rfl | rfl | rfl | rfl | rfl | rfl <;> simp only [smN, Nat.reduceAdd, Nat.reduceSub, Nat.zero_add, Nat.add_zero] <;> omega
theorem OW_bridges_eq {u : zM} {t : Nat} {N S : Nat → Nat} {K : Nat → Nat → Nat} {E : Int32 → Int32 → Int32 → Int32 → Int32} (hW : Wf N K S) (hu : NowC u t N K E 54 S) : OW_bridges u = some (nI (smN (fun p => smN (fun j => (brB (K 0) (N 0) p (p + 1 + j)).toNat) (N 0 - 1 - p)) (N 0)), u) := by
  have n0 := hW.1.1
  have rt := hu.1
  have lt := layT hu.2.1
  have c0 := hu.2.2.1.1.1
  unfold OW_bridges
  have bd : ∀ p k, k ≤ 7 → smN (fun j => (brB (K 0) (N 0) p (p + 1 + j)).toNat) k ≤ 7 := fun p k hk => Nat.le_trans (smN_le k (b := 1) (fun j _ => Bool.toNat_le _)) (by omega)
  have bd2 : ∀ p, p ≤ 7 → smN (fun p => smN (fun j => (brB (K 0) (N 0) p (p + 1 + j)).toNat) (N 0 - 1 - p)) p ≤ 49 := fun p hp => Nat.le_trans (smN_le p (b := 7) (fun j _ => bd _ _ (by omega))) (by omega)
  refine lpz (fun n (s : Int32 × Int32) => OW_bridges_4 n s.1 s.2 u) (fun k => (nI (smN (fun p => smN (fun j => (brB (K 0) (N 0) p (p + 1 + j)).toNat) (N 0 - 1 - p)) k), nI k)) (N 0) _ (by omega) (fun n => ?_) (fun n p hp => ?_)
  · show OW_bridges_4b _ _ _ _ = _
    simp (disch := omega) only [OW_bridges_4b, rt, lt, c0, li0, li1, li2, li3, li4, li5, li6, li7, li8, li9, li10, li11, li12, li13, li14, li15, li16, li17, li18, li19, li20, li21, li22, li23, li24, li25, li26, li27, li28, li29, li30, li31, li32, li37, li40, li41, li42, li43, li45, li47, li48, li57, li59, li60, li61, li63, li64, li75, li97, li98, li99, li100, li120, li122, li126, li200, li240, li255, li305, li306, li375, li400, li427, li428, li1000, li2000, li9999, neg_nI1, ↓reduceIte, nI_leI, nI_ltI, nI_eq, nI_add, nI_1, pk_mul, ix_nI, ib_nI, if_true, if_false, eq_self, true_and, and_true, not_false_eq_true, not_true_eq_false, Nat.reduceEqDiff, Nat.reduceLeDiff, Nat.reduceLT, Nat.reduceAdd, Nat.reduceMul, Nat.le_refl]
  · show OW_bridges_4b _ _ _ _ = OW_bridges_4 _ _ _ _
    rw [smN_s]
    have hb := bd2 p (by omega)
    generalize smN (fun p => smN (fun j => (brB (K 0) (N 0) p (p + 1 + j)).toNat) (N 0 - 1 - p)) p = B at *
    have e := lpz (fun n' (s : Int32 × Int32) => OW_bridges_22 n' (OW_bridges_4 n) s.1 (nI p) s.2 u) (fun j => (nI (B + smN (fun j => (brB (K 0) (N 0) p (p + 1 + j)).toNat) j), nI (p + 1 + j))) (N 0 - 1 - p) (OW_bridges_4 n (nI (B + smN (fun j => (brB (K 0) (N 0) p (p + 1 + j)).toNat) (N 0 - 1 - p))) (nI (p + 1)) u) (by omega) (fun n' => ?_) (fun n' j hj => ?_)
    · have e' : OW_bridges_22 zF (OW_bridges_4 n) (nI B) (nI p) (nI (p + 1)) u = _ := e
      simp (disch := omega) only [OW_bridges_4b, rt, lt, c0, zl_e, zs_e, li0, li1, li2, li3, li4, li5, li6, li7, li8, li9, li10, li11, li12, li13, li14, li15, li16, li17, li18, li19, li20, li21, li22, li23, li24, li25, li26, li27, li28, li29, li30, li31, li32, li37, li40, li41, li42, li43, li45, li47, li48, li57, li59, li60, li61, li63, li64, li75, li97, li98, li99, li100, li120, li122, li126, li200, li240, li255, li305, li306, li375, li400, li427, li428, li1000, li2000, li9999, neg_nI1, ↓reduceIte, nI_leI, nI_ltI, nI_eq, nI_add, nI_1, pk_mul, ix_nI, ib_nI, if_true, if_false, eq_self, true_and, and_true, not_false_eq_true, not_true_eq_false, Nat.reduceEqDiff, Nat.reduceLeDiff, Nat.reduceLT, Nat.reduceAdd, Nat.reduceMul, Nat.not_le.mpr hp, e']
    · show OW_bridges_22b _ _ _ _ _ _ = _
      have hx : N 0 ≤ p + 1 + (N 0 - 1 - p) := by omega
      simp (disch := omega) only [OW_bridges_22b, rt, lt, c0, li0, li1, li2, li3, li4, li5, li6, li7, li8, li9, li10, li11, li12, li13, li14, li15, li16, li17, li18, li19, li20, li21, li22, li23, li24, li25, li26, li27, li28, li29, li30, li31, li32, li37, li40, li41, li42, li43, li45, li47, li48, li57, li59, li60, li61, li63, li64, li75, li97, li98, li99, li100, li120, li122, li126, li200, li240, li255, li305, li306, li375, li400, li427, li428, li1000, li2000, li9999, neg_nI1, ↓reduceIte, nI_leI, nI_ltI, nI_eq, nI_add, nI_1, pk_mul, ix_nI, ib_nI, if_true, if_false, eq_self, true_and, and_true, not_false_eq_true, not_true_eq_false, Nat.reduceEqDiff, Nat.reduceLeDiff, Nat.reduceLT, Nat.reduceAdd, Nat.reduceMul, hx]
    · show OW_bridges_22b _ _ _ _ _ _ = OW_bridges_22 _ _ _ _ _ _
      have hx : ¬ N 0 ≤ p + 1 + j := by omega
      have hj7 := bd p j (by omega)
      have e1 := Co_isLinked_eq hW hu hp (show p + 1 + j < 7 by omega)
      have e2 := OW_isBridge_eq hW hu hp (show p + 1 + j < N 0 by omega) (show p ≠ p + 1 + j by omega)
      rw [smN_s]
      generalize smN (fun j => (brB (K 0) (N 0) p (p + 1 + j)).toNat) j = C at *
      simp (disch := omega) only [OW_bridges_22b, rt, lt, c0, zl_e, zs_e, li0, li1, li2, li3, li4, li5, li6, li7, li8, li9, li10, li11, li12, li13, li14, li15, li16, li17, li18, li19, li20, li21, li22, li23, li24, li25, li26, li27, li28, li29, li30, li31, li32, li37, li40, li41, li42, li43, li45, li47, li48, li57, li59, li60, li61, li63, li64, li75, li97, li98, li99, li100, li120, li122, li126, li200, li240, li255, li305, li306, li375, li400, li427, li428, li1000, li2000, li9999, neg_nI1, ↓reduceIte, nI_leI, nI_ltI, nI_eq, nI_add, nI_1, pk_mul, ix_nI, ib_nI, if_true, if_false, eq_self, true_and, and_true, not_false_eq_true, not_true_eq_false, Nat.reduceEqDiff, Nat.reduceLeDiff, Nat.reduceLT, Nat.reduceAdd, Nat.reduceMul, hx, e1, bI_0]
      cases hb : (K 0 p).testBit (p + 1 + j)
      · have e3 : (brB (K 0) (N 0) p (p + 1 + j)) = false := by unfold brB; rw [hb]; rfl
        rw [e3, if_pos rfl]
        rfl
      · rw [if_neg (by decide), zb_eq (e2 hb)]
        simp only [bI_0]
        cases brB (K 0) (N 0) p (p + 1 + j)
        · rw [if_pos rfl]; rfl
        · rw [if_neg (by decide)]; rfl
theorem LkM.fl {v : zM} {n : Nat} {L : Nat → Nat} (h : LkM v n L) {p q : Nat} (hpq : p ≠ q) (hp : p < n) (hq : q < n) : LkM (flC v 9 L p q) n (flp L p q) := by
  obtain ⟨h7, h0, h1⟩ := h
  refine ⟨h7, ?_, fun i hi => ⟨flC_g hpq (fun i hi => (h1 i hi).1) i hi, flp_lt (by omega) (by omega) (fun i hi => (h1 i hi).2) hp hq i hi⟩⟩
  unfold flC
  rw [gs_ne (by omega), gs_ne (by omega)]
  exact h0
theorem Mo_bridges_90_eq {v : zM} {n : Nat} {L : Nat → Nat} (h : LkM v n L) {p q : Nat} (hpq : p ≠ q) (hp : p < n) (hq : q < n) (zr : Int32 → Int32 → Int32 → zM → Option (Int32 × zM)) (x y : Int32) : Mo_bridges_90 zr (nI p) (nI q) x y v = zr (x + y) (nI p) (nI (q + 1)) (flC v 9 L p q) := by
  obtain ⟨h7, h0, h1⟩ := h
  have a1 := h1 p hp
  have a2 := h1 q hq
  have e : gI (sI v 9 p (nI (L p ^^^ 2 ^ q))) 9 q = nI (L q) := (gs_ne (by omega)).trans a2.1
  simp (disch := omega) only [Mo_bridges_90, flC, zl_e, zs_e, li0, li1, li2, li3, li4, li5, li6, li7, li8, li9, li10, li11, li12, li13, li14, li15, li16, li17, li18, li19, li20, li21, li22, li23, li24, li25, li26, li27, li28, li29, li30, li31, li32, li37, li40, li41, li42, li43, li45, li47, li48, li57, li59, li60, li61, li63, li64, li75, li97, li98, li99, li100, li120, li122, li126, li200, li240, li255, li305, li306, li375, li400, li427, li428, li1000, li2000, li9999, neg_nI1, ↓reduceIte, nI_leI, nI_ltI, nI_eq, nI_add, nI_1, pk_mul, ix_nI, ib_nI, if_true, if_false, eq_self, true_and, and_true, not_false_eq_true, not_true_eq_false, Nat.reduceEqDiff, Nat.reduceLeDiff, Nat.reduceLT, Nat.reduceAdd, Nat.reduceMul, a1.1, bn_xor a1.2 (show q < 7 by omega), e, bn_xor a2.2 (show p < 7 by omega)]
theorem Mo_bridges_eq {v : zM} {N S : Nat → Nat} {K : Nat → Nat → Nat} {E : Int32 → Int32 → Int32 → Int32 → Int32} (hW : Wf N K S) (hz : NowM v N K E S) : Mo_bridges_9 zF 0 0 v = some (nI (smN (fun a => smN (fun b => (brB (K 0) (N 0) a b).toNat) a) (N 0)), v) := by
  have n0 := hW.1.1
  have k0 := NowM.lk hW hz
  have m0 := k0.2.1
  have bd : ∀ p k, k ≤ 7 → smN (fun j => (brB (K 0) (N 0) p j).toNat) k ≤ 7 := fun p k hk => Nat.le_trans (smN_le k (b := 1) (fun j _ => Bool.toNat_le _)) (by omega)
  have bd2 : ∀ p, p ≤ 7 → smN (fun a => smN (fun b => (brB (K 0) (N 0) a b).toNat) a) p ≤ 49 := fun p hp => Nat.le_trans (smN_le p (b := 7) (fun j _ => bd _ _ (by omega))) (by omega)
  refine lpz (fun n (s : Int32 × Int32) => Mo_bridges_9 n s.1 s.2 v) (fun k => (nI (smN (fun a => smN (fun b => (brB (K 0) (N 0) a b).toNat) a) k), nI k)) (N 0) _ (by omega) (fun n => ?_) (fun n p hp => ?_)
  · show Mo_bridges_9b _ _ _ _ = _
    simp (disch := omega) only [Mo_bridges_9b, m0, li0, li1, li2, li3, li4, li5, li6, li7, li8, li9, li10, li11, li12, li13, li14, li15, li16, li17, li18, li19, li20, li21, li22, li23, li24, li25, li26, li27, li28, li29, li30, li31, li32, li37, li40, li41, li42, li43, li45, li47, li48, li57, li59, li60, li61, li63, li64, li75, li97, li98, li99, li100, li120, li122, li126, li200, li240, li255, li305, li306, li375, li400, li427, li428, li1000, li2000, li9999, neg_nI1, ↓reduceIte, nI_leI, nI_ltI, nI_eq, nI_add, nI_1, pk_mul, ix_nI, ib_nI, if_true, if_false, eq_self, true_and, and_true, not_false_eq_true, not_true_eq_false, Nat.reduceEqDiff, Nat.reduceLeDiff, Nat.reduceLT, Nat.reduceAdd, Nat.reduceMul, Nat.le_refl]
  · show Mo_bridges_9b _ _ _ _ = Mo_bridges_9 _ _ _ _
    rw [smN_s]
    have hb := bd2 p (by omega)
    generalize smN (fun a => smN (fun b => (brB (K 0) (N 0) a b).toNat) a) p = B at *
    have e := lpz (fun n' (s : Int32 × Int32) => Mo_bridges_21 n' (Mo_bridges_9 n) s.1 (nI p) s.2 v) (fun j => (nI (B + smN (fun b => (brB (K 0) (N 0) p b).toNat) j), nI j)) p (Mo_bridges_9 n (nI (B + smN (fun b => (brB (K 0) (N 0) p b).toNat) p)) (nI (p + 1)) v) (by omega) (fun n' => ?_) (fun n' j hj => ?_)
    · have e' : Mo_bridges_21 zF (Mo_bridges_9 n) (nI B) (nI p) (nI 0) v = _ := e
      simp (disch := omega) only [Mo_bridges_9b, m0, zl_e, zs_e, li0, li1, li2, li3, li4, li5, li6, li7, li8, li9, li10, li11, li12, li13, li14, li15, li16, li17, li18, li19, li20, li21, li22, li23, li24, li25, li26, li27, li28, li29, li30, li31, li32, li37, li40, li41, li42, li43, li45, li47, li48, li57, li59, li60, li61, li63, li64, li75, li97, li98, li99, li100, li120, li122, li126, li200, li240, li255, li305, li306, li375, li400, li427, li428, li1000, li2000, li9999, neg_nI1, ↓reduceIte, nI_leI, nI_ltI, nI_eq, nI_add, nI_1, pk_mul, ix_nI, ib_nI, if_true, if_false, eq_self, true_and, and_true, not_false_eq_true, not_true_eq_false, Nat.reduceEqDiff, Nat.reduceLeDiff, Nat.reduceLT, Nat.reduceAdd, Nat.reduceMul, Nat.not_le.mpr hp, e']
    · show Mo_bridges_21b _ _ _ _ _ _ = _
      simp (disch := omega) only [Mo_bridges_21b, li0, li1, li2, li3, li4, li5, li6, li7, li8, li9, li10, li11, li12, li13, li14, li15, li16, li17, li18, li19, li20, li21, li22, li23, li24, li25, li26, li27, li28, li29, li30, li31, li32, li37, li40, li41, li42, li43, li45, li47, li48, li57, li59, li60, li61, li63, li64, li75, li97, li98, li99, li100, li120, li122, li126, li200, li240, li255, li305, li306, li375, li400, li427, li428, li1000, li2000, li9999, neg_nI1, ↓reduceIte, nI_leI, nI_ltI, nI_eq, nI_add, nI_1, pk_mul, ix_nI, ib_nI, if_true, if_false, eq_self, true_and, and_true, not_false_eq_true, not_true_eq_false, Nat.reduceEqDiff, Nat.reduceLeDiff, Nat.reduceLT, Nat.reduceAdd, Nat.reduceMul, Nat.le_refl]
    · show Mo_bridges_21b _ _ _ _ _ _ = Mo_bridges_21 _ _ _ _ _ _
      have hx : ¬ p ≤ j := by omega
      have hj7 := bd p j (by omega)
      have hjn : j < N 0 := by omega
      have hpq : p ≠ j := by omega
      have a1 := k0.2.2 p hp
      have a2 := k0.2.2 j hjn
      rw [smN_s]
      generalize smN (fun b => (brB (K 0) (N 0) p b).toNat) j = C at *
      have e : gI (sI v 9 p (nI (K 0 p ^^^ 2 ^ j))) 9 j = nI (K 0 j) := (gs_ne (by omega)).trans a2.1
      simp (disch := omega) only [Mo_bridges_21b, zl_e, zs_e, li0, li1, li2, li3, li4, li5, li6, li7, li8, li9, li10, li11, li12, li13, li14, li15, li16, li17, li18, li19, li20, li21, li22, li23, li24, li25, li26, li27, li28, li29, li30, li31, li32, li37, li40, li41, li42, li43, li45, li47, li48, li57, li59, li60, li61, li63, li64, li75, li97, li98, li99, li100, li120, li122, li126, li200, li240, li255, li305, li306, li375, li400, li427, li428, li1000, li2000, li9999, neg_nI1, ↓reduceIte, nI_leI, nI_ltI, nI_eq, nI_add, nI_1, pk_mul, ix_nI, ib_nI, if_true, if_false, eq_self, true_and, and_true, not_false_eq_true, not_true_eq_false, Nat.reduceEqDiff, Nat.reduceLeDiff, Nat.reduceLT, Nat.reduceAdd, Nat.reduceMul, hx, a1.1, bn_bit (show K 0 p < 1024 by omega) (show j < 10 by omega), bn_xor a1.2 (show j < 7 by omega), e, bn_xor a2.2 (show p < 7 by omega)]
      cases hb : (K 0 p).testBit j
      · have e3 : (brB (K 0) (N 0) p j) = false := by unfold brB; rw [hb]; rfl
        rw [e3, if_pos (show nI false.toNat = nI 0 from rfl)]
        rfl
      · rw [if_neg (show ¬ nI true.toNat = nI 0 by decide)]
        have k1 := k0.fl hpq hp hjn
        have e2 := flC_back hpq a1.1 a2.1
        have g1 := Mo_bridges_90_eq k1 hpq hp hjn (Mo_bridges_21 n' (Mo_bridges_9 n))
        rw [e2] at g1
        have g2 := Mo_spreads_eq k1 (p2_lt (show p < 7 by omega)) (all_lt n0)
        rw [p2_all hp] at g2
        have hlt := itr_lt (op := 2 ^ N 0 - 1) (fun i hi => (k1.2.2 i hi).2) (p2_lt (show p < 7 by omega)) 7
        have c1 := k1.2.1
        have e4 : brB (K 0) (N 0) p j = !(itr (flp (K 0) p j) (N 0) (2 ^ N 0 - 1) (2 ^ p) 7).testBit j := by unfold brB; rw [hb, Bool.true_and]
        rw [e4]
        unfold flC at c1 g1 g2
        generalize itr (flp (K 0) p j) (N 0) (2 ^ N 0 - 1) (2 ^ p) 7 = A at *
        generalize sI (sI v 9 p (nI (K 0 p ^^^ 2 ^ j))) 9 j (nI (K 0 j ^^^ 2 ^ p)) = v1 at *
        simp (disch := omega) only [Mo_every, c1, zl_e, zs_e, li0, li1, li2, li3, li4, li5, li6, li7, li8, li9, li10, li11, li12, li13, li14, li15, li16, li17, li18, li19, li20, li21, li22, li23, li24, li25, li26, li27, li28, li29, li30, li31, li32, li37, li40, li41, li42, li43, li45, li47, li48, li57, li59, li60, li61, li63, li64, li75, li97, li98, li99, li100, li120, li122, li126, li200, li240, li255, li305, li306, li375, li400, li427, li428, li1000, li2000, li9999, neg_nI1, ↓reduceIte, nI_leI, nI_ltI, nI_eq, nI_add, nI_1, pk_mul, ix_nI, ib_nI, if_true, if_false, eq_self, true_and, and_true, not_false_eq_true, not_true_eq_false, Nat.reduceEqDiff, Nat.reduceLeDiff, Nat.reduceLT, Nat.reduceAdd, Nat.reduceMul, all_eq n0, bn_shl (show p < 10 by omega), g2, bn_bit (show A < 1024 by omega) (show j < 10 by omega), g1]
        cases A.testBit j
        · rw [if_pos (show nI false.toNat = nI 0 from rfl)]; rfl
        · rw [if_neg (show ¬ nI true.toNat = nI 0 by decide)]; rfl
theorem q_bridges {u v : zM} {t : Nat} {N S : Nat → Nat} {K : Nat → Nat → Nat} {E : Int32 → Int32 → Int32 → Int32 → Int32} (hW : Wf N K S) (hu : NowC u t N K E 54 S) (hz : NowM v N K E S) : ∃ r, OW_bridges u = some (r, u) ∧ Mo_bridges v = some (r, sI v 1 0 0) := by
  refine ⟨_, OW_bridges_eq hW hu, ?_⟩
  unfold Mo_bridges
  rw [zl_e, Mo_bridges_eq hW (hz.th hW.1)]
  have hL : ∀ p q, p < N 0 → q < N 0 → (K 0 p).testBit q = (K 0 q).testBit p := fun p q hp hq => (hW.2.1.1 p hp).2.2.2 q hq
  have e1 := pairs_eq (fun p q => (brB (K 0) (N 0) p q).toNat) hW.1.1
  have e2 : smN (fun a => smN (fun b => (brB (K 0) (N 0) a b).toNat) a) (N 0) = smN (fun a => smN (fun b => (brB (K 0) (N 0) b a).toNat) a) (N 0) := smN_congr _ (fun a ha => smN_congr _ (fun b hb => by rw [brB_sym (by omega) hL ha (by omega)]))
  rw [e2, ← e1]
theorem c_bridges {n : Nat} {u v : zM} (h : Inv n u v) (hn : n < 600) : ∃ r u' v', OW_bridges u = some (r, u') ∧ Mo_bridges v = some (r, v') ∧ Inv (n + 1) u' v' :=
  h.q hn (fun _ _ _ _ _ _ h => q_bridges h.1 h.2.2.1 h.2.2.2.1)
