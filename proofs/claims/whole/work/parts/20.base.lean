/-! ===== PURE PART. numbers, bits, loops, frames ===== -/
theorem ix_nI {k : Nat} (h : k < 2 ^ 31) : ix (nI k) = k := nI_clamp h
theorem ib_nI {k n : Nat} (h : k < n) (hn : n < 2 ^ 31) : ib (nI k) n = true := by
  simp only [ib, Bool.and_eq_true, decide_eq_true_eq, nI_toInt (Nat.lt_trans h hn)]
  omega
theorem nI_lit (n : Nat) : (OfNat.ofNat n : Int32) = nI n := rfl
/-- a loop that goes from 0 up to N, its state a function of the round -/
theorem lpf {σ ρ : Type} (f : Nat → σ → Option ρ) (I : Nat → σ) (N : Nat) (r : Option ρ) (hend : ∀ n, f (n + 1) (I N) = r) (hstep : ∀ n k, k < N → f (n + 1) (I k) = f n (I (k + 1))) : ∀ (d k n : Nat), k + d = N → d < n → f n (I k) = r := by
  intro d
  induction d with
  | zero =>
    intro k n hk hn
    obtain ⟨n, rfl⟩ : ∃ z, n = z + 1 := ⟨n - 1, by omega⟩
    have : k = N := by omega
    rw [this]
    exact hend n
  | succ d ih =>
    intro k n hk hn
    obtain ⟨n, rfl⟩ : ∃ z, n = z + 1 := ⟨n - 1, by omega⟩
    rw [hstep n k (by omega)]
    exact ih (k + 1) n (by omega) (by omega)
/-- .. begun at 0, with the fuel that all loops have -/
theorem lpz {σ ρ : Type} (f : Nat → σ → Option ρ) (I : Nat → σ) (N : Nat) (r : Option ρ) (hN : N < 4096) (hend : ∀ n, f (n + 1) (I N) = r) (hstep : ∀ n k, k < N → f (n + 1) (I k) = f n (I (k + 1))) : f zF (I 0) = r :=
  lpf f I N r hend hstep N 0 zF (Nat.zero_add N) hN
/-- the state of a loop that may end early: a relation instead of a function -/
theorem lpr {σ ρ : Type} (f : Nat → σ → Option ρ) (I : Nat → σ → Prop) (Q : Option ρ → Prop) (N : Nat) (hend : ∀ n s, I N s → Q (f (n + 1) s)) (hstep : ∀ n k s, k < N → I k s → Q (f (n + 1) s) ∨ ∃ s', I (k + 1) s' ∧ f (n + 1) s = f n s') : ∀ (d k n : Nat) (s : σ), k + d = N → d < n → I k s → Q (f n s) := by
  intro d
  induction d with
  | zero =>
    intro k n s hk hn hs
    obtain ⟨n, rfl⟩ : ∃ z, n = z + 1 := ⟨n - 1, by omega⟩
    have : k = N := by omega
    rw [this] at hs
    exact hend n s hs
  | succ d ih =>
    intro k n s hk hn hs
    obtain ⟨n, rfl⟩ : ∃ z, n = z + 1 := ⟨n - 1, by omega⟩
    rcases hstep n k s (by omega) hs with h | ⟨s', h1, h2⟩
    · exact h
    · rw [h2]
      exact ih (k + 1) n s' (by omega) (by omega) h1
theorem lprz {σ ρ : Type} (f : Nat → σ → Option ρ) (I : Nat → σ → Prop) (Q : Option ρ → Prop) (N : Nat) (s : σ) (hN : N < 4096) (h0 : I 0 s) (hend : ∀ n s, I N s → Q (f (n + 1) s)) (hstep : ∀ n k s, k < N → I k s → Q (f (n + 1) s) ∨ ∃ s', I (k + 1) s' ∧ f (n + 1) s = f n s') : Q (f zF s) :=
  lpr f I Q N hend hstep N 0 zF s (Nat.zero_add N) hN h0
/-! bits: all masks are of ten bits at most -/
theorem b_or : ∀ a, a < 1024 → ∀ k, k < 10 → nI a ||| (1 <<< (nI k &&& 31)) = nI (a ||| 2 ^ k) := by decide +kernel
theorem b_shl : ∀ k, k < 10 → (1 : Int32) <<< (nI k &&& 31) = nI (2 ^ k) := by decide +kernel
theorem b_bit : ∀ a, a < 1024 → ∀ k, k < 10 → (nI a >>> (nI k &&& 31)) &&& 1 = nI ((a.testBit k).toNat) := by decide +kernel
theorem b_and : ∀ a, a < 128 → ∀ b, b < 128 → nI a &&& nI b = nI (a &&& b) := by decide +kernel
theorem b_lor : ∀ a, a < 128 → ∀ b, b < 128 → nI a ||| nI b = nI (a ||| b) := by decide +kernel
theorem b_xor : ∀ a, a < 128 → ∀ k, k < 7 → nI a ^^^ (1 <<< (nI k &&& 31)) = nI (a ^^^ 2 ^ k) := by decide +kernel
theorem b_one (a : Int32) : a ||| 0 = a := by
  apply Int32.toBitVec_inj.mp
  simp
/-- the mask of those below n that have P -/
def mk (P : Nat → Bool) : Nat → Nat
  | 0 => 0
  | n + 1 => if P n then mk P n ||| 2 ^ n else mk P n
theorem mk_lt (P : Nat → Bool) (n : Nat) : mk P n < 2 ^ n := by
  induction n with
  | zero => exact Nat.lt_of_lt_of_le (Nat.lt_succ_self 0) (Nat.le_refl _)
  | succ n ih =>
    have h2 : 2 ^ n < 2 ^ (n + 1) := Nat.pow_lt_pow_right (by decide) (by omega)
    unfold mk
    split
    · exact Nat.or_lt_two_pow (Nat.lt_trans ih h2) h2
    · exact Nat.lt_trans ih h2
theorem mk_bit (P : Nat → Bool) (n k : Nat) : (mk P n).testBit k = (decide (k < n) && P k) := by
  induction n with
  | zero => simp [mk]
  | succ n ih =>
    unfold mk
    by_cases hk : k = n
    · subst hk
      split
      · rename_i h
        simp [Nat.testBit_or, ih, h]
      · rename_i h
        simp [ih, h]
    · have e : decide (k < n + 1) = decide (k < n) := by
        by_cases h : k < n
        · simp [h]; omega
        · simp [h]; omega
      split
      · rw [Nat.testBit_or, ih, e, Nat.testBit_two_pow]
        have : decide (n = k) = false := by simp; omega
        simp [this]
      · rw [ih, e]
theorem mk_congr {P Q : Nat → Bool} {n : Nat} (h : ∀ k, k < n → P k = Q k) : mk P n = mk Q n := by
  induction n with
  | zero => rfl
  | succ n ih =>
    unfold mk
    rw [ih (fun k hk => h k (by omega)), h n (by omega)]
theorem mk_1024 (P : Nat → Bool) {n : Nat} (h : n ≤ 10) : mk P n < 1024 := Nat.lt_of_lt_of_le (mk_lt P n) (show 2 ^ n ≤ 2 ^ 10 from Nat.pow_le_pow_right (by decide) h)
theorem mk_128 (P : Nat → Bool) {n : Nat} (h : n ≤ 7) : mk P n < 128 := Nat.lt_of_lt_of_le (mk_lt P n) (show 2 ^ n ≤ 2 ^ 7 from Nat.pow_le_pow_right (by decide) h)
/-- how many of those below n have P -/
def cnt (P : Nat → Bool) : Nat → Nat
  | 0 => 0
  | n + 1 => if P n then cnt P n + 1 else cnt P n
theorem cnt_le (P : Nat → Bool) (n : Nat) : cnt P n ≤ n := by
  induction n with
  | zero => exact Nat.le_refl 0
  | succ n ih => unfold cnt; split <;> omega
/-! what a call leaves of a memory: all but some slots; the references -/
def Fr (A : Nat → Nat → Prop) (u u' : zM) : Prop := (∀ a k, ¬ A a k → gI u' a k = gI u a k ∧ gL u' a k = gL u a k) ∧ u'.2.2 = u.2.2
theorem Fr.rf {A : Nat → Nat → Prop} {u : zM} : Fr A u u := ⟨fun _ _ _ => ⟨rfl, rfl⟩, rfl⟩
theorem Fr.tr {A : Nat → Nat → Prop} {u v w : zM} (h1 : Fr A u v) (h2 : Fr A v w) : Fr A u w := ⟨fun a k ha => ⟨((h2.1 a k ha).1).trans ((h1.1 a k ha).1), ((h2.1 a k ha).2).trans ((h1.1 a k ha).2)⟩, h2.2.trans h1.2⟩
theorem Fr.mono {A B : Nat → Nat → Prop} {u v : zM} (h : Fr A u v) (hAB : ∀ a k, A a k → B a k) : Fr B u v := ⟨fun a k ha => h.1 a k (fun q => ha (hAB a k q)), h.2⟩
theorem Fr.sI {A : Nat → Nat → Prop} {u : zM} {a k : Nat} {x : Int32} (h : A a k) : Fr A u (sI u a k x) := by
  refine ⟨fun b j hb => ⟨?_, rfl⟩, rfl⟩
  show (if b = a ∧ j = k then x else u.1 b j) = u.1 b j
  rw [if_neg]
  rintro ⟨rfl, rfl⟩
  exact hb h
theorem Fr.sL {A : Nat → Nat → Prop} {u : zM} {a k : Nat} {x : Int64} (h : A a k) : Fr A u (sL u a k x) := by
  refine ⟨fun b j hb => ⟨rfl, ?_⟩, rfl⟩
  show (if b = a ∧ j = k then x else u.2.1 b j) = u.2.1 b j
  rw [if_neg]
  rintro ⟨rfl, rfl⟩
  exact hb h
theorem Fr.sC {A : Nat → Nat → Prop} {u : zM} {a i b j n : Nat} (h : ∀ k, j ≤ k → k < j + n → A b k) : Fr A u (sC u a i b j n) := by
  refine ⟨fun c q hc => ⟨?_, rfl⟩, rfl⟩
  show (if c = b ∧ j ≤ q ∧ q < j + n then u.1 a (i + (q - j)) else u.1 c q) = u.1 c q
  rw [if_neg]
  rintro ⟨rfl, h1, h2⟩
  exact hc (h q h1 h2)
theorem Fr.i {A : Nat → Nat → Prop} {u u' : zM} (h : Fr A u u') {a k : Nat} (ha : ¬ A a k) : gI u' a k = gI u a k := (h.1 a k ha).1
theorem Fr.l {A : Nat → Nat → Prop} {u u' : zM} (h : Fr A u u') {a k : Nat} (ha : ¬ A a k) : gL u' a k = gL u a k := (h.1 a k ha).2
theorem gI_sI (u : zM) (a k b j : Nat) (x : Int32) : gI (sI u a k x) b j = if b = a ∧ j = k then x else gI u b j := rfl
theorem gL_sI (u : zM) (a k b j : Nat) (x : Int32) : gL (sI u a k x) b j = gL u b j := rfl
theorem gR_sI (u : zM) (a k b j : Nat) (x : Int32) : gR (sI u a k x) b j = gR u b j := rfl
theorem gI_sL (u : zM) (a k b j : Nat) (x : Int64) : gI (sL u a k x) b j = gI u b j := rfl
theorem gL_sL (u : zM) (a k b j : Nat) (x : Int64) : gL (sL u a k x) b j = if b = a ∧ j = k then x else gL u b j := rfl
theorem gR_sL (u : zM) (a k b j : Nat) (x : Int64) : gR (sL u a k x) b j = gR u b j := rfl
theorem gI_sR (u : zM) (a k b j : Nat) (x : Nat) : gI (sR u a k x) b j = gI u b j := rfl
theorem gL_sR (u : zM) (a k b j : Nat) (x : Nat) : gL (sR u a k x) b j = gL u b j := rfl
theorem gR_sR (u : zM) (a k b j : Nat) (x : Nat) : gR (sR u a k x) b j = if b = a ∧ j = k then x else gR u b j := rfl
theorem gI_sC (u : zM) (a i b j n c q : Nat) : gI (sC u a i b j n) c q = if c = b ∧ j ≤ q ∧ q < j + n then gI u a (i + (q - j)) else gI u c q := rfl
theorem gL_sC (u : zM) (a i b j n c q : Nat) : gL (sC u a i b j n) c q = gL u c q := rfl
theorem gR_sC (u : zM) (a i b j n c q : Nat) : gR (sC u a i b j n) c q = gR u c q := rfl
theorem Fr.r {A : Nat → Nat → Prop} {u u' : zM} (h : Fr A u u') (a k : Nat) : gR u' a k = gR u a k := by
  show u'.2.2.1 a k = u.2.2.1 a k
  rw [h.2]
/-! the first functions -/
theorem within_nI {k a b : Nat} {u : zM} (hk : k < 2 ^ 31) (ha : a < 2 ^ 31) (hb : b < 2 ^ 31) : OW_within (nI k) (nI a) (nI b) u = some (if a ≤ k ∧ k ≤ b then 1 else 0, u) := by
  unfold OW_within
  simp only [nI_ltI hk ha, nI_ltI hb hk]
  by_cases h1 : k < a
  · rw [if_pos h1, if_neg (by omega)]
  · by_cases h2 : b < k
    · rw [if_neg h1, if_pos h2, if_neg (by omega)]
    · rw [if_neg h1, if_neg h2, if_pos (by omega)]
/-- the class's count of bits, and the reference's -/
def bcF (x : Int32) : Int32 := match Ji_bitCount x (fun _ _ => 0, fun _ _ => 0, fun _ _ => 0, 0) with
  | some (r, _) => r
  | none => 0
theorem bcF_N : ∀ a, a < 1024 → bcF (nI a) = nI (cnt (fun k => a.testBit k) 10) := by decide +kernel
theorem bitCount_N {a : Nat} (h : a < 1024) (u : zM) : Ji_bitCount (nI a) u = some (nI (cnt (fun k => a.testBit k) 10), u) := by
  rw [← bcF_N a h]
  rfl
theorem bits_N {a : Nat} (h : a < 1024) (u : zM) : Mo_bits (nI a) u = some (nI (cnt (fun k => a.testBit k) 10), u) := by
  unfold Mo_bits
  refine lpz (fun n (s : Int32 × Int32) => Mo_bits_4 n (nI a) s.1 s.2 u) (fun k => (nI (cnt (fun k => a.testBit k) k), nI k)) 10 _ (by decide) (fun n => ?_) (fun n k hk => ?_)
  · show Mo_bits_4b (Mo_bits_4 n) _ _ _ _ = _
    unfold Mo_bits_4b
    dsimp only
    rw [if_pos (show (10 : Int32) ≤ nI 10 by decide)]
  · show Mo_bits_4b (Mo_bits_4 n) _ _ _ _ = _
    unfold Mo_bits_4b
    dsimp only
    rw [if_neg (by exact nI_ge hk (by decide))]
    simp only [zlet, b_bit a h k hk, nI_add, nI_1]
    congr 2
    rw [cnt]
    cases a.testBit k <;> rfl
