/-! ===== share: rows of writs ===== -/
def foW {β : Type} (f : Nat → β → β) : Nat → β → β
  | 0 => fun b => b
  | n + 1 => fun b => f n (foW f n b)
theorem foW_s {β : Type} (f : Nat → β → β) (n : Nat) (b : β) : foW f (n + 1) b = f n (foW f n b) := rfl
theorem foW_add {β : Type} (f : Nat → β → β) (a : Nat) (b : β) : ∀ c, foW f (a + c) b = foW (fun j => f (a + j)) c (foW f a b) := by
  intro c
  induction c with
  | zero => rfl
  | succ c ih =>
    show f (a + c) (foW f (a + c) b) = f (a + c) (foW (fun j => f (a + j)) c (foW f a b))
    rw [ih]
theorem foW_congr {β : Type} {f g : Nat → β → β} : ∀ n b, (∀ k, k < n → ∀ b, f k b = g k b) → foW f n b = foW g n b := by
  intro n
  induction n with
  | zero => intro b _; rfl
  | succ n ih =>
    intro b h
    rw [foW_s, foW_s, ih b (fun k hk => h k (by omega)), h n (by omega)]
theorem foW_mul {β : Type} (f : Nat → β → β) (M : Nat) : ∀ B b, foW f (B * M) b = foW (fun w b => foW (fun j => f (w * M + j)) M b) B b := by
  intro B
  induction B with
  | zero => intro b; rw [Nat.zero_mul]; rfl
  | succ B ih =>
    intro b
    rw [Nat.succ_mul, foW_add, ih, foW_s]
/-- days as a number; -1 is none -/
def dnI (x : Int32) : Nat := ix x
def okD (x : Int32) : Prop := x = mI ∨ ∃ j, j ≤ 60 ∧ x = nI j
theorem okD_lt {x : Int32} (h : okD x) : (x < 0 ↔ x = mI) ∧ (0 ≤ x ↔ ¬ x = mI) ∧ dnI x ≤ 2 ^ 31 ∧ (¬ x = mI → x = nI (dnI x) ∧ dnI x ≤ 60) := by
  rcases h with rfl | ⟨j, hj, rfl⟩
  · exact ⟨⟨fun _ => rfl, fun _ => by decide⟩, ⟨fun q => absurd q (by decide), fun q => absurd rfl q⟩, by decide, fun q => absurd rfl q⟩
  · have e : dnI (nI j) = j := ix_nI (by omega)
    have h1 : ¬ nI j < 0 := nI_nlt (b := 0) (Nat.zero_le _) (by omega)
    have h2 : ¬ nI j = mI := mI_ne (by omega)
    refine ⟨⟨fun q => absurd q h1, fun q => absurd q h2⟩, ⟨fun _ => h2, fun _ => nI_le (Nat.zero_le _) (by omega)⟩, by omega, fun _ => by rw [e]; exact ⟨rfl, hj⟩⟩
/-- an otter has a writ more, or none -/
def stp (DS : Nat → Nat → Int32) (W o x : Nat) (s : Option (Nat × Nat)) : Option (Nat × Nat) :=
  match s with
  | none => none
  | some (tk, y) => if W ≤ x then some (tk, y) else if (tk.testBit x || decide (DS o x < 0)) = true then none else some (tk ||| 2 ^ x, y + dnI (DS o x))
theorem stp_n (DS : Nat → Nat → Int32) (W o x : Nat) : stp DS W o x none = none := rfl
theorem stp_W {DS : Nat → Nat → Int32} {W o x : Nat} (h : W ≤ x) (s : Option (Nat × Nat)) : stp DS W o x s = s := by
  cases s with
  | none => rfl
  | some p => show (if W ≤ x then _ else _) = _; rw [if_pos h]
theorem stp_s {DS : Nat → Nat → Int32} {W o x tk y : Nat} (h : ¬ W ≤ x) : stp DS W o x (some (tk, y)) = if (tk.testBit x || decide (DS o x < 0)) = true then none else some (tk ||| 2 ^ x, y + dnI (DS o x)) := by
  show (if W ≤ x then _ else _) = _
  rw [if_neg h]
theorem or_bit (a x z : Nat) : (a ||| 2 ^ x).testBit z = (a.testBit z || decide (x = z)) := by rw [Nat.testBit_or, Nat.testBit_two_pow]
theorem stp_comm (DS : Nat → Nat → Int32) (W o x o' x' : Nat) (s : Option (Nat × Nat)) : stp DS W o x (stp DS W o' x' s) = stp DS W o' x' (stp DS W o x s) := by
  cases s with
  | none => rfl
  | some p =>
    obtain ⟨tk, y⟩ := p
    by_cases h1 : W ≤ x
    · rw [stp_W h1, stp_W h1]
    · by_cases h2 : W ≤ x'
      · rw [stp_W h2, stp_W h2]
      · rw [stp_s h1, stp_s h2]
        have e1 : ∀ c : Bool, stp DS W o x (if c = true then none else some (tk ||| 2 ^ x', y + dnI (DS o' x'))) = if c = true then none else if ((tk ||| 2 ^ x').testBit x || decide (DS o x < 0)) = true then none else some (tk ||| 2 ^ x' ||| 2 ^ x, y + dnI (DS o' x') + dnI (DS o x)) := by
          intro c
          cases c
          · rw [if_neg (by decide), if_neg (by decide), stp_s h1]
          · rfl
        have e2 : ∀ c : Bool, stp DS W o' x' (if c = true then none else some (tk ||| 2 ^ x, y + dnI (DS o x))) = if c = true then none else if ((tk ||| 2 ^ x).testBit x' || decide (DS o' x' < 0)) = true then none else some (tk ||| 2 ^ x ||| 2 ^ x', y + dnI (DS o x) + dnI (DS o' x')) := by
          intro c
          cases c
          · rw [if_neg (by decide), if_neg (by decide), stp_s h2]
          · rfl
        rw [e1, e2, or_bit, or_bit, show decide (x = x') = decide (x' = x) from decide_eq_decide.mpr ⟨Eq.symm, Eq.symm⟩, show tk ||| 2 ^ x' ||| 2 ^ x = tk ||| 2 ^ x ||| 2 ^ x' by rw [Nat.or_assoc, Nat.or_comm (2 ^ x'), ← Nat.or_assoc], show y + dnI (DS o' x') + dnI (DS o x) = y + dnI (DS o x) + dnI (DS o' x') by omega]
        cases tk.testBit x <;> cases tk.testBit x' <;> cases decide (DS o x < 0) <;> cases decide (DS o' x' < 0) <;> cases decide (x' = x) <;> rfl
/-- from the last otter on -/
def stL (DS : Nat → Nat → Int32) (W : Nat) : Nat → Nat → Option (Nat × Nat) → Option (Nat × Nat)
  | 0 => fun _ s => s
  | j + 1 => fun r s => stL DS W j (r / (W + 1)) (stp DS W j (r % (W + 1)) s)
/-- from the first -/
def pfS (DS : Nat → Nat → Int32) (W : Nat) : Nat → Nat → Option (Nat × Nat)
  | 0 => fun _ => some (0, 0)
  | o + 1 => fun q => stp DS W o (q % (W + 1)) (pfS DS W o (q / (W + 1)))
theorem stL_s (DS : Nat → Nat → Int32) (W j r : Nat) (s : Option (Nat × Nat)) : stL DS W (j + 1) r s = stL DS W j (r / (W + 1)) (stp DS W j (r % (W + 1)) s) := rfl
theorem pfS_e (DS : Nat → Nat → Int32) (W o q : Nat) : pfS DS W (o + 1) q = stp DS W o (q % (W + 1)) (pfS DS W o (q / (W + 1))) := rfl
theorem stL_comm (DS : Nat → Nat → Int32) (W o x : Nat) : ∀ j r s, stL DS W j r (stp DS W o x s) = stp DS W o x (stL DS W j r s) := by
  intro j
  induction j with
  | zero => intro r s; rfl
  | succ j ih =>
    intro r s
    rw [stL_s, stL_s, stp_comm, ih]
theorem stL_pf (DS : Nat → Nat → Int32) (W : Nat) : ∀ j r, stL DS W j r (some (0, 0)) = pfS DS W j r := by
  intro j
  induction j with
  | zero => intro r; rfl
  | succ j ih =>
    intro r
    rw [stL_s, stL_comm, ih, pfS_e]
def setR (row : Nat → Int32) (o : Nat) (x : Int32) : Nat → Int32 := fun k => if k = o then x else row k
def rowQ (W : Nat) : Nat → Nat → Nat → Int32
  | 0 => fun _ _ => 0
  | o + 1 => fun q => setR (rowQ W o (q / (W + 1))) o (if q % (W + 1) < W then nI (q % (W + 1)) else mI)
/-- the best one -/
def updB (m y : Nat) (row : Nat → Int32) (b : Option (Nat × Nat × (Nat → Int32))) : Option (Nat × Nat × (Nat → Int32)) :=
  match b with
  | none => some (m, y, row)
  | some b => if b.1 < m ∨ (m = b.1 ∧ y < b.2.1) then some (m, y, row) else some b
theorem updB_ne (m y : Nat) (row : Nat → Int32) (b : Option (Nat × Nat × (Nat → Int32))) : updB m y row b ≠ none := by
  cases b with
  | none => exact fun h => nomatch h
  | some b =>
    show (if _ then some _ else some _) ≠ none
    split <;> exact fun h => nomatch h
def shT (DS : Nat → Nat → Int32) (W : Nat) : Nat → Nat → Nat → Nat → Nat → Option (Nat × Nat × (Nat → Int32)) → Option (Nat × Nat × (Nat → Int32))
  | 0 => fun o q tk y b => updB (pop tk) y (rowQ W o q) b
  | d + 1 => fun o q tk y b => shT DS W d (o + 1) (q * (W + 1) + W) tk y (foW (fun w b => if (tk.testBit w || decide (DS o w < 0)) = true then b else shT DS W d (o + 1) (q * (W + 1) + w) (tk ||| 2 ^ w) (y + dnI (DS o w)) b) W b)
theorem shT_s (DS : Nat → Nat → Int32) (W d o q tk y : Nat) (b : Option (Nat × Nat × (Nat → Int32))) : shT DS W (d + 1) o q tk y b = shT DS W d (o + 1) (q * (W + 1) + W) tk y (foW (fun w b => if (tk.testBit w || decide (DS o w < 0)) = true then b else shT DS W d (o + 1) (q * (W + 1) + w) (tk ||| 2 ^ w) (y + dnI (DS o w)) b) W b) := rfl
theorem shT_ne (DS : Nat → Nat → Int32) (W : Nat) : ∀ d o q tk y b, shT DS W d o q tk y b ≠ none := by
  intro d
  induction d with
  | zero => intro o q tk y b; exact updB_ne _ _ _ _
  | succ d ih => intro o q tk y b; rw [shT_s]; exact ih _ _ _ _ _
def wgh (DS : Nat → Nat → Int32) (W O r : Nat) (b : Option (Nat × Nat × (Nat → Int32))) : Option (Nat × Nat × (Nat → Int32)) :=
  match pfS DS W O r with
  | none => b
  | some p => updB (pop p.1) p.2 (rowQ W O r) b
theorem wgh_n {DS : Nat → Nat → Int32} {W O r : Nat} {b : Option (Nat × Nat × (Nat → Int32))} (h : pfS DS W O r = none) : wgh DS W O r b = b := by unfold wgh; rw [h]
theorem wgh_s {DS : Nat → Nat → Int32} {W O r : Nat} {p : Nat × Nat} {b : Option (Nat × Nat × (Nat → Int32))} (h : pfS DS W O r = some p) : wgh DS W O r b = updB (pop p.1) p.2 (rowQ W O r) b := by unfold wgh; rw [h]
theorem pfS_s (DS : Nat → Nat → Int32) (W o q w : Nat) (hw : w < W + 1) : pfS DS W (o + 1) (q * (W + 1) + w) = stp DS W o w (pfS DS W o q) := by
  rw [pfS_e, Nat.mul_comm, Nat.mul_add_mod, Nat.mod_eq_of_lt hw, Nat.mul_add_div (by omega), Nat.div_eq_of_lt hw, Nat.add_zero]
theorem share_eq (DS : Nat → Nat → Int32) (W O : Nat) : ∀ d o q b, o + d = O → foW (fun j b => wgh DS W O (q * (W + 1) ^ d + j) b) ((W + 1) ^ d) b = (match pfS DS W o q with | none => b | some p => shT DS W d o q p.1 p.2 b) := by
  intro d
  induction d with
  | zero =>
    intro o q b h
    rw [Nat.add_zero] at h
    subst h
    show wgh DS W o (q * 1 + 0) b = _
    rw [Nat.mul_one, Nat.add_zero]
    unfold wgh
    rfl
  | succ d ih =>
    intro o q b h
    rw [Nat.pow_succ, Nat.mul_comm ((W + 1) ^ d), foW_mul]
    have e : ∀ w, w < W + 1 → ∀ b, foW (fun j b => wgh DS W O (q * ((W + 1) * (W + 1) ^ d) + (w * (W + 1) ^ d + j)) b) ((W + 1) ^ d) b = (match stp DS W o w (pfS DS W o q) with | none => b | some p => shT DS W d (o + 1) (q * (W + 1) + w) p.1 p.2 b) := by
      intro w hw b
      have := ih (o + 1) (q * (W + 1) + w) b (by omega)
      rw [pfS_s _ _ _ _ _ hw] at this
      rw [← this]
      apply foW_congr
      intro k _ b
      congr 1
      rw [Nat.add_mul (q * (W + 1)) w, Nat.mul_assoc q, Nat.add_assoc]
    rw [foW_congr _ _ e, foW_s]
    cases hp : pfS DS W o q with
    | none =>
      show foW (fun w b => b) W b = b
      have : ∀ n, foW (fun (w : Nat) (b : Option (Nat × Nat × (Nat → Int32))) => b) n b = b := by
        intro n
        induction n with
        | zero => rfl
        | succ n ih => exact ih
      exact this W
    | some p =>
      obtain ⟨tk, y⟩ := p
      rw [stp_W (Nat.le_refl W)]
      show shT DS W d (o + 1) (q * (W + 1) + W) tk y _ = shT DS W (d + 1) o q tk y b
      rw [shT_s]
      congr 1
      apply foW_congr
      intro w hw b
      rw [stp_s (by omega)]
      cases (tk.testBit w || decide (DS o w < 0))
      · rw [if_neg (by decide), if_neg (by decide)]
      · rw [if_pos rfl, if_pos rfl]
/-- a new bit is one more -/
theorem pop_or {a x : Nat} (h : a.testBit x = false) (hx : x < 10) : pop (a ||| 2 ^ x) = pop a + 1 := by
  unfold pop
  refine cnt_up (b := x) h ?_ (fun k hk => ?_) 10 hx
  · rw [or_bit, decide_eq_true rfl, Bool.or_true]
  · rw [or_bit, decide_eq_false (fun e => hk e.symm), Bool.or_false]
