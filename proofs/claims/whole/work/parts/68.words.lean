/-! ===== words ===== -/
theorem lg0 {a b : Int64} : lg_cmp a b = 0 ↔ a = b := by
  unfold lg_cmp
  by_cases h1 : a > b
  · rw [if_pos h1]
    refine ⟨fun q => absurd q (by decide), fun q => ?_⟩
    subst q
    exact absurd h1 (Int64.lt_irrefl)
  · rw [if_neg h1]
    by_cases h2 : a = b
    · rw [if_pos h2]
      exact ⟨fun _ => h2, fun _ => rfl⟩
    · rw [if_neg h2]
      exact ⟨fun q => absurd q (by decide), fun q => absurd q h2⟩
def v256 : List Nat → Nat
  | [] => 0
  | x :: r => v256 r * 256 + (96 + x)
def v27 : List Nat → Nat
  | [] => 0
  | x :: r => v27 r * 27 + x
theorem sh8 {a s : Nat} (ha : a < 2 ^ 55) (hs : s < 256) : (nL a <<< (8 : Int64)) ||| nL s = nL (a * 256 + s) := by
  apply Int64.toBitVec_inj.mp
  rw [Int64.toBitVec_or, Int64.toBitVec_shiftLeft]
  show (BitVec.ofNat 64 a <<< (BitVec.smod (8#64) 64#64)) ||| BitVec.ofNat 64 s = BitVec.ofNat 64 (a * 256 + s)
  rw [show BitVec.smod 8#64 64#64 = 8#64 by decide]
  apply BitVec.eq_of_toNat_eq
  rw [BitVec.toNat_or, BitVec.shiftLeft_eq', BitVec.toNat_shiftLeft, BitVec.toNat_ofNat, BitVec.toNat_ofNat, BitVec.toNat_ofNat, BitVec.toNat_ofNat, show 8 % 2 ^ 64 = 8 from rfl, Nat.mod_eq_of_lt (show a < 2 ^ 64 by omega), Nat.mod_eq_of_lt (show s < 2 ^ 64 by omega), Nat.mod_eq_of_lt (show a * 256 + s < 2 ^ 64 by omega)]
  have e : a <<< 8 = a * 256 := by rw [Nat.shiftLeft_eq]
  rw [Nat.mod_eq_of_lt (show a <<< 8 < 2 ^ 64 by rw [e]; omega), ← Nat.shiftLeft_add_eq_or_of_lt (show s < 2 ^ 8 by omega), e]
theorem w256_nL : ∀ w : List Nat, w.length ≤ 8 → (∀ x ∈ w, 1 ≤ x ∧ x ≤ 26) → wd256 w = nL (v256 w) ∧ v256 w < 2 ^ 63 ∧ (w ≠ [] → v256 w < 128 * 256 ^ (w.length - 1)) := by
  intro w
  induction w with
  | nil => intro _ _; exact ⟨rfl, by decide, fun h => absurd rfl h⟩
  | cons x r ih =>
    intro hl hx
    have hl : r.length + 1 ≤ 8 := hl
    obtain ⟨i1, i2, i3⟩ := ih (by omega) (fun y hy => hx y (List.mem_cons_of_mem _ hy))
    have hx1 := hx x (List.mem_cons_self)
    have b1 : v256 (x :: r) < 128 * 256 ^ r.length := by
      show v256 r * 256 + (96 + x) < _
      by_cases e : r = []
      · subst e
        show 0 * 256 + (96 + x) < 128 * 1
        omega
      · have h1 := i3 e
        have h2 : 0 < r.length := List.length_pos_iff.mpr e
        rw [show r.length = (r.length - 1) + 1 by omega, Nat.pow_succ]
        omega
    have b2 : 256 ^ r.length ≤ 256 ^ 7 := Nat.pow_le_pow_right (by decide) (by omega)
    have b3 : v256 r < 2 ^ 55 := by
      by_cases e : r = []
      · subst e
        decide
      · have h1 := i3 e
        have h3 : 256 ^ (r.length - 1) ≤ 256 ^ 6 := Nat.pow_le_pow_right (by decide) (by omega)
        omega
    refine ⟨?_, by omega, fun _ => b1⟩
    show (wd256 r <<< 8) ||| Int64.ofNat (96 + x) = nL (v256 r * 256 + (96 + x))
    rw [i1]
    exact sh8 b3 (by omega)
theorem w27_nL : ∀ w : List Nat, w.length ≤ 8 → (∀ x ∈ w, 1 ≤ x ∧ x ≤ 26) → wd27 w = nL (v27 w) ∧ v27 w < 27 ^ w.length := by
  intro w
  induction w with
  | nil => intro _ _; exact ⟨rfl, by decide⟩
  | cons x r ih =>
    intro hl hx
    have hl : r.length + 1 ≤ 8 := hl
    obtain ⟨i1, i2⟩ := ih (by omega) (fun y hy => hx y (List.mem_cons_of_mem _ hy))
    have hx1 := hx x (List.mem_cons_self)
    have b2 : 27 ^ r.length ≤ 27 ^ 7 := Nat.pow_le_pow_right (by decide) (by omega)
    refine ⟨?_, ?_⟩
    · show wd27 r * 27 + Int64.ofNat x = nL (v27 r * 27 + x)
      rw [i1, lL27, nL_mul (by omega) (by omega) (by omega)]
      exact nL_add (by omega)
    · show v27 r * 27 + x < 27 ^ (r.length + 1)
      rw [Nat.pow_succ]
      omega
theorem v256_inj : ∀ w w' : List Nat, (∀ x ∈ w, 1 ≤ x ∧ x ≤ 26) → (∀ x ∈ w', 1 ≤ x ∧ x ≤ 26) → v256 w = v256 w' → w = w' := by
  intro w
  induction w with
  | nil =>
    intro w' _ h2 h
    cases w' with
    | nil => rfl
    | cons y s =>
      have h : 0 = v256 s * 256 + (96 + y) := h
      omega
  | cons x r ih =>
    intro w' h1 h2 h
    cases w' with
    | nil =>
      have h : v256 r * 256 + (96 + x) = 0 := h
      omega
    | cons y s =>
      have h : v256 r * 256 + (96 + x) = v256 s * 256 + (96 + y) := h
      have hx := h1 x (List.mem_cons_self)
      have hy := h2 y (List.mem_cons_self)
      have e1 : x = y := by omega
      have e2 : v256 r = v256 s := by omega
      rw [e1, ih s (fun z hz => h1 z (List.mem_cons_of_mem _ hz)) (fun z hz => h2 z (List.mem_cons_of_mem _ hz)) e2]
theorem v27_inj : ∀ w w' : List Nat, (∀ x ∈ w, 1 ≤ x ∧ x ≤ 26) → (∀ x ∈ w', 1 ≤ x ∧ x ≤ 26) → v27 w = v27 w' → w = w' := by
  intro w
  induction w with
  | nil =>
    intro w' _ h2 h
    cases w' with
    | nil => rfl
    | cons y s =>
      have h : 0 = v27 s * 27 + y := h
      have hy := h2 y (List.mem_cons_self)
      omega
  | cons x r ih =>
    intro w' h1 h2 h
    have hx := h1 x (List.mem_cons_self)
    cases w' with
    | nil =>
      have h : v27 r * 27 + x = 0 := h
      omega
    | cons y s =>
      have h : v27 r * 27 + x = v27 s * 27 + y := h
      have hy := h2 y (List.mem_cons_self)
      have e1 : x = y := by omega
      have e2 : v27 r = v27 s := by omega
      rw [e1, ih s (fun z hz => h1 z (List.mem_cons_of_mem _ hz)) (fun z hz => h2 z (List.mem_cons_of_mem _ hz)) e2]
theorem w256_eq {w w' : List Nat} (h : WfD w) (h' : WfD w') : wd256 w = wd256 w' ↔ w = w' := by
  constructor
  · intro e
    obtain ⟨a1, a2, _⟩ := w256_nL w h.1 h.2.2
    obtain ⟨b1, b2, _⟩ := w256_nL w' h'.1 h'.2.2
    rw [a1, b1, nL_eq a2 b2] at e
    exact v256_inj w w' h.2.2 h'.2.2 e
  · intro e; rw [e]
theorem w27_eq {w w' : List Nat} (h : WfD w) (h' : WfD w') : wd27 w = wd27 w' ↔ w = w' := by
  constructor
  · intro e
    obtain ⟨a1, a2⟩ := w27_nL w h.1 h.2.2
    obtain ⟨b1, b2⟩ := w27_nL w' h'.1 h'.2.2
    have p1 : 27 ^ w.length ≤ 27 ^ 8 := Nat.pow_le_pow_right (by decide) h.1
    have p2 : 27 ^ w'.length ≤ 27 ^ 8 := Nat.pow_le_pow_right (by decide) h'.1
    rw [a1, b1, nL_eq (by omega) (by omega)] at e
    exact v27_inj w w' h.2.2 h'.2.2 e
  · intro e; rw [e]
def wfB (w : List Nat) : Bool := decide (w.length ≤ 8) && decide (1 ≤ w.length) && w.all (fun x => decide (1 ≤ x) && decide (x ≤ 26))
theorem wfB_ok {w : List Nat} (h : wfB w = true) : WfD w := by
  unfold wfB at h
  rw [Bool.and_eq_true, Bool.and_eq_true, decide_eq_true_eq, decide_eq_true_eq, List.all_eq_true] at h
  refine ⟨h.1.1, h.1.2, fun x hx => ?_⟩
  have := h.2 x hx
  rw [Bool.and_eq_true, decide_eq_true_eq, decide_eq_true_eq] at this
  exact this
def kw_place : List Nat := [5, 3, 1, 12, 16]
theorem k256_place : wd256 kw_place = 482854658917 := by decide +kernel
theorem k27_place : wd27 kw_place = 8740067 := by decide +kernel
def kw_water : List Nat := [18, 5, 20, 1, 23]
theorem k256_water : wd256 kw_water = 512736126322 := by decide +kernel
theorem k27_water : wd27 kw_water = 12257559 := by decide +kernel
def kw_stream : List Nat := [13, 1, 5, 18, 20, 19]
theorem k256_stream : wd256 kw_stream = 126943972647277 := by decide +kernel
theorem k27_stream : wd27 kw_stream = 283616032 := by decide +kernel
def kw_person : List Nat := [14, 15, 19, 18, 5, 16]
theorem k256_person : wd256 kw_person = 123581014175598 := by decide +kernel
theorem k27_person : wd27 kw_person = 232608281 := by decide +kernel
def kw_in : List Nat := [14, 9]
theorem k256_in : wd256 kw_in = 26990 := by decide +kernel
theorem k27_in : wd27 kw_in = 257 := by decide +kernel
def kw_otter : List Nat := [18, 5, 20, 20, 15]
theorem k256_otter : wd256 kw_otter = 478695155058 := by decide +kernel
theorem k27_otter : wd27 kw_otter = 8380008 := by decide +kernel
def kw_pace : List Nat := [5, 3, 1, 16]
theorem k256_pace : wd256 kw_pace = 1885430629 := by decide +kernel
theorem k27_pace : wd27 kw_pace = 315743 := by decide +kernel
def kw_writ : List Nat := [20, 9, 18, 23]
theorem k256_writ : wd256 kw_writ = 2003986804 := by decide +kernel
theorem k27_writ : wd27 kw_writ = 466094 := by decide +kernel
def kw_for : List Nat := [18, 15, 6]
theorem k256_for : wd256 kw_for = 6713202 := by decide +kernel
theorem k27_for : wd27 kw_for = 4797 := by decide +kernel
def kw_by : List Nat := [25, 2]
theorem k256_by : wd256 kw_by = 25209 := by decide +kernel
theorem k27_by : wd27 kw_by = 79 := by decide +kernel
def kw_rain : List Nat := [14, 9, 1, 18]
theorem k256_rain : wd256 kw_rain = 1918986606 := by decide +kernel
theorem k27_rain : wd27 kw_rain = 355280 := by decide +kernel
def kw_wets : List Nat := [19, 20, 5, 23]
theorem k256_wets : wd256 kw_wets = 2003137651 := by decide +kernel
theorem k27_wets : wd27 kw_wets = 456913 := by decide +kernel
def kw_day : List Nat := [25, 1, 4]
theorem k256_day : wd256 kw_day = 6578553 := by decide +kernel
theorem k27_day : wd27 kw_day = 2968 := by decide +kernel
def kw_take : List Nat := [5, 11, 1, 20]
theorem k256_take : wd256 kw_take = 1952541541 := by decide +kernel
theorem k27_take : wd27 kw_take = 394691 := by decide +kernel
def kw_swim : List Nat := [13, 9, 23, 19]
theorem k256_swim : wd256 kw_swim = 1937205613 := by decide +kernel
theorem k27_swim : wd27 kw_swim = 391000 := by decide +kernel
def kw_serve : List Nat := [5, 22, 18, 5, 19]
theorem k256_serve : wd256 kw_serve = 495623239269 := by decide +kernel
theorem k27_serve : wd27 kw_serve = 10209515 := by decide +kernel
def kw_plain : List Nat := [14, 9, 1, 12, 16]
theorem k256_plain : wd256 kw_plain = 482854660462 := by decide +kernel
theorem k27_plain : wd27 kw_plain = 8740238 := by decide +kernel
def kw_wary : List Nat := [25, 18, 1, 23]
theorem k256_wary : wd256 kw_wary = 2002875001 := by decide +kernel
theorem k27_wary : wd27 kw_wary = 453949 := by decide +kernel
def kw_bather : List Nat := [18, 5, 8, 20, 1, 2]
theorem k256_bather : wd256 kw_bather = 108170704348530 := by decide +kernel
theorem k27_bather : wd27 kw_bather = 29628900 := by decide +kernel
def kw_dewy : List Nat := [25, 23, 5, 4]
theorem k256_dewy : wd256 kw_dewy = 1684371321 := by decide +kernel
theorem k27_dewy : wd27 kw_dewy = 83023 := by decide +kernel
def kw_not : List Nat := [20, 15, 14]
theorem k256_not : wd256 kw_not = 7237492 := by decide +kernel
theorem k27_not : wd27 kw_not = 10631 := by decide +kernel
def kw_and : List Nat := [4, 14, 1]
theorem k256_and : wd256 kw_and = 6385252 := by decide +kernel
theorem k27_and : wd27 kw_and = 1111 := by decide +kernel
def kw_or : List Nat := [18, 15]
theorem k256_or : wd256 kw_or = 28530 := by decide +kernel
theorem k27_or : wd27 kw_or = 423 := by decide +kernel
def kw_level : List Nat := [12, 5, 22, 5, 12]
theorem k256_level : wd256 kw_level = 465558725996 := by decide +kernel
theorem k27_level : wd27 kw_level = 6491892 := by decide +kernel
def kw_falls : List Nat := [19, 12, 12, 1, 6]
theorem k256_falls : wd256 kw_falls = 439721159795 := by decide +kernel
theorem k27_falls : wd27 kw_falls = 3217420 := by decide +kernel
def kw_ways : List Nat := [19, 25, 1, 23]
theorem k256_ways : wd256 kw_ways = 2002876787 := by decide +kernel
theorem k27_ways : wd27 kw_ways = 454132 := by decide +kernel
def kw_date : List Nat := [5, 20, 1, 4]
theorem k256_date : wd256 kw_date = 1684108389 := by decide +kernel
theorem k27_date : wd27 kw_date = 80006 := by decide +kernel
def kwKept : List (List Nat) := [kw_place, kw_water, kw_stream, kw_person, kw_in, kw_otter, kw_pace, kw_writ, kw_for, kw_by, kw_rain, kw_wets, kw_day, kw_take, kw_swim, kw_serve, kw_plain, kw_wary, kw_bather, kw_dewy, kw_not, kw_and, kw_or]
