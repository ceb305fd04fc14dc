/-! ===== chance ===== -/
def cwF (wb : Nat → Nat → Nat → Nat) (od : Nat) : Nat → Nat → Nat → Nat
  | 0 => fun l _ => if 1 ≤ l then 1 else 0
  | d + 1 => fun l dt => od * cwF wb od d (wb l 9 dt) (dt + 1) + (10 - od) * cwF wb od d (wb l 0 dt) (dt + 1)
theorem cwF_s (wb : Nat → Nat → Nat → Nat) (od d l dt : Nat) : cwF wb od (d + 1) l dt = od * cwF wb od d (wb l 9 dt) (dt + 1) + (10 - od) * cwF wb od d (wb l 0 dt) (dt + 1) := rfl
theorem cwF_le {wb : Nat → Nat → Nat → Nat} {od : Nat} (h : od ≤ 10) : ∀ d l dt, cwF wb od d l dt ≤ 10 ^ d := by
  intro d
  induction d with
  | zero => intro l dt; show (if 1 ≤ l then 1 else 0) ≤ 1; split <;> omega
  | succ d ih =>
    intro l dt
    rw [cwF_s, Nat.pow_succ]
    have h1 := Nat.mul_le_mul (Nat.le_refl od) (ih (wb l 9 dt) (dt + 1))
    have h2 := Nat.mul_le_mul (Nat.le_refl (10 - od)) (ih (wb l 0 dt) (dt + 1))
    have h3 : od * 10 ^ d + (10 - od) * 10 ^ d = 10 ^ d * 10 := by rw [← Nat.add_mul, Nat.mul_comm]; congr 1; omega
    omega
/-- one way of rain and no rain: bits of s -/
def pvF (wb : Nat → Nat → Nat → Nat) (od : Nat) : Nat → Nat → Nat → Nat → Nat
  | 0 => fun l _ _ => if 1 ≤ l then 1 else 0
  | d + 1 => fun l dt s => (if s.testBit 0 then od else 10 - od) * pvF wb od d (wb l (if s.testBit 0 then 9 else 0) dt) (dt + 1) (s / 2)
theorem pvF_s (wb : Nat → Nat → Nat → Nat) (od d l dt s : Nat) : pvF wb od (d + 1) l dt s = (if s.testBit 0 then od else 10 - od) * pvF wb od d (wb l (if s.testBit 0 then 9 else 0) dt) (dt + 1) (s / 2) := rfl
theorem smN_2 (f : Nat → Nat) : ∀ m, smN f (2 * m) = smN (fun i => f (2 * i) + f (2 * i + 1)) m := by
  intro m
  induction m with
  | zero => rfl
  | succ m ih =>
    rw [show 2 * (m + 1) = 2 * m + 1 + 1 by omega, smN_s, smN_s, ih, smN_s]
    omega
theorem smN_add (f g : Nat → Nat) : ∀ m, smN (fun i => f i + g i) m = smN f m + smN g m := by
  intro m
  induction m with
  | zero => rfl
  | succ m ih => rw [smN_s, smN_s, smN_s, ih]; omega
theorem smN_mul (a : Nat) (f : Nat → Nat) : ∀ m, smN (fun i => a * f i) m = a * smN f m := by
  intro m
  induction m with
  | zero => rfl
  | succ m ih => rw [smN_s, smN_s, ih, Nat.mul_add]
theorem pv_sum {wb : Nat → Nat → Nat → Nat} {od : Nat} : ∀ d l dt, smN (pvF wb od d l dt) (2 ^ d) = cwF wb od d l dt := by
  intro d
  induction d with
  | zero => intro l dt; show 0 + (if 1 ≤ l then 1 else 0) = _; rw [Nat.zero_add]; rfl
  | succ d ih =>
    intro l dt
    rw [Nat.pow_succ, Nat.mul_comm, smN_2, cwF_s, ← ih, ← ih]
    have e : ∀ i, i < 2 ^ d → pvF wb od (d + 1) l dt (2 * i) + pvF wb od (d + 1) l dt (2 * i + 1) = (10 - od) * pvF wb od d (wb l 0 dt) (dt + 1) i + od * pvF wb od d (wb l 9 dt) (dt + 1) i := by
      intro i _
      have t0 : (2 * i).testBit 0 = false := by rw [Nat.testBit_zero]; simp
      have t1 : (2 * i + 1).testBit 0 = true := by rw [Nat.testBit_zero]; simp
      rw [pvF_s, pvF_s, t0, t1, if_neg (by decide), if_neg (by decide), if_pos rfl, if_pos rfl, show 2 * i / 2 = i by omega, show (2 * i + 1) / 2 = i by omega]
    rw [smN_congr _ e, smN_add, smN_mul, smN_mul]
    omega
theorem pvF_le {wb : Nat → Nat → Nat → Nat} {od : Nat} (h : od ≤ 10) : ∀ d l dt s, pvF wb od d l dt s ≤ 10 ^ d := by
  intro d
  induction d with
  | zero => intro l dt s; show (if 1 ≤ l then 1 else 0) ≤ 1; split <;> omega
  | succ d ih =>
    intro l dt s
    rw [pvF_s, Nat.pow_succ, Nat.mul_comm (10 ^ d)]
    exact Nat.mul_le_mul (by split <;> omega) (ih _ _ _)
theorem dec1 : ∀ d, d < 8 → nI (d + 1) - 1 = nI d := by decide +kernel
theorem sub10 : ∀ d, d < 11 → (10 : Int32) - nI d = nI (10 - d) := by decide +kernel
theorem weighC {t : Nat} {N S : Nat → Nat} {K : Nat → Nat → Nat} {E : Int32 → Int32 → Int32 → Int32 → Int32} (hW : Wf N K S) {p od : Nat} (hp : p < N 0) (hod : od ≤ 10) : ∀ d f l dt u, d ≤ 6 → d < f → NowC u t N K E 54 S → ∃ u', OW_weighWet f t (nI p) (nI l) (nI dt) (nI d) (nI od) u = some (nI (cwF (wbS E K p) od d l dt), u') ∧ NowC u' t N K E 54 S ∧ Fr (fun c _ => c = t + 20) u u' ∨ ¬ l < 2 ^ 31 := by
  intro d
  induction d with
  | zero =>
    intro f l dt u _ hf hu
    obtain ⟨f, rfl⟩ : ∃ z, f = z + 1 := ⟨f - 1, by omega⟩
    refine ⟨u, ?_⟩
    by_cases hl : l < 2 ^ 31
    · left
      refine ⟨?_, hu, Fr.rf⟩
      show OW_weighWet_b _ _ _ _ _ _ _ _ = _
      unfold OW_weighWet_b
      rw [if_pos (layT hu.2.1), if_neg (show ¬ (0 : Int32) < nI 0 by decide)]
      show _ = some (nI (if 1 ≤ l then 1 else 0), u)
      by_cases h1 : 1 ≤ l
      · rw [if_neg (show ¬ nI l < (1 : Int32) from nI_nlt h1 (by omega)), if_pos h1]; rfl
      · rw [if_pos (show nI l < (1 : Int32) from nI_lt (b := 1) (by omega) (by omega)), if_neg h1]; rfl
    · exact Or.inr hl
  | succ d ih =>
    intro f l dt u hd hf hu
    obtain ⟨f, rfl⟩ : ∃ z, f = z + 1 := ⟨f - 1, by omega⟩
    have ht := hu.2.1
    obtain ⟨u1, e1, g1⟩ := Co_waterBehind_eq hW hu (p := p) (l := l) (f := 9) (d := dt) hp
    have n1 : NowC u1 t N K E 54 S := hu.st (fun c k _ _ _ => g1.i (by omega)) g1.2 (hu.2.2.2.2.fr hW.1 (fun j k _ _ _ => g1.i (by omega)))
    obtain ⟨u2, e2, g2⟩ := Co_waterBehind_eq hW n1 (p := p) (l := l) (f := 0) (d := dt) hp
    have n2 : NowC u2 t N K E 54 S := n1.st (fun c k _ _ _ => g2.i (by omega)) g2.2 (n1.2.2.2.2.fr hW.1 (fun j k _ _ _ => g2.i (by omega)))
    have w1 : wbS E K p l 9 dt ≤ 9 := clN_le _
    have w2 : wbS E K p l 0 dt ≤ 9 := clN_le _
    obtain ⟨u3, r3⟩ := ih f (wbS E K p l 9 dt) (dt + 1) u2 (by omega) (by omega) n2
    obtain ⟨e3, n3, g3⟩ : _ ∧ _ ∧ _ := r3.resolve_right (fun h => h (by omega))
    obtain ⟨u4, r4⟩ := ih f (wbS E K p l 0 dt) (dt + 1) u3 (by omega) (by omega) n3
    obtain ⟨e4, n4, g4⟩ : _ ∧ _ ∧ _ := r4.resolve_right (fun h => h (by omega))
    refine ⟨u4, Or.inl ⟨?_, n4, ((g1.tr g2).tr g3).tr g4⟩⟩
    show OW_weighWet_b _ _ _ _ _ _ _ _ = _
    unfold OW_weighWet_b
    rw [if_pos (layT ht), if_pos (show (0 : Int32) < nI (d + 1) from nI_lt (show 0 < d + 1 by omega) (by omega)), zb_eq (show Co_waterBehind t (nI p) (nI l) 9 (nI dt) u = _ from e1), zb_eq (show Co_waterBehind t (nI p) (nI l) 0 (nI dt) u1 = _ from e2), dec1 d (by omega), show nI dt + 1 = nI (dt + 1) from nI_1 dt, zb_eq e3, zb_eq e4, sub10 od (by omega), pk_mul, pk_mul, nI_add]
    rfl
