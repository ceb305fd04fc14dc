/-! ===== the county and the state, as numbers; what memories hold them ===== -/
/-- N: places, streams, persons, otters, writs, rains. K: 0 links, 1 kind, 2 pace, 3 whom, 4 due, 5 rain, 6 water told, 7 home, 8 holt -/
def WfN (N : Nat → Nat) : Prop := N 0 ≤ 7 ∧ N 1 ≤ 10 ∧ N 2 ≤ 5 ∧ N 3 ≤ 3 ∧ N 4 ≤ 6 ∧ N 5 ≤ 12
def WfK (N : Nat → Nat) (K : Nat → Nat → Nat) : Prop :=
  (∀ p, p < N 0 → K 0 p < 2 ^ N 0 ∧ K 6 p ≤ 9 ∧ (K 0 p).testBit p = false ∧ ∀ q, q < N 0 → (K 0 p).testBit q = (K 0 q).testBit p) ∧
  (∀ q, q < N 2 → K 1 q ≤ 3 ∧ K 7 q < N 0) ∧ (∀ o, o < N 3 → 1 ≤ K 2 o ∧ K 2 o ≤ 3 ∧ K 8 o < N 0) ∧ (∀ w, w < N 4 → K 3 w < N 2 ∧ K 4 w ≤ 60) ∧ ∀ i, i < N 5 → K 5 i ≤ 9
/-- a state: 0 day, 1.. water, 8.. where persons are, 13.. otters, 16.. swum, 19.. who has a writ (3 served, 4 nobody) -/
def hv (h : Nat) : Int32 := if h = 4 then -1 else nI h
def WfS (N : Nat → Nat) (S : Nat → Nat) : Prop :=
  S 0 < 2 ^ 20 ∧ (∀ p, p < N 0 → S (1 + p) ≤ 9) ∧ (∀ q, q < N 2 → S (8 + q) < N 0) ∧ (∀ o, o < N 3 → S (13 + o) < N 0 ∧ S (16 + o) ≤ 3) ∧ ∀ w, w < N 4 → S (19 + w) < N 3 ∨ S (19 + w) = 3 ∨ S (19 + w) = 4
def StM (v : zM) (A o : Nat) (N S : Nat → Nat) : Prop :=
  gI v A o = nI (S 0) ∧ (∀ p, p < N 0 → gI v A (o + (1 + p)) = nI (S (1 + p))) ∧ (∀ q, q < N 2 → gI v A (o + (8 + q)) = nI (S (8 + q))) ∧
  (∀ k, k < N 3 → gI v A (o + (13 + k)) = nI (S (13 + k)) ∧ gI v A (o + (16 + k)) = nI (S (16 + k))) ∧ ∀ w, w < N 4 → gI v A (o + (19 + w)) = hv (S (19 + w))
def StC (u : zM) (a : Nat) (N S : Nat → Nat) : Prop :=
  gI u a 5 = nI (S 0) ∧ (∀ p, p < N 0 → gI u (a + 1) p = nI (S (1 + p))) ∧ (∀ q, q < N 2 → gI u (a + 2) q = nI (S (8 + q))) ∧
  (∀ k, k < N 3 → gI u (a + 3) k = nI (S (13 + k)) ∧ gI u (a + 4) k = nI (S (16 + k))) ∧ ∀ w, w < N 4 → gI u (a + 5) w = hv (S (19 + w))
def CtyM (v : zM) (N : Nat → Nat) (K : Nat → Nat → Nat) : Prop :=
  (∀ i, i < 6 → gI v 3 i = nI (N i)) ∧ (∀ p, p < N 0 → gI v 9 p = nI (K 0 p) ∧ gI v 8 p = nI (K 6 p)) ∧ (∀ q, q < N 2 → gI v 10 q = nI (K 1 q) ∧ gI v 11 q = nI (K 7 q)) ∧
  (∀ o, o < N 3 → gI v 13 o = nI (K 2 o) ∧ gI v 12 o = nI (K 8 o)) ∧ (∀ w, w < N 4 → gI v 14 w = nI (K 3 w) ∧ gI v 15 w = nI (K 4 w)) ∧ ∀ i, i < N 5 → gI v 16 i = nI (K 5 i)
def CtyC (u : zM) (t : Nat) (N : Nat → Nat) (K : Nat → Nat → Nat) : Prop :=
  (gI u (t + 1) 1 = nI (N 0) ∧ gI u t 15 = nI (N 1) ∧ gI u (t + 3) 1 = nI (N 2) ∧ gI u (t + 5) 1 = nI (N 3) ∧ gI u (t + 7) 1 = nI (N 4) ∧ gI u t 14 = nI (N 5)) ∧
  (∀ p, p < N 0 → gI u (t + 10) p = nI (K 0 p) ∧ gI u (t + 9) p = nI (K 6 p)) ∧ (∀ q, q < N 2 → gI u (t + 11) q = nI (K 1 q) ∧ gI u (t + 12) q = nI (K 7 q)) ∧
  (∀ o, o < N 3 → gI u (t + 14) o = nI (K 2 o) ∧ gI u (t + 13) o = nI (K 8 o)) ∧ (∀ w, w < N 4 → gI u (t + 15) w = nI (K 3 w) ∧ gI u (t + 16) w = nI (K 4 w)) ∧ ∀ i, i < N 5 → gI u (t + 17) i = nI (K 5 i)
/-- wet places -/
def wetS (N S : Nat → Nat) : Nat := mk (fun p => decide (1 ≤ S (1 + p))) (N 0)
/-- the reference: its wet places -/
theorem Mo_wets_eq {v : zM} {N S : Nat → Nat} {K : Nat → Nat → Nat} (hN : WfN N) (hc : CtyM v N K) (hs : StM v 40 0 N S) (hw : WfS N S) : Mo_wets v = some (nI (wetS N S), v) := by
  have h0 : N 0 ≤ 7 := hN.1
  unfold Mo_wets
  refine lpz (fun n (s : Int32 × Int32) => Mo_wets_4 n s.1 s.2 v) (fun k => (nI (mk (fun p => decide (1 ≤ S (1 + p))) k), nI k)) (N 0) _ (by omega) (fun n => ?_) (fun n k hk => ?_)
  · show Mo_wets_4b (Mo_wets_4 n) _ _ _ = _
    unfold Mo_wets_4b
    dsimp only
    rw [if_pos (by rw [hc.1 0 (by decide)]; exact nI_le (Nat.le_refl _) (by omega))]
    rfl
  · show Mo_wets_4b (Mo_wets_4 n) _ _ _ = _
    unfold Mo_wets_4b
    dsimp only
    have e1 : (1 : Int32) + nI k = nI (1 + k) := nI_add 1 k
    have e2 : gI v 40 (1 + k) = nI (S (1 + k)) := by have := hs.2.1 k hk; rwa [Nat.zero_add] at this
    have h9 := hw.2.1 k hk
    rw [if_neg (by rw [hc.1 0 (by decide)]; exact nI_ge hk (by omega)), e1, if_pos (ib_nI (by omega) (by decide)), ix_nI (by omega), e2]
    have e3 : nI (S (1 + k)) ≤ 0 ↔ S (1 + k) ≤ 0 := nI_leI (b := 0) (by omega) (by decide)
    simp only [e3, zlet, b_one, b_or _ (mk_1024 _ (show k ≤ 10 by omega)) k (by omega), nI_1]
    by_cases h : S (1 + k) ≤ 0
    · rw [if_pos h]
      have : decide (1 ≤ S (1 + k)) = false := by simp; omega
      simp [mk, this]
    · rw [if_neg h]
      have : decide (1 ≤ S (1 + k)) = true := by simp; omega
      simp [mk, this]
