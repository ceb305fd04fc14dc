/-! ===== longs as numbers ===== -/
def nL (n : Nat) : Int64 := Int64.ofNat n
theorem nL_toInt {n : Nat} (h : n < 2 ^ 63) : (nL n).toInt = (n : Int) := Int64.toInt_ofNat_of_lt h
theorem nL_of {x : Int64} {n : Nat} (h : n < 2 ^ 63) (e : x.toInt = (n : Int)) : x = nL n := Int64.toInt.inj (e.trans (nL_toInt h).symm)
theorem bm64 {x : Int} (h1 : 0 ≤ x) (h2 : x < 2 ^ 63) : x.bmod (2 ^ 64) = x := Int.bmod_eq_of_le (by omega) (by omega)
theorem bm32 {x : Int} (h1 : 0 ≤ x) (h2 : x < 2 ^ 31) : x.bmod (2 ^ 32) = x := Int.bmod_eq_of_le (by omega) (by omega)
theorem nL_add {a b : Nat} (h : a + b < 2 ^ 63) : nL a + nL b = nL (a + b) := nL_of h (by rw [Int64.toInt_add, nL_toInt (by omega), nL_toInt (by omega), bm64 (by omega) (by omega)]; omega)
theorem nL_mul {a b : Nat} (h : a * b < 2 ^ 63) (ha : a < 2 ^ 63) (hb : b < 2 ^ 63) : nL a * nL b = nL (a * b) := nL_of h (by
  have e : ((a : Int) * (b : Int)) = ((a * b : Nat) : Int) := (Int.natCast_mul a b).symm
  rw [Int64.toInt_mul, nL_toInt ha, nL_toInt hb, e, bm64 (by omega) (by omega)])
theorem nL_sub {a b : Nat} (h : b ≤ a) (ha : a < 2 ^ 63) : nL a - nL b = nL (a - b) := nL_of (by omega) (by rw [Int64.toInt_sub, nL_toInt (by omega), nL_toInt (by omega), bm64 (by omega) (by omega)]; omega)
theorem nL_div {a b : Nat} (ha : a < 2 ^ 63) (hb : b < 2 ^ 63) : nL a / nL b = nL (a / b) := by
  have h1 : a / b ≤ a := Nat.div_le_self a b
  refine nL_of (by omega) ?_
  have e : (a : Int).tdiv (b : Int) = ((a / b : Nat) : Int) := (Int.ofNat_tdiv a b).symm
  rw [Int64.toInt_div, nL_toInt ha, nL_toInt hb, e]
  clear e
  generalize a / b = q at h1 ⊢
  exact bm64 (by omega) (by omega)
theorem nL_mod {a b : Nat} (ha : a < 2 ^ 63) (hb : b < 2 ^ 63) : nL a - nL a / nL b * nL b = nL (a % b) := by
  have h1 : a / b * b ≤ a := Nat.div_mul_le_self a b
  have h0 : a / b ≤ a := Nat.div_le_self a b
  rw [nL_div ha hb, nL_mul (by omega) (by omega) hb, nL_sub h1 ha]
  congr 1
  rw [Nat.mod_eq_sub, Nat.mul_comm]
theorem nL_eq {a b : Nat} (ha : a < 2 ^ 63) (hb : b < 2 ^ 63) : nL a = nL b ↔ a = b := by
  rw [← Int64.toInt_inj, nL_toInt ha, nL_toInt hb]
  omega
theorem nL_lt {a b : Nat} (ha : a < 2 ^ 63) (hb : b < 2 ^ 63) : nL a < nL b ↔ a < b := by
  rw [Int64.lt_iff_toInt_lt, nL_toInt ha, nL_toInt hb]
  omega
theorem nL_le {a b : Nat} (ha : a < 2 ^ 63) (hb : b < 2 ^ 63) : nL a ≤ nL b ↔ a ≤ b := by
  rw [Int64.le_iff_toInt_le, nL_toInt ha, nL_toInt hb]
  omega
theorem toL_nI {j : Nat} (h : j < 2 ^ 31) : Int32.toInt64 (nI j) = nL j := nL_of (by omega) (by rw [Int32.toInt_toInt64, nI_toInt h])
theorem toI_nL {j : Nat} (h : j < 2 ^ 31) : Int64.toInt32 (nL j) = nI j := by
  apply Int32.toInt.inj
  rw [Int64.toInt_toInt32, nL_toInt (by omega), nI_toInt h, bm32 (by omega) (by omega)]
theorem lL0 : (0 : Int64) = nL 0 := id rfl
theorem lL1 : (1 : Int64) = nL 1 := id rfl
theorem lL8 : (8 : Int64) = nL 8 := id rfl
theorem lL10 : (10 : Int64) = nL 10 := id rfl
theorem lL27 : (27 : Int64) = nL 27 := id rfl
theorem lL96 : (96 : Int64) = nL 96 := id rfl
theorem lL255 : (255 : Int64) = nL 255 := id rfl
theorem lLM : (1000000 : Int64) = nL 1000000 := id rfl
theorem lLa : (1103515245 : Int64) = nL 1103515245 := id rfl
theorem lLb : (12345 : Int64) = nL 12345 := id rfl
theorem lLc : (2147483648 : Int64) = nL 2147483648 := id rfl
theorem lLd : (65536 : Int64) = nL 65536 := id rfl
/-- draws -/
def drw (G : Nat) : Nat := (G * 1103515245 + 12345) % 2147483648
theorem drw_lt (G : Nat) : drw G < 2 ^ 31 := Nat.mod_lt _ (by omega)
theorem drw_L {G : Nat} (h : G < 2 ^ 31) : nL G * 1103515245 + 12345 - (nL G * 1103515245 + 12345) / 2147483648 * 2147483648 = nL (drw G) := by
  have e : nL G * 1103515245 + 12345 = nL (G * 1103515245 + 12345) := by
    rw [lLa, lLb, nL_mul (by omega) (by omega) (by omega), nL_add (by omega)]
  rw [e, lLc, nL_mod (by omega) (by omega)]
  rfl
theorem drw_m {G m : Nat} (h : G < 2 ^ 31) (h0 : 0 < m) (hm : m < 2 ^ 31) : Int64.toInt32 (nL G / 65536 - nL G / 65536 / Int32.toInt64 (nI m) * Int32.toInt64 (nI m)) = nI (G / 65536 % m) := by
  have h1 : G / 65536 ≤ G := Nat.div_le_self _ _
  have h2 : G / 65536 % m < m := Nat.mod_lt _ h0
  rw [lLd, nL_div (by omega) (by omega), toL_nI hm, nL_mod (by omega) (by omega), toI_nL (by omega)]
theorem OW_draw_eq {u : zM} {G m : Nat} (hg : gL u 1 14 = nL G) (h : G < 2 ^ 31) (h0 : 0 < m) (hm : m < 2 ^ 31) : OW_draw (nI m) u = some (nI (drw G / 65536 % m), sL u 1 14 (nL (drw G))) := by
  unfold OW_draw
  have e1 : ¬ nI m ≤ (0 : Int32) := nI_ge h0 hm
  have e2 : ¬ Int32.toInt64 (nI m) = 0 := by rw [toL_nI hm, lL0, nL_eq (by omega) (by omega)]; omega
  have e3 : gL (sL u 1 14 (nL (drw G))) 1 14 = nL (drw G) := by rw [gL_sL, if_pos ⟨rfl, rfl⟩]
  rw [hg, drw_L h, zl_e, if_neg e1, if_neg e2, e3, drw_m (drw_lt G) h0 hm]
theorem Mo_draws_eq {v : zM} {G m : Nat} (hg : gL v 1 66 = nL G) (h : G < 2 ^ 31) (h0 : 0 < m) (hm : m < 2 ^ 31) : Mo_draws (nI m) v = some (nI (drw G / 65536 % m), sL v 1 66 (nL (drw G))) := by
  unfold Mo_draws
  have e2 : ¬ Int32.toInt64 (nI m) = 0 := by rw [toL_nI hm, lL0, nL_eq (by omega) (by omega)]; omega
  have e3 : gL (sL v 1 66 (nL (drw G))) 1 66 = nL (drw G) := by rw [gL_sL, if_pos ⟨rfl, rfl⟩]
  rw [hg, drw_L h, zl_e, if_neg e2, e3, drw_m (drw_lt G) h0 hm]
