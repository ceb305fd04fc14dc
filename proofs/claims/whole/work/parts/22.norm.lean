/-! ===== one form of numbers: nI of a Nat; -1 is mI ===== -/
def mI : Int32 := -1
theorem zl_e {β γ : Type} (v : β) (k : β → γ) : zlet v k = k v := id rfl
theorem zs_e {β γ : Type} {r : β} {m : zM} {k : β → zM → Option γ} : zb (some (r, m)) k = k r m := id rfl
theorem neg_nI1 : -nI 1 = mI := id rfl
theorem li0 : (0 : Int32) = nI 0 := id rfl
theorem li1 : (1 : Int32) = nI 1 := id rfl
theorem li2 : (2 : Int32) = nI 2 := id rfl
theorem li3 : (3 : Int32) = nI 3 := id rfl
theorem li4 : (4 : Int32) = nI 4 := id rfl
theorem li5 : (5 : Int32) = nI 5 := id rfl
theorem li6 : (6 : Int32) = nI 6 := id rfl
theorem li7 : (7 : Int32) = nI 7 := id rfl
theorem li8 : (8 : Int32) = nI 8 := id rfl
theorem li9 : (9 : Int32) = nI 9 := id rfl
theorem li10 : (10 : Int32) = nI 10 := id rfl
theorem li11 : (11 : Int32) = nI 11 := id rfl
theorem li17 : (17 : Int32) = nI 17 := id rfl
theorem li18 : (18 : Int32) = nI 18 := id rfl
theorem li305 : (305 : Int32) = nI 305 := id rfl
theorem li306 : (306 : Int32) = nI 306 := id rfl
theorem li427 : (427 : Int32) = nI 427 := id rfl
theorem li428 : (428 : Int32) = nI 428 := id rfl
theorem li12 : (12 : Int32) = nI 12 := id rfl
theorem li13 : (13 : Int32) = nI 13 := id rfl
theorem li14 : (14 : Int32) = nI 14 := id rfl
theorem li15 : (15 : Int32) = nI 15 := id rfl
theorem li16 : (16 : Int32) = nI 16 := id rfl
theorem li19 : (19 : Int32) = nI 19 := id rfl
theorem li20 : (20 : Int32) = nI 20 := id rfl
theorem li21 : (21 : Int32) = nI 21 := id rfl
theorem li22 : (22 : Int32) = nI 22 := id rfl
theorem li23 : (23 : Int32) = nI 23 := id rfl
theorem li24 : (24 : Int32) = nI 24 := id rfl
theorem li25 : (25 : Int32) = nI 25 := id rfl
theorem li26 : (26 : Int32) = nI 26 := id rfl
theorem li27 : (27 : Int32) = nI 27 := id rfl
theorem li28 : (28 : Int32) = nI 28 := id rfl
theorem li29 : (29 : Int32) = nI 29 := id rfl
theorem li30 : (30 : Int32) = nI 30 := id rfl
theorem li31 : (31 : Int32) = nI 31 := id rfl
theorem li32 : (32 : Int32) = nI 32 := id rfl
theorem li37 : (37 : Int32) = nI 37 := id rfl
theorem li40 : (40 : Int32) = nI 40 := id rfl
theorem li41 : (41 : Int32) = nI 41 := id rfl
theorem li42 : (42 : Int32) = nI 42 := id rfl
theorem li43 : (43 : Int32) = nI 43 := id rfl
theorem li45 : (45 : Int32) = nI 45 := id rfl
theorem li47 : (47 : Int32) = nI 47 := id rfl
theorem li48 : (48 : Int32) = nI 48 := id rfl
theorem li57 : (57 : Int32) = nI 57 := id rfl
theorem li59 : (59 : Int32) = nI 59 := id rfl
theorem li60 : (60 : Int32) = nI 60 := id rfl
theorem li61 : (61 : Int32) = nI 61 := id rfl
theorem li63 : (63 : Int32) = nI 63 := id rfl
theorem li64 : (64 : Int32) = nI 64 := id rfl
theorem li75 : (75 : Int32) = nI 75 := id rfl
theorem li97 : (97 : Int32) = nI 97 := id rfl
theorem li98 : (98 : Int32) = nI 98 := id rfl
theorem li99 : (99 : Int32) = nI 99 := id rfl
theorem li100 : (100 : Int32) = nI 100 := id rfl
theorem li120 : (120 : Int32) = nI 120 := id rfl
theorem li122 : (122 : Int32) = nI 122 := id rfl
theorem li126 : (126 : Int32) = nI 126 := id rfl
theorem li200 : (200 : Int32) = nI 200 := id rfl
theorem li240 : (240 : Int32) = nI 240 := id rfl
theorem li255 : (255 : Int32) = nI 255 := id rfl
theorem li375 : (375 : Int32) = nI 375 := id rfl
theorem li400 : (400 : Int32) = nI 400 := id rfl
theorem li1000 : (1000 : Int32) = nI 1000 := id rfl
theorem li2000 : (2000 : Int32) = nI 2000 := id rfl
theorem li9999 : (9999 : Int32) = nI 9999 := id rfl
theorem bn_or {a k : Nat} (ha : a < 1024) (hk : k < 10) : nI a ||| (nI 1 <<< (nI k &&& nI 31)) = nI (a ||| 2 ^ k) := b_or a ha k hk
theorem bn_or0 (a : Nat) : nI a ||| nI 0 = nI a := b_one _
theorem bn_bit {a k : Nat} (ha : a < 1024) (hk : k < 10) : (nI a >>> (nI k &&& nI 31)) &&& nI 1 = nI ((a.testBit k).toNat) := b_bit a ha k hk
theorem bn_shl {k : Nat} (hk : k < 10) : nI 1 <<< (nI k &&& nI 31) = nI (2 ^ k) := b_shl k hk
theorem bn_and {a b : Nat} (ha : a < 128) (hb : b < 128) : nI a &&& nI b = nI (a &&& b) := b_and a ha b hb
theorem bn_lor {a b : Nat} (ha : a < 128) (hb : b < 128) : nI a ||| nI b = nI (a ||| b) := b_lor a ha b hb
theorem bn_xor {a k : Nat} (ha : a < 128) (hk : k < 7) : nI a ^^^ (nI 1 <<< (nI k &&& nI 31)) = nI (a ^^^ 2 ^ k) := b_xor a ha k hk
theorem mI_lt {a : Nat} (h : a < 2 ^ 31) : mI < nI a := by
  rw [Int32.lt_iff_toInt_lt, nI_toInt h]
  show (-1 : Int) < a
  omega
theorem mI_ne {a : Nat} (h : a < 2 ^ 31) : ¬ nI a = mI := fun e => by
  have := mI_lt h
  rw [e] at this
  exact (Int32.lt_irrefl this)
theorem mI_le {a : Nat} (h : a < 2 ^ 31) : ¬ nI a ≤ mI := Int32.not_le.mpr (mI_lt h)
theorem hv_ne {h : Nat} (h4 : h ≠ 4) : hv h = nI h := by unfold hv; rw [if_neg h4]
theorem hv_4 : hv 4 = mI := rfl
theorem hv_eq {h k : Nat} (hh : h < 5) (hk : k < 4) : hv h = nI k ↔ h = k := by
  by_cases e : h = 4
  · subst e
    rw [hv_4]
    exact ⟨fun q => absurd q.symm (mI_ne (by omega)), fun q => by omega⟩
  · rw [hv_ne e, nI_eq (by omega) (by omega)]
theorem hv_m {h : Nat} (hh : h < 5) : hv h = mI ↔ h = 4 := by
  by_cases e : h = 4
  · subst e; exact ⟨fun _ => rfl, fun _ => rfl⟩
  · rw [hv_ne e]; exact ⟨fun q => absurd q (mI_ne (by omega)), fun q => absurd q e⟩
theorem mk_s {P : Nat → Bool} {k : Nat} : mk P (k + 1) = if P k then mk P k ||| 2 ^ k else mk P k := rfl
theorem mk_t {P : Nat → Bool} {k : Nat} (h : P k = true) : mk P (k + 1) = mk P k ||| 2 ^ k := by rw [mk_s, if_pos h]
theorem mk_f {P : Nat → Bool} {k : Nat} (h : P k = false) : mk P (k + 1) = mk P k := by rw [mk_s, if_neg (by rw [h]; decide)]
theorem mk_lt10 (P : Nat → Bool) {n : Nat} (h : n < 10) : mk P n < 1024 := mk_1024 P (by omega)
/-- an argument that is an index of n, or not -/
theorem arg_ix (x : Int32) {n : Nat} (hn : n < 2 ^ 31) : (∃ j, j < n ∧ x = nI j) ∨ (x < nI 0 ∨ nI n ≤ x) := by
  rcases pk_ix x hn with h | h | h
  · exact Or.inr (Or.inl h)
  · exact Or.inr (Or.inr h)
  · exact Or.inl h
theorem gs_ne {u : zM} {a k b j : Nat} {x : Int32} (h : ¬ (b = a ∧ j = k)) : gI (sI u a k x) b j = gI u b j := by rw [gI_sI, if_neg h]
theorem gs_eq {u : zM} {a k b j : Nat} {x : Int32} (h : b = a ∧ j = k) : gI (sI u a k x) b j = x := by rw [gI_sI, if_pos h]
theorem gc_ne {u : zM} {a i b j n c q : Nat} (h : ¬ (c = b ∧ j ≤ q ∧ q < j + n)) : gI (sC u a i b j n) c q = gI u c q := by rw [gI_sC, if_neg h]
theorem gc_in {u : zM} {a i b j n c q : Nat} (h : c = b ∧ j ≤ q ∧ q < j + n) : gI (sC u a i b j n) c q = gI u a (i + (q - j)) := by rw [gI_sC, if_pos h]
