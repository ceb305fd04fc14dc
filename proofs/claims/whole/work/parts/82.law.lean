/-! ===== what wets: steps (class) and codes (reference) of one expression ===== -/
def simR (x q : Int32) : Prop := (∃ m, m ≤ 9999 ∧ x = nI m ∧ q = nI (100 + m)) ∨ (x = -1 ∧ q = nI 1) ∨ (x = -2 ∧ q = nI 2) ∨ (x = -3 ∧ q = nI 3) ∨ (x = -4 ∧ q = nI 4)
def opR (X : Nat) (o x : Int32) : Prop := (X = 0 ∧ ((o = -6 ∧ x = nI 26) ∨ (o = -7 ∧ x = nI 27))) ∨ (X = 1 ∧ ((o = -8 ∧ x = nI 24) ∨ (o = -9 ∧ x = nI 25))) ∨ (X = 2 ∧ ((o = -10 ∧ x = nI 20) ∨ (o = -11 ∧ x = nI 21))) ∨ (X = 3 ∧ o = -12 ∧ x = nI 22)
def lefR (X : Nat) : Nat := if X = 1 then 2 else X
/-- 0 an expression, 1 a test, 2 a sum, 3 a product, 4 a part; at a depth; steps, codes -/
def Rl : Nat → Nat → Nat → List Int32 → List Int32 → Prop
  | 0 => fun _ _ _ _ => False
  | n + 1 => fun X d P Q =>
    (X = 4 ∧ d < 5 ∧ ((∃ x q, P = [x] ∧ Q = [q] ∧ simR x q) ∨ (∃ P1 Q1, P = P1 ++ [-5] ∧ Q = nI 30 :: Q1 ∧ Rl n 4 (d + 1) P1 Q1) ∨ (∃ Q1, Q = nI 28 :: (Q1 ++ [nI 29]) ∧ Rl n 0 (d + 1) P Q1)))
    ∨ (X < 4 ∧ (Rl n (X + 1) d P Q ∨ ∃ P1 P2 Q1 Q2 o x, P = P1 ++ (P2 ++ [o]) ∧ Q = Q1 ++ (x :: Q2) ∧ opR X o x ∧ Rl n (lefR X) d P1 Q1 ∧ Rl n (X + 1) d P2 Q2))
/-- a row holds these from i on -/
def Hld (u : zM) (c : Nat) : Nat → List Int32 → Prop
  | _, [] => True
  | i, x :: P => gI u c i = x ∧ Hld u c (i + 1) P
theorem Hld_app {u : zM} {c : Nat} : ∀ (P1 P2 : List Int32) (i : Nat), Hld u c i (P1 ++ P2) ↔ Hld u c i P1 ∧ Hld u c (i + P1.length) P2 := by
  intro P1
  induction P1 with
  | nil => intro P2 i; exact ⟨fun h => ⟨trivial, h⟩, fun h => h.2⟩
  | cons x P ih =>
    intro P2 i
    show (gI u c i = x ∧ Hld u c (i + 1) (P ++ P2)) ↔ (gI u c i = x ∧ Hld u c (i + 1) P) ∧ Hld u c (i + (P.length + 1)) P2
    rw [ih, show i + 1 + P.length = i + (P.length + 1) by omega]
    exact ⟨fun h => ⟨⟨h.1, h.2.1⟩, h.2.2⟩, fun h => ⟨h.1.1, h.1.2, h.2⟩⟩
theorem Hld.fr {u u' : zM} {c : Nat} : ∀ (P : List Int32) (i : Nat), Hld u c i P → (∀ k, gI u' c k = gI u c k) → Hld u' c i P := by
  intro P
  induction P with
  | nil => intro _ _ _; trivial
  | cons x P ih => intro i h hf; exact ⟨(hf i).trans h.1, ih (i + 1) h.2 hf⟩
/-- join, as a function -/
def jnF (o a b : Int32) : Int32 := if o = -11 then a - b else if o = -10 then a + b else if o = -9 then (if a = b then 1 else 0) else if o = -8 then (if b ≤ a then 0 else 1) else if o = -7 then (if a = 0 then (if b = 0 then 0 else 1) else 1) else if o = -6 then (if a = 0 then 0 else if b = 0 then 0 else 1) else a * b
theorem La_join_eq (o a b : Int32) (u : zM) : La_join o a b u = some (jnF o a b, u) := by
  unfold La_join jnF
  repeat' split
  all_goals rfl
def smF (x l f w d : Int32) : Int32 := if x = -4 then d else if x = -3 then w else if x = -2 then f else if x = -1 then l else x
theorem La_simple_eq (x l f w d : Int32) (u : zM) : La_simple x l f w d u = some (smF x l f w d, u) := by
  unfold La_simple smF
  repeat' split
  all_goals rfl
def notF (a : Int32) : Int32 := if a = 0 then 1 else 0
/-- the class: these steps put one value on the stack -/
def CSv (r : Nat) (l f w dt : Int32) (P : List Int32) (s : Nat) (v : Int32) : Prop := ∀ u n k i L, k + s ≤ 32 → Hld u (r + 1) i P → i + P.length ≤ L → L ≤ 1000 → gI u r 2 = nI L → ∃ u', La_tells_19 (n + P.length) r l f w dt (nI k) (nI i) u = La_tells_19 n r l f w dt (nI (k + 1)) (nI (i + P.length)) u' ∧ gI u' (r + 2) k = v ∧ (∀ j, j < k → gI u' (r + 2) j = gI u (r + 2) j) ∧ Fr (fun c _ => c = r + 2) u u'
theorem CSv.mono {r : Nat} {l f w dt : Int32} {P : List Int32} {s s' : Nat} {v : Int32} (h : CSv r l f w dt P s v) (hs : s ≤ s') : CSv r l f w dt P s' v := fun u n k i L h1 => h u n k i L (by omega)
theorem CSv_sim {r : Nat} (hr : layC r = (11, 3)) {l f w dt x q : Int32} (hx : simR x q) : CSv r l f w dt [x] 1 (smF x l f w dt) := by
  intro u n k i L h1 h2 h3 h4 h5
  have h3 : i + 1 ≤ L := h3
  have hx5 : ¬ x ≤ -5 := by
    rcases hx with ⟨m, hm, rfl, _⟩ | ⟨rfl, _⟩ | ⟨rfl, _⟩ | ⟨rfl, _⟩ | ⟨rfl, _⟩
    · intro z
      have : (-5 : Int32) < nI m := Int32.lt_of_lt_of_le (show (-5 : Int32) < nI 0 by decide) (nI_le (Nat.zero_le m) (by omega))
      exact absurd z (Int32.not_le.mpr this)
    all_goals decide
  refine ⟨sI u (r + 2) k (smF x l f w dt), ?_, gs_eq ⟨rfl, rfl⟩, fun j hj => gs_ne (by omega), Fr.sI rfl⟩
  show La_tells_19b (La_tells_19 n) r l f w dt (nI k) (nI i) u = _
  unfold La_tells_19b
  rw [if_pos hr, h5, if_neg (nI_ge (show i < L by omega) (by omega)), if_pos (ib_nI (by omega) (by omega)), ix_nI (by omega), h2.1, zl_e, if_neg hx5, if_neg (show ¬ (32 : Int32) ≤ nI k from @nI_ge k 32 (by omega) (by decide)), zb_eq (La_simple_eq x l f w dt u), if_pos (ib_nI (by omega) (by omega)), ix_nI (by omega), zl_e, show nI k + 1 = nI (k + 1) from nI_1 k, show nI i + 1 = nI (i + 1) from nI_1 i]
  rfl
theorem CSv_not {r : Nat} (hr : layC r = (11, 3)) {l f w dt : Int32} {P : List Int32} {s : Nat} {v : Int32} (hs : 1 ≤ s) (h : CSv r l f w dt P s v) : CSv r l f w dt (P ++ [-5]) s (notF v) := by
  intro u n k i L h1 h2 h3 h4 h5
  rw [List.length_append] at h3 ⊢
  have h3 : i + (P.length + 1) ≤ L := h3
  obtain ⟨g1, g2⟩ := (Hld_app P [-5] i).mp h2
  obtain ⟨u1, e1, e2, e3, e4⟩ := h u (n + 1) k i L h1 g1 (by omega) h4 h5
  have g5 : gI u1 (r + 1) (i + P.length) = -5 := (e4.i (by omega)).trans g2.1
  have h5' : gI u1 r 2 = nI L := (e4.i (by omega)).trans h5
  refine ⟨sI u1 (r + 2) k (notF v), ?_, gs_eq ⟨rfl, rfl⟩, fun j hj => (gs_ne (by omega)).trans (e3 j hj), e4.tr (Fr.sI rfl)⟩
  rw [show n + (P.length + [(-5 : Int32)].length) = n + 1 + P.length by simp only [List.length_cons, List.length_nil]; omega, e1]
  show La_tells_19b (La_tells_19 n) r l f w dt (nI (k + 1)) (nI (i + P.length)) u1 = _
  have k1 : nI (k + 1) - 1 = nI k := by rw [show (1 : Int32) = nI 1 from rfl, pk_sub (by omega)]; rfl
  unfold La_tells_19b
  have hk : k < 32 := by omega
  rw [if_pos hr, h5', if_neg (nI_ge (show i + P.length < L by omega) (by omega)), if_pos (ib_nI (by omega) (by omega)), ix_nI (by omega), g5, zl_e, if_pos (show (-5 : Int32) ≤ -5 by decide), if_pos rfl, if_neg (show ¬ nI (k + 1) < (1 : Int32) from nI_nlt (a := k + 1) (b := 1) (by omega) (by omega)), k1, if_pos (ib_nI hk (by omega)), ix_nI (by omega), e2, if_pos (ib_nI hk (by omega)), if_pos (ib_nI hk (by omega)), zl_e, zl_e, show nI (i + P.length) + 1 = nI (i + (P.length + 1)) from nI_1 _]
  unfold notF
  by_cases q : v = 0
  · rw [if_pos q, if_pos q]
    rfl
  · rw [if_neg q, if_neg q]
    rfl
theorem CSv_bin {r : Nat} (hr : layC r = (11, 3)) {l f w dt : Int32} {P1 P2 : List Int32} {s1 s2 s : Nat} {v1 v2 o : Int32} (ho : o ≤ -6) (h1 : CSv r l f w dt P1 s1 v1) (h2 : CSv r l f w dt P2 s2 v2) (q1 : 1 ≤ s2) (q2 : s1 ≤ s) (q3 : s2 + 1 ≤ s) : CSv r l f w dt (P1 ++ (P2 ++ [o])) s (jnF o v1 v2) := by
  intro u n k i L k1 k2 k3 k4 k5
  rw [List.length_append, List.length_append] at k3 ⊢
  have k3 : i + (P1.length + (P2.length + 1)) ≤ L := k3
  obtain ⟨g1, g2⟩ := (Hld_app P1 (P2 ++ [o]) i).mp k2
  obtain ⟨g3, g4⟩ := (Hld_app P2 [o] (i + P1.length)).mp g2
  obtain ⟨u1, e1, e2, e3, e4⟩ := h1 u (n + 1 + P2.length) k i L (by omega) g1 (by omega) k4 k5
  obtain ⟨u2, d1, d2, d3, d4⟩ := h2 u1 (n + 1) (k + 1) (i + P1.length) L (by omega) (Hld.fr P2 _ g3 (fun j => e4.i (by omega))) (by omega) k4 ((e4.i (by omega)).trans k5)
  have F : Fr (fun c _ => c = r + 2) u u2 := e4.tr d4
  have g5 : gI u2 (r + 1) (i + P1.length + P2.length) = o := (F.i (by omega)).trans g4.1
  have k5' : gI u2 r 2 = nI L := (F.i (by omega)).trans k5
  have w1 : gI u2 (r + 2) k = v1 := (d3 k (by omega)).trans e2
  refine ⟨sI u2 (r + 2) k (jnF o v1 v2), ?_, gs_eq ⟨rfl, rfl⟩, fun j hj => (gs_ne (by omega)).trans ((d3 j (by omega)).trans (e3 j hj)), F.tr (Fr.sI rfl)⟩
  rw [show n + (P1.length + (P2.length + [o].length)) = n + 1 + P2.length + P1.length by simp only [List.length_cons, List.length_nil]; omega, e1, d1]
  show La_tells_19b (La_tells_19 n) r l f w dt (nI (k + 1 + 1)) (nI (i + P1.length + P2.length)) u2 = _
  have m1 : nI (k + 1 + 1) + (-1) = nI (k + 1) := by
    rw [show (-1 : Int32) = -(nI 1) from rfl, ← Int32.sub_eq_add_neg, pk_sub (by omega)]
    rfl
  have m2 : nI (k + 1) - 1 = nI k := by rw [show (1 : Int32) = nI 1 from rfl, pk_sub (by omega)]; rfl
  have o5 : o ≤ -5 := Int32.le_trans ho (by decide)
  have o6 : ¬ o = -5 := fun z => by subst z; exact absurd ho (by decide)
  unfold La_tells_19b
  rw [if_pos hr, k5', if_neg (nI_ge (show i + P1.length + P2.length < L by omega) (by omega)), if_pos (ib_nI (by omega) (by omega)), ix_nI (by omega), g5, zl_e, if_pos o5, if_neg o6, if_neg (show ¬ nI (k + 1 + 1) < (2 : Int32) from nI_nlt (a := k + 1 + 1) (b := 2) (by omega) (by omega)), m1, m2, if_pos (ib_nI (show k < 32 by omega) (by omega)), if_pos (ib_nI (show k + 1 < 32 by omega) (by omega)), ix_nI (by omega), ix_nI (by omega), w1, d2, zb_eq (La_join_eq o v1 v2 u2), if_pos (ib_nI (show k < 32 by omega) (by omega)), zl_e, show nI (i + P1.length + P2.length) + 1 = nI (i + P1.length + P2.length + 1) from nI_1 _, show i + P1.length + P2.length + 1 = i + (P1.length + (P2.length + [o].length)) by simp only [List.length_cons, List.length_nil]; omega]
theorem Rl_d : ∀ n X d P Q, X ≤ 4 → Rl n X d P Q → d < 5 := by
  intro n
  induction n with
  | zero => intro X d P Q _ h; exact h.elim
  | succ n ih =>
    intro X d P Q hX h
    rcases h with ⟨_, h, _⟩ | ⟨h4, h | ⟨P1, P2, Q1, Q2, o, x, _, _, _, _, h⟩⟩
    · exact h
    · exact ih _ _ _ _ (by omega) h
    · exact ih _ _ _ _ (by omega) h
def nd (X d : Nat) : Nat := 5 - X + 4 * (4 - d)
theorem opR_le {X : Nat} {o x : Int32} (h : opR X o x) : o ≤ -6 := by
  rcases h with ⟨_, ⟨rfl, _⟩ | ⟨rfl, _⟩⟩ | ⟨_, ⟨rfl, _⟩ | ⟨rfl, _⟩⟩ | ⟨_, ⟨rfl, _⟩ | ⟨rfl, _⟩⟩ | ⟨_, rfl, _⟩ <;> decide
