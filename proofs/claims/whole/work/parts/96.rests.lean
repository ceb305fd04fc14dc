/-! ===== rests, of numbers ===== -/
def pyF (a b c i j : Int32) : Int32 := if i = 1 then (if j = 1 then a else -b) else (if j = 1 then c else 0)
theorem pay_eq (a b c i j : Int32) (u : zM) : OW_pay a b c i j u = some (pyF a b c i j, u) := by
  unfold OW_pay pyF
  by_cases h1 : i = 1
  · by_cases h2 : j = 1
    · simp only [if_pos h1, if_pos h2]
    · simp only [if_pos h1, if_neg h2]
  · by_cases h2 : j = 1
    · simp only [if_neg h1, if_pos h2]
    · simp only [if_neg h1, if_neg h2]
theorem gets_eq (a b c i j : Int32) (u : zM) : Mo_getsBy a b c i j u = some (pyF a b c i j, u) := pay_eq a b c i j u
def isRF (a b c k : Int32) : Bool := decide (¬ pyF a b c (k / 2) (k - k / 2 * 2) < pyF a b c (1 - k / 2) (k - k / 2 * 2)) && decide (¬ pyF a b c (k - k / 2 * 2) (k / 2) < pyF a b c (1 - (k - k / 2 * 2)) (k / 2))
theorem isRest_eq (a b c k : Int32) (u : zM) : OW_isRest a b c k u = some (if isRF a b c k = true then 1 else 0, u) := by
  unfold OW_isRest
  rw [zl_e, zl_e, zb_eq (pay_eq _ _ _ _ _ _), zb_eq (pay_eq _ _ _ _ _ _)]
  by_cases h1 : pyF a b c (k / 2) (k - k / 2 * 2) < pyF a b c (1 - k / 2) (k - k / 2 * 2)
  · have hf : isRF a b c k = false := by unfold isRF; rw [decide_eq_false (fun z => z h1)]; rfl
    rw [if_pos h1, hf]
    rfl
  · rw [if_neg h1, zb_eq (pay_eq _ _ _ _ _ _), zb_eq (pay_eq _ _ _ _ _ _)]
    by_cases h2 : pyF a b c (k - k / 2 * 2) (k / 2) < pyF a b c (1 - (k - k / 2 * 2)) (k / 2)
    · have hf : isRF a b c k = false := by unfold isRF; rw [decide_eq_true h1, decide_eq_false (fun z => z h2)]; rfl
      rw [if_pos h2, hf]
      rfl
    · have hf : isRF a b c k = true := by unfold isRF; rw [decide_eq_true h1, decide_eq_true h2]; rfl
      rw [if_neg h2, hf]
      rfl
theorem rests_step (zr : Int32 → Int32 → Int32 → Int32 → Int32 → Int32 → zM → Option (Int32 × zM)) (a b c k f i : Int32) (u : zM) (h4 : ¬ (4 : Int32) ≤ i) : Mo_rests_61b zr a b c k f i u = if isRF a b c i = true then (if f = k then some (i, u) else zr a b c k (f + 1) (i + 1) u) else zr a b c k f (i + 1) u := by
  unfold Mo_rests_61b
  rw [if_neg h4, zl_e, zl_e, zb_eq (gets_eq _ _ _ _ _ _), zb_eq (gets_eq _ _ _ _ _ _)]
  by_cases h1 : pyF a b c (i / 2) (i - i / 2 * 2) < pyF a b c (1 - i / 2) (i - i / 2 * 2)
  · have hf : ¬ isRF a b c i = true := by unfold isRF; rw [decide_eq_false (fun z => z h1)]; exact Bool.false_ne_true
    rw [if_pos h1, if_neg hf]
  · rw [if_neg h1, zb_eq (gets_eq _ _ _ _ _ _), zb_eq (gets_eq _ _ _ _ _ _)]
    by_cases h2 : pyF a b c (i - i / 2 * 2) (i / 2) < pyF a b c (1 - (i - i / 2 * 2)) (i / 2)
    · have hf : ¬ isRF a b c i = true := by unfold isRF; rw [decide_eq_true h1, decide_eq_false (fun z => z h2)]; exact Bool.false_ne_true
      rw [if_neg (Int32.not_le.mpr h2), if_neg hf]
    · have hf : isRF a b c i = true := by unfold isRF; rw [decide_eq_true h1, decide_eq_true h2]; rfl
      rw [if_pos (Int32.not_lt.mp h2), if_pos hf]
def rsL (a b c k : Int32) : Nat → Int32 → Int32 → Option Int32
  | 0 => fun f _ => if k = -1 then some f else none
  | n + 1 => fun f i => if isRF a b c i = true then (if f = k then some i else rsL a b c k n (f + 1) (i + 1)) else rsL a b c k n f (i + 1)
theorem rsL_0 (a b c k f i : Int32) : rsL a b c k 0 f i = if k = -1 then some f else none := rfl
theorem rsL_s (a b c k f i : Int32) (n : Nat) : rsL a b c k (n + 1) f i = if isRF a b c i = true then (if f = k then some i else rsL a b c k n (f + 1) (i + 1)) else rsL a b c k n f (i + 1) := rfl
def thA (c k : Nat) : Prop := c = 1 ∧ k = 0
def RsQ (q : Option Int32) (v : zM) (o : Option (Int32 × zM)) : Prop := ∃ v', o = some (q.getD 0, v') ∧ gI v' 1 0 = (if q.isSome = true then 0 else 1) ∧ Fr thA v v'
theorem rests_loop (a b c k : Int32) (v : zM) (h0 : gI v 1 0 = 0) : ∀ n j f z, j + n = 4 → n < z → RsQ (rsL a b c k n f (nI j)) v (Mo_rests_61 z a b c k f (nI j) v) := by
  intro n
  induction n with
  | zero =>
    intro j f z hj hz
    obtain ⟨z, rfl⟩ : ∃ y, z = y + 1 := ⟨z - 1, by omega⟩
    obtain rfl : j = 4 := by omega
    show RsQ (rsL a b c k 0 f (nI 4)) v (Mo_rests_61b (Mo_rests_61 z) a b c k f (nI 4) v)
    unfold Mo_rests_61b
    rw [if_pos (show (4 : Int32) ≤ nI 4 by decide), rsL_0]
    by_cases hk : k = -1
    · rw [if_pos hk, if_pos hk, zl_e, if_pos hk]
      exact ⟨_, rfl, gs_eq ⟨rfl, rfl⟩, Fr.sI ⟨rfl, rfl⟩⟩
    · rw [if_neg hk, if_neg hk, zl_e, if_neg hk]
      exact ⟨_, rfl, gs_eq ⟨rfl, rfl⟩, Fr.sI ⟨rfl, rfl⟩⟩
  | succ n ih =>
    intro j f z hj hz
    obtain ⟨z, rfl⟩ : ∃ y, z = y + 1 := ⟨z - 1, by omega⟩
    show RsQ (rsL a b c k (n + 1) f (nI j)) v (Mo_rests_61b (Mo_rests_61 z) a b c k f (nI j) v)
    rw [rests_step _ _ _ _ _ _ _ _ (show ¬ (4 : Int32) ≤ nI j from @nI_ge j 4 (by omega) (by decide)), rsL_s, show nI j + 1 = nI (j + 1) from nI_1 j]
    by_cases h1 : isRF a b c (nI j) = true
    · rw [if_pos h1, if_pos h1]
      by_cases h2 : f = k
      · rw [if_pos h2, if_pos h2]
        exact ⟨v, rfl, h0, Fr.rf⟩
      · rw [if_neg h2, if_neg h2]
        exact ih (j + 1) (f + 1) z (by omega) (by omega)
    · rw [if_neg h1, if_neg h1]
      exact ih (j + 1) f z (by omega) (by omega)
def wi9 (x : Int32) : Bool := !(decide (x < 0)) && !(decide (9 < x))
theorem within9 (x : Int32) (u : zM) : OW_within x 0 9 u = some (if wi9 x = true then 1 else 0, u) := by
  unfold OW_within
  by_cases h1 : x < 0
  · have hf : wi9 x = false := by unfold wi9; rw [decide_eq_true h1]; rfl
    rw [if_pos h1, hf]
    rfl
  · rw [if_neg h1]
    by_cases h2 : 9 < x
    · have hf : wi9 x = false := by unfold wi9; rw [decide_eq_false h1, decide_eq_true h2]; rfl
      rw [if_pos h2, hf]
      rfl
    · have hf : wi9 x = true := by unfold wi9; rw [decide_eq_false h1, decide_eq_false h2]; rfl
      rw [if_neg h2, hf]
      rfl
theorem within9T {x : Int32} (u : zM) (h : wi9 x = true) : OW_within x 0 9 u = some (1, u) := by rw [within9, if_pos h]
theorem within9F {x : Int32} (u : zM) (h : ¬ wi9 x = true) : OW_within x 0 9 u = some (0, u) := by rw [within9, if_neg h]
theorem withinM {x : Int32} (u : zM) : Mo_within x 0 9 u = OW_within x 0 9 u := rfl
def rsF (a b c k : Int32) : Option Int32 := if wi9 a = true ∧ wi9 b = true ∧ wi9 c = true ∧ ¬ k < -1 then rsL a b c k 4 0 0 else none
theorem Mo_rests_no (a b c k : Int32) (v : zM) : RsQ none v (Mo_rests_41 a b c k v) := by
  unfold Mo_rests_41 Mo_rests_42
  rw [zl_e, show gI (sI v 1 0 1) 1 0 = 1 from gs_eq ⟨rfl, rfl⟩, if_pos rfl]
  exact ⟨_, rfl, gs_eq ⟨rfl, rfl⟩, Fr.sI ⟨rfl, rfl⟩⟩
theorem Mo_rests_q (a b c k : Int32) (v : zM) : RsQ (rsF a b c k) v (Mo_rests a b c k v) := by
  unfold Mo_rests rsF
  by_cases h1 : wi9 a = true
  · rw [zb_eq (show Mo_within a 0 9 v = _ from within9T v h1), if_neg ne10]
    by_cases h2 : wi9 b = true
    · rw [zb_eq (show Mo_within b 0 9 v = _ from within9T v h2), if_neg ne10]
      by_cases h3 : wi9 c = true
      · rw [zb_eq (show Mo_within c 0 9 v = _ from within9T v h3), if_neg ne10]
        by_cases h4 : k < -1
        · rw [if_pos h4, if_neg (fun z => z.2.2.2 h4)]
          exact Mo_rests_no a b c k v
        · rw [if_neg h4, if_pos ⟨h1, h2, h3, h4⟩]
          unfold Mo_rests_42
          rw [zl_e, show gI (sI v 1 0 0) 1 0 = 0 from gs_eq ⟨rfl, rfl⟩, if_neg (show ¬ (0 : Int32) = 1 by decide)]
          obtain ⟨v', e1, e2, e3⟩ := rests_loop a b c k (sI v 1 0 0) (gs_eq ⟨rfl, rfl⟩) 4 0 0 zF rfl (by unfold zF; omega)
          exact ⟨v', e1, e2, (Fr.sI ⟨rfl, rfl⟩).tr e3⟩
      · rw [zb_eq (show Mo_within c 0 9 v = _ from within9F v h3), if_pos rfl, if_neg (fun z => h3 z.2.2.1)]
        exact Mo_rests_no a b c k v
    · rw [zb_eq (show Mo_within b 0 9 v = _ from within9F v h2), if_pos rfl, if_neg (fun z => h2 z.2.1)]
      exact Mo_rests_no a b c k v
  · rw [zb_eq (show Mo_within a 0 9 v = _ from within9F v h1), if_pos rfl, if_neg (fun z => h1 z.1)]
    exact Mo_rests_no a b c k v
theorem Inv.th {n : Nat} {u v v' : zM} (h : Inv n u v) (hn : n < 600) (hv : Fr thA v v') : Inv (n + 1) u v' := by
  obtain ⟨h6, t, l, N, K, E, S, h⟩ := h
  exact ⟨by omega, t, l, N, K, E, S, h.scr (by omega) Fr.rf (hv.mono (fun c k q => by obtain ⟨rfl, rfl⟩ := q; unfold scrM; omega))⟩
