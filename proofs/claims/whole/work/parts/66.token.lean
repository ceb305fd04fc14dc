/-! ===== tokens ===== -/
/-- two loops side by side -/
theorem lpj {σ τ ρ π : Type} (f : Nat → σ → Option ρ) (g : Nat → τ → Option π) (I : Nat → σ → τ → Prop) (Q : Option ρ → Option π → Prop) (hstep : ∀ n m k s t, I k s t → Q (f (n + 1) s) (g (m + 1) t) ∨ ∃ k' s' t', k' < k ∧ I k' s' t' ∧ f (n + 1) s = f n s' ∧ g (m + 1) t = g m t') : ∀ z k n m s t, k ≤ z → k < n → k < m → I k s t → Q (f n s) (g m t) := by
  intro z
  induction z with
  | zero =>
    intro k n m s t hz hn hm h
    obtain ⟨n, rfl⟩ : ∃ z, n = z + 1 := ⟨n - 1, by omega⟩
    obtain ⟨m, rfl⟩ : ∃ z, m = z + 1 := ⟨m - 1, by omega⟩
    rcases hstep n m k s t h with h | ⟨k', s', t', h1, h2, h3, h4⟩
    · exact h
    · omega
  | succ z ih =>
    intro k n m s t hz hn hm h
    obtain ⟨n, rfl⟩ : ∃ z, n = z + 1 := ⟨n - 1, by omega⟩
    obtain ⟨m, rfl⟩ : ∃ z, m = z + 1 := ⟨m - 1, by omega⟩
    rcases hstep n m k s t h with h | ⟨k', s', t', h1, h2, h3, h4⟩
    · exact h
    · rw [h3, h4]
      exact ih k' n m s' t' (by omega) (by omega) (by omega) h2
def TkR (u v : zM) (c : Nat) (T : Nat → Nat) : Prop := WfT c T ∧ gI u 2 1 = nI c ∧ (∀ i, i < c → gI u 3 i = nI (T i)) ∧ gI v 1 3 = nI c ∧ ∀ i, i < c → gI v 2 i = nI (T i)
def stC (c k : Nat) : Prop := c = 2 ∧ 2 ≤ k ∧ k ≤ 5
def stM (c k : Nat) : Prop := c = 1 ∧ 4 ≤ k ∧ k ≤ 8
theorem TkR.fr {u u' v v' : zM} {c : Nat} {T : Nat → Nat} (h : TkR u v c T) (hu : ∀ a k, (a = 2 ∧ k = 1) ∨ a = 3 → gI u' a k = gI u a k) (hv : ∀ a k, (a = 1 ∧ k = 3) ∨ a = 2 → gI v' a k = gI v a k) : TkR u' v' c T := ⟨h.1, (hu _ _ (by omega)).trans h.2.1, fun i hi => (hu _ _ (by omega)).trans (h.2.2.1 i hi), (hv _ _ (by omega)).trans h.2.2.2.1, fun i hi => (hv _ _ (by omega)).trans (h.2.2.2.2 i hi)⟩
theorem TkR.st {u u' v v' : zM} {c : Nat} {T : Nat → Nat} (h : TkR u v c T) (hu : Fr stC u u') (hv : Fr stM v v') : TkR u' v' c T := h.fr (fun a k q => hu.i (by unfold stC; omega)) (fun a k q => hv.i (by unfold stM; omega))
/-- the token at hand: where it begins, where it ends, of which kind -/
def Tok (u v : zM) (c : Nat) (T : Nat → Nat) (b e k : Nat) : Prop := b ≤ e ∧ e ≤ c ∧ (gI u 2 2 = nI e ∧ gI v 1 4 = nI e) ∧ (gI u 2 3 = nI b ∧ gI v 1 5 = nI b) ∧ (gI u 2 4 = nI k ∧ gI v 1 6 = nI k) ∧ k ≤ 4 ∧ (k = 0 → b = c) ∧ (k ≠ 0 → b < e) ∧ (k = 1 → ∃ w, WfD w ∧ gL u 2 5 = wd256 w ∧ gL v 1 7 = wd27 w) ∧ (k = 2 → ∃ m, m ≤ 9999 ∧ gL u 2 5 = nL m ∧ gI v 1 8 = nI m) ∧ (k = 3 → gL u 2 5 = nL (T b))
/-- letters so far -/
def LtR (w : List Nat) (n : Nat) : Prop := w.length = n ∧ ∀ x ∈ w, 1 ≤ x ∧ x ≤ 26
theorem w256_s {w : List Nat} {s x : Nat} (h : s = 96 + x) (hs : s < 128) : (wd256 w <<< (Int32.toInt64 8 &&& 63)) ||| Int32.toInt64 (nI s) = wd256 (x :: w) := by
  subst h
  rw [toL_nI (by omega), show Int32.toInt64 8 &&& 63 = (8 : Int64) by decide]
  rfl
theorem L_cancel (a b c : Int64) : a + (b + c) - c = a + b := by rw [Int64.sub_eq_add_neg, ← Int64.add_assoc, Int64.add_assoc, Int64.add_right_neg, Int64.add_zero]
theorem w27_s {w : List Nat} {s x : Nat} (h : s = 96 + x) (hs : s < 128) : (wd27 w * 27) + Int32.toInt64 (nI s) - 96 = wd27 (x :: w) := by
  subst h
  rw [toL_nI (by omega), lL96, show nL (96 + x) = nL x + nL 96 by rw [nL_add (by omega), Nat.add_comm], L_cancel]
  rfl
theorem sgnAt {v : zM} {c p : Nat} {T : Nat → Nat} (hw : WfT c T) (h1 : gI v 1 3 = nI c) (h2 : ∀ i, i < c → gI v 2 i = nI (T i)) (hp : p ≤ c) : Mo_signAt (nI p) v = some (nI (if p < c then T p else 0), v) := by
  have := hw.1
  unfold Mo_signAt
  rw [h1]
  by_cases q : p < c
  · rw [if_neg (nI_ge q (by omega)), if_pos (ib_nI (by omega) (by omega)), ix_nI (by omega), h2 p q, if_pos q]
  · rw [if_pos (nI_le (by omega) (by omega)), if_neg q]
    rfl
def lpC (c k : Nat) : Prop := c = 2 ∧ (k = 2 ∨ k = 5)
def lpM (c k : Nat) : Prop := c = 1 ∧ (k = 4 ∨ k = 7 ∨ k = 8)
theorem lpC_st {c k : Nat} (h : lpC c k) : stC c k := by unfold lpC at h; unfold stC; omega
theorem lpM_st {c k : Nat} (h : lpM c k) : stM c k := by unfold lpM at h; unfold stM; omega
theorem word_eq {u v : zM} {c b : Nat} {T : Nat → Nat} (h : TkR u v c T) (hb : b < c) (h1 : gI u 2 2 = nI b) (h2 : gI v 1 4 = nI b) (h3 : gI u 2 3 = nI b) (h4 : gI v 1 5 = nI b) (h5 : gL u 2 5 = 0) (h6 : gL v 1 7 = 0) (hl : 97 ≤ T b ∧ T b ≤ 122) : ∃ u' v' e k, Ta_readWord u = some ((), u') ∧ Mo_nextToken_109 zF v = some ((), v') ∧ Tok u' v' c T b e k ∧ Fr stC u u' ∧ Fr stM v v' := by
  have hc := h.1.1
  unfold Ta_readWord
  refine lpj Ta_readWord_0 Mo_nextToken_109 (fun k s t => ∃ p, b ≤ p ∧ p + k = c ∧ gI s 2 2 = nI p ∧ gI t 1 4 = nI p ∧ (p - b ≤ 8 → ∃ w, LtR w (p - b) ∧ gL s 2 5 = wd256 w ∧ gL t 1 7 = wd27 w) ∧ Fr lpC u s ∧ Fr lpM v t) (fun r r' => ∃ u' v' e k, r = some ((), u') ∧ r' = some ((), v') ∧ Tok u' v' c T b e k ∧ Fr stC u u' ∧ Fr stM v v') ?_ (c - b) (c - b) zF zF u v (Nat.le_refl _) (by unfold zF; omega) (by unfold zF; omega) ⟨b, Nat.le_refl _, by omega, h1, h2, fun _ => ⟨[], ⟨by rw [Nat.sub_self]; rfl, fun x hx => absurd hx (List.not_mem_nil)⟩, h5, h6⟩, Fr.rf, Fr.rf⟩
  rintro n m k s t ⟨p, p1, p2, p3, p4, p6, p7, p8⟩
  have hk : TkR s t c T := h.st (p7.mono (fun c k => lpC_st)) (p8.mono (fun c k => lpM_st))
  have s3 : gI s 2 3 = nI b := (p7.i (by unfold lpC; omega)).trans h3
  have t5 : gI t 1 5 = nI b := (p8.i (by unfold lpM; omega)).trans h4
  have eS := sgnAt hk.1 hk.2.2.2.1 hk.2.2.2.2 (show p ≤ c by omega)
  show (∃ u' v' e k, Ta_readWord_0b (Ta_readWord_0 n) s = some ((), u') ∧ Mo_nextToken_109b (Mo_nextToken_109 m) t = some ((), v') ∧ _) ∨ ∃ k' s' t', _ ∧ _ ∧ Ta_readWord_0b (Ta_readWord_0 n) s = _ ∧ Mo_nextToken_109b (Mo_nextToken_109 m) t = _
  by_cases go : p < c ∧ 97 ≤ T p ∧ T p ≤ 122
  · right
    obtain ⟨q1, q2, q3⟩ := go
    have hI : ib (nI p) 1000 = true := ib_nI (by omega) (by omega)
    have eC : Ta_readWord_0b (Ta_readWord_0 n) s = Ta_readWord_0 n (sI (sL s 2 5 ((gL s 2 5 <<< (Int32.toInt64 8 &&& 63)) ||| Int32.toInt64 (nI (T p)))) 2 2 (nI (p + 1))) := by
      unfold Ta_readWord_0b
      rw [p3, hk.2.1, if_neg (nI_ge q1 (by omega)), if_pos hI, ix_nI (by omega), hk.2.2.1 p q1, if_neg (show ¬ nI (T p) < (97 : Int32) from nI_nlt (a := T p) (b := 97) (by omega) (by omega)), if_pos hI, if_neg (show ¬ (122 : Int32) < nI (T p) from nI_nlt (a := 122) (by omega) (by omega)), if_pos hI, zl_e, show gI (sL s 2 5 ((gL s 2 5 <<< (Int32.toInt64 8 &&& 63)) ||| Int32.toInt64 (nI (T p)))) 2 2 = nI p from p3, zl_e, show nI p + 1 = nI (p + 1) from nI_1 p]
    have eM : Mo_nextToken_109b (Mo_nextToken_109 m) t = Mo_nextToken_109 m (if 8 ≤ p - b then sI t 1 4 (nI (p + 1)) else sI (sL t 1 7 (gL t 1 7 * 27 + Int32.toInt64 (nI (T p)) - 96)) 1 4 (nI (p + 1))) := by
      unfold Mo_nextToken_109b
      rw [p4, zb_eq eS, if_pos q1, if_neg (show ¬ nI (T p) < (97 : Int32) from nI_nlt (a := T p) (b := 97) (by omega) (by omega)), p4, zb_eq eS, if_pos q1, if_neg (show ¬ (122 : Int32) < nI (T p) from nI_nlt (a := 122) (by omega) (by omega)), p4, t5, pk_sub p1, zb_eq eS, if_pos q1, zl_e, zl_e, show nI p + 1 = nI (p + 1) from nI_1 p, show gI (sL t 1 7 (gL t 1 7 * 27 + Int32.toInt64 (nI (T p)) - 96)) 1 4 = nI p from p4, zl_e, show nI p + 1 = nI (p + 1) from nI_1 p]
      by_cases q8 : 8 ≤ p - b
      · rw [if_pos (show (8 : Int32) ≤ nI (p - b) from nI_le (a := 8) q8 (by omega)), if_pos q8]
      · rw [if_neg (show ¬ (8 : Int32) ≤ nI (p - b) from @nI_ge (p - b) 8 (by omega) (by decide)), if_neg q8]
    refine ⟨k - 1, _, _, by omega, ⟨p + 1, by omega, by omega, gs_eq ⟨rfl, rfl⟩, ?_, fun q8 => ?_, (p7.tr (Fr.sL (by unfold lpC; omega))).tr (Fr.sI (by unfold lpC; omega)), ?_⟩, eC, eM⟩
    · split
      · exact gs_eq ⟨rfl, rfl⟩
      · exact gs_eq ⟨rfl, rfl⟩
    · obtain ⟨w, ⟨w1, w2⟩, w3, w4⟩ := p6 (by omega)
      refine ⟨(T p - 96) :: w, ⟨?_, ?_⟩, ?_, ?_⟩
      · show w.length + 1 = _
        omega
      · intro x hx
        rcases List.mem_cons.mp hx with rfl | hx
        · omega
        · exact w2 x hx
      · show gL (sL s 2 5 _) 2 5 = _
        rw [sl_g, w3]
        exact w256_s (by omega) (by omega)
      · rw [if_neg (by omega)]
        show gL (sL t 1 7 _) 1 7 = _
        rw [sl_g, w4]
        exact w27_s (by omega) (by omega)
    · split
      · exact p8.tr (Fr.sI (by unfold lpM; omega))
      · exact (p8.tr (Fr.sL (by unfold lpM; omega))).tr (Fr.sI (by unfold lpM; omega))
  · left
    have hne : p ≠ b := fun e => go (by subst e; exact ⟨hb, hl.1, hl.2⟩)
    have eC : Ta_readWord_0b (Ta_readWord_0 n) s = some ((), sI s 2 4 (nI (if 8 < p - b then 4 else 1))) := by
      have e74 : Ta_readWord_74 s = some ((), sI s 2 4 (nI (if 8 < p - b then 4 else 1))) := by
        unfold Ta_readWord_74
        rw [p3, s3, pk_sub p1]
        by_cases q : 8 < p - b
        · rw [if_pos (show (8 : Int32) < nI (p - b) from nI_lt (a := 8) q (by omega)), if_pos q]
          rfl
        · rw [if_neg (show ¬ (8 : Int32) < nI (p - b) from nI_nlt (a := 8) (by omega) (by omega)), if_neg q]
          rfl
      unfold Ta_readWord_0b
      rw [e74, p3, hk.2.1]
      by_cases q1 : p < c
      · have hI : ib (nI p) 1000 = true := ib_nI (by omega) (by omega)
        have hT := hk.1.2 p q1
        rw [if_neg (nI_ge q1 (by omega)), if_pos hI, ix_nI (by omega), hk.2.2.1 p q1]
        by_cases q2 : 97 ≤ T p
        · rw [if_neg (show ¬ nI (T p) < (97 : Int32) from nI_nlt (a := T p) (b := 97) (by omega) (by omega)), if_pos hI, if_pos (show (122 : Int32) < nI (T p) from nI_lt (a := 122) (by omega) (by omega))]
        · rw [if_pos (show nI (T p) < (97 : Int32) from nI_lt (b := 97) (by omega) (by omega))]
      · rw [if_pos (nI_le (by omega) (by omega))]
    have eM : Mo_nextToken_109b (Mo_nextToken_109 m) t = some ((), sI t 1 6 (nI (if 8 < p - b then 4 else 1))) := by
      have e188 : Mo_nextToken_188 t = some ((), sI t 1 6 (nI (if 8 < p - b then 4 else 1))) := by
        unfold Mo_nextToken_188
        rw [p4, t5, pk_sub p1]
        by_cases q : 8 < p - b
        · rw [if_neg (show ¬ nI (p - b) ≤ (8 : Int32) from @nI_ge 8 (p - b) q (by omega)), if_pos q]
          rfl
        · rw [if_pos (show nI (p - b) ≤ (8 : Int32) from nI_le (b := 8) (by omega) (by omega)), if_neg q]
          rfl
      unfold Mo_nextToken_109b
      rw [p4, zb_eq eS]
      by_cases q2 : nI (if p < c then T p else 0) < (97 : Int32)
      · rw [if_pos q2, e188]
      · rw [if_neg q2, p4, zb_eq eS]
        have q1 : p < c := by
          by_cases q : p < c
          · exact q
          · rw [if_neg q] at q2
            exact absurd (show nI 0 < (97 : Int32) by decide) q2
        rw [if_pos q1] at q2 ⊢
        have hT := hk.1.2 p q1
        have q3 : 97 ≤ T p := by
          by_cases z : 97 ≤ T p
          · exact z
          · exact absurd (nI_lt (b := 97) (by omega) (by omega)) q2
        rw [if_pos (show (122 : Int32) < nI (T p) from nI_lt (a := 122) (by omega) (by omega)), e188]
    refine ⟨_, _, p, if 8 < p - b then 4 else 1, eC, eM, ⟨p1, by omega, ⟨(gs_ne (by omega)).trans p3, (gs_ne (by omega)).trans p4⟩, ⟨(gs_ne (by omega)).trans s3, (gs_ne (by omega)).trans t5⟩, ⟨gs_eq ⟨rfl, rfl⟩, gs_eq ⟨rfl, rfl⟩⟩, by split <;> omega, fun q => by split at q <;> omega, fun _ => by omega, fun q => ?_, fun q => by split at q <;> omega, fun q => by split at q <;> omega⟩, (p7.mono (fun c k => lpC_st)).tr (Fr.sI (by unfold stC; omega)), (p8.mono (fun c k => lpM_st)).tr (Fr.sI (by unfold stM; omega))⟩
    have q8 : p - b ≤ 8 := by split at q <;> omega
    obtain ⟨w, ⟨w1, w2⟩, w3, w4⟩ := p6 q8
    exact ⟨w, ⟨by omega, by omega, w2⟩, w3, w4⟩
