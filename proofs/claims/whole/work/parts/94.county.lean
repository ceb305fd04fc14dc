/-! ===== county ===== -/
theorem Hld_sh {u u' : zM} {c a b : Nat} : ∀ (P : List Int32) (i : Nat), Hld u c (a + i) P → (∀ k, i ≤ k → k < i + P.length → gI u' c (b + k) = gI u c (a + k)) → Hld u' c (b + i) P := by
  intro P
  induction P with
  | nil => intro _ _ _; trivial
  | cons x P ih => intro i h hf; exact ⟨(hf i (Nat.le_refl _) (by rw [List.length_cons]; omega)).trans h.1, ih (i + 1) h.2 (fun k h1 h2 => hf k (by omega) (by rw [List.length_cons]; omega))⟩
def chzM (c k : Nat) : Prop := cyM c k ∨ bgM c k
theorem mlo_keep {c k : Nat} (h1 : 3 ≤ c) (h2 : c ≤ 16) (h : keepM c k) : k < mlo c := by
  rcases h with h | h | h | h | h | h | h | h | h | h | h | h | h
  · omega
  · obtain ⟨rfl, h⟩ := h; exact h
  · obtain ⟨rfl | rfl | rfl, h⟩ := h <;> exact h
  · obtain ⟨rfl | rfl | rfl, h⟩ := h <;> exact h
  · obtain ⟨rfl | rfl | rfl, h⟩ := h <;> exact h
  · obtain ⟨rfl | rfl | rfl, h⟩ := h <;> exact h
  · obtain ⟨rfl, h⟩ := h; exact h
  · omega
  · omega
  · omega
  · omega
  · omega
  · omega
theorem ch_keepM {c k : Nat} (h : keepM c k) : ¬ chzM c k := by
  intro z
  have hm := fun h1 h2 => mlo_keep (c := c) (k := k) h1 h2 h
  unfold chzM cyM rdW rdM bgM at z
  by_cases q : 3 ≤ c ∧ c ≤ 16
  · have := hm q.1 q.2
    clear hm h
    omega
  · clear hm
    rcases h with h | h | h | h | h | h | h | h | h | h | h | h | h <;> omega
def chzC (s : Nat) (c k : Nat) : Prop := (c = 2 ∧ 1 ≤ k) ∨ (s ≤ c ∧ c ≤ s + 19)
theorem ch_keepC {t s c k : Nat} (ht : t = 4 ∨ t = 25) (hs : s = 29 - t) (h : keepC t c k) : ¬ chzC s c k := by unfold keepC at h; unfold chzC; omega
theorem cyC_ch {s c k : Nat} (h : cyC s c k) : chzC s c k := by unfold cyC rdC at h; unfold chzC; omega
theorem clear_eq {u : zM} {s : Nat} (hs : s = 4 ∨ s = 25) : ∃ u', Co_clear s u = some ((), u') ∧ gI u' (s + 1) 1 = nI 0 ∧ gI u' (s + 3) 1 = nI 0 ∧ gI u' (s + 5) 1 = nI 0 ∧ gI u' (s + 7) 1 = nI 0 ∧ gI u' s 14 = nI 0 ∧ gI u' s 15 = nI 0 ∧ gI u' (s + 18) 2 = nI 0 ∧ Fr (fun c _ => s ≤ c ∧ c ≤ s + 18) u u' := by
  refine ⟨sI (sI (sI (sI (sI (sI (sI u (s + 1) 1 0) (s + 3) 1 0) (s + 5) 1 0) (s + 7) 1 0) s 14 0) s 15 0) (s + 18) 2 0, ?_, ?_, ?_, ?_, ?_, ?_, ?_, gs_eq ⟨rfl, rfl⟩, ?_⟩
  · unfold Co_clear
    rw [if_pos (layT hs), zl_e, zl_e, zl_e, zl_e, zl_e, zl_e, zl_e]
  · rw [gs_ne (by omega), gs_ne (by omega), gs_ne (by omega), gs_ne (by omega), gs_ne (by omega), gs_ne (by omega)]
    exact gs_eq ⟨rfl, rfl⟩
  · rw [gs_ne (by omega), gs_ne (by omega), gs_ne (by omega), gs_ne (by omega), gs_ne (by omega)]
    exact gs_eq ⟨rfl, rfl⟩
  · rw [gs_ne (by omega), gs_ne (by omega), gs_ne (by omega), gs_ne (by omega)]
    exact gs_eq ⟨rfl, rfl⟩
  · rw [gs_ne (by omega), gs_ne (by omega), gs_ne (by omega)]
    exact gs_eq ⟨rfl, rfl⟩
  · rw [gs_ne (by omega), gs_ne (by omega)]
    exact gs_eq ⟨rfl, rfl⟩
  · rw [gs_ne (by omega)]
    exact gs_eq ⟨rfl, rfl⟩
  · exact ((((((Fr.sI (by omega)).tr (Fr.sI (by omega))).tr (Fr.sI (by omega))).tr (Fr.sI (by omega))).tr (Fr.sI (by omega))).tr (Fr.sI (by omega))).tr (Fr.sI (by omega))
def raM (c k : Nat) : Prop := (c = 3 ∧ 6 ≤ k) ∨ ((c = 17 ∨ c = 18) ∧ k = 1) ∨ (c = 1 ∧ k = 27)
theorem readsAll_eq {v : zM} : ∃ v', Mo_readsAll v = zb (Mo_begins v') (fun _ u4 => Mo_readsAll_53 zF u4) ∧ (∀ i, i < 6 → gI v' 3 (6 + i) = nI 0) ∧ gI v' 17 1 = nI 1000 ∧ gI v' 18 1 = nI 1000 ∧ gI v' 1 27 = nI 1000 ∧ Fr raM v v' := by
  refine ⟨sI (sI (sI (wrM v 3 6 (fun _ => (0 : Int32)) 6) 17 1 1000) 18 1 1000) 1 27 1000, ?_, fun i hi => ?_, ?_, ?_, gs_eq ⟨rfl, rfl⟩, ?_⟩
  · unfold Mo_readsAll
    refine lpz (fun z (t : Int32 × zM) => Mo_readsAll_2 z t.1 t.2) (fun k => (nI k, wrM v 3 6 (fun _ => (0 : Int32)) k)) 6 _ (by omega) (fun z => ?_) (fun z k hk => ?_)
    · show Mo_readsAll_2b _ (nI 6) _ = _
      unfold Mo_readsAll_2b
      rw [if_pos (show (6 : Int32) ≤ nI 6 by decide), zl_e, zl_e, zl_e]
    · show Mo_readsAll_2b _ (nI k) _ = Mo_readsAll_2 z (nI (k + 1)) _
      unfold Mo_readsAll_2b
      rw [if_neg (show ¬ (6 : Int32) ≤ nI k from @nI_ge k 6 (by omega) (by decide)), show (6 : Int32) + nI k = nI (6 + k) from nI_add 6 k, if_pos (ib_nI (by omega) (by omega)), ix_nI (by omega), zl_e, show nI k + 1 = nI (k + 1) from nI_1 k, wrM_s]
  · rw [gs_ne (by omega), gs_ne (by omega), gs_ne (by omega), wrM_in hi]
    rfl
  · rw [gs_ne (by omega), gs_ne (by omega)]
    exact gs_eq ⟨rfl, rfl⟩
  · rw [gs_ne (by omega)]
    exact gs_eq ⟨rfl, rfl⟩
  · exact (((wrM_fr _ _ _ _ _ (fun j h1 h2 => Or.inl ⟨rfl, h1⟩)).tr (Fr.sI (Or.inr (Or.inl ⟨Or.inl rfl, rfl⟩)))).tr (Fr.sI (Or.inr (Or.inl ⟨Or.inr rfl, rfl⟩)))).tr (Fr.sI (Or.inr (Or.inr ⟨rfl, rfl⟩)))
theorem ctx0 {u v : zM} {s : Nat} (c1 : gI u (s + 1) 1 = nI 0) (c3 : gI u (s + 3) 1 = nI 0) (c5 : gI u (s + 5) 1 = nI 0) (c7 : gI u (s + 7) 1 = nI 0) (e14 : gI u s 14 = nI 0) (e15 : gI u s 15 = nI 0) (m : ∀ i, i < 6 → gI v 3 (6 + i) = nI 0) : CtX u v s (fun _ => 0) (fun _ _ => 0) (fun _ _ => []) := by
  have no : ∀ {p : Nat} {A : Prop}, p < 0 → A := fun h => absurd h (Nat.not_lt_zero _)
  refine ⟨⟨Nat.zero_le _, Nat.zero_le _, Nat.zero_le _, Nat.zero_le _, Nat.zero_le _, Nat.zero_le _⟩, ⟨fun _ h => no h, fun _ h => no h, fun _ h => no h, fun _ h => no h, fun _ h => no h⟩, ⟨⟨c1, e15, c3, c5, c7, e14⟩, fun _ h => no h, fun _ h => no h, fun _ h => no h, fun _ h => no h, fun _ h => no h⟩, ⟨fun i hi => m i hi, fun _ h => no h, fun _ h => no h, fun _ h => no h, fun _ h => no h, fun _ h => no h⟩, fun a ha => ?_, fun _ _ _ h => no h⟩
  have h4 : a = 0 ∨ a = 1 ∨ a = 2 ∨ a = 3 := by omega
  rcases h4 with rfl | rfl | rfl | rfl
  · exact ⟨c1, m 0 (by decide), Nat.zero_le _⟩
  · exact ⟨c3, m 2 (by decide), Nat.zero_le _⟩
  · exact ⟨c5, m 3 (by decide), Nat.zero_le _⟩
  · exact ⟨c7, m 4 (by decide), Nat.zero_le _⟩
/-- the class begins anew -/
def wrK (u : zM) : Nat → zM
  | 0 => u
  | k + 1 => sI (wrK u k) (83 + (98 + 15 * k)) 3 0
theorem wrK_s (u : zM) (k : Nat) : wrK u (k + 1) = sI (wrK u k) (83 + (98 + 15 * k)) 3 0 := rfl
theorem wrK_in (u : zM) (j : Nat) : ∀ k, j < k → gI (wrK u k) (181 + 15 * j) 3 = nI 0 := by
  intro k
  induction k with
  | zero => intro h; omega
  | succ k ih =>
    intro h
    rw [wrK_s]
    by_cases q : j = k
    · subst q
      exact gs_eq ⟨by omega, rfl⟩
    · rw [gs_ne (by omega)]
      exact ih (by omega)
theorem wrK_fr (u : zM) : ∀ k, Fr (fun c _ => 181 ≤ c) u (wrK u k) := by
  intro k
  induction k with
  | zero => exact Fr.rf
  | succ k ih => exact ih.tr (Fr.sI (by omega))
def saC (l : Nat) (c k : Nat) : Prop := (54 ≤ c ∧ c ≤ 59) ∨ (c = l ∧ k = 3) ∨ (c = 66 ∧ k = 3) ∨ 181 ≤ c ∨ (c = 1 ∧ (k = 12 ∨ k = 13)) ∨ (c = 70 ∧ k = 6)
theorem startAnew_eq {u : zM} {t l : Nat} {N : Nat → Nat} {K : Nat → Nat → Nat} (hN : WfN N) (ht : t = 4 ∨ t = 25) (hc : CtyC u t N K) (r1 : gR u 1 1 = t) (r3 : gR u 1 3 = l) (hl : l = 46 ∨ l = 50) : ∃ u', OW_startAnew u = some ((), u') ∧ StC u' 54 N (begS K) ∧ gI u' l 3 = nI 0 ∧ gI u' 66 3 = nI 0 ∧ (∀ k, k < 4 → gI u' (181 + 15 * k) 3 = nI 0) ∧ gI u' 1 12 = nI 0 ∧ gI u' 1 13 = nI 0 ∧ gI u' 70 6 = nI 0 ∧ Fr (saC l) u u' := by
  have lt := layT ht
  have ll : layC l = (16, 4) := by rcases hl with h | h <;> subst h <;> rfl
  obtain ⟨u1, a1, a2, a3⟩ := St_begin_eq (a := 54) hN ht hc StA54 (by decide)
  obtain ⟨u2, hu2⟩ : ∃ z, z = sI (sI u1 l 3 0) 66 3 0 := ⟨_, rfl⟩
  have f2 : Fr (saC l) u1 u2 := by
    rw [hu2]
    exact (Fr.sI (Or.inr (Or.inl ⟨rfl, rfl⟩))).tr (Fr.sI (Or.inr (Or.inr (Or.inl ⟨rfl, rfl⟩))))
  have g1 : gI u2 l 3 = nI 0 := by rw [hu2, gs_ne (by omega)]; exact gs_eq ⟨rfl, rfl⟩
  have g2 : gI u2 66 3 = nI 0 := by rw [hu2]; exact gs_eq ⟨rfl, rfl⟩
  have f3 : Fr (saC l) u2 (wrK u2 4) := (wrK_fr u2 4).mono (fun c k q => Or.inr (Or.inr (Or.inr (Or.inl q))))
  have f4 : Fr (fun c k => (c = 1 ∧ (k = 12 ∨ k = 13)) ∨ (c = 70 ∧ k = 6)) (wrK u2 4) (sI (sI (sI (wrK u2 4) 1 12 0) 1 13 0) 70 6 0) := ((Fr.sI (by omega)).tr (Fr.sI (by omega))).tr (Fr.sI (by omega))
  have lo : OW_startAnew_29 zF 0 u2 = some ((), sI (sI (sI (wrK u2 4) 1 12 0) 1 13 0) 70 6 0) := by
    refine lpz (fun z (t : Int32 × zM) => OW_startAnew_29 z t.1 t.2) (fun k => (nI k, wrK u2 k)) 4 _ (by omega) (fun z => ?_) (fun z k hk => ?_)
    · show OW_startAnew_29b _ (nI 4) _ = _
      unfold OW_startAnew_29b OW_forgetPast Ou_forget
      rw [if_pos (show (4 : Int32) ≤ nI 4 by decide), zl_e, zl_e, zs_e, zl_e, zs_e]
    · show OW_startAnew_29b _ (nI k) _ = OW_startAnew_29 z (nI (k + 1)) _
      unfold OW_startAnew_29b
      rw [if_neg (show ¬ (4 : Int32) ≤ nI k from @nI_ge k 4 (by omega) (by decide)), if_pos (ib_nI (by omega) (by omega)), ix_nI (by omega), zl_e, show nI k + 1 = nI (k + 1) from nI_1 k, wrK_s]
  refine ⟨sI (sI (sI (wrK u2 4) 1 12 0) 1 13 0) 70 6 0, ?_, ?_, ?_, ?_, fun k hk => ?_, ?_, ?_, gs_eq ⟨rfl, rfl⟩, ?_⟩
  · unfold OW_startAnew
    rw [r1, if_pos lt, zb_eq a1, a3.r, r3, if_pos ll, zl_e, zl_e, ← hu2]
    exact lo
  · exact a2.fr hN (fun j k h1 h2 h3 => (f4.i (by omega)).trans (((wrK_fr u2 4).i (by omega)).trans (by rw [hu2, gs_ne (by omega), gs_ne (by omega)])))
  · exact (f4.i (by omega)).trans (((wrK_fr u2 4).i (by omega)).trans g1)
  · exact (f4.i (by omega)).trans (((wrK_fr u2 4).i (by omega)).trans g2)
  · exact (f4.i (by omega)).trans (wrK_in u2 k 4 hk)
  · rw [gs_ne (by omega), gs_ne (by omega)]
    exact gs_eq ⟨rfl, rfl⟩
  · rw [gs_ne (by omega)]
    exact gs_eq ⟨rfl, rfl⟩
  · exact (((a3.mono (fun c k q => Or.inl q)).tr f2).tr f3).tr (f4.mono (fun c k q => Or.inr (Or.inr (Or.inr (Or.inr q)))))
/-- and the reference -/
def anM (c k : Nat) : Prop := c = 40 ∨ (c = 32 ∧ k = 0) ∨ (c = 36 ∧ k = 0) ∨ (c = 1 ∧ k = 56) ∨ c = 45
theorem anewM {v : zM} {N : Nat → Nat} {K : Nat → Nat → Nat} (hN : WfN N) (hc : CtyM v N K) : ∃ v', zb (Mo_fresh0 v) (fun _ u4 => zlet (sI u4 32 0 0) (fun u5 => zlet (sI u5 36 0 0) (fun u6 => zlet (sI u6 1 56 0) (fun u7 => Mo_county_46 zF 0 u7)))) = some (0, v') ∧ StM v' 40 0 N (begS K) ∧ gI v' 32 0 = nI 0 ∧ gI v' 36 0 = nI 0 ∧ gI v' 1 56 = nI 0 ∧ (∀ k, k < 4 → gI v' 45 k = nI 0) ∧ Fr anM v v' := by
  obtain ⟨v1, a1, a2, a3⟩ := Mo_fresh0_eq hN hc
  obtain ⟨v2, hv2⟩ : ∃ z, z = sI (sI (sI v1 32 0 0) 36 0 0) 1 56 0 := ⟨_, rfl⟩
  have f2 : Fr (fun c k => (c = 32 ∧ k = 0) ∨ (c = 36 ∧ k = 0) ∨ (c = 1 ∧ k = 56)) v1 v2 := by
    rw [hv2]
    exact ((Fr.sI (by omega)).tr (Fr.sI (by omega))).tr (Fr.sI (by omega))
  have g1 : gI v2 32 0 = nI 0 := by rw [hv2, gs_ne (by omega), gs_ne (by omega)]; exact gs_eq ⟨rfl, rfl⟩
  have g2 : gI v2 36 0 = nI 0 := by rw [hv2, gs_ne (by omega)]; exact gs_eq ⟨rfl, rfl⟩
  have g3 : gI v2 1 56 = nI 0 := by rw [hv2]; exact gs_eq ⟨rfl, rfl⟩
  have f3 : Fr (fun c _ => c = 45) v2 (wrM v2 45 0 (fun _ => vp_nar .boolean 0) 4) := wrM_fr _ _ _ _ _ (fun j h1 h2 => rfl)
  have lo : Mo_county_46 zF 0 v2 = some (0, wrM v2 45 0 (fun _ => vp_nar .boolean 0) 4) := by
    refine lpz (fun z (t : Int32 × zM) => Mo_county_46 z t.1 t.2) (fun k => (nI k, wrM v2 45 0 (fun _ => vp_nar .boolean 0) k)) 4 _ (by omega) (fun z => ?_) (fun z k hk => ?_)
    · show Mo_county_46b _ (nI 4) _ = _
      unfold Mo_county_46b
      rw [if_pos (show (4 : Int32) ≤ nI 4 by decide)]
    · show Mo_county_46b _ (nI k) _ = Mo_county_46 z (nI (k + 1)) _
      unfold Mo_county_46b
      rw [if_neg (show ¬ (4 : Int32) ≤ nI k from @nI_ge k 4 (by omega) (by decide)), if_pos (ib_nI (by omega) (by omega)), ix_nI (by omega), zl_e, show nI k + 1 = nI (k + 1) from nI_1 k, wrM_s, Nat.zero_add]
  refine ⟨wrM v2 45 0 (fun _ => vp_nar .boolean 0) 4, ?_, ?_, (f3.i (by omega)).trans g1, (f3.i (by omega)).trans g2, (f3.i (by omega)).trans g3, fun k hk => ?_, ?_⟩
  · rw [zb_eq a1, zl_e, zl_e, zl_e, ← hv2]
    exact lo
  · exact a2.fr hN (fun k _ => (f3.i (by omega)).trans (f2.i (by omega)))
  · have := wrM_in (u := v2) (c := 45) (o := 0) (f := fun _ => vp_nar .boolean 0) hk
    rw [Nat.zero_add] at this
    exact this
  · exact ((a3.mono (B := anM) (fun c k q => Or.inl q)).tr (f2.mono (B := anM) (fun c k q => by unfold anM; omega))).tr (f3.mono (B := anM) (fun c k q => by unfold anM; omega))
