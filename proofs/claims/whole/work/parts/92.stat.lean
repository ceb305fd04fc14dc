/-! ===== a county is read ===== -/
theorem zb_id {r : Option (Unit × zM)} : zb r (fun _ u => some ((), u)) = r := by
  cases r with
  | none => rfl
  | some x => rfl
theorem readStat_eq {u v : zM} {c b e k m : Nat} {T : Nat → Nat} {w : List Nat} (h : Fin u v c T b e k w m) (hk0 : k ≠ 0) {s : Nat} {N : Nat → Nat} {K : Nat → Nat → Nat} {nm : Nat → Nat → List Nat} (hX : CtX u v s N K nm) (hs : s = 4 ∨ s = 25) (hL : LawX u v s) : ∃ r', CuQ u v s c T b (Co_readStatement s u) r' ∧ ∀ zr : zM → Option (Int32 × zM), Mo_readsAll_53b zr v = zb r' (fun c1 u1 => if c1 = 0 then (some (0, u1)) else (zr u1)) := by
  have lt := layT hs
  have h6 := h.k6
  have kn : ¬ gI v 1 6 = (0 : Int32) := fun z => hk0 ((nI_eq (b := 0) (by omega) (by decide)).mp (h6.1.symm.trans z))
  unfold Co_readStatement Mo_readsAll_53b
  simp only [if_pos lt, if_neg kn]
  by_cases q1 : k = 1 ∧ w = kw_place
  · obtain ⟨a1, a2⟩ := h.wdT (kw := kw_place) rfl k256_place k27_place q1
    refine ⟨Mo_readsPlace v, ?_, fun zr => by rw [zb_eq a2, if_neg ne10]⟩
    rw [zb_eq a1, if_neg ne10, zb_id]
    exact (readPlace_eq h q1.1 hX hs).cu hs hL
  · obtain ⟨a1, a2⟩ := h.wdF (kw := kw_place) rfl k256_place k27_place q1
    rw [zb_eq a1, if_pos rfl]
    simp only [zb_eq a2, if_true]
    by_cases q2 : k = 1 ∧ w = kw_stream
    · obtain ⟨a1, a2⟩ := h.wdT (kw := kw_stream) rfl k256_stream k27_stream q2
      refine ⟨Mo_readsStream v, ?_, fun zr => by rw [zb_eq a2, if_neg ne10]⟩
      rw [zb_eq a1, if_neg ne10, zb_id]
      exact (Co_readStream_eq h q2.1 hX hs).cu hs hL
    · obtain ⟨a1, a2⟩ := h.wdF (kw := kw_stream) rfl k256_stream k27_stream q2
      rw [zb_eq a1, if_pos rfl]
      simp only [zb_eq a2, if_true]
      by_cases q3 : k = 1 ∧ w = kw_person
      · obtain ⟨a1, a2⟩ := h.wdT (kw := kw_person) rfl k256_person k27_person q3
        refine ⟨Mo_readsPerson v, ?_, fun zr => by rw [zb_eq a2, if_neg ne10]⟩
        rw [zb_eq a1, if_neg ne10, zb_id]
        exact (Co_readPerson_eq h q3.1 hX hs).cu hs hL
      · obtain ⟨a1, a2⟩ := h.wdF (kw := kw_person) rfl k256_person k27_person q3
        rw [zb_eq a1, if_pos rfl]
        simp only [zb_eq a2, if_true]
        by_cases q4 : k = 1 ∧ w = kw_otter
        · obtain ⟨a1, a2⟩ := h.wdT (kw := kw_otter) rfl k256_otter k27_otter q4
          refine ⟨Mo_readsOtter v, ?_, fun zr => by rw [zb_eq a2, if_neg ne10]⟩
          rw [zb_eq a1, if_neg ne10, zb_id]
          exact (Co_readOtter_eq h q4.1 hX hs).cu hs hL
        · obtain ⟨a1, a2⟩ := h.wdF (kw := kw_otter) rfl k256_otter k27_otter q4
          rw [zb_eq a1, if_pos rfl]
          simp only [zb_eq a2, if_true]
          by_cases q5 : k = 1 ∧ w = kw_writ
          · obtain ⟨a1, a2⟩ := h.wdT (kw := kw_writ) rfl k256_writ k27_writ q5
            refine ⟨Mo_readsWrit v, ?_, fun zr => by rw [zb_eq a2, if_neg ne10]⟩
            rw [zb_eq a1, if_neg ne10, zb_id]
            exact (Co_readWrit_eq h q5.1 hX hs).cu hs hL
          · obtain ⟨a1, a2⟩ := h.wdF (kw := kw_writ) rfl k256_writ k27_writ q5
            rw [zb_eq a1, if_pos rfl]
            simp only [zb_eq a2, if_true]
            by_cases q6 : k = 1 ∧ w = kw_rain
            · obtain ⟨a1, a2⟩ := h.wdT (kw := kw_rain) rfl k256_rain k27_rain q6
              refine ⟨Mo_readsRain v, ?_, fun zr => by rw [zb_eq a2, if_neg ne10]⟩
              rw [zb_eq a1, if_neg ne10, zb_id]
              exact (Co_readRain_eq h q6.1 hX hs).cu hs hL
            · obtain ⟨a1, a2⟩ := h.wdF (kw := kw_rain) rfl k256_rain k27_rain q6
              rw [zb_eq a1, if_pos rfl]
              simp only [zb_eq a2, if_true]
              by_cases q7 : k = 1 ∧ w = kw_wets
              · obtain ⟨a1, a2⟩ := h.wdT (kw := kw_wets) rfl k256_wets k27_wets q7
                refine ⟨Mo_readsWets v, ?_, fun zr => by rw [zb_eq a2, if_neg ne10]⟩
                rw [zb_eq a1, if_neg ne10, zb_id]
                exact readWets_eq h q7.1 hX hs hL
              · obtain ⟨a1, a2⟩ := h.wdF (kw := kw_wets) rfl k256_wets k27_wets q7
                refine ⟨Mo_fails 1 v, ?_, fun zr => by rw [zb_eq a2, if_pos rfl]⟩
                obtain ⟨f1, f2, f3⟩ := h.fail (j := 1) (by decide) (by decide)
                rw [zb_eq a1, if_pos rfl, zb_eq (show Ta_fail 1 u = _ from f1)]
                exact ⟨_, _, rfl, Or.inr ⟨f2, _, f3, gs_eq ⟨rfl, rfl⟩, Fr.sI (Or.inl (by unfold rdC; omega)), Fr.sI (Or.inl (Or.inl (by unfold rdM; omega)))⟩⟩
/-- the loop over statements -/
theorem ctyLoop {u v : zM} {c b e k m : Nat} {T : Nat → Nat} {w : List Nat} (h : Fin u v c T b e k w m) {s : Nat} {N : Nat → Nat} {K : Nat → Nat → Nat} {nm : Nat → Nat → List Nat} (hX : CtX u v s N K nm) (hs : s = 4 ∨ s = 25) (hL : LawX u v s) : ∃ u' v', Co_read_10 zF s 0 u = some ((), u') ∧ Fr (cyC s) u u' ∧ Fr cyM v v' ∧ ((∃ x, Bad u' x ∧ Mo_readsAll_53 zF v = some (0, v') ∧ gI v' 1 9 = nI x) ∨ (gI u' 2 6 = nI 0 ∧ Mo_readsAll_53 zF v = some (1, v') ∧ (∃ N K nm, CtX u' v' s N K nm) ∧ LawX u' v' s)) := by
  have lt := layT hs
  have hc := h.1.1.1
  have hbc : b ≤ c := Nat.le_trans h.2.1.1 h.2.1.2.1
  have key := lpj2 (fun n (z : Int32 × zM) => Co_read_10 n s z.1 z.2) (fun n z => Mo_readsAll_53 n z) (fun z t v1 => ∃ i b e k w m N K nm, t.1 = nI i ∧ i ≤ b ∧ b + z = c + 1 ∧ Fin t.2 v1 c T b e k w m ∧ CtX t.2 v1 s N K nm ∧ LawX t.2 v1 s ∧ Fr (cyC s) u t.2 ∧ Fr cyM v v1) (fun r r' => ∃ u' v', r = some ((), u') ∧ Fr (cyC s) u u' ∧ Fr cyM v v' ∧ ((∃ x, Bad u' x ∧ r' = some (0, v') ∧ gI v' 1 9 = nI x) ∨ (gI u' 2 6 = nI 0 ∧ r' = some (1, v') ∧ (∃ N K nm, CtX u' v' s N K nm) ∧ LawX u' v' s))) ?_ (c + 1 - b) (c + 1 - b) zF zF (nI 0, u) v (Nat.le_refl _) (by unfold zF; omega) (by unfold zF; omega) ⟨0, b, e, k, w, m, N, K, nm, rfl, Nat.zero_le _, by omega, h, hX, hL, Fr.rf, Fr.rf⟩
  · exact key
  · rintro n m' z ⟨i0, t⟩ v1 hn hm ⟨i, b, e, k, w, m, N, K, nm, h1, h2, h3, h4, h5, h5', h6, h7⟩
    dsimp only at h1 h4 h5 h5' h6
    subst h1
    have hbc : b ≤ c := Nat.le_trans h4.2.1.1 h4.2.1.2.1
    show (∃ u' v', Co_read_10b (Co_read_10 n) s (nI i) t = some ((), u') ∧ _ ∧ _ ∧ ((∃ x, _ ∧ Mo_readsAll_53b (Mo_readsAll_53 m') v1 = _ ∧ _) ∨ (_ ∧ Mo_readsAll_53b (Mo_readsAll_53 m') v1 = _ ∧ _))) ∨ ∃ k' s' t', _ ∧ _ ∧ Co_read_10b (Co_read_10 n) s (nI i) t = _ ∧ Mo_readsAll_53b (Mo_readsAll_53 m') v1 = _
    by_cases k0 : k = 0
    · left
      refine ⟨t, v1, ?_, h6, h7, Or.inr ⟨h4.2.2, ?_, ⟨N, K, nm, h5⟩, h5'⟩⟩
      · unfold Co_read_10b
        rw [if_pos lt, zb_eq h4.fine, if_neg one_ne, h4.2.1.2.2.2.2.1.1, if_pos (show nI k = (0 : Int32) by rw [k0]; rfl), ite_self]
      · unfold Mo_readsAll_53b
        rw [h4.2.1.2.2.2.2.1.2, if_pos (show nI k = (0 : Int32) by rw [k0]; rfl)]
    · have hbe := h4.2.1.2.2.2.2.2.2.2.1 k0
      have hec := h4.2.1.2.1
      have k4 := h4.2.1.2.2.2.2.2.1
      have kn : ¬ nI k = (0 : Int32) := fun z => k0 ((nI_eq (b := 0) (by omega) (by decide)).mp z)
      obtain ⟨r', ⟨u', v', r1, r2⟩, r3⟩ := readStat_eq h4 k0 h5 hs h5'
      have eC : Co_read_10b (Co_read_10 n) s (nI i) t = Co_read_10 n s (nI (i + 1)) u' := by
        unfold Co_read_10b
        rw [if_pos lt, if_neg (show ¬ (1000 : Int32) ≤ nI i from @nI_ge i 1000 (by omega) (by decide)), zb_eq h4.fine, if_neg one_ne, h4.2.1.2.2.2.2.1.1, if_neg kn, zb_eq r1, show nI i + 1 = nI (i + 1) from nI_1 i]
      rw [r3 (Mo_readsAll_53 m')]
      rcases r2 with ⟨r2, ⟨N', K', nm', r4⟩, r5, b', e', k', w', m2, r6, r7, r8, r9⟩ | ⟨r2, x, r4, r5, r6, r7⟩
      · right
        have hbc' : b' ≤ c := Nat.le_trans r6.2.1.1 r6.2.1.2.1
        refine ⟨c + 1 - b', (nI (i + 1), u'), v', by omega, ⟨i + 1, b', e', k', w', m2, N', K', nm', rfl, by omega, by omega, r6, r4, r5, h6.tr r8, h7.tr r9⟩, eC, ?_⟩
        rw [zb_eq r2, if_neg ne10]
      · left
        refine ⟨u', v', ?_, h6.tr r6, h7.tr r7, Or.inl ⟨x, r4, ?_, r5⟩⟩
        · rw [eC]
          obtain ⟨n, rfl⟩ : ∃ z, n = z + 1 := ⟨n - 1, by omega⟩
          show Co_read_10b (Co_read_10 n) s (nI (i + 1)) u' = _
          unfold Co_read_10b
          rw [if_pos lt, zb_eq r4.fine, if_pos (show nI 0 = (0 : Int32) from rfl), ite_self]
        · rw [zb_eq r2, if_pos rfl]
/-- rows laid -/
def wrL (u : zM) (c : Nat) (f : Nat → Int64) : Nat → zM
  | 0 => u
  | k + 1 => sL (wrL u c f k) c k (f k)
theorem wrL_s (u : zM) (c : Nat) (f : Nat → Int64) (k : Nat) : wrL u c f (k + 1) = sL (wrL u c f k) c k (f k) := rfl
theorem wrL_g (u : zM) (c : Nat) (f : Nat → Int64) (b j k : Nat) : gL (wrL u c f k) b j = if b = c ∧ j < k then f j else gL u b j := by
  induction k with
  | zero => rw [if_neg (by omega)]; rfl
  | succ k ih =>
    rw [wrL_s, gL_sL, ih]
    by_cases h : b = c ∧ j = k
    · rw [if_pos h, if_pos (by omega), h.2]
    · rw [if_neg h]
      by_cases h2 : b = c ∧ j < k
      · rw [if_pos h2, if_pos (by omega)]
      · rw [if_neg h2, if_neg (by omega)]
theorem wrL_fr {A : Nat → Nat → Prop} (u : zM) (c : Nat) (f : Nat → Int64) (k : Nat) (h : ∀ j, j < k → A c j) : Fr A u (wrL u c f k) := by
  induction k with
  | zero => exact Fr.rf
  | succ k ih => exact (ih (fun j h1 => h j (by omega))).tr (Fr.sL (h _ (by omega)))
def sfA (r n : Nat) (c k : Nat) : Prop := c = r ∧ k < n
theorem shifts_eq {v : zM} {r n : Nat} (h1 : (layM r).1 = 1) (h2 : (layM r).2 = 2 * n) (hn : n ≤ 1000) : ∃ v', Mo_shifts r (nI n) v = some ((), v') ∧ (∀ k, k < n → gI v' r k = gI v r (n + k)) ∧ Fr (sfA r n) v v' := by
  refine ⟨wrM v r 0 (fun k => gI v r (n + k)) n, ?_, fun k hk => ?_, wrM_fr _ _ _ _ _ (fun j _ hj => ⟨rfl, by omega⟩)⟩
  · unfold Mo_shifts
    rw [if_pos h1]
    refine lpz (fun z (t : Int32 × zM) => Mo_shifts_2 z r (nI n) t.1 t.2) (fun k => (nI k, wrM v r 0 (fun k => gI v r (n + k)) k)) n _ (by omega) (fun z => ?_) (fun z k hk => ?_)
    · show Mo_shifts_2b _ r (nI n) (nI n) _ = _
      unfold Mo_shifts_2b
      rw [if_pos h1, if_pos (Int32.le_refl _)]
    · show Mo_shifts_2b _ r (nI n) (nI k) _ = Mo_shifts_2 z r (nI n) (nI (k + 1)) _
      unfold Mo_shifts_2b
      rw [if_pos h1, if_neg (nI_ge hk (by omega)), h2, show nI n + nI k = nI (n + k) from nI_add n k, if_pos (ib_nI (by omega) (by omega)), if_pos (ib_nI (by omega) (by omega)), ix_nI (by omega), ix_nI (by omega), zl_e, show nI k + 1 = nI (k + 1) from nI_1 k, wrM_s, Nat.zero_add]
      dsimp only
      rw [wrM_ne (by omega)]
  · have := wrM_in (u := v) (c := r) (o := 0) (f := fun k => gI v r (n + k)) hk
    rw [Nat.zero_add] at this
    exact this
theorem shiftsN_eq {v : zM} {r n : Nat} (h1 : (layM r).1 = 2) (h2 : (layM r).2 = 2 * n) (hn : n ≤ 1000) : ∃ v', Mo_shiftsNames r (nI n) v = some ((), v') ∧ (∀ k, k < n → gL v' r k = gL v r (n + k)) ∧ Fr (sfA r n) v v' := by
  refine ⟨wrL v r (fun k => gL v r (n + k)) n, ?_, fun k hk => by rw [wrL_g, if_pos ⟨rfl, hk⟩], wrL_fr _ _ _ _ (fun j hj => ⟨rfl, by omega⟩)⟩
  unfold Mo_shiftsNames
  rw [if_pos h1]
  refine lpz (fun z (t : Int32 × zM) => Mo_shiftsNames_2 z r (nI n) t.1 t.2) (fun k => (nI k, wrL v r (fun k => gL v r (n + k)) k)) n _ (by omega) (fun z => ?_) (fun z k hk => ?_)
  · show Mo_shiftsNames_2b _ r (nI n) (nI n) _ = _
    unfold Mo_shiftsNames_2b
    rw [if_pos h1, if_pos (Int32.le_refl _)]
  · show Mo_shiftsNames_2b _ r (nI n) (nI k) _ = Mo_shiftsNames_2 z r (nI n) (nI (k + 1)) _
    unfold Mo_shiftsNames_2b
    rw [if_pos h1, if_neg (nI_ge hk (by omega)), h2, show nI n + nI k = nI (n + k) from nI_add n k, if_pos (ib_nI (by omega) (by omega)), if_pos (ib_nI (by omega) (by omega)), ix_nI (by omega), ix_nI (by omega), zl_e, show nI k + 1 = nI (k + 1) from nI_1 k, wrL_s]
    dsimp only
    rw [wrL_g, if_neg (by omega)]
