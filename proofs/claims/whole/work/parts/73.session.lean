/-! ===== a session is read ===== -/
theorem lpj2 {σ τ ρ π : Type} (f : Nat → σ → Option ρ) (g : Nat → τ → Option π) (I : Nat → σ → τ → Prop) (Q : Option ρ → Option π → Prop) (hstep : ∀ n m k s t, k ≤ n → k ≤ m → I k s t → Q (f (n + 1) s) (g (m + 1) t) ∨ ∃ k' s' t', k' < k ∧ I k' s' t' ∧ f (n + 1) s = f n s' ∧ g (m + 1) t = g m t') : ∀ z k n m s t, k ≤ z → k < n → k < m → I k s t → Q (f n s) (g m t) := by
  intro z
  induction z with
  | zero =>
    intro k n m s t hz hn hm h
    obtain ⟨n, rfl⟩ : ∃ z, n = z + 1 := ⟨n - 1, by omega⟩
    obtain ⟨m, rfl⟩ : ∃ z, m = z + 1 := ⟨m - 1, by omega⟩
    rcases hstep n m k s t (by omega) (by omega) h with h | ⟨k', s', t', h1, h2, h3, h4⟩
    · exact h
    · omega
  | succ z ih =>
    intro k n m s t hz hn hm h
    obtain ⟨n, rfl⟩ : ∃ z, n = z + 1 := ⟨n - 1, by omega⟩
    obtain ⟨m, rfl⟩ : ∃ z, m = z + 1 := ⟨m - 1, by omega⟩
    rcases hstep n m k s t (by omega) (by omega) h with h | ⟨k', s', t', h1, h2, h3, h4⟩
    · exact h
    · rw [h3, h4]
      exact ih k' n m s' t' (by omega) (by omega) (by omega) h2
/-- what every reading leaves as it is -/
def keepC (t : Nat) (c k : Nat) : Prop := (t ≤ c ∧ c ≤ t + 19) ∨ (54 ≤ c ∧ c ≤ 59) ∨ (66 ≤ c ∧ c ≤ 69) ∨ (c = 70 ∧ k = 6) ∨ (71 ≤ c ∧ c ≤ 79) ∨ (c = 1 ∧ (k = 12 ∨ k = 13)) ∨ 85 ≤ c
def keepM (c k : Nat) : Prop := (c = 1 ∧ k = 56) ∨ (c = 3 ∧ k < 6) ∨ ((c = 4 ∨ c = 8 ∨ c = 9) ∧ k < 7) ∨ ((c = 5 ∨ c = 10 ∨ c = 11) ∧ k < 5) ∨ ((c = 6 ∨ c = 12 ∨ c = 13) ∧ k < 3) ∨ ((c = 7 ∨ c = 14 ∨ c = 15) ∧ k < 6) ∨ (c = 16 ∧ k < 12) ∨ ((c = 17 ∨ c = 18) ∧ k = 0) ∨ (c = 19 ∧ k < 1000) ∨ (c = 32 ∧ 1 ≤ k ∧ k ≤ 4) ∨ (33 ≤ c ∧ c ≤ 35 ∧ 40 ≤ k ∧ k < 200) ∨ (36 ≤ c ∧ c ≤ 40) ∨ (43 ≤ c ∧ c ≤ 45)
theorem CtyM.fr2 {v v' : zM} {N : Nat → Nat} {K : Nat → Nat → Nat} (h : CtyM v N K) (hN : WfN N) (hf : ∀ a k, keepM a k → gI v' a k = gI v a k) : CtyM v' N K := by
  obtain ⟨n0, n1, n2, n3, n4, n5⟩ := hN
  obtain ⟨a1, a2, a3, a4, a5, a6⟩ := h
  refine ⟨fun i hi => (hf _ _ (by unfold keepM; omega)).trans (a1 i hi), fun p hp => ⟨(hf _ _ (by unfold keepM; omega)).trans (a2 p hp).1, (hf _ _ (by unfold keepM; omega)).trans (a2 p hp).2⟩, fun q hq => ⟨(hf _ _ (by unfold keepM; omega)).trans (a3 q hq).1, (hf _ _ (by unfold keepM; omega)).trans (a3 q hq).2⟩, fun o ho => ⟨(hf _ _ (by unfold keepM; omega)).trans (a4 o ho).1, (hf _ _ (by unfold keepM; omega)).trans (a4 o ho).2⟩, fun w hw => ⟨(hf _ _ (by unfold keepM; omega)).trans (a5 w hw).1, (hf _ _ (by unfold keepM; omega)).trans (a5 w hw).2⟩, fun i hi => (hf _ _ (by unfold keepM; omega)).trans (a6 i hi)⟩
theorem kM1 : keepM 1 56 := Or.inl ⟨rfl, rfl⟩
theorem kM17 : keepM 17 0 := by unfold keepM; omega
theorem kM18 : keepM 18 0 := by unfold keepM; omega
theorem kM19 {k : Nat} (h : k < 1000) : keepM 19 k := by unfold keepM; omega
theorem kM32 {k : Nat} (h1 : 1 ≤ k) (h : k ≤ 4) : keepM 32 k := by unfold keepM; omega
theorem kM33 {c k : Nat} (h1 : 33 ≤ c) (h2 : c ≤ 35) (h3 : 40 ≤ k) (h4 : k < 200) : keepM c k := Or.inr (Or.inr (Or.inr (Or.inr (Or.inr (Or.inr (Or.inr (Or.inr (Or.inr (Or.inr (Or.inl ⟨h1, h2, h3, h4⟩))))))))))
theorem kM36 {c k : Nat} (h1 : 36 ≤ c) (h2 : c ≤ 40) : keepM c k := Or.inr (Or.inr (Or.inr (Or.inr (Or.inr (Or.inr (Or.inr (Or.inr (Or.inr (Or.inr (Or.inr (Or.inl ⟨h1, h2⟩)))))))))))
theorem kM43 {c k : Nat} (h1 : 43 ≤ c) (h2 : c ≤ 45) : keepM c k := Or.inr (Or.inr (Or.inr (Or.inr (Or.inr (Or.inr (Or.inr (Or.inr (Or.inr (Or.inr (Or.inr (Or.inr ⟨h1, h2⟩)))))))))))
theorem kM4 {k : Nat} (h : k < 7) : keepM 4 k := by unfold keepM; omega
theorem kM5 {k : Nat} (h : k < 5) : keepM 5 k := by unfold keepM; omega
theorem kM6 {k : Nat} (h : k < 3) : keepM 6 k := by unfold keepM; omega
theorem kM7 {k : Nat} (h : k < 6) : keepM 7 k := by unfold keepM; omega
theorem InvR.mk2 {n : Nat} {u u' v v' : zM} {t l l' : Nat} {N : Nat → Nat} {K : Nat → Nat → Nat} {E : Int32 → Int32 → Int32 → Int32 → Int32} {S : Nat → Nat} (h : InvR n u v t l N K E S) (hu : ∀ c k, keepC t c k → gI u' c k = gI u c k ∧ gL u' c k = gL u c k) (hv : ∀ c k, keepM c k → gI v' c k = gI v c k ∧ gL v' c k = gL v c k) (hr : gR u' 1 1 = gR u 1 1) (hR : RefI u' t l') (hlin : LinI u' v' l' 0 N) (htp : TapI u' v') : InvR (n + 1) u' v' t l' N K E S := by
  obtain ⟨a1, a2, a3, a4, a5, a6, a7, a8, a9, b1, b2, b3⟩ := h
  obtain ⟨n0, n1, n2, n3, n4, n5⟩ := a1.1
  have ht := a3.2.1
  have cu : ∀ c k, keepC t c k → gI u' c k = gI u c k := fun c k q => (hu c k q).1
  have cv : ∀ c k, keepM c k → gI v' c k = gI v c k := fun c k q => (hv c k q).1
  have e3 : NowC u' t N K E 54 S := ⟨hr.trans a3.1, ht, a3.2.2.1.fr (fun a k q => cu _ _ (by unfold keepC; omega)), a3.2.2.2.1.fr (fun k => ⟨cu _ _ (by unfold keepC; omega), cu _ _ (by unfold keepC; omega)⟩), a3.2.2.2.2.fr a1.1 (fun j k _ _ _ => cu _ _ (by unfold keepC; omega))⟩
  have e4 : NowM v' N K E S := ⟨a4.1.fr2 a1.1 cv, a4.2.1.fr ⟨cv _ _ kM17, cv _ _ kM18, fun k hk => cv _ _ (kM19 hk)⟩, a4.2.2.fr a1.1 (fun k hk => cv _ _ (kM36 (by decide) (by decide)))⟩
  have e7 : SenI u' v' 66 0 N := a7.fr (cu _ _ (by unfold keepC; omega)) (fun j k _ _ _ _ => cu _ _ (by unfold keepC; omega)) (cv _ _ (kM36 (by decide) (by decide))) (fun c k h1 h2 _ _ => cv _ _ (kM36 (by omega) (by omega)))
  have e8 : PasI u' v' N K (n + 1) := a8.fr (by omega) (fun k _ _ => cu _ _ (by unfold keepC; omega)) (fun c k _ _ => cu _ _ (by unfold keepC; omega)) (cv _ _ kM1) (fun k => cv _ _ (kM43 (by decide) (by decide)))
  have e9 : MrkI u' v' N K (n + 1) := fun k hk => MrkI.one a9 hk (by omega) (fun c j _ _ => cu _ _ (by unfold keepC; omega)) (fun c j q => by
    rcases q with ⟨rfl, _⟩ | ⟨rfl, rfl⟩ | ⟨rfl, _⟩ | ⟨h1, h2, h3, h4⟩ | ⟨h1, h2, _⟩ | ⟨rfl, _⟩
    · exact cv _ _ (kM43 (by decide) (by decide))
    · exact cv _ _ (kM32 (by omega) (by omega))
    · exact cv _ _ (kM36 (by decide) (by decide))
    · exact cv _ _ (kM33 h1 h2 (by omega) (by omega))
    · exact cv _ _ (kM36 (by omega) (by omega))
    · exact cv _ _ (kM43 (by decide) (by decide)))
  have d1 : OutI u' N K E S := b1.fr (fun _ _ => rfl) (cu _ _ (by unfold keepC; omega)) (fun c k _ _ => cu _ _ (by unfold keepC; omega))
  have d3 : NamI u' v' t 0 N := by
    intro s hs i hi
    obtain ⟨w, w1, w2, w3⟩ := b3 s hs i hi
    refine ⟨w, w1, (hu _ _ (by unfold keepC; omega)).2.trans w2, ?_⟩
    have h4 : s = 0 ∨ s = 1 ∨ s = 2 ∨ s = 3 := by omega
    rcases h4 with rfl | rfl | rfl | rfl
    · have hi : i < N 0 := hi
      exact (hv 4 (7 * 0 + i) (kM4 (by omega))).2.trans w3
    · have hi : i < N 2 := hi
      exact (hv 5 (5 * 0 + i) (kM5 (by omega))).2.trans w3
    · have hi : i < N 3 := hi
      exact (hv 6 (3 * 0 + i) (kM6 (by omega))).2.trans w3
    · have hi : i < N 4 := hi
      exact (hv 7 (6 * 0 + i) (kM7 (by omega))).2.trans w3
  exact ⟨a1, by omega, e3, e4, hR, hlin, e7, e8, e9, d1, htp, d3⟩
theorem NamI.ex {u v : zM} {t o : Nat} {N : Nat → Nat} (h : NamI u v t o N) : ∃ nm : Nat → Nat → List Nat, ∀ s, s < 4 → ∀ i, i < N (nS s) → WfD (nm s i) ∧ gL u (t + 2 + 2 * s) i = wd256 (nm s i) ∧ gL v (4 + s) (ln4 s * o + i) = wd27 (nm s i) := by
  refine ⟨fun s i => if q : s < 4 ∧ i < N (nS s) then Classical.choose (h s q.1 i q.2) else [], fun s hs i hi => ?_⟩
  have q : s < 4 ∧ i < N (nS s) := ⟨hs, hi⟩
  show WfD (if q : s < 4 ∧ i < N (nS s) then Classical.choose (h s q.1 i q.2) else []) ∧ _ = wd256 (if q : s < 4 ∧ i < N (nS s) then Classical.choose (h s q.1 i q.2) else []) ∧ _ = wd27 (if q : s < 4 ∧ i < N (nS s) then Classical.choose (h s q.1 i q.2) else [])
  rw [dif_pos q]
  exact Classical.choose_spec (h s hs i hi)
theorem InvR.nmR {n : Nat} {u v : zM} {t l : Nat} {N : Nat → Nat} {K : Nat → Nat → Nat} {E : Int32 → Int32 → Int32 → Int32 → Int32} {S : Nat → Nat} (h : InvR n u v t l N K E S) : ∃ nm, NmR u v t 0 N nm := by
  obtain ⟨a1, a2, a3, a4, a5, a6, a7, a8, a9, b1, b2, b3⟩ := h
  obtain ⟨n0, n1, n2, n3, n4, n5⟩ := a1.1
  obtain ⟨nm, hnm⟩ := b3.ex
  refine ⟨nm, fun s hs => ?_, hnm⟩
  obtain ⟨c0, c1, c2, c3, c4, c5⟩ := a3.2.2.1.1
  have h4 : s = 0 ∨ s = 1 ∨ s = 2 ∨ s = 3 := by omega
  rcases h4 with rfl | rfl | rfl | rfl
  · exact ⟨c0, a4.1.1 0 (by decide), n0⟩
  · exact ⟨c2, a4.1.1 2 (by decide), n2⟩
  · exact ⟨c3, a4.1.1 3 (by decide), n3⟩
  · exact ⟨c4, a4.1.1 4 (by decide), n4⟩
/-- lines laid from row 5 to row 0 -/
def LdI (v v' : zM) : Prop := gI v' 32 0 = gI v 32 5 ∧ (∀ c k, 33 ≤ c → c ≤ 35 → k < 40 → gI v' c (40 * 0 + k) = gI v c (40 * 5 + k)) ∧ Fr (fun c k => (c = 32 ∧ k = 0) ∨ (33 ≤ c ∧ c ≤ 35 ∧ 40 * 0 ≤ k ∧ k < 40 * 0 + 40)) v v'
/-- the loop over lines -/
theorem sesLoop {u v : zM} {c b e k m : Nat} {T : Nat → Nat} {w : List Nat} (h : Fin u v c T b e k w m) {t l : Nat} {N W A B : Nat → Nat} {nm : Nat → Nat → List Nat} (hN : NmR u v t 0 N nm) (ht : t = 4 ∨ t = 25) (hl : l = 46 ∨ l = 50) (hL : LnR u v l N 0 W A B) : ∃ u' v', Ss_read_11 zF l t 0 u = some ((), u') ∧ Fr (snC l) u u' ∧ ((∃ x, Bad u' x ∧ Mo_session_16 zF v = some (nI x, v') ∧ Fr snM v v') ∨ (gI u' 2 6 = nI 0 ∧ ∃ n W A B v1, Mo_session_16 zF v = some (0, v') ∧ LnR u' v1 l N n W A B ∧ Fr snM v v1 ∧ LdI v1 v')) := by
  have ll : layC l = (16, 4) := by rcases hl with h | h <;> subst h <;> rfl
  have lt := layT ht
  have hc := h.1.1.1
  have hbc : b ≤ c := Nat.le_trans h.2.1.1 h.2.1.2.1
  have key := lpj2 (fun n (s : Int32 × zM) => Ss_read_11 n l t s.1 s.2) (fun n s => Mo_session_16 n s) (fun z s v1 => ∃ i b e k w m n W A B, s.1 = nI i ∧ i ≤ b ∧ b + z = c + 1 ∧ Fin s.2 v1 c T b e k w m ∧ LnR s.2 v1 l N n W A B ∧ Fr (snC l) u s.2 ∧ Fr snM v v1) (fun r r' => ∃ u' v', r = some ((), u') ∧ Fr (snC l) u u' ∧ ((∃ x, Bad u' x ∧ r' = some (nI x, v') ∧ Fr snM v v') ∨ (gI u' 2 6 = nI 0 ∧ ∃ n W A B v1, r' = some (0, v') ∧ LnR u' v1 l N n W A B ∧ Fr snM v v1 ∧ LdI v1 v'))) ?_ (c + 1 - b) (c + 1 - b) zF zF (nI 0, u) v (Nat.le_refl _) (by unfold zF; omega) (by unfold zF; omega) ⟨0, b, e, k, w, m, 0, W, A, B, rfl, Nat.zero_le _, by omega, h, hL, Fr.rf, Fr.rf⟩
  · exact key
  · rintro n m' z ⟨i0, s⟩ v1 hn hm ⟨i, b, e, k, w, m, n', W, A, B, h1, h2, h3, h4, h5, h6, h7⟩
    dsimp only at h1 h4 h5 h6
    subst h1
    have hbc : b ≤ c := Nat.le_trans h4.2.1.1 h4.2.1.2.1
    show (∃ u' v', Ss_read_11b (Ss_read_11 n) l t (nI i) s = some ((), u') ∧ _ ∧ ((∃ x, _ ∧ Mo_session_16b (Mo_session_16 m') v1 = _ ∧ _) ∨ (_ ∧ ∃ n W A B v2, Mo_session_16b (Mo_session_16 m') v1 = _ ∧ _))) ∨ ∃ k' s' t', _ ∧ _ ∧ Ss_read_11b (Ss_read_11 n) l t (nI i) s = _ ∧ Mo_session_16b (Mo_session_16 m') v1 = _
    by_cases k0 : k = 0
    · left
      obtain ⟨v', y1, y2, y3, y4⟩ := Mo_laysLines_eq (v := v1) (r := 5) (r' := 0) (by decide) (by decide) (by decide)
      refine ⟨s, v', ?_, h6, Or.inr ⟨h4.2.2, n', W, A, B, v1, ?_, h5, h7, y2, y3, y4⟩⟩
      · unfold Ss_read_11b
        rw [if_pos ll, if_pos lt, zb_eq h4.fine, if_neg one_ne, h4.2.1.2.2.2.2.1.1, if_pos (show nI k = (0 : Int32) by rw [k0]; rfl), ite_self]
      · unfold Mo_session_16b
        rw [h4.2.1.2.2.2.2.1.2, if_pos (show nI k = (0 : Int32) by rw [k0]; rfl), zb_eq (show Mo_laysLines 5 0 v1 = some ((), v') from y1)]
    · have hbe := h4.2.1.2.2.2.2.2.2.2.1 k0
      have hec := h4.2.1.2.1
      have k4 := h4.2.1.2.2.2.2.2.1
      have kn : ¬ nI k = (0 : Int32) := fun z => k0 ((nI_eq (b := 0) (by omega) (by decide)).mp z)
      have hN' : NmR s v1 t 0 N nm := hN.fr (fun a z _ _ => ⟨h6.i (by unfold snC rdC; omega), h6.l (by unfold snC rdC; omega)⟩) (fun a z _ _ => ⟨h7.i (by unfold snM rdM; omega), h7.l (by unfold snM rdM; omega)⟩)
      obtain ⟨u', v', r1, r2⟩ := readLine_eq h4 hN' ht hl h5
      have eC : Ss_read_11b (Ss_read_11 n) l t (nI i) s = Ss_read_11 n l t (nI (i + 1)) u' := by
        unfold Ss_read_11b
        rw [if_pos ll, if_pos lt, if_neg (show ¬ (1000 : Int32) ≤ nI i from @nI_ge i 1000 (by omega) (by decide)), zb_eq h4.fine, if_neg one_ne, h4.2.1.2.2.2.2.1.1, if_neg kn, zb_eq r1, show nI i + 1 = nI (i + 1) from nI_1 i]
      rcases r2 with ⟨r2, ⟨W', A', B', r3⟩, b', e', k', w', m2, r4, r5, r6, r7⟩ | ⟨r2, x, r3, r4, r6, r7⟩
      · right
        have hbc' : b' ≤ c := Nat.le_trans r4.2.1.1 r4.2.1.2.1
        refine ⟨c + 1 - b', (nI (i + 1), u'), v', by omega, ⟨i + 1, b', e', k', w', m2, n' + 1, W', A', B', rfl, by omega, by omega, r4, r3, h6.tr r6, h7.tr r7⟩, eC, ?_⟩
        unfold Mo_session_16b
        rw [h4.2.1.2.2.2.2.1.2, if_neg kn, zb_eq r2, if_neg (show ¬ (1 : Int32) = 0 by decide)]
      · left
        refine ⟨u', v', ?_, h6.tr r6, Or.inl ⟨x, r3, ?_, h7.tr r7⟩⟩
        · rw [eC]
          obtain ⟨n, rfl⟩ : ∃ z, n = z + 1 := ⟨n - 1, by omega⟩
          show Ss_read_11b (Ss_read_11 n) l t (nI (i + 1)) u' = _
          unfold Ss_read_11b
          rw [if_pos ll, if_pos lt, zb_eq r3.fine, if_pos (show nI 0 = (0 : Int32) from rfl), ite_self]
        · unfold Mo_session_16b
          rw [h4.2.1.2.2.2.2.1.2, if_neg kn, zb_eq r2, if_pos rfl, r4]
