/-! ===== what holds between both, after each call ===== -/
/-- lines: how many; what, which otter, which writ or place -/
def WfL (N : Nat → Nat) (c : Nat) (W A B : Nat → Nat) : Prop := c ≤ 40 ∧ ∀ i, i < c → W i ≤ 3 ∧ (W i = 1 → A i < N 3 ∧ B i < N 4) ∧ (W i = 2 → A i < N 3 ∧ B i < N 0) ∧ (W i = 3 → B i < N 4)
def LiC (u : zM) (b c : Nat) (W A B : Nat → Nat) : Prop := gI u b 3 = nI c ∧ ∀ i, i < c → gI u (b + 1) i = nI (W i) ∧ ((W i = 1 ∨ W i = 2) → gI u (b + 2) i = nI (A i) ∧ gI u (b + 3) i = nI (B i)) ∧ (W i = 3 → gI u (b + 2) i = nI (B i))
def LiM (v : zM) (r c : Nat) (W A B : Nat → Nat) : Prop := gI v 32 r = nI c ∧ ∀ i, i < c → gI v 33 (40 * r + i) = nI (W i) ∧ ((W i = 1 ∨ W i = 2) → gI v 34 (40 * r + i) = nI (A i)) ∧ (W i ≠ 0 → gI v 35 (40 * r + i) = nI (B i))
def LinI (u v : zM) (b r : Nat) (N : Nat → Nat) : Prop := ∃ c W A B, WfL N c W A B ∧ LiC u b c W A B ∧ LiM v r c W A B
theorem LinI.fr {u u' v v' : zM} {b b' r r' : Nat} {N : Nat → Nat} (h : LinI u v b r N) (h1 : gI u' b' 3 = gI u b 3) (h2 : ∀ j k, 1 ≤ j → j ≤ 3 → k < 40 → gI u' (b' + j) k = gI u (b + j) k) (h3 : gI v' 32 r' = gI v 32 r) (h4 : ∀ c k, 33 ≤ c → c ≤ 35 → k < 40 → gI v' c (40 * r' + k) = gI v c (40 * r + k)) : LinI u' v' b' r' N := by
  obtain ⟨c, W, A, B, hw, hc, hm⟩ := h
  have hc40 := hw.1
  refine ⟨c, W, A, B, hw, ⟨h1.trans hc.1, fun i hi => ⟨?_, fun q => ⟨?_, ?_⟩, fun q => ?_⟩⟩, ⟨h3.trans hm.1, fun i hi => ⟨?_, fun q => ?_, fun q => ?_⟩⟩⟩
  · rw [h2 1 i (by omega) (by omega) (by omega)]; exact (hc.2 i hi).1
  · rw [h2 2 i (by omega) (by omega) (by omega)]; exact ((hc.2 i hi).2.1 q).1
  · rw [h2 3 i (by omega) (by omega) (by omega)]; exact ((hc.2 i hi).2.1 q).2
  · rw [h2 2 i (by omega) (by omega) (by omega)]; exact (hc.2 i hi).2.2 q
  · rw [h4 33 i (by omega) (by omega) (by omega)]; exact (hm.2 i hi).1
  · rw [h4 34 i (by omega) (by omega) (by omega)]; exact (hm.2 i hi).2.1 q
  · rw [h4 35 i (by omega) (by omega) (by omega)]; exact (hm.2 i hi).2.2 q
/-- what is seen -/
def SenI (u v : zM) (b r : Nat) (N : Nat → Nat) : Prop := ∃ (c : Nat) (P M : Nat → Nat) (X : Nat → Bool), c ≤ 8 ∧ gI u b 3 = nI c ∧ gI v 36 r = nI c ∧ ∀ i, i < c → P i < N 0 ∧ M i ≤ 9 ∧ gI u (b + 1) i = nI (P i) ∧ gI u (b + 2) i = nI (M i) ∧ gI u (b + 3) i = bI (X i) ∧ gI v 37 (8 * r + i) = nI (P i) ∧ gI v 38 (8 * r + i) = nI (M i) ∧ gI v 39 (8 * r + i) = bI (X i)
theorem SenI.fr {u u' v v' : zM} {b b' r r' : Nat} {N : Nat → Nat} (h : SenI u v b r N) (h1 : gI u' b' 3 = gI u b 3) (h2 : ∀ j k, 1 ≤ j → j ≤ 3 → k < 8 → k < ix (gI u b 3) → gI u' (b' + j) k = gI u (b + j) k) (h3 : gI v' 36 r' = gI v 36 r) (h4 : ∀ c k, 37 ≤ c → c ≤ 39 → k < 8 → k < ix (gI v 36 r) → gI v' c (8 * r' + k) = gI v c (8 * r + k)) : SenI u' v' b' r' N := by
  obtain ⟨c, P, M, X, h8, hc, hm, hi⟩ := h
  have e1 : ix (gI u b 3) = c := by rw [hc, ix_nI (by omega)]
  have e2 : ix (gI v 36 r) = c := by rw [hm, ix_nI (by omega)]
  rw [e1] at h2
  rw [e2] at h4
  refine ⟨c, P, M, X, h8, h1.trans hc, h3.trans hm, fun i hl => ?_⟩
  obtain ⟨a1, a2, a3, a4, a5, a6, a7, a8⟩ := hi i hl
  refine ⟨a1, a2, ?_, ?_, ?_, ?_, ?_, ?_⟩
  · rw [h2 1 i (by omega) (by omega) (by omega) hl]; exact a3
  · rw [h2 2 i (by omega) (by omega) (by omega) hl]; exact a4
  · rw [h2 3 i (by omega) (by omega) (by omega) hl]; exact a5
  · rw [h4 37 i (by omega) (by omega) (by omega) hl]; exact a6
  · rw [h4 38 i (by omega) (by omega) (by omega) hl]; exact a7
  · rw [h4 39 i (by omega) (by omega) (by omega) hl]; exact a8
/-- what is past -/
def PasI (u v : zM) (N : Nat → Nat) (K : Nat → Nat → Nat) (n : Nat) : Prop := ∃ (d x : Nat) (P : Nat → Nat → Nat), d ≤ 16 ∧ x < 16 ∧ gI u 1 12 = nI d ∧ gI u 1 13 = nI x ∧ gI v 1 56 = nI d ∧ ∀ j, j < d → Wf N K (P j) ∧ P j 0 ≤ n ∧ StC u (85 + 6 * ((x + 16 - d + j) % 16)) N (P j) ∧ StM v 44 (25 * j) N (P j)
theorem PasI.fr {u u' v v' : zM} {N : Nat → Nat} {K : Nat → Nat → Nat} {n n' : Nat} (h : PasI u v N K n) (hn : n ≤ n') (h1 : ∀ k, 12 ≤ k → k ≤ 13 → gI u' 1 k = gI u 1 k) (h2 : ∀ c k, 85 ≤ c → c ≤ 180 → gI u' c k = gI u c k) (h3 : gI v' 1 56 = gI v 1 56) (h4 : ∀ k, gI v' 44 k = gI v 44 k) : PasI u' v' N K n' := by
  obtain ⟨d, x, P, a1, a2, a3, a4, a5, a6⟩ := h
  refine ⟨d, x, P, a1, a2, (h1 12 (by omega) (by omega)).trans a3, (h1 13 (by omega) (by omega)).trans a4, h3.trans a5, fun j hj => ?_⟩
  obtain ⟨b1, b2, b3, b4⟩ := a6 j hj
  have hm : (x + 16 - d + j) % 16 < 16 := Nat.mod_lt _ (by omega)
  exact ⟨b1, Nat.le_trans b2 hn, b3.fr b1.1 (fun i k hi _ _ => h2 _ _ (by omega) (by omega)), b4.fr b1.1 (fun k _ => h4 _)⟩
/-- the marks -/
def MrkI (u v : zM) (N : Nat → Nat) (K : Nat → Nat → Nat) (n : Nat) : Prop := ∀ k, k < 4 → ∃ b : Bool, gI u (181 + 15 * k) 3 = bI b ∧ gI v 45 k = bI b ∧ (b = true → ∃ S, Wf N K S ∧ S 0 ≤ n ∧ StC u (182 + 15 * k) N S ∧ StM v 43 (25 * k) N S ∧ LinI u v (188 + 15 * k) (1 + k) N ∧ SenI u v (192 + 15 * k) (1 + k) N)
theorem MrkI.fr {u u' v v' : zM} {N : Nat → Nat} {K : Nat → Nat → Nat} {n n' : Nat} (h : MrkI u v N K n) (hn : n ≤ n') (h2 : ∀ c k, 181 ≤ c → gI u' c k = gI u c k) (h3 : ∀ c k, (32 ≤ c ∧ c ≤ 39) ∧ 1 ≤ k ∨ c = 43 ∨ c = 45 → gI v' c k = gI v c k) : MrkI u' v' N K n' := by
  intro k hk
  obtain ⟨b, a1, a2, a3⟩ := h k hk
  refine ⟨b, (h2 _ _ (by omega)).trans a1, (h3 _ _ (by omega)).trans a2, fun hb => ?_⟩
  obtain ⟨S, b1, b2, b3, b4, b5, b6⟩ := a3 hb
  exact ⟨S, b1, Nat.le_trans b2 hn, b3.fr b1.1 (fun i k hi _ _ => h2 _ _ (by omega)), b4.fr b1.1 (fun k _ => h3 _ _ (by omega)), b5.fr (h2 _ _ (by omega)) (fun j k _ _ _ => h2 _ _ (by omega)) (h3 _ _ (by omega)) (fun c k _ _ _ => h3 _ _ (by omega)), b6.fr (h2 _ _ (by omega)) (fun j k _ _ _ _ => h2 _ _ (by omega)) (h3 _ _ (by omega)) (fun c k _ _ _ _ => h3 _ _ (by omega))⟩
/-- the days ahead -/
def itS (E : Int32 → Int32 → Int32 → Int32 → Int32) (N : Nat → Nat) (K : Nat → Nat → Nat) (B : Nat → Nat) : Nat → Nat → Nat
  | 0 => B
  | d + 1 => nextS E N K (rainS N K (itS E N K B d 0)) (itS E N K B d)
theorem itS_0 {E : Int32 → Int32 → Int32 → Int32 → Int32} {N : Nat → Nat} {K : Nat → Nat → Nat} {B : Nat → Nat} (d : Nat) : itS E N K B d 0 = B 0 + d := by
  induction d with
  | zero => rfl
  | succ d ih =>
    show nextS E N K _ _ 0 = _
    rw [nextS_0, ih]
    omega
theorem itS_wf {E : Int32 → Int32 → Int32 → Int32 → Int32} {N : Nat → Nat} {K : Nat → Nat → Nat} {B : Nat → Nat} (hW : Wf N K B) (d : Nat) (hd : B 0 + d < 2 ^ 20) : Wf N K (itS E N K B d) := by
  induction d with
  | zero => exact hW
  | succ d ih => exact nextS_wf (ih (by omega)) _ (by rw [itS_0]; omega)
def OutI (u : zM) (N : Nat → Nat) (K : Nat → Nat → Nat) (E : Int32 → Int32 → Int32 → Int32 → Int32) (S : Nat → Nat) : Prop := ∃ k, k ≤ 61 ∧ gI u 70 6 = nI k ∧ (0 < k → ∃ B, Wf N K B ∧ (∀ i, i < 13 → B i = S i) ∧ StC u 71 N (itS E N K B (k - 1)) ∧ ∀ d, d < k → (∀ p, p < N 0 → gI u 77 (7 * d + p) = nI (itS E N K B d (1 + p))) ∧ (∀ q, q < N 2 → gI u 78 (5 * d + q) = nI (itS E N K B d (8 + q))) ∧ gI u 79 d = nI (wetS N (itS E N K B d)))
theorem OutI.fr {u u' : zM} {N : Nat → Nat} {K : Nat → Nat → Nat} {E : Int32 → Int32 → Int32 → Int32 → Int32} {S S' : Nat → Nat} (h : OutI u N K E S) (hs : ∀ i, i < 13 → S' i = S i) (h0 : gI u' 70 6 = gI u 70 6) (h2 : ∀ c k, 71 ≤ c → c ≤ 79 → gI u' c k = gI u c k) : OutI u' N K E S' := by
  obtain ⟨k, a1, a2, a3⟩ := h
  refine ⟨k, a1, h0.trans a2, fun hk => ?_⟩
  obtain ⟨B, b1, b2, b3, b4⟩ := a3 hk
  refine ⟨B, b1, fun i hi => (b2 i hi).trans (hs i hi).symm, b3.fr b1.1 (fun i k hi _ _ => h2 _ _ (by omega) (by omega)), fun d hd => ⟨fun p hp => ?_, fun q hq => ?_, ?_⟩⟩
  · rw [h2 _ _ (by omega) (by omega)]; exact (b4 d hd).1 p hp
  · rw [h2 _ _ (by omega) (by omega)]; exact (b4 d hd).2.1 q hq
  · rw [h2 _ _ (by omega) (by omega)]; exact (b4 d hd).2.2
theorem OutI.none {u : zM} {N : Nat → Nat} {K : Nat → Nat → Nat} {E : Int32 → Int32 → Int32 → Int32 → Int32} {S : Nat → Nat} (h : gI u 70 6 = nI 0) : OutI u N K E S := ⟨0, by omega, h, fun q => absurd q (by omega)⟩
/-- the tape -/
def TapI (u v : zM) : Prop := ∃ c, c ≤ 1000 ∧ gI u 2 1 = nI c ∧ gI v 1 1 = nI c ∧ ∀ i, i < c → ∃ s, (s = 10 ∨ (32 ≤ s ∧ s ≤ 126)) ∧ gI u 3 i = nI s ∧ gI v 2 i = nI s
theorem TapI.fr {u u' v v' : zM} (h : TapI u v) (h1 : gI u' 2 1 = gI u 2 1) (h2 : ∀ k, gI u' 3 k = gI u 3 k) (h3 : gI v' 1 1 = gI v 1 1) (h4 : ∀ k, gI v' 2 k = gI v 2 k) : TapI u' v' := by
  obtain ⟨c, a1, a2, a3, a4⟩ := h
  refine ⟨c, a1, h1.trans a2, h3.trans a3, fun i hi => ?_⟩
  obtain ⟨s, b1, b2, b3⟩ := a4 i hi
  exact ⟨s, b1, (h2 i).trans b2, (h4 i).trans b3⟩
/-- words as both keep them: letters 1 to 26, the first highest -/
def wd256 : List Nat → Int64
  | [] => 0
  | x :: r => (wd256 r <<< 8) ||| Int64.ofNat (96 + x)
def wd27 : List Nat → Int64
  | [] => 0
  | x :: r => wd27 r * 27 + Int64.ofNat x
def WfD (w : List Nat) : Prop := w.length ≤ 8 ∧ 1 ≤ w.length ∧ ∀ x ∈ w, 1 ≤ x ∧ x ≤ 26
def nS (s : Nat) : Nat := ([0, 2, 3, 4] : List Nat).getD s 0
def NamI (u v : zM) (t o : Nat) (N : Nat → Nat) : Prop := ∀ s, s < 4 → ∀ i, i < N (nS s) → ∃ w, WfD w ∧ gL u (t + 2 + 2 * s) i = wd256 w ∧ gL v (4 + s) (([7, 5, 3, 6] : List Nat).getD s 0 * o + i) = wd27 w
theorem NamI.fr {u u' v v' : zM} {t o : Nat} {N : Nat → Nat} (h : NamI u v t o N) (h1 : ∀ c k, t ≤ c → c ≤ t + 8 → gL u' c k = gL u c k) (h2 : ∀ c k, 4 ≤ c → c ≤ 7 → gL v' c k = gL v c k) : NamI u' v' t o N := by
  intro s hs i hi
  obtain ⟨w, a1, a2, a3⟩ := h s hs i hi
  exact ⟨w, a1, (h1 _ _ (by omega) (by omega)).trans a2, (h2 _ _ (by omega) (by omega)).trans a3⟩
def RefI (u : zM) (t l : Nat) : Prop := gR u 1 2 = 29 - t ∧ gR u 1 3 = l ∧ (l = 46 ∨ l = 50) ∧ gR u 1 4 = 96 - l
/-- all of it; n: how many calls there were at most -/
def InvR (n : Nat) (u v : zM) (t l : Nat) (N : Nat → Nat) (K : Nat → Nat → Nat) (E : Int32 → Int32 → Int32 → Int32 → Int32) (S : Nat → Nat) : Prop :=
  Wf N K S ∧ S 0 ≤ n ∧ NowC u t N K E 54 S ∧ NowM v N K E S ∧ RefI u t l ∧ LinI u v l 0 N ∧ SenI u v 66 0 N ∧ PasI u v N K n ∧ MrkI u v N K n ∧ OutI u N K E S ∧ TapI u v ∧ NamI u v t 0 N
def Inv (n : Nat) (u v : zM) : Prop := n ≤ 600 ∧ ∃ t l N K E S, InvR n u v t l N K E S
/-- a call that leaves all as it is but what is scratch -/
def scrC (t : Nat) (c k : Nat) : Prop := c = t + 20 ∨ (60 ≤ c ∧ c ≤ 65) ∨ (c = 70 ∧ 7 ≤ k) ∨ (80 ≤ c ∧ c ≤ 81) ∨ c = 84 ∨ (c = 1 ∧ k = 14)
def scrM (c k : Nat) : Prop := (c = 1 ∧ k ≠ 1 ∧ k ≠ 56) ∨ (20 ≤ c ∧ c ≤ 31) ∨ (46 ≤ c) ∨ c = 41 ∨ c = 42
theorem InvR.scr {n : Nat} {u u' v v' : zM} {t l : Nat} {N : Nat → Nat} {K : Nat → Nat → Nat} {E : Int32 → Int32 → Int32 → Int32 → Int32} {S : Nat → Nat} (h : InvR n u v t l N K E S) {n' : Nat} (hn : n ≤ n') (hu : Fr (scrC t) u u') (hv : Fr scrM v v') : InvR n' u' v' t l N K E S := by
  obtain ⟨a1, a2, a3, a4, a5, a6, a7, a8, a9, b1, b2, b3⟩ := h
  have ht := a3.2.1
  have hl := a5.2.2.1
  refine ⟨a1, Nat.le_trans a2 hn, a3.st (fun c k _ _ _ => hu.i (by unfold scrC; omega)) hu.2 (a3.2.2.2.2.fr a1.1 (fun j k _ _ _ => hu.i (by unfold scrC; omega))), a4.st a1.1 (fun c k _ _ => hv.i (by unfold scrM; omega)) (a4.2.2.fr a1.1 (fun k _ => hv.i (by unfold scrM; omega))), ⟨(hu.r _ _).trans a5.1, (hu.r _ _).trans a5.2.1, hl, (hu.r _ _).trans a5.2.2.2⟩, a6.fr (hu.i (by unfold scrC; omega)) (fun j k _ _ _ => hu.i (by unfold scrC; omega)) (hv.i (by unfold scrM; omega)) (fun c k _ _ _ => hv.i (by unfold scrM; omega)), a7.fr (hu.i (by unfold scrC; omega)) (fun j k _ _ _ _ => hu.i (by unfold scrC; omega)) (hv.i (by unfold scrM; omega)) (fun c k _ _ _ _ => hv.i (by unfold scrM; omega)), a8.fr hn (fun k _ _ => hu.i (by unfold scrC; omega)) (fun c k _ _ => hu.i (by unfold scrC; omega)) (hv.i (by unfold scrM; omega)) (fun k => hv.i (by unfold scrM; omega)), a9.fr hn (fun c k _ => hu.i (by unfold scrC; omega)) (fun c k _ => hv.i (by unfold scrM; omega)), b1.fr (fun i _ => rfl) (hu.i (by unfold scrC; omega)) (fun c k _ _ => hu.i (by unfold scrC; omega)), b2.fr (hu.i (by unfold scrC; omega)) (fun k => hu.i (by unfold scrC; omega)) (hv.i (by unfold scrM; omega)) (fun k => hv.i (by unfold scrM; omega)), b3.fr (fun c k _ _ => hu.l (by unfold scrC; omega)) (fun c k _ _ => hv.l (by unfold scrM; omega))⟩
theorem Inv.q {n : Nat} {u v : zM} (h : Inv n u v) (hn : n < 600) {F G : zM → Option (Int32 × zM)} (hq : ∀ t l N K E S, InvR n u v t l N K E S → ∃ r, F u = some (r, u) ∧ G v = some (r, sI v 1 0 0)) : ∃ r u' v', F u = some (r, u') ∧ G v = some (r, v') ∧ Inv (n + 1) u' v' := by
  obtain ⟨h6, t, l, N, K, E, S, h⟩ := h
  obtain ⟨r, e1, e2⟩ := hq t l N K E S h
  exact ⟨r, u, sI v 1 0 0, e1, e2, by omega, t, l, N, K, E, S, h.scr (by omega) Fr.rf (Fr.sI (by unfold scrM; omega))⟩
theorem c_place {n : Nat} {u v : zM} (h : Inv n u v) (hn : n < 600) (x y : Int32) : ∃ r u' v', OW_place x y u = some (r, u') ∧ Mo_place x y v = some (r, v') ∧ Inv (n + 1) u' v' :=
  h.q hn (F := OW_place x y) (G := Mo_place x y) (fun _ _ _ _ _ _ h => q_place h.1 h.2.2.1 h.2.2.2.1 x y)
theorem c_person {n : Nat} {u v : zM} (h : Inv n u v) (hn : n < 600) (x y : Int32) : ∃ r u' v', OW_person x y u = some (r, u') ∧ Mo_person x y v = some (r, v') ∧ Inv (n + 1) u' v' :=
  h.q hn (F := OW_person x y) (G := Mo_person x y) (fun _ _ _ _ _ _ h => q_person h.1 h.2.2.1 h.2.2.2.1 x y)
theorem c_otter {n : Nat} {u v : zM} (h : Inv n u v) (hn : n < 600) (x y : Int32) : ∃ r u' v', OW_otter x y u = some (r, u') ∧ Mo_otter x y v = some (r, v') ∧ Inv (n + 1) u' v' :=
  h.q hn (F := OW_otter x y) (G := Mo_otter x y) (fun _ _ _ _ _ _ h => q_otter h.1 h.2.2.1 h.2.2.2.1 x y)
theorem c_writ {n : Nat} {u v : zM} (h : Inv n u v) (hn : n < 600) (x y : Int32) : ∃ r u' v', OW_writ x y u = some (r, u') ∧ Mo_writ x y v = some (r, v') ∧ Inv (n + 1) u' v' :=
  h.q hn (F := OW_writ x y) (G := Mo_writ x y) (fun _ _ _ _ _ _ h => q_writ h.1 h.2.2.1 h.2.2.2.1 x y)
theorem c_late {n : Nat} {u v : zM} (h : Inv n u v) (hn : n < 600) : ∃ r u' v', OW_late u = some (r, u') ∧ Mo_late v = some (r, v') ∧ Inv (n + 1) u' v' :=
  h.q hn (fun _ _ _ _ _ _ h => q_late h.1 h.2.2.1 h.2.2.2.1)
theorem c_may {n : Nat} {u v : zM} (h : Inv n u v) (hn : n < 600) (x : Int32) : ∃ r u' v', OW_may x u = some (r, u') ∧ Mo_may x v = some (r, v') ∧ Inv (n + 1) u' v' :=
  h.q hn (F := OW_may x) (G := Mo_may x) (fun _ _ _ _ _ _ h => q_may h.1 h.2.2.1 h.2.2.2.1 x)
theorem c_can {n : Nat} {u v : zM} (h : Inv n u v) (hn : n < 600) (x : Int32) : ∃ r u' v', OW_can x u = some (r, u') ∧ Mo_can x v = some (r, v') ∧ Inv (n + 1) u' v' :=
  h.q hn (F := OW_can x) (G := Mo_can x) (fun _ _ _ _ _ _ h => q_can h.1 h.2.2.1 h.2.2.2.1 x)
theorem c_warm {n : Nat} {u v : zM} (h : Inv n u v) (hn : n < 600) : ∃ r u' v', OW_warm u = some (r, u') ∧ Mo_warm v = some (r, v') ∧ Inv (n + 1) u' v' :=
  h.q hn (fun _ _ _ _ _ _ h => q_warm h.1 h.2.2.1 h.2.2.2.1)
theorem c_hunted {n : Nat} {u v : zM} (h : Inv n u v) (hn : n < 600) : ∃ r u' v', OW_hunted u = some (r, u') ∧ Mo_hunted v = some (r, v') ∧ Inv (n + 1) u' v' :=
  h.q hn (fun _ _ _ _ _ _ h => q_hunted h.1 h.2.2.1 h.2.2.2.1)
theorem c_count {n : Nat} {u v : zM} (h : Inv n u v) (hn : n < 600) (x : Int32) : ∃ r u' v', OW_count x u = some (r, u') ∧ Mo_count x v = some (r, v') ∧ Inv (n + 1) u' v' :=
  h.q hn (F := OW_count x) (G := Mo_count x) (fun _ l _ _ _ _ h => by
    obtain ⟨a1, a2, a3, a4, a5, a6, a7, a8, a9, b1, b2, b3⟩ := h
    obtain ⟨c, W, A, B, hw, hc, hm⟩ := a6
    obtain ⟨c2, P, M, X, h8, hc2, hm2, hi2⟩ := a7
    obtain ⟨d, x', P', d1, d2, d3, d4, d5, d6⟩ := a8
    obtain ⟨c3, f1, f2, f3, f4⟩ := b2
    refine q_count a1 a3 a4 ?_ ?_ ?_ ?_ ?_ x
    · rw [a5.2.1]; rcases a5.2.2.1 with h | h <;> subst h <;> rfl
    · rw [a5.2.1, hc.1, hm.1]
    · rw [hc2, hm2]
    · rw [d3, d5]
    · rw [f2, f3])
