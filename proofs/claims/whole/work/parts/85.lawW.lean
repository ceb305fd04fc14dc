/-! ===== codes worked: products, sums, tests, expressions ===== -/
theorem opR_0 {o x : Int32} (h : opR 0 o x) : (o = -6 ∧ x = nI 26) ∨ (o = -7 ∧ x = nI 27) := by
  rcases h with h | h | h | h
  · exact h.2
  · exact absurd h.1 (by omega)
  · exact absurd h.1 (by omega)
  · exact absurd h.1 (by omega)
theorem opR_1 {o x : Int32} (h : opR 1 o x) : (o = -8 ∧ x = nI 24) ∨ (o = -9 ∧ x = nI 25) := by
  rcases h with h | h | h | h
  · exact absurd h.1 (by omega)
  · exact h.2
  · exact absurd h.1 (by omega)
  · exact absurd h.1 (by omega)
theorem opR_2 {o x : Int32} (h : opR 2 o x) : (o = -10 ∧ x = nI 20) ∨ (o = -11 ∧ x = nI 21) := by
  rcases h with h | h | h | h
  · exact absurd h.1 (by omega)
  · exact absurd h.1 (by omega)
  · exact h.2
  · exact absurd h.1 (by omega)
theorem opR_3 {o x : Int32} (h : opR 3 o x) : o = -12 ∧ x = nI 22 := by
  rcases h with h | h | h | h
  · exact absurd h.1 (by omega)
  · exact absurd h.1 (by omega)
  · exact absurd h.1 (by omega)
  · exact h.2
abbrev Vf := Int32 → Int32 → Int32 → Int32 → Int32
theorem lvX_up {X Y d c k : Nat} (h : lvX Y d c k) (hXY : X ≤ Y) : lvX X d c k := by unfold lvX lvA at h ⊢; omega
theorem Pl.fr {v v' : zM} {X d : Nat} (h : Pl v d) (hf : Fr (lvX X d) v v') : Pl v' d := by
  rcases h with h | h
  · exact Or.inl h
  · exact Or.inr ((hf.i (by unfold lvX lvA; omega)).trans h)
theorem Cd.frX {v v' : zM} {X d i : Nat} {Q : List Int32} {L : Nat} {l f w dt : Int32} (h : Cd v i Q L l f w dt) (hf : Fr (lvX X d) v v') : Cd v' i Q L l f w dt := h.fr (hf.mono (fun _ _ q => lvX_0 q))
theorem RMv_34 {d : Nat} {Q : List Int32} {V : Vf} (hd : d < 7) (hQ : 1 ≤ Q.length) (h : PMv Q d V) : RMv 3 d Q V := by
  intro v n i L l f w dt hc hp hs
  obtain ⟨v1, e1, e2⟩ := h v n i L l f w dt hc
  have p1 : Pl v1 d := Pl.fr (X := 3) hp (e2.mono (fun c k q => Or.inl q))
  have g29 : gI v1 29 d = 0 := (e2.i (by unfold lvA; omega)).trans hs.1
  rw [w268_pl hd p1, if_pos g29, show i + Q.length - 1 + 1 = i + Q.length by omega] at e1
  refine ⟨_, e1, ?_, (e2.mono (fun c k q => Or.inl q)).tr (Fr.sI (Or.inr (by omega)))⟩
  unfold VlX
  rw [if_pos rfl]
  exact gs_eq ⟨rfl, rfl⟩
theorem smS_0 (t : Int32) : smS (nI 20) (nI 0) t = t := by
  unfold smS
  rw [if_neg (show ¬ nI 20 = (21 : Int32) by decide)]
  exact Int32.zero_add t
theorem VlX_2 {v : zM} {d : Nat} : VlX 2 v d = smS (gI v 27 d) (gI v 26 d) (gI v 28 d) := rfl
theorem VlX_1 {v : zM} {d : Nat} : VlX 1 v d = tsF (gI v 25 d) (gI v 24 d) (VlX 2 v d) := rfl
theorem VlX_0 {v : zM} {d : Nat} : VlX 0 v d = kpF (gI v 23 d) (gI v 22 d) (VlX 1 v d) := rfl
theorem VlX_3 {v : zM} {d : Nat} : VlX 3 v d = gI v 28 d := rfl
theorem RMv_up {X d : Nat} {Q : List Int32} {V : Vf} (hX : X < 3) (h : RMv (X + 1) d Q V) : RMv X d Q V := by
  intro v n i L l f w dt hc hp hs
  obtain ⟨s1, s2, s3, s4⟩ := hs
  obtain ⟨v1, e1, e2, e3⟩ := h v n i L l f w dt hc hp ⟨s1, fun _ => s2 (by omega), fun _ => s3 (by omega), fun _ => s4 (by omega)⟩
  refine ⟨v1, e1, ?_, e3.mono (fun c k q => lvX_up q (by omega))⟩
  rcases (show X = 0 ∨ X = 1 ∨ X = 2 by omega) with rfl | rfl | rfl
  · rw [VlX_0, (e3.i (by unfold lvX lvA; omega)).trans (s4 rfl), show VlX 1 v1 d = _ from e2]
    rfl
  · rw [VlX_1, (e3.i (by unfold lvX lvA; omega)).trans (s3 (by omega)), show VlX 2 v1 d = _ from e2]
    rfl
  · rw [VlX_2, (e3.i (by unfold lvX lvA; omega)).trans (s2 (by omega)).1, (e3.i (by unfold lvX lvA; omega)).trans (s2 (by omega)).2, smS_0]
    exact e2
theorem RMv_prod {d : Nat} {Q1 Q2 : List Int32} {V1 V2 : Vf} (hd : d < 7) (hQ : 1 ≤ Q2.length) (h1 : RMv 3 d Q1 V1) (h2 : PMv Q2 d V2) : RMv 3 d (Q1 ++ (nI 22 :: Q2)) (fun l f w dt => V1 l f w dt * V2 l f w dt) := by
  intro v n i L l f w dt hc hp hs
  obtain ⟨c1, c2⟩ := hc.app
  obtain ⟨v1, e1, e2, e3⟩ := h1 v (n + (Q2.length + 1)) i L l f w dt c1 hp hs
  obtain ⟨d1, d2, d3⟩ := (c2.frX e3).cons
  obtain ⟨_, _, d4, d5, _⟩ := c2.frX e3
  have hI : ib (nI d) 7 = true := ib_nI hd (by decide)
  have hx : ix (nI d) = d := ix_nI (by omega)
  have f1 : Fr (lvX 3 d) v1 (sI v1 29 d (nI 22)) := Fr.sI (Or.inr (by omega))
  obtain ⟨v2, a1, a2⟩ := h2 _ n (i + Q1.length + 1) L l f w dt (d3.frX f1)
  have F2 : Fr (lvX 3 d) (sI v1 29 d (nI 22)) v2 := a2.mono (fun c k q => Or.inl q)
  have p2 : Pl v2 d := ((hp.fr e3).fr f1).fr F2
  have g29 : gI v2 29 d = nI 22 := (a2.i (by unfold lvA; omega)).trans (gs_eq ⟨rfl, rfl⟩)
  have g28 : gI v2 28 d = V1 l f w dt := (a2.i (by unfold lvA; omega)).trans ((gs_ne (by omega)).trans e2)
  rw [w268_pl hd p2, g29, if_neg (show ¬ nI 22 = (0 : Int32) by decide), g28] at a1
  refine ⟨_, ?_, gs_eq ⟨rfl, rfl⟩, ((e3.tr f1).tr F2).tr (Fr.sI (Or.inr (by omega)))⟩
  · rw [show n + (Q1 ++ (nI 22 :: Q2)).length = n + (Q2.length + 1) + Q1.length by simp only [List.length_cons, List.length_append]; omega, e1, show n + (Q2.length + 1) = n + Q2.length + 1 from rfl, w14_head d5 d2 d4 d1, if_neg (show ¬ nI 22 = (28 : Int32) by decide), if_neg (show ¬ nI 22 = (30 : Int32) by decide), if_neg (show ¬ nI 22 = (20 : Int32) by decide), if_neg (show ¬ nI 22 = (21 : Int32) by decide), if_pos (show nI 22 = (22 : Int32) from rfl), if_pos hI, hx, zl_e, show nI (i + Q1.length) + 1 = nI (i + Q1.length + 1) from nI_1 _, a1]
    rw [show i + Q1.length + 1 + Q2.length - 1 + 1 = i + (Q1 ++ (nI 22 :: Q2)).length by simp only [List.length_cons, List.length_append]; omega]
theorem RMv_sum {d : Nat} {Q1 Q2 : List Int32} {V1 V2 : Vf} {o x : Int32} (hd : d < 7) (ho : opR 2 o x) (h1 : RMv 2 d Q1 V1) (h2 : RMv 3 d Q2 V2) : RMv 2 d (Q1 ++ (x :: Q2)) (fun l f w dt => jnF o (V1 l f w dt) (V2 l f w dt)) := by
  have ho : (o = -10 ∧ x = nI 20) ∨ (o = -11 ∧ x = nI 21) := opR_2 ho
  intro v n i L l f w dt hc hp hs
  obtain ⟨c1, c2⟩ := hc.app
  obtain ⟨v1, e1, e2, e3⟩ := h1 v (n + (Q2.length + 1)) i L l f w dt c1 hp hs
  obtain ⟨d1, d2, d3⟩ := (c2.frX e3).cons
  obtain ⟨_, _, d4, d5, _⟩ := c2.frX e3
  have hI : ib (nI d) 7 = true := ib_nI hd (by decide)
  have hx : ix (nI d) = d := ix_nI (by omega)
  have f1 : Fr (lvX 2 d) v1 (sI (sI (sI v1 26 d (VlX 2 v1 d)) 29 d 0) 27 d x) := ((Fr.sI (Or.inr (by omega))).tr (Fr.sI (Or.inr (by omega)))).tr (Fr.sI (Or.inr (by omega)))
  obtain ⟨v2, a1, a2, a3⟩ := h2 _ n (i + Q1.length + 1) L l f w dt (d3.frX f1) ((hp.fr e3).fr f1) ⟨(gs_ne (by omega)).trans (gs_eq ⟨rfl, rfl⟩), fun z => absurd z (by omega), fun z => absurd z (by omega), fun z => absurd z (by omega)⟩
  have g26 : gI v2 26 d = V1 l f w dt := (a3.i (by unfold lvX lvA; omega)).trans ((gs_ne (by omega)).trans ((gs_ne (by omega)).trans ((gs_eq ⟨rfl, rfl⟩).trans e2)))
  have g27 : gI v2 27 d = x := (a3.i (by unfold lvX lvA; omega)).trans (gs_eq ⟨rfl, rfl⟩)
  refine ⟨v2, ?_, ?_, (e3.tr f1).tr (a3.mono (fun c k q => lvX_up q (by omega)))⟩
  · rw [show n + (Q1 ++ (x :: Q2)).length = n + (Q2.length + 1) + Q1.length by simp only [List.length_cons, List.length_append]; omega, e1, show n + (Q2.length + 1) = n + Q2.length + 1 from rfl, w14_head d5 d2 d4 d1]
    have e : Mo_worked_89 (Mo_worked_14 (n + Q2.length)) 0 (nI d) (nI (i + Q1.length)) x v1 = Mo_worked_14 n 0 (nI d) (nI (i + Q1.length + 1 + Q2.length)) v2 := by
      unfold Mo_worked_89
      rw [zb_eq (Mo_sums_eq hd), if_pos hI, hx, zl_e, show nI (i + Q1.length) + 1 = nI (i + Q1.length + 1) from nI_1 _]
      exact a1
    rw [show i + (Q1 ++ (x :: Q2)).length = i + Q1.length + 1 + Q2.length by simp only [List.length_cons, List.length_append]; omega, ← e]
    rcases ho with ⟨_, rfl⟩ | ⟨_, rfl⟩
    · rfl
    · rfl
  · rw [VlX_2, g26, g27, show gI v2 28 d = V2 l f w dt from a2]
    rcases ho with ⟨rfl, rfl⟩ | ⟨rfl, rfl⟩
    · rfl
    · rfl
theorem RMv_test {d : Nat} {Q1 Q2 : List Int32} {V1 V2 : Vf} {o x : Int32} (hd : d < 7) (ho : opR 1 o x) (h1 : RMv 2 d Q1 V1) (h2 : RMv 2 d Q2 V2) : RMv 1 d (Q1 ++ (x :: Q2)) (fun l f w dt => jnF o (V1 l f w dt) (V2 l f w dt)) := by
  have ho : (o = -8 ∧ x = nI 24) ∨ (o = -9 ∧ x = nI 25) := opR_1 ho
  intro v n i L l f w dt hc hp hs
  obtain ⟨c1, c2⟩ := hc.app
  obtain ⟨v1, e1, e2, e3⟩ := h1 v (n + (Q2.length + 1)) i L l f w dt c1 hp ⟨hs.1, fun _ => hs.2.1 (by omega), fun z => absurd z (by omega), fun z => absurd z (by omega)⟩
  obtain ⟨d1, d2, d3⟩ := (c2.frX e3).cons
  obtain ⟨_, _, d4, d5, _⟩ := c2.frX e3
  have hI : ib (nI d) 7 = true := ib_nI hd (by decide)
  have hx : ix (nI d) = d := ix_nI (by omega)
  have f1 : Fr (lvX 1 d) v1 (sI (sI (sI (sI (sI (sI v1 26 d (VlX 2 v1 d)) 29 d 0) 24 d (VlX 2 v1 d)) 25 d x) 26 d 0) 27 d 20) := (((((Fr.sI (Or.inr (by omega))).tr (Fr.sI (Or.inr (by omega)))).tr (Fr.sI (Or.inr (by omega)))).tr (Fr.sI (Or.inr (by omega)))).tr (Fr.sI (Or.inr (by omega)))).tr (Fr.sI (Or.inr (by omega)))
  obtain ⟨v2, a1, a2, a3⟩ := h2 _ n (i + Q1.length + 1) L l f w dt (d3.frX f1) ((hp.fr e3).fr f1) ⟨(gs_ne (by omega)).trans ((gs_ne (by omega)).trans ((gs_ne (by omega)).trans ((gs_ne (by omega)).trans (gs_eq ⟨rfl, rfl⟩)))), fun _ => ⟨(gs_ne (by omega)).trans (gs_eq ⟨rfl, rfl⟩), gs_eq ⟨rfl, rfl⟩⟩, fun z => absurd z (by omega), fun z => absurd z (by omega)⟩
  have g24 : gI v2 24 d = V1 l f w dt := (a3.i (by unfold lvX lvA; omega)).trans ((gs_ne (by omega)).trans ((gs_ne (by omega)).trans ((gs_ne (by omega)).trans ((gs_eq ⟨rfl, rfl⟩).trans e2))))
  have g25 : gI v2 25 d = x := (a3.i (by unfold lvX lvA; omega)).trans ((gs_ne (by omega)).trans ((gs_ne (by omega)).trans (gs_eq ⟨rfl, rfl⟩)))
  refine ⟨v2, ?_, ?_, ((e3.mono (fun c k q => lvX_up q (by omega))).tr f1).tr (a3.mono (fun c k q => lvX_up q (by omega)))⟩
  · rw [show n + (Q1 ++ (x :: Q2)).length = n + (Q2.length + 1) + Q1.length by simp only [List.length_cons, List.length_append]; omega, e1, show n + (Q2.length + 1) = n + Q2.length + 1 from rfl, w14_head d5 d2 d4 d1]
    have e : Mo_worked_137 (Mo_worked_14 (n + Q2.length)) 0 (nI d) (nI (i + Q1.length)) x v1 = Mo_worked_14 n 0 (nI d) (nI (i + Q1.length + 1 + Q2.length)) v2 := by
      unfold Mo_worked_137
      rw [zb_eq (Mo_sums_eq hd)]
      simp only [if_pos hI, hx, zl_e]
      rw [show nI (i + Q1.length) + 1 = nI (i + Q1.length + 1) from nI_1 _, show gI (sI (sI v1 26 d (smS (gI v1 27 d) (gI v1 26 d) (gI v1 28 d))) 29 d 0) 26 d = VlX 2 v1 d from (gs_ne (by omega)).trans (gs_eq ⟨rfl, rfl⟩)]
      exact a1
    rw [show i + (Q1 ++ (x :: Q2)).length = i + Q1.length + 1 + Q2.length by simp only [List.length_cons, List.length_append]; omega, ← e]
    rcases ho with ⟨_, rfl⟩ | ⟨_, rfl⟩
    · rfl
    · rfl
  · rw [VlX_1, g24, g25, a2]
    rcases ho with ⟨rfl, rfl⟩ | ⟨rfl, rfl⟩
    · rfl
    · rfl
theorem RMv_expr {d : Nat} {Q1 Q2 : List Int32} {V1 V2 : Vf} {o x : Int32} (hd : d < 7) (ho : opR 0 o x) (h1 : RMv 0 d Q1 V1) (h2 : RMv 1 d Q2 V2) : RMv 0 d (Q1 ++ (x :: Q2)) (fun l f w dt => jnF o (V1 l f w dt) (V2 l f w dt)) := by
  have ho : (o = -6 ∧ x = nI 26) ∨ (o = -7 ∧ x = nI 27) := opR_0 ho
  intro v n i L l f w dt hc hp hs
  obtain ⟨c1, c2⟩ := hc.app
  obtain ⟨v1, e1, e2, e3⟩ := h1 v (n + (Q2.length + 1)) i L l f w dt c1 hp hs
  obtain ⟨d1, d2, d3⟩ := (c2.frX e3).cons
  obtain ⟨_, _, d4, d5, _⟩ := c2.frX e3
  have hI : ib (nI d) 7 = true := ib_nI hd (by decide)
  have hx : ix (nI d) = d := ix_nI (by omega)
  obtain ⟨w1, t1, t2, t3, t4, t5, t6, t7⟩ := Mo_tests_eq (v := v1) hd
  have f0 : Fr (lvX 0 d) v1 w1 := t7.mono (fun c k q => by unfold tsA at q; exact Or.inr (by omega))
  have f1 : Fr (lvX 0 d) v1 (sI w1 23 d x) := f0.tr (Fr.sI (Or.inr (by omega)))
  obtain ⟨v2, a1, a2, a3⟩ := h2 _ n (i + Q1.length + 1) L l f w dt (d3.frX f1) ((hp.fr e3).fr f1) ⟨(gs_ne (by omega)).trans t6, fun _ => ⟨(gs_ne (by omega)).trans t4, (gs_ne (by omega)).trans t5⟩, fun _ => (gs_ne (by omega)).trans t3, fun z => absurd z (by omega)⟩
  have g22 : gI v2 22 d = V1 l f w dt := (a3.i (by unfold lvX lvA; omega)).trans ((gs_ne (by omega)).trans (t2.trans e2))
  have g23 : gI v2 23 d = x := (a3.i (by unfold lvX lvA; omega)).trans (gs_eq ⟨rfl, rfl⟩)
  refine ⟨v2, ?_, ?_, (e3.tr f1).tr (a3.mono (fun c k q => lvX_up q (by omega)))⟩
  · rw [show n + (Q1 ++ (x :: Q2)).length = n + (Q2.length + 1) + Q1.length by simp only [List.length_cons, List.length_append]; omega, e1, show n + (Q2.length + 1) = n + Q2.length + 1 from rfl, w14_head d5 d2 d4 d1]
    have e : Mo_worked_194 (Mo_worked_14 (n + Q2.length)) 0 (nI d) (nI (i + Q1.length)) x v1 = Mo_worked_14 n 0 (nI d) (nI (i + Q1.length + 1 + Q2.length)) v2 := by
      unfold Mo_worked_194
      rw [zb_eq t1, if_pos hI, hx, zl_e, show nI (i + Q1.length) + 1 = nI (i + Q1.length + 1) from nI_1 _]
      exact a1
    rw [show i + (Q1 ++ (x :: Q2)).length = i + Q1.length + 1 + Q2.length by simp only [List.length_cons, List.length_append]; omega, ← e]
    rcases ho with ⟨_, rfl⟩ | ⟨_, rfl⟩
    · rfl
    · rfl
  · rw [VlX_0, g22, g23, a2]
    rcases ho with ⟨rfl, rfl⟩ | ⟨rfl, rfl⟩
    · rfl
    · rfl
/-- an expression has one value, in the class and in the reference -/
theorem Rl_val : ∀ n X d P Q, X ≤ 4 → Rl n X d P Q → ∃ V : Vf, (∀ r, layC r = (11, 3) → ∀ l f w dt, CSv r l f w dt P (nd X d) (V l f w dt)) ∧ (X = 4 → PMv Q d V) ∧ (X < 4 → RMv X d Q V) ∧ 1 ≤ P.length ∧ 1 ≤ Q.length := by
  intro n
  induction n with
  | zero => intro X d P Q _ h; exact h.elim
  | succ n ih =>
    intro X d P Q hX h
    have hd := Rl_d _ _ _ _ _ hX h
    rcases h with ⟨rfl, _, h⟩ | ⟨h4, h | ⟨P1, P2, Q1, Q2, o, x, rfl, rfl, ho, r1, r2⟩⟩
    · rcases h with ⟨x, q, rfl, rfl, hs⟩ | ⟨P1, Q1, rfl, rfl, r⟩ | ⟨Q1, rfl, r⟩
      · exact ⟨_, fun r hr l f w dt => (CSv_sim hr hs).mono (by unfold nd; omega), fun _ => PMv_sim hs d, fun z => absurd z (by omega), Nat.le_refl _, Nat.le_refl _⟩
      · have hd' := Rl_d _ _ _ _ _ (Nat.le_refl 4) r
        obtain ⟨V, a1, a2, _, a4, a5⟩ := ih _ _ _ _ (Nat.le_refl 4) r
        exact ⟨fun l f w dt => notF (V l f w dt), fun r hr l f w dt => CSv_not hr (by unfold nd; omega) ((a1 r hr l f w dt).mono (by unfold nd; omega)), fun _ => PMv_not (by omega) a5 (a2 rfl), fun z => absurd z (by omega), by rw [List.length_append]; omega, by rw [List.length_cons]; omega⟩
      · have hd' := Rl_d _ _ _ _ _ (show 0 ≤ 4 by omega) r
        obtain ⟨V, a1, _, a3, a4, a5⟩ := ih _ _ _ _ (show 0 ≤ 4 by omega) r
        exact ⟨V, fun r hr l f w dt => (a1 r hr l f w dt).mono (by unfold nd; omega), fun _ => PMv_par (by omega) (a3 (by omega)), fun z => absurd z (by omega), a4, by rw [List.length_cons]; omega⟩
    · obtain ⟨V, a1, a2, a3, a4, a5⟩ := ih _ _ _ _ (by omega) h
      refine ⟨V, fun r hr l f w dt => (a1 r hr l f w dt).mono (by unfold nd; omega), fun z => absurd z (by omega), fun _ => ?_, a4, a5⟩
      by_cases q : X = 3
      · subst q
        exact RMv_34 (by omega) a5 (a2 rfl)
      · exact RMv_up (by omega) (a3 (by omega))
    · obtain ⟨V1, a1, a2, a3, a4, a5⟩ := ih _ _ _ _ (show lefR X ≤ 4 by unfold lefR; split <;> omega) r1
      obtain ⟨V2, b1, b2, b3, b4, b5⟩ := ih _ _ _ _ (show X + 1 ≤ 4 by omega) r2
      refine ⟨fun l f w dt => jnF o (V1 l f w dt) (V2 l f w dt), fun r hr l f w dt => CSv_bin hr (opR_le ho) (a1 r hr l f w dt) (b1 r hr l f w dt) (by unfold nd; omega) (by unfold nd lefR; split <;> omega) (by unfold nd; omega), fun z => absurd z (by omega), fun _ => ?_, by rw [List.length_append]; omega, by rw [List.length_append]; omega⟩
      rcases (show X = 0 ∨ X = 1 ∨ X = 2 ∨ X = 3 by omega) with rfl | rfl | rfl | rfl
      · exact RMv_expr (by omega) ho (a3 (by decide)) (b3 (by omega))
      · exact RMv_test (by omega) ho (a3 (by decide)) (b3 (by omega))
      · exact RMv_sum (by omega) ho (a3 (by decide)) (b3 (by omega))
      · have ho : o = -12 ∧ x = nI 22 := opR_3 ho
        obtain ⟨rfl, rfl⟩ := ho
        exact RMv_prod (by omega) b5 (a3 (by decide)) (b2 rfl)
