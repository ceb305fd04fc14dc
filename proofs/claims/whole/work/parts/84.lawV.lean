/-! ===== codes worked: values ===== -/
def lvA (d : Nat) (c k : Nat) : Prop := 22 ≤ c ∧ c ≤ 30 ∧ d ≤ k
def Cd (v : zM) (i : Nat) (Q : List Int32) (L : Nat) (l f w dt : Int32) : Prop := Hld v 19 i Q ∧ i + Q.length ≤ L ∧ L ≤ 1000 ∧ gI v 18 0 = nI L ∧ gI v 31 1 = l ∧ gI v 31 2 = f ∧ gI v 31 3 = w ∧ gI v 31 4 = dt
theorem Cd.fr {v v' : zM} {i : Nat} {Q : List Int32} {L : Nat} {l f w dt : Int32} (h : Cd v i Q L l f w dt) (hf : Fr (lvA 0) v v') : Cd v' i Q L l f w dt := by
  obtain ⟨a1, a2, a3, a4, a5, a6, a7, a8⟩ := h
  exact ⟨Hld.fr Q i a1 (fun k => hf.i (by unfold lvA; omega)), a2, a3, (hf.i (by unfold lvA; omega)).trans a4, (hf.i (by unfold lvA; omega)).trans a5, (hf.i (by unfold lvA; omega)).trans a6, (hf.i (by unfold lvA; omega)).trans a7, (hf.i (by unfold lvA; omega)).trans a8⟩
theorem Cd.app {v : zM} {i : Nat} {Q1 Q2 : List Int32} {L : Nat} {l f w dt : Int32} (h : Cd v i (Q1 ++ Q2) L l f w dt) : Cd v i Q1 L l f w dt ∧ Cd v (i + Q1.length) Q2 L l f w dt := by
  obtain ⟨a1, a2, a3⟩ := h
  obtain ⟨b1, b2⟩ := (Hld_app Q1 Q2 i).mp a1
  rw [List.length_append] at a2
  exact ⟨⟨b1, by omega, a3⟩, ⟨b2, by omega, a3⟩⟩
theorem Cd.cons {v : zM} {i : Nat} {x : Int32} {Q : List Int32} {L : Nat} {l f w dt : Int32} (h : Cd v i (x :: Q) L l f w dt) : gI v 19 i = x ∧ i < L ∧ Cd v (i + 1) Q L l f w dt := by
  obtain ⟨a1, a2, a3⟩ := h
  rw [List.length_cons] at a2
  exact ⟨a1.1, by omega, a1.2, by omega, a3⟩
/-- the while over nots: its fuel does not matter -/
theorem w268 (zr : Int32 → Int32 → Int32 → zM → Option (Int32 × zM)) (x1 x3 : Int32) : ∀ d m m' y u, d < 7 → d < m → d < m' → Mo_worked_268 m zr x1 (nI d) x3 y u = Mo_worked_268 m' zr x1 (nI d) x3 y u := by
  intro d
  induction d with
  | zero =>
    intro m m' y u _ hm hm'
    obtain ⟨m, rfl⟩ : ∃ z, m = z + 1 := ⟨m - 1, by omega⟩
    obtain ⟨m', rfl⟩ : ∃ z, m' = z + 1 := ⟨m' - 1, by omega⟩
    show Mo_worked_268b _ _ _ _ _ _ _ = Mo_worked_268b _ _ _ _ _ _ _
    unfold Mo_worked_268b
    rw [if_pos (show nI 0 ≤ (0 : Int32) by decide), if_pos (show nI 0 ≤ (0 : Int32) by decide)]
  | succ d ih =>
    intro m m' y u h7 hm hm'
    obtain ⟨m, rfl⟩ : ∃ z, m = z + 1 := ⟨m - 1, by omega⟩
    obtain ⟨m', rfl⟩ : ∃ z, m' = z + 1 := ⟨m' - 1, by omega⟩
    have e : nI (d + 1) + (-1) = nI d := by
      rw [show (-1 : Int32) = -(nI 1) from rfl, ← Int32.sub_eq_add_neg, pk_sub (by omega)]
      rfl
    show Mo_worked_268b _ _ _ _ _ _ _ = Mo_worked_268b _ _ _ _ _ _ _
    unfold Mo_worked_268b
    rw [e, ih m m' 1 u (by omega) (by omega) (by omega), ih m m' 0 u (by omega) (by omega) (by omega)]
/-- at a level that no not opened the value is taken -/
def Pl (v : zM) (d : Nat) : Prop := d = 0 ∨ gI v 30 d = nI 0
theorem w268_pl {zr : Int32 → Int32 → Int32 → zM → Option (Int32 × zM)} {x1 y : Int32} {d i : Nat} {v : zM} (hd : d < 7) (h : Pl v d) : Mo_worked_268 zF zr x1 (nI d) (nI i) y v = zr x1 (nI d) (nI (i + 1)) (sI v 28 d (if gI v 29 d = 0 then y else gI v 28 d * y)) := by
  have hI : ib (nI d) 7 = true := ib_nI hd (by decide)
  have hx : ix (nI d) = d := ix_nI (by omega)
  show Mo_worked_268b _ _ _ _ _ _ _ = _
  have e300 : Mo_worked_300 zr x1 (nI d) (nI i) y v = zr x1 (nI d) (nI (i + 1)) (sI v 28 d (if gI v 29 d = 0 then y else gI v 28 d * y)) := by
    unfold Mo_worked_300
    simp only [if_pos hI, hx, zl_e, show nI i + 1 = nI (i + 1) from nI_1 i]
    by_cases q : gI v 29 d = 0
    · rw [if_pos q, if_pos q]
    · rw [if_neg q, if_neg q]
  unfold Mo_worked_268b
  rw [e300]
  rcases h with rfl | h
  · rw [if_pos (show nI 0 ≤ (0 : Int32) by decide)]
  · rw [if_pos hI, hx, h, if_neg (show ¬ nI 0 = (1 : Int32) by decide), ite_self]
theorem w268_not {zr : Int32 → Int32 → Int32 → zM → Option (Int32 × zM)} {x1 y : Int32} {d i : Nat} {v : zM} (hd : d + 1 < 7) (h : gI v 30 (d + 1) = nI 1) : Mo_worked_268 zF zr x1 (nI (d + 1)) (nI i) y v = Mo_worked_268 zF zr x1 (nI d) (nI i) (notF y) v := by
  have hI : ib (nI (d + 1)) 7 = true := ib_nI hd (by decide)
  have hx : ix (nI (d + 1)) = d + 1 := ix_nI (by omega)
  have e : nI (d + 1) + (-1) = nI d := by
    rw [show (-1 : Int32) = -(nI 1) from rfl, ← Int32.sub_eq_add_neg, pk_sub (by omega)]
    rfl
  rw [w268 zr x1 (nI i) d zF 4095 (notF y) v (by omega) (by unfold zF; omega) (by omega)]
  show Mo_worked_268b _ (Mo_worked_268 4095 zr) _ _ _ _ _ = _
  unfold Mo_worked_268b notF
  rw [if_neg (show ¬ nI (d + 1) ≤ (0 : Int32) from nI_ge (show 0 < d + 1 by omega) (by omega)), if_pos hI, hx, h, if_pos (show nI 1 = (1 : Int32) from rfl), e]
  by_cases q : y = 0
  · rw [if_pos q, if_pos q]
  · rw [if_neg q, if_neg q]
/-- a part's codes -/
def PMv (Q : List Int32) (d : Nat) (V : Int32 → Int32 → Int32 → Int32 → Int32) : Prop := ∀ v n i L l f w dt, Cd v i Q L l f w dt → ∃ v', Mo_worked_14 (n + Q.length) 0 (nI d) (nI i) v = Mo_worked_268 zF (Mo_worked_14 n) 0 (nI d) (nI (i + Q.length - 1)) (V l f w dt) v' ∧ Fr (lvA (d + 1)) v v'
def StX (X : Nat) (v : zM) (d : Nat) : Prop := gI v 29 d = nI 0 ∧ (X ≤ 2 → gI v 26 d = nI 0 ∧ gI v 27 d = nI 20) ∧ (X ≤ 1 → gI v 25 d = nI 0) ∧ (X = 0 → gI v 23 d = nI 0)
def VlX (X : Nat) (v : zM) (d : Nat) : Int32 := if X = 3 then gI v 28 d else if X = 2 then smS (gI v 27 d) (gI v 26 d) (gI v 28 d) else if X = 1 then tsF (gI v 25 d) (gI v 24 d) (smS (gI v 27 d) (gI v 26 d) (gI v 28 d)) else tvF v d
def lvX (X d : Nat) (c k : Nat) : Prop := lvA (d + 1) c k ∨ (k = d ∧ 22 + 2 * X ≤ c ∧ c ≤ 29)
theorem lvX_0 {X d c k : Nat} (h : lvX X d c k) : lvA 0 c k := by unfold lvX lvA at h; unfold lvA; omega
def RMv (X d : Nat) (Q : List Int32) (V : Int32 → Int32 → Int32 → Int32 → Int32) : Prop := ∀ v n i L l f w dt, Cd v i Q L l f w dt → Pl v d → StX X v d → ∃ v', Mo_worked_14 (n + Q.length) 0 (nI d) (nI i) v = Mo_worked_14 n 0 (nI d) (nI (i + Q.length)) v' ∧ VlX X v' d = V l f w dt ∧ Fr (lvX X d) v v'
/-- the head of a round of the reference's loop -/
theorem w14_head {v : zM} {d i L n : Nat} {x : Int32} (hL : gI v 18 0 = nI L) (hi : i < L) (h1 : L ≤ 1000) (hx : gI v 19 i = x) : Mo_worked_14 (n + 1) 0 (nI d) (nI i) v = (if x = 28 then (Mo_worked_46 (Mo_worked_14 n) 0 (nI d) (nI i) x v) else (if x = 30 then (Mo_worked_46 (Mo_worked_14 n) 0 (nI d) (nI i) x v) else (if x = 20 then (Mo_worked_89 (Mo_worked_14 n) 0 (nI d) (nI i) x v) else (if x = 21 then (Mo_worked_89 (Mo_worked_14 n) 0 (nI d) (nI i) x v) else (if x = 22 then (if ib (nI d) 7 = true then (zlet (sI v 29 (ix (nI d)) x) (fun u2 => Mo_worked_14 n 0 (nI d) ((nI i) + 1) u2)) else none) else (if x = 24 then (Mo_worked_137 (Mo_worked_14 n) 0 (nI d) (nI i) x v) else (if x = 25 then (Mo_worked_137 (Mo_worked_14 n) 0 (nI d) (nI i) x v) else (if x = 26 then (Mo_worked_194 (Mo_worked_14 n) 0 (nI d) (nI i) x v) else (if x = 27 then (Mo_worked_194 (Mo_worked_14 n) 0 (nI d) (nI i) x v) else (if x < 100 then (if 20 ≤ x then (Mo_worked_243 (Mo_worked_14 n) 0 (nI d) (nI i) x 0 v) else (if ib x 20 = true then (Mo_worked_243 (Mo_worked_14 n) 0 (nI d) (nI i) x (gI v 31 (ix x)) v) else none)) else (Mo_worked_243 (Mo_worked_14 n) 0 (nI d) (nI i) x (x - 100) v))))))))))) := by
  show Mo_worked_14b (Mo_worked_14 n) 0 (nI d) (nI i) v = _
  unfold Mo_worked_14b
  rw [if_pos (show ib 0 2 = true by decide), show gI v 18 (ix 0) = nI L from hL, if_neg (nI_ge hi (by omega)), if_pos (ib_nI (show i < 2000 by omega) (by omega)), ix_nI (by omega), hx, zl_e]
theorem PMv_sim {x q : Int32} (h : simR x q) (d : Nat) : PMv [q] d (fun l f w dt => smF x l f w dt) := by
  intro v n i L l f w dt hc
  obtain ⟨c1, c2, c3⟩ := hc.cons
  obtain ⟨_, _, c4, c5, v1, v2, v3, v4⟩ := hc
  refine ⟨v, ?_, Fr.rf⟩
  show Mo_worked_14 (n + 1) 0 (nI d) (nI i) v = Mo_worked_268 zF (Mo_worked_14 n) 0 (nI d) (nI (i + 1 - 1)) (smF x l f w dt) v
  rw [w14_head c5 c2 c4 c1, Nat.add_sub_cancel]
  unfold Mo_worked_243
  rcases h with ⟨m, hm, rfl, rfl⟩ | ⟨rfl, rfl⟩ | ⟨rfl, rfl⟩ | ⟨rfl, rfl⟩ | ⟨rfl, rfl⟩
  · have e : ∀ k, k < 100 → ¬ nI (100 + m) = nI k := fun k hk z => by have := (nI_eq (by omega) (by omega)).mp z; omega
    have es : smF (nI m) l f w dt = nI m := by
      have hp : ∀ y : Int32, y < 0 → ¬ nI m = y := fun y hy z => by rw [← z] at hy; exact absurd hy (nI_nlt (b := 0) (Nat.zero_le _) (by omega))
      unfold smF
      rw [if_neg (hp _ (by decide)), if_neg (hp _ (by decide)), if_neg (hp _ (by decide)), if_neg (hp _ (by decide))]
    rw [es, if_neg (show ¬ nI (100 + m) = (28 : Int32) from e 28 (by decide)), if_neg (show ¬ nI (100 + m) = (30 : Int32) from e 30 (by decide)), if_neg (show ¬ nI (100 + m) = (20 : Int32) from e 20 (by decide)), if_neg (show ¬ nI (100 + m) = (21 : Int32) from e 21 (by decide)), if_neg (show ¬ nI (100 + m) = (22 : Int32) from e 22 (by decide)), if_neg (show ¬ nI (100 + m) = (24 : Int32) from e 24 (by decide)), if_neg (show ¬ nI (100 + m) = (25 : Int32) from e 25 (by decide)), if_neg (show ¬ nI (100 + m) = (26 : Int32) from e 26 (by decide)), if_neg (show ¬ nI (100 + m) = (27 : Int32) from e 27 (by decide)), if_neg (show ¬ nI (100 + m) < (100 : Int32) from nI_nlt (a := 100 + m) (b := 100) (by omega) (by omega)), if_neg (show ¬ nI (100 + m) = (29 : Int32) from e 29 (by decide)), show (100 : Int32) = nI 100 from rfl, pk_sub (by omega), Nat.add_sub_cancel_left]
  · rw [← v1]; rfl
  · rw [← v2]; rfl
  · rw [← v3]; rfl
  · rw [← v4]; rfl
theorem PMv_not {Q : List Int32} {d : Nat} {V : Int32 → Int32 → Int32 → Int32 → Int32} (hd : d + 1 < 7) (hQ : 1 ≤ Q.length) (h : PMv Q (d + 1) V) : PMv (nI 30 :: Q) d (fun l f w dt => notF (V l f w dt)) := by
  intro v n i L l f w dt hc
  obtain ⟨c1, c2, c3⟩ := hc.cons
  obtain ⟨_, _, c4, c5, _⟩ := hc
  have hI : ib (nI (d + 1)) 7 = true := ib_nI hd (by decide)
  have hx : ix (nI (d + 1)) = d + 1 := ix_nI (by omega)
  have f1 : Fr (lvA (d + 1)) v (sI (sI (sI (sI (sI (sI v 30 (d + 1) 1) 23 (d + 1) 0) 25 (d + 1) 0) 26 (d + 1) 0) 27 (d + 1) 20) 29 (d + 1) 0) := (((((Fr.sI (by unfold lvA; omega)).tr (Fr.sI (by unfold lvA; omega))).tr (Fr.sI (by unfold lvA; omega))).tr (Fr.sI (by unfold lvA; omega))).tr (Fr.sI (by unfold lvA; omega))).tr (Fr.sI (by unfold lvA; omega))
  obtain ⟨v', e1, e2⟩ := h _ n (i + 1) L l f w dt (c3.fr (f1.mono (fun c k q => by unfold lvA at q; unfold lvA; omega)))
  have g30 : gI v' 30 (d + 1) = nI 1 := (e2.i (by unfold lvA; omega)).trans ((gs_ne (by omega)).trans ((gs_ne (by omega)).trans ((gs_ne (by omega)).trans ((gs_ne (by omega)).trans ((gs_ne (by omega)).trans (gs_eq ⟨rfl, rfl⟩))))))
  refine ⟨v', ?_, f1.tr (e2.mono (fun c k q => by unfold lvA at q; unfold lvA; omega))⟩
  rw [show n + (nI 30 :: Q).length = n + Q.length + 1 from rfl, w14_head c5 c2 c4 c1, if_neg (show ¬ nI 30 = (28 : Int32) by decide), if_pos (show nI 30 = (30 : Int32) from rfl)]
  unfold Mo_worked_46
  rw [if_pos (show nI 30 = (30 : Int32) from rfl), show nI d + 1 = nI (d + 1) from nI_1 d, if_pos hI, hx, zl_e, zb_eq (Mo_opens_eq hd), show nI i + 1 = nI (i + 1) from nI_1 i, e1, w268_not hd g30]
  show Mo_worked_268 _ _ _ _ (nI (i + 1 + Q.length - 1)) _ _ = Mo_worked_268 _ _ _ _ (nI (i + (Q.length + 1) - 1)) _ _
  rw [show i + 1 + Q.length - 1 = i + (Q.length + 1) - 1 by omega]
theorem PMv_par {Q : List Int32} {d : Nat} {V : Int32 → Int32 → Int32 → Int32 → Int32} (hd : d + 1 < 7) (h : RMv 0 (d + 1) Q V) : PMv (nI 28 :: (Q ++ [nI 29])) d V := by
  intro v n i L l f w dt hc
  obtain ⟨c1, c2, c3⟩ := hc.cons
  obtain ⟨c6, c7⟩ := c3.app
  obtain ⟨c8, c9, _⟩ := c7.cons
  obtain ⟨_, _, c4, c5, _⟩ := hc
  have hI : ib (nI (d + 1)) 7 = true := ib_nI hd (by decide)
  have hx : ix (nI (d + 1)) = d + 1 := ix_nI (by omega)
  have f1 : Fr (lvA (d + 1)) v (sI (sI (sI (sI (sI (sI v 30 (d + 1) 0) 23 (d + 1) 0) 25 (d + 1) 0) 26 (d + 1) 0) 27 (d + 1) 20) 29 (d + 1) 0) := (((((Fr.sI (by unfold lvA; omega)).tr (Fr.sI (by unfold lvA; omega))).tr (Fr.sI (by unfold lvA; omega))).tr (Fr.sI (by unfold lvA; omega))).tr (Fr.sI (by unfold lvA; omega))).tr (Fr.sI (by unfold lvA; omega))
  have g30 : gI (sI (sI (sI (sI (sI (sI v 30 (d + 1) 0) 23 (d + 1) 0) 25 (d + 1) 0) 26 (d + 1) 0) 27 (d + 1) 20) 29 (d + 1) 0) 30 (d + 1) = nI 0 := (gs_ne (by omega)).trans ((gs_ne (by omega)).trans ((gs_ne (by omega)).trans ((gs_ne (by omega)).trans ((gs_ne (by omega)).trans (gs_eq ⟨rfl, rfl⟩)))))
  have st : StX 0 (sI (sI (sI (sI (sI (sI v 30 (d + 1) 0) 23 (d + 1) 0) 25 (d + 1) 0) 26 (d + 1) 0) 27 (d + 1) 20) 29 (d + 1) 0) (d + 1) := ⟨gs_eq ⟨rfl, rfl⟩, fun _ => ⟨(gs_ne (by omega)).trans ((gs_ne (by omega)).trans (gs_eq ⟨rfl, rfl⟩)), (gs_ne (by omega)).trans (gs_eq ⟨rfl, rfl⟩)⟩, fun _ => (gs_ne (by omega)).trans ((gs_ne (by omega)).trans ((gs_ne (by omega)).trans (gs_eq ⟨rfl, rfl⟩))), fun _ => (gs_ne (by omega)).trans ((gs_ne (by omega)).trans ((gs_ne (by omega)).trans ((gs_ne (by omega)).trans (gs_eq ⟨rfl, rfl⟩))))⟩
  obtain ⟨v1, e1, e2, e3⟩ := h _ (n + 1) (i + 1) L l f w dt (c6.fr (f1.mono (fun c k q => by unfold lvA at q; unfold lvA; omega))) (Or.inr g30) st
  obtain ⟨v2, t1, t2, t3, t4, t5, t6, t7⟩ := Mo_tests_eq (v := v1) hd
  have F1 : Fr (lvA (d + 1)) v v1 := f1.tr (e3.mono (fun c k q => by unfold lvX lvA at q; unfold lvA; omega))
  refine ⟨v2, ?_, F1.tr (t7.mono (fun c k q => by unfold tsA at q; unfold lvA; omega))⟩
  have ed : nI (d + 1) + (-1) = nI d := by
    rw [show (-1 : Int32) = -(nI 1) from rfl, ← Int32.sub_eq_add_neg, pk_sub (by omega)]
    rfl
  rw [show n + (nI 28 :: (Q ++ [nI 29])).length = n + 1 + Q.length + 1 by simp only [List.length_cons, List.length_append, List.length_nil]; omega, w14_head c5 c2 c4 c1, if_pos (show nI 28 = (28 : Int32) from rfl)]
  unfold Mo_worked_46
  rw [if_neg (show ¬ nI 28 = (30 : Int32) by decide), show nI d + 1 = nI (d + 1) from nI_1 d, if_pos hI, hx, zl_e, zb_eq (Mo_opens_eq hd), show nI i + 1 = nI (i + 1) from nI_1 i, e1]
  rw [w14_head ((F1.i (by unfold lvA; omega)).trans c5) c9 c4 ((F1.i (by unfold lvA; omega)).trans c8)]
  rw [if_neg (show ¬ nI 29 = (28 : Int32) by decide), if_neg (show ¬ nI 29 = (30 : Int32) by decide), if_neg (show ¬ nI 29 = (20 : Int32) by decide), if_neg (show ¬ nI 29 = (21 : Int32) by decide), if_neg (show ¬ nI 29 = (22 : Int32) by decide), if_neg (show ¬ nI 29 = (24 : Int32) by decide), if_neg (show ¬ nI 29 = (25 : Int32) by decide), if_neg (show ¬ nI 29 = (26 : Int32) by decide), if_neg (show ¬ nI 29 = (27 : Int32) by decide), if_pos (show nI 29 < (100 : Int32) by decide), if_pos (show (20 : Int32) ≤ nI 29 by decide)]
  unfold Mo_worked_243
  rw [if_pos (show nI 29 = (29 : Int32) from rfl), zb_eq t1, if_pos hI, hx, t2, zl_e, ed, show tvF v1 (d + 1) = V l f w dt from e2]
  rw [show i + (nI 28 :: (Q ++ [nI 29])).length - 1 = i + 1 + Q.length by simp only [List.length_cons, List.length_append, List.length_nil]; omega]
