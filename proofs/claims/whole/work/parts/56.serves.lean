/-! ===== serves ===== -/
def dsP (T : Bool) (E : Int32 → Int32 → Int32 → Int32 → Int32) (N : Nat → Nat) (K : Nat → Nat → Nat) (S : Nat → Nat) (w o b l d : Nat) : Bool := (prD T E N K S o b l (d + 1)).2.testBit (itS E N K S d (8 + K 3 w)) && srv (K 1 (K 3 w)) (itS E N K S d (1 + itS E N K S d (8 + K 3 w)))
theorem dsP_b0 {T : Bool} {E : Int32 → Int32 → Int32 → Int32 → Int32} {N : Nat → Nat} {K : Nat → Nat → Nat} {S : Nat → Nat} {w o l : Nat} : dsP T E N K S w o 0 l = dsP false E N K S w o 0 l := by
  funext d
  unfold dsP
  rw [(prD_b0 (d + 1)).1]
def dsB (S : Nat → Nat) (w o : Nat) : Nat := if S (19 + w) = 4 then 2 ^ S (13 + o) else 0
def dsL (S : Nat → Nat) (w o : Nat) : Nat := if S (19 + w) = o then 2 ^ S (13 + o) else 0
def dsv (E : Int32 → Int32 → Int32 → Int32 → Int32) (N : Nat → Nat) (K : Nat → Nat → Nat) (S : Nat → Nat) (w o : Nat) : Int32 := if S (19 + w) = 4 ∨ S (19 + w) = o then fst1 (dsP true E N K S w o (dsB S w o) (dsL S w o)) 61 0 else mI
theorem dsv_ok (E : Int32 → Int32 → Int32 → Int32 → Int32) (N : Nat → Nat) (K : Nat → Nat → Nat) (S : Nat → Nat) (w o : Nat) : dsv E N K S w o = mI ∨ ∃ j, j ≤ 60 ∧ dsv E N K S w o = nI j := by
  unfold dsv
  split
  · exact fst1_ok _ 61 0 (by omega)
  · exact Or.inl rfl
theorem placeOn_eq {u : zM} {d q x : Nat} (hq : q < 5) (hd : d ≤ 60) (h : gI u 78 (5 * d + q) = nI x) : Ou_placeOn (nI d) (nI q) u = some (nI x, u) := by
  simp (disch := omega) only [Ou_placeOn, li0, li1, li2, li3, li4, li5, li6, li7, li8, li9, li10, li11, li12, li13, li14, li15, li16, li17, li18, li19, li20, li21, li22, li23, li24, li25, li26, li27, li28, li29, li30, li31, li32, li37, li40, li41, li42, li43, li45, li47, li48, li57, li59, li60, li61, li63, li64, li75, li97, li98, li99, li100, li120, li122, li126, li200, li240, li255, li305, li306, li375, li400, li427, li428, li1000, li2000, li9999, neg_nI1, ↓reduceIte, nI_leI, nI_ltI, nI_eq, nI_add, nI_1, pk_mul, ix_nI, ib_nI, if_true, if_false, eq_self, true_and, and_true, not_false_eq_true, not_true_eq_false, Nat.reduceEqDiff, Nat.reduceLeDiff, Nat.reduceLT, Nat.reduceAdd, Nat.reduceMul, Nat.mul_comm d 5, h]
theorem tk_I {b l : Nat} (hb : b < 128) (hl : l < 128) : nI l ||| (nI b &&& 1) = nI (tkF true b l) := by
  rw [show (1 : Int32) = nI 1 from rfl, bn_and1 hb, bn_lor hl (and128 hb)]
  rfl
theorem serves_69 {u : zM} {t : Nat} {N S : Nat → Nat} {K : Nat → Nat → Nat} {E : Int32 → Int32 → Int32 → Int32 → Int32} (hW : Wf N K S) (hS : S 0 ≤ 600) (hu : NowC u t N K E 54 S) {o w b l : Nat} (ho : o < N 3) (hw' : w < N 4) (hb : b < 128) (hl : l < 128) (hO : ∀ d, d ≤ 60 → (∀ p, p < N 0 → gI u 77 (7 * d + p) = nI (itS E N K S d (1 + p))) ∧ (∀ q, q < N 2 → gI u 78 (5 * d + q) = nI (itS E N K S d (8 + q))) ∧ gI u 79 d = nI (wetS N (itS E N K S d))) : Ou_daysToServe_69 zF t 54 (nI o) (nI b) (nI l) (nI (K 3 w)) 0 u = some (fst1 (dsP true E N K S w o b l) 61 0, u) := by
  have lt := layT hu.2.1
  obtain ⟨n0, n1, n2, n3, n4, n5⟩ := hW.1
  have lk0 := NowC.lk hW hu
  have hL : ∀ p, p < N 0 → K 0 p < 128 := fun p hp => (lk0.2.2.2 p hp).2
  have hq := (hW.2.1.2.2.2.1 w hw').1
  have ck := (hu.2.2.1.2.2.1 (K 3 w) hq).1
  have hk3 := (hW.2.1.2.1 (K 3 w) hq).1
  have l54 : layC 54 = (17, 6) := rfl
  refine lpd (fun n (s : Int32 × Int32 × Int32) => Ou_daysToServe_69 n t 54 (nI o) s.1 s.2.1 (nI (K 3 w)) s.2.2 u) (fun k => (nI (prD true E N K S o b l k).1, nI (prD true E N K S o b l k).2, nI k)) (fun k => some (fst1 (dsP true E N K S w o b l) (61 - k) k, u)) 61 (by omega) (fun n => ?_) (fun n k hk => ?_)
  · show Ou_daysToServe_69b _ _ _ _ _ _ _ _ _ = _
    unfold Ou_daysToServe_69b
    rw [if_pos lt, if_pos l54, if_pos (show (60 : Int32) < nI 61 by decide)]
    rfl
  · have hwt := wetS_lt (S := itS E N K S k) hW.1
    have hwk := itS_wf (E := E) hW k (by omega)
    obtain ⟨o1, o2, o3⟩ := hO k (by omega)
    have hpl := hwk.2.2.2.2.1 (K 3 w) hq
    have e0 : Ou_daysToServe_69 (n + 1) t 54 (nI o) (nI (prD true E N K S o b l k).1) (nI (prD true E N K S o b l k).2) (nI (K 3 w)) (nI k) u = if dsP true E N K S w o b l k = true then some (nI k, u) else Ou_daysToServe_69 n t 54 (nI o) (nI (prD true E N K S o b l (k + 1)).1) (nI (prD true E N K S o b l (k + 1)).2) (nI (K 3 w)) (nI (k + 1)) u := by
      show Ou_daysToServe_69b _ _ _ _ _ _ _ _ _ = _
      obtain ⟨hB, hLd⟩ := prD_lt (T := true) (E := E) (S := S) (o := o) hL hb hl k
      unfold Ou_daysToServe_69b
      rw [if_pos lt, if_pos l54, if_neg (show ¬ (60 : Int32) < nI k from nI_nlt (a := 60) (b := k) (by omega) (by omega)), zb_eq (swimsOn_eq hW hu ho (by omega)), tk_I hB hLd, zl_e]
      have hsw := swD_lt hW ho k
      have e3 := prD_s true E N K S o b l k
      unfold dsP
      rw [e3]
      clear e3
      generalize (prD true E N K S o b l k).1 = B at *
      generalize (prD true E N K S o b l k).2 = L at *
      have hsrv := hwk.2.2.2.1 (itS E N K S k (8 + K 3 w)) hpl
      have f1 := placeOn_eq (by omega) (by omega) (o2 (K 3 w) hq)
      have f2 := waterOn_eq hpl n0 (show k ≤ 60 by omega) (o1 _ hpl)
      generalize itS E N K S k (1 + itS E N K S k (8 + K 3 w)) = WA at *
      generalize itS E N K S k (8 + K 3 w) = PL at *
      generalize wetS N (itS E N K S k) = wt at *
      have hsl := fun s (hs : s < 4) => swle hW ho k hs
      generalize nI (K 2 o) - nI (if k = 0 then S (16 + o) else 0) = c1 at *
      generalize swD K S o k = SW at *
      refine lpz (fun n' (s : Int32 × Int32 × Int32) => Ou_daysToServe_99 n' (Ou_daysToServe_69 n) t 54 (nI o) s.1 s.2.1 (nI (K 3 w)) (nI k) c1 s.2.2 u) (fun s => (nI (sw true (K 0) (N 0) wt B L s).1, nI (sw true (K 0) (N 0) wt B L s).2, nI s)) SW _ (by omega) (fun n' => ?_) (fun n' s hs => ?_)
      · show Ou_daysToServe_99b _ _ _ _ _ _ _ _ _ _ _ _ = _
        obtain ⟨q1, q2⟩ := sw_lt (T := true) (w := wt) hL hB hLd SW
        generalize sw true (K 0) (N 0) wt B L SW = Q at *
        unfold Ou_daysToServe_99b
        dsimp only
        rw [if_pos lt, if_pos l54, if_pos ((hsl SW (by omega)).mpr (Nat.le_refl _)), zb_eq f1, show ((nI Q.2 >>> (nI PL &&& 31)) &&& 1) = _ from bn_bit (show Q.2 < 1024 by omega) (show PL < 10 by omega), show nI k + 1 = nI (k + 1) from nI_1 k, if_pos (ib_nI (by omega) (by omega)), zb_eq f2, ix_nI (by omega), ck, zb_eq (St_isServable_eq hk3 hsrv)]
        cases Q.2.testBit PL
        · rw [if_pos (show nI false.toNat = (0 : Int32) from rfl), Bool.false_and, if_neg (by decide)]
        · rw [if_neg (show ¬ nI true.toNat = (0 : Int32) by decide), Bool.true_and]
          cases srv (K 1 (K 3 w)) WA
          · rw [if_pos (show bI false = (0 : Int32) from rfl), if_neg (by decide)]
          · rw [if_neg bIt_ne, if_pos rfl]
      · show Ou_daysToServe_99b _ _ _ _ _ _ _ _ _ _ _ _ = Ou_daysToServe_99 _ _ _ _ _ _ _ _ _ _ _ _
        obtain ⟨q1, q2⟩ := sw_lt (T := true) (w := wt) hL hB hLd s
        rw [sw_s]
        generalize sw true (K 0) (N 0) wt B L s = Q at *
        unfold Ou_daysToServe_99b
        dsimp only
        rw [if_pos lt, if_pos l54, if_neg (fun z => by have := (hsl s (by omega)).mp z; omega), if_pos (ib_nI (show k < 61 by omega) (by omega)), ix_nI (by omega), o3, zb_eq (Co_spread_eq lk0 q1 hwt), if_pos (ib_nI (show k < 61 by omega) (by omega)), o3, zb_eq (Co_spread_eq lk0 q2 hwt), tk_I (spr_lt hL q1) (spr_lt hL q2), zl_e, show nI s + 1 = nI (s + 1) from nI_1 s]
    have e1 : fst1 (dsP true E N K S w o b l) (61 - k) k = if dsP true E N K S w o b l k then nI k else fst1 (dsP true E N K S w o b l) (61 - (k + 1)) (k + 1) := by
      rw [show 61 - k = (61 - (k + 1)) + 1 by omega]
      exact fst1_s _ _ _
    show Ou_daysToServe_69 (n + 1) t 54 (nI o) (nI (prD true E N K S o b l k).1) (nI (prD true E N K S o b l k).2) (nI (K 3 w)) (nI k) u = some (fst1 (dsP true E N K S w o b l) (61 - k) k, u) ∨ _
    rw [e0, e1]
    cases hP : dsP true E N K S w o b l k
    · right
      exact ⟨by rw [if_neg (by decide)], by rw [if_neg (by decide)]⟩
    · left
      rw [if_pos rfl, if_pos rfl]
theorem hol_lt {N S : Nat → Nat} {K : Nat → Nat → Nat} (hW : Wf N K S) {w : Nat} (hw : w < N 4) : S (19 + w) < 5 := by
  have h1 := hW.2.2.2.2.2.2 w hw
  have h2 := hW.1.2.2.2.1
  omega
theorem daysToServe_eq {u : zM} {t : Nat} {N S : Nat → Nat} {K : Nat → Nat → Nat} {E : Int32 → Int32 → Int32 → Int32 → Int32} (hW : Wf N K S) (hS : S 0 ≤ 600) (hu : NowC u t N K E 54 S) {o w : Nat} (ho : o < N 3) (hw : w < N 4) (hO : ∀ d, d ≤ 60 → (∀ p, p < N 0 → gI u 77 (7 * d + p) = nI (itS E N K S d (1 + p))) ∧ (∀ q, q < N 2 → gI u 78 (5 * d + q) = nI (itS E N K S d (8 + q))) ∧ gI u 79 d = nI (wetS N (itS E N K S d))) : Ou_daysToServe t 54 (nI w) (nI o) u = some (dsv E N K S w o, u) := by
  have lt := layT hu.2.1
  obtain ⟨n0, n1, n2, n3, n4, n5⟩ := hW.1
  have l54 : layC 54 = (17, 6) := rfl
  have s1 := (hu.2.2.2.2.2.2.2.1 o ho).1
  have s2 := hu.2.2.2.2.2.2.2.2 w hw
  have hat := (hW.2.2.2.2.2.1 o ho).1
  have h5 := hol_lt hW hw
  have cw := (hu.2.2.1.2.2.2.2.1 w hw).1
  have hb : 2 ^ S (13 + o) < 128 := p2_lt (by omega)
  have hp : 0 < 2 ^ S (13 + o) := Nat.two_pow_pos _
  have i3 : ib (nI o) 3 = true := ib_nI (by omega) (by omega)
  have i6 : ib (nI w) 6 = true := ib_nI (by omega) (by omega)
  have s2 : gI u (54 + 5) w = hv (S (19 + w)) := s2
  have e46 : ∀ x y, Ou_daysToServe_46 t 54 (nI w) (nI o) x y u = if x ||| y = 0 then some (-1, u) else Ou_daysToServe_69 zF t 54 (nI o) x y (nI (K 3 w)) 0 u := by
    intro x y
    unfold Ou_daysToServe_46
    rw [if_pos lt, if_pos l54, if_pos i6, ix_nI (by omega), cw, zl_e]
  have e27 : ∀ x y, Ou_daysToServe_27 t 54 (nI w) (nI o) x y u = if hv (S (19 + w)) = nI o then Ou_daysToServe_46 t 54 (nI w) (nI o) y x u else Ou_daysToServe_46 t 54 (nI w) (nI o) y 0 u := by
    intro x y
    unfold Ou_daysToServe_27
    rw [if_pos lt, if_pos l54, if_pos i6, ix_nI (by omega), s2]
  unfold Ou_daysToServe
  rw [if_pos lt, if_pos l54, if_pos i3, ix_nI (by omega), show gI u (54 + 3) o = nI (S (13 + o)) from s1, show (1 : Int32) <<< (nI (S (13 + o)) &&& 31) = nI (2 ^ S (13 + o)) from bn_shl (by omega), zl_e, if_pos i6, ix_nI (by omega), s2, e27, e27, e46, e46, e46, e46]
  unfold dsv dsB dsL
  have m4 := hv_m h5
  have me := hv_eq h5 (show o < 4 by omega)
  have ne0 : ¬ nI (2 ^ S (13 + o)) = (0 : Int32) := fun q => by
    have := (nI_eq (b := 0) (by omega) (by omega)).mp q
    omega
  by_cases q4 : S (19 + w) = 4
  · have qo : ¬ S (19 + w) = o := by omega
    rw [if_pos (show hv (S (19 + w)) = -1 from m4.mpr q4), if_neg (fun q => qo (me.mp q)), show nI (2 ^ S (13 + o)) ||| (0 : Int32) = nI (2 ^ S (13 + o)) from bn_or0 _, if_neg ne0, if_pos (Or.inl q4), if_pos q4, if_neg qo]
    exact serves_69 hW hS hu ho hw hb (show 0 < 128 by decide) hO
  · rw [if_neg (show ¬ hv (S (19 + w)) = -1 from fun q => q4 (m4.mp q))]
    by_cases qo : S (19 + w) = o
    · rw [if_pos (me.mpr qo), if_pos (Or.inr qo), if_neg q4, if_pos qo, show (0 : Int32) ||| nI (2 ^ S (13 + o)) = nI (2 ^ S (13 + o)) from (bn_lor (a := 0) (by omega) hb).trans (by rw [Nat.zero_or]), if_neg ne0]
      exact serves_69 hW hS hu ho hw (show 0 < 128 by decide) hb hO
    · rw [if_neg (fun q => qo (me.mp q)), if_pos (show (0 : Int32) ||| 0 = 0 by decide), if_neg (show ¬ (S (19 + w) = 4 ∨ S (19 + w) = o) by omega)]
      rfl
