/-! ===== soon ===== -/
def swD (K : Nat → Nat → Nat) (S : Nat → Nat) (o d : Nat) : Nat := K 2 o - (if d = 0 then S (16 + o) else 0)
def prD (T : Bool) (E : Int32 → Int32 → Int32 → Int32 → Int32) (N : Nat → Nat) (K : Nat → Nat → Nat) (S : Nat → Nat) (o b l : Nat) : Nat → Nat × Nat
  | 0 => (b, l)
  | d + 1 => sw T (K 0) (N 0) (wetS N (itS E N K S d)) (prD T E N K S o b l d).1 (prD T E N K S o b l d).2 (swD K S o d)
theorem prD_s (T : Bool) (E : Int32 → Int32 → Int32 → Int32 → Int32) (N : Nat → Nat) (K : Nat → Nat → Nat) (S : Nat → Nat) (o b l d : Nat) : prD T E N K S o b l (d + 1) = sw T (K 0) (N 0) (wetS N (itS E N K S d)) (prD T E N K S o b l d).1 (prD T E N K S o b l d).2 (swD K S o d) := rfl
theorem prD_lt {T : Bool} {E : Int32 → Int32 → Int32 → Int32 → Int32} {N : Nat → Nat} {K : Nat → Nat → Nat} {S : Nat → Nat} {o b l : Nat} (h : ∀ p, p < N 0 → K 0 p < 128) (hb : b < 128) (hl : l < 128) (d : Nat) : (prD T E N K S o b l d).1 < 128 ∧ (prD T E N K S o b l d).2 < 128 := by
  induction d with
  | zero => exact ⟨hb, hl⟩
  | succ d ih => exact sw_lt h ih.1 ih.2 _
theorem prD_b0 {T : Bool} {E : Int32 → Int32 → Int32 → Int32 → Int32} {N : Nat → Nat} {K : Nat → Nat → Nat} {S : Nat → Nat} {o l : Nat} (d : Nat) : prD T E N K S o 0 l d = prD false E N K S o 0 l d ∧ (prD false E N K S o 0 l d).1 = 0 := by
  induction d with
  | zero => exact ⟨rfl, rfl⟩
  | succ d ih =>
    rw [prD_s, prD_s, ih.1, ih.2]
    exact ⟨sw_b0 _, by rw [sw_1, itr_0]⟩
theorem itS_sw {E : Int32 → Int32 → Int32 → Int32 → Int32} {N : Nat → Nat} {K : Nat → Nat → Nat} {S : Nat → Nat} {o : Nat} (ho : o < 3) (d : Nat) : itS E N K S d (16 + o) = if d = 0 then S (16 + o) else 0 := by
  cases d with
  | zero => rfl
  | succ d =>
    rw [if_neg (by omega)]
    show nextS E N K _ _ (16 + o) = 0
    unfold nextS
    rw [upN_ne (by omega)]
    unfold rS
    rw [if_pos (by omega)]
theorem swD_lt {N S : Nat → Nat} {K : Nat → Nat → Nat} (hW : Wf N K S) {o : Nat} (ho : o < N 3) (d : Nat) : swD K S o d ≤ 3 := by
  have := (hW.2.1.2.2.1 o ho).2.1
  unfold swD
  omega
theorem swimsOn_eq {u : zM} {t : Nat} {N S : Nat → Nat} {K : Nat → Nat → Nat} {E : Int32 → Int32 → Int32 → Int32 → Int32} (hW : Wf N K S) (hu : NowC u t N K E 54 S) {o d : Nat} (ho : o < N 3) (hd : d < 2 ^ 31) : Ou_swimsOn (nI d) t 54 (nI o) u = some (nI (K 2 o) - nI (if d = 0 then S (16 + o) else 0), u) := by
  have lt := layT hu.2.1
  have n3 := hW.1.2.2.2.1
  have c1 := (hu.2.2.1.2.2.2.1 o ho).1
  have s1 := (hu.2.2.2.2.2.2.2.1 o ho).2
  unfold Ou_swimsOn
  rw [if_pos lt, if_pos (show layC 54 = (17, 6) from rfl), if_pos (ib_nI (by omega) (by omega)), ix_nI (by omega), c1, show gI u (54 + 4) o = nI (S (16 + o)) from s1]
  by_cases h : d = 0
  · rw [if_pos (show nI d = (0 : Int32) by rw [h]; rfl), if_pos (ib_nI (by omega) (by omega)), if_pos h]
  · rw [if_neg (show ¬ nI d = (0 : Int32) from fun q => h ((nI_eq (b := 0) hd (by omega)).mp q)), if_neg h]
    rfl
theorem swle {N S : Nat → Nat} {K : Nat → Nat → Nat} (hW : Wf N K S) {o : Nat} (ho : o < N 3) (d : Nat) {s : Nat} (hs : s < 4) : (nI (K 2 o) - nI (if d = 0 then S (16 + o) else 0) ≤ nI s) ↔ swD K S o d ≤ s := by
  have h1 := (hW.2.1.2.2.1 o ho).2.1
  have h2 := (hW.2.2.2.2.2.1 o ho).2
  exact swC _ (by omega) _ (by split <;> omega) s hs
def soP (E : Int32 → Int32 → Int32 → Int32 → Int32) (N : Nat → Nat) (K : Nat → Nat → Nat) (S : Nat → Nat) (o p d : Nat) : Bool := (prD false E N K S o (2 ^ S (13 + o)) 0 (d + 1)).1.testBit p
theorem daysToPlace_eq {u : zM} {t : Nat} {N S : Nat → Nat} {K : Nat → Nat → Nat} {E : Int32 → Int32 → Int32 → Int32 → Int32} (hW : Wf N K S) (hu : NowC u t N K E 54 S) {o p : Nat} (ho : o < N 3) (hp : p < N 0) (hO : ∀ d, d ≤ 60 → gI u 79 d = nI (wetS N (itS E N K S d))) : Ou_daysToPlace t 54 (nI o) (nI p) u = some (fst1 (soP E N K S o p) 61 0, u) := by
  have lt := layT hu.2.1
  obtain ⟨n0, n1, n2, n3, n4, n5⟩ := hW.1
  have lk0 := NowC.lk hW hu
  have hL : ∀ p, p < N 0 → K 0 p < 128 := fun p hp => (lk0.2.2.2 p hp).2
  have s1 := (hu.2.2.2.2.2.2.2.1 o ho).1
  have hat := (hW.2.2.2.2.2.1 o ho).1
  have hb : 2 ^ S (13 + o) < 128 := p2_lt (by omega)
  have hlt := fun d => prD_lt (T := false) (E := E) (S := S) (o := o) hL hb (show 0 < 128 by omega) d
  unfold Ou_daysToPlace
  rw [if_pos lt, if_pos (show layC 54 = (17, 6) from rfl), if_pos (ib_nI (by omega) (by omega)), ix_nI (by omega), show gI u (54 + 3) o = nI (S (13 + o)) from s1, show (1 : Int32) <<< (nI (S (13 + o)) &&& 31) = nI (2 ^ S (13 + o)) from bn_shl (by omega), zl_e]
  refine lpd (fun n (s : Int32 × Int32) => Ou_daysToPlace_13 n t 54 (nI o) (nI p) s.1 s.2 u) (fun k => (nI (prD false E N K S o (2 ^ S (13 + o)) 0 k).1, nI k)) (fun k => some (fst1 (soP E N K S o p) (61 - k) k, u)) 61 (by omega) (fun n => ?_) (fun n k hk => ?_)
  · show Ou_daysToPlace_13b _ _ _ _ _ _ _ _ = _
    unfold Ou_daysToPlace_13b
    rw [if_pos lt, if_pos (show layC 54 = (17, 6) from rfl), if_pos (show (60 : Int32) < nI 61 by decide)]
    rfl
  · have hw := wetS_lt (S := itS E N K S k) hW.1
    have e0 : Ou_daysToPlace_13 (n + 1) t 54 (nI o) (nI p) (nI (prD false E N K S o (2 ^ S (13 + o)) 0 k).1) (nI k) u = if soP E N K S o p k = true then some (nI k, u) else Ou_daysToPlace_13 n t 54 (nI o) (nI p) (nI (prD false E N K S o (2 ^ S (13 + o)) 0 (k + 1)).1) (nI (k + 1)) u := by
      show Ou_daysToPlace_13b _ _ _ _ _ _ _ _ = _
      unfold Ou_daysToPlace_13b
      rw [if_pos lt, if_pos (show layC 54 = (17, 6) from rfl), if_neg (show ¬ (60 : Int32) < nI k from nI_nlt (a := 60) (b := k) (by omega) (by omega)), zb_eq (swimsOn_eq hW hu ho (by omega))]
      have hsw := swD_lt hW ho k
      have e3 : (prD false E N K S o (2 ^ S (13 + o)) 0 (k + 1)).1 = itr (K 0) (N 0) (wetS N (itS E N K S k)) (prD false E N K S o (2 ^ S (13 + o)) 0 k).1 (swD K S o k) := by rw [prD_s, sw_1]
      unfold soP
      rw [e3]
      obtain ⟨hh, _⟩ := hlt k
      have hO := hO k (by omega)
      generalize (prD false E N K S o (2 ^ S (13 + o)) 0 k).1 = h at *
      generalize wetS N (itS E N K S k) = w at *
      have hsl := fun s (hs : s < 4) => swle hW ho k hs
      generalize nI (K 2 o) - nI (if k = 0 then S (16 + o) else 0) = c1 at *
      generalize swD K S o k = SW at *
      refine lpz (fun n' (s : Int32 × Int32) => Ou_daysToPlace_33 n' (Ou_daysToPlace_13 n) t 54 (nI o) (nI p) s.1 (nI k) c1 s.2 u) (fun s => (nI (itr (K 0) (N 0) w h s), nI s)) SW _ (by omega) (fun n' => ?_) (fun n' s hs => ?_)
      · show Ou_daysToPlace_33b _ _ _ _ _ _ _ _ _ _ _ = _
        have hb2 := itr_lt (op := w) hL hh SW
        unfold Ou_daysToPlace_33b
        dsimp only
        rw [if_pos lt, if_pos (show layC 54 = (17, 6) from rfl), if_pos ((hsl SW (by omega)).mpr (Nat.le_refl _)), show ((nI (itr (K 0) (N 0) w h SW) >>> (nI p &&& 31)) &&& 1) = _ from bn_bit (show itr (K 0) (N 0) w h SW < 1024 by omega) (show p < 10 by omega), show nI k + 1 = nI (k + 1) from nI_1 k]
        cases (itr (K 0) (N 0) w h SW).testBit p
        · rw [if_pos (show nI false.toNat = (0 : Int32) from rfl), if_neg (by decide)]
        · rw [if_neg (show ¬ nI true.toNat = (0 : Int32) by decide), if_pos rfl]
      · show Ou_daysToPlace_33b _ _ _ _ _ _ _ _ _ _ _ = Ou_daysToPlace_33 _ _ _ _ _ _ _ _ _ _ _
        have hb2 := itr_lt (op := w) hL hh s
        unfold Ou_daysToPlace_33b
        dsimp only
        rw [if_pos lt, if_pos (show layC 54 = (17, 6) from rfl), if_neg (fun z => by have := (hsl s (by omega)).mp z; omega), if_pos (ib_nI (show k < 61 by omega) (by omega)), ix_nI (by omega), hO, zb_eq (Co_spread_eq lk0 hb2 hw), show nI s + 1 = nI (s + 1) from nI_1 s]
        rfl
    have e1 : fst1 (soP E N K S o p) (61 - k) k = if soP E N K S o p k then nI k else fst1 (soP E N K S o p) (61 - (k + 1)) (k + 1) := by
      rw [show 61 - k = (61 - (k + 1)) + 1 by omega]
      exact fst1_s _ _ _
    show Ou_daysToPlace_13 (n + 1) t 54 (nI o) (nI p) (nI (prD false E N K S o (2 ^ S (13 + o)) 0 k).1) (nI k) u = some (fst1 (soP E N K S o p) (61 - k) k, u) ∨ _
    rw [e0, e1]
    cases hP : soP E N K S o p k
    · right
      exact ⟨by rw [if_neg (by decide)], by rw [if_neg (by decide)]⟩
    · left
      rw [if_pos rfl, if_pos rfl]
/-- the reference -/
theorem GoM.s1 {v m : zM} {N S : Nat → Nat} {K : Nat → Nat → Nat} {E : Int32 → Int32 → Int32 → Int32 → Int32} {d : Nat} (hN : WfN N) (h : GoM v m N K E S d) {k : Nat} (h1 : k ≠ 1) (h2 : k ≠ 56) (x : Int32) : GoM v (sI m 1 k x) N K E S d := by
  obtain ⟨a1, a2, a3⟩ := h
  refine ⟨a1.st hN (fun c j _ _ => gs_ne (by omega)) (a1.2.2.fr hN (fun j _ => gs_ne (by omega))), fun j hj => (gs_ne (by omega)).trans (a2 j hj), a3.tr (Fr.sI (by unfold goA; omega))⟩
theorem GoM.fr1 {v m m' : zM} {N S : Nat → Nat} {K : Nat → Nat → Nat} {E : Int32 → Int32 → Int32 → Int32 → Int32} {d : Nat} (hN : WfN N) (h : GoM v m N K E S d) (hf : Fr (fun a k => a = 1 ∧ (k = 58 ∨ k = 59)) m m') : GoM v m' N K E S d := by
  obtain ⟨a1, a2, a3⟩ := h
  refine ⟨a1.st hN (fun c j _ _ => hf.i (by omega)) (a1.2.2.fr hN (fun j _ => hf.i (by omega))), fun j hj => (hf.i (by omega)).trans (a2 j hj), a3.tr (hf.mono (fun c k h => by unfold goA; omega))⟩
/-- a step of days leaves where one may be -/
theorem go_step58 {v m : zM} {N S : Nat → Nat} {K : Nat → Nat → Nat} {E : Int32 → Int32 → Int32 → Int32 → Int32} {d : Nat} (hW : Wf N K S) (hS : S 0 + d < 2 ^ 20) (h : GoM v m N K E S d) : ∃ m', Mo_passesAsTold m = some ((), m') ∧ GoM v m' N K E S (d + 1) ∧ ∀ k, gI m' 1 k = gI m 1 k := by
  have hw := itS_wf (E := E) hW d hS
  obtain ⟨m', e1, e2, e3⟩ := Mo_passesAsTold_eq hw h.1
  refine ⟨m', e1, ⟨e2, fun k hk => (e3.i (by unfold pasA; omega)).trans (h.2.1 k hk), h.2.2.tr (e3.mono (fun c k q => by unfold pasA at q; unfold goA; omega))⟩, fun k => e3.i (by unfold pasA; omega)⟩
theorem fst1_ok (P : Nat → Bool) : ∀ r k, k + r ≤ 61 → fst1 P r k = mI ∨ ∃ j, j ≤ 60 ∧ fst1 P r k = nI j := by
  intro r
  induction r with
  | zero => intro k _; exact Or.inl rfl
  | succ r ih =>
    intro k hk
    rw [fst1_s]
    split
    · exact Or.inr ⟨k, by omega, rfl⟩
    · exact ih (k + 1) (by omega)
theorem soonM {v m0 : zM} {N S : Nat → Nat} {K : Nat → Nat → Nat} {E : Int32 → Int32 → Int32 → Int32 → Int32} (hW : Wf N K S) (hS : S 0 ≤ 600) (h : GoM v m0 N K E S 0) {o p : Nat} (ho : o < N 3) (hp : p < N 0) (h58 : gI m0 1 58 = nI (2 ^ S (13 + o))) (h59 : gI m0 1 59 = nI 0) : ∃ v', Mo_soon_61 zF (nI o) (nI p) (-1) 0 m0 = some (fst1 (soP E N K S o p) 61 0, v') ∧ (∀ k, k < 25 → gI v' 40 k = gI v 40 k) ∧ Fr goA v v' := by
  obtain ⟨n0, n1, n2, n3, n4, n5⟩ := hW.1
  have lk0 := NowM.lk (itS_wf (E := E) hW 0 (by omega)) h.1
  have hL : ∀ p, p < N 0 → K 0 p < 128 := fun p hp => (lk0.2.2 p hp).2
  have hat := (hW.2.2.2.2.2.1 o ho).1
  have hb : 2 ^ S (13 + o) < 128 := p2_lt (by omega)
  have hlt := fun d => prD_lt (T := false) (E := E) (S := S) (o := o) hL hb (show 0 < 128 by omega) d
  refine lprz (fun n (s : Int32 × Int32 × zM) => Mo_soon_61 n (nI o) (nI p) s.1 s.2.1 s.2.2) (fun k s => s.2.1 = nI k ∧ GoM v s.2.2 N K E S k ∧ gI s.2.2 1 58 = nI (prD false E N K S o (2 ^ S (13 + o)) 0 k).1 ∧ gI s.2.2 1 59 = nI (prD false E N K S o (2 ^ S (13 + o)) 0 k).2 ∧ ((s.1 = mI ∧ fst1 (soP E N K S o p) 61 0 = fst1 (soP E N K S o p) (61 - k) k) ∨ (∃ j, j ≤ 60 ∧ s.1 = nI j ∧ fst1 (soP E N K S o p) 61 0 = nI j))) (fun r => ∃ v', r = some (fst1 (soP E N K S o p) 61 0, v') ∧ (∀ k, k < 25 → gI v' 40 k = gI v 40 k) ∧ Fr goA v v') 61 (mI, nI 0, m0) (by omega) ⟨rfl, h, h58, h59, Or.inl ⟨rfl, rfl⟩⟩ ?_ ?_
  · rintro n ⟨x, y, m⟩ ⟨h1, h2, h3, h4, h5⟩
    dsimp only at h1 h2 h3 h4 h5 ⊢
    subst h1
    obtain ⟨v', b1, b2, b3⟩ := go_back h2
    refine ⟨v', ?_, b2, b3⟩
    show Mo_soon_61b _ _ _ _ _ _ = _
    unfold Mo_soon_61b
    rw [if_pos (show (60 : Int32) < nI 61 by decide), zb_eq (show Mo_copies 42 0 40 0 m = _ from b1)]
    rcases h5 with ⟨h5, h6⟩ | ⟨j, _, h5, h6⟩
    · rw [h5, h6]; rfl
    · rw [h5, h6]
  · rintro n k ⟨x, y, m⟩ hk ⟨h1, h2, h3, h4, h5⟩
    dsimp only at h1 h2 h3 h4 h5 ⊢
    subst h1
    rcases h5 with ⟨h5, h6⟩ | ⟨j, hj, h5, h6⟩
    · right
      subst h5
      have hwk := itS_wf (E := E) hW k (by omega)
      obtain ⟨b1, b2⟩ := hlt k
      have hsw := swD_lt hW ho k
      have q1 := (hW.2.1.2.2.1 o ho).2.1
      have q2 := (hwk.2.2.2.2.2.1 o ho).2
      obtain ⟨m1, s1, s2, s3, s4⟩ := Mo_swimsAll_eq hwk h2.1 b1 b2 h3 h4 hsw false
      have g1 := h2.fr1 hW.1 s4
      obtain ⟨m2, p1, p2, p3⟩ := go_step58 hW (by omega) g1
      rw [← prD_s] at s2 s3
      have c13 : gI m 13 o = nI (K 2 o) := (h2.1.1.2.2.2.1 o ho).1
      have c16 : gI m 40 (16 + o) = nI (itS E N K S k (16 + o)) := by have := (h2.1.2.2.2.2.2.1 o ho).2; rwa [Nat.zero_add] at this
      have eM : Jm_max 0 (nI (K 2 o) - nI (itS E N K S k (16 + o))) m = some (nI (swD K S o k), m) := by
        rw [swMax (by omega) (by omega), itS_sw (by omega)]
        rfl
      have e16 : (16 : Int32) + nI o = nI (16 + o) := nI_add 16 o
      have n1 : nI k + 1 = nI (k + 1) := nI_1 k
      have hb2 := hlt (k + 1)
      have eB : (gI m1 1 58 >>> (nI p &&& 31)) &&& 1 = nI (soP E N K S o p k).toNat := by
        rw [s2]
        exact bn_bit (by omega) (by omega)
      have e1 : fst1 (soP E N K S o p) (61 - k) k = if soP E N K S o p k then nI k else fst1 (soP E N K S o p) (61 - (k + 1)) (k + 1) := by
        rw [show 61 - k = (61 - (k + 1)) + 1 by omega]
        exact fst1_s _ _ _
      refine ⟨(if soP E N K S o p k = true then nI k else mI, nI (k + 1), m2), ⟨rfl, p2, (p3 _).trans s2, (p3 _).trans s3, ?_⟩, ?_⟩
      · rw [h6, e1]
        cases soP E N K S o p k
        · left; exact ⟨by rw [if_neg (by decide)], by rw [if_neg (by decide)]⟩
        · right; exact ⟨k, by omega, by rw [if_pos rfl], by rw [if_pos rfl]⟩
      · show Mo_soon_61b _ _ _ _ _ _ = Mo_soon_61 _ _ _ _ _ _
        unfold Mo_soon_61b
        rw [if_neg (show ¬ (60 : Int32) < nI k from nI_nlt (a := 60) (b := k) (by omega) (by omega)), if_neg (show ¬ (0 : Int32) ≤ mI by decide), if_pos (ib_nI (by omega) (by omega)), e16, if_pos (ib_nI (by omega) (by omega)), ix_nI (by omega), ix_nI (by omega), c13, c16, zb_eq eM, zb_eq (show Mo_swimsAll (nI (swD K S o k)) 0 m = some ((), m1) from s1), eB, zb_eq p1, zb_eq p1, n1]
        cases soP E N K S o p k
        · rw [if_neg (show ¬ nI false.toNat = (1 : Int32) by decide), if_neg (show ¬ false = true by decide)]
        · rw [if_pos (show nI true.toNat = (1 : Int32) from rfl), if_pos rfl]
    · left
      obtain ⟨v', b1, b2, b3⟩ := go_back h2
      refine ⟨v', ?_, b2, b3⟩
      show Mo_soon_61b _ _ _ _ _ _ = _
      unfold Mo_soon_61b
      rw [if_neg (show ¬ (60 : Int32) < nI k from nI_nlt (a := 60) (b := k) (by omega) (by omega)), h5, if_pos (show (0 : Int32) ≤ nI j from nI_le (Nat.zero_le _) (by omega)), zb_eq (show Mo_copies 42 0 40 0 m = _ from b1), h6]
theorem c_soon {n : Nat} {u v : zM} (h : Inv n u v) (hn : n < 600) (x y : Int32) : ∃ r u' v', OW_soon x y u = some (r, u') ∧ Mo_soon x y v = some (r, v') ∧ Inv (n + 1) u' v' := by
  obtain ⟨h6, t, l, N, K, E, S, h0⟩ := h
  have h := h0.th
  have hS : S 0 ≤ 600 := Nat.le_trans h.2.1 h6
  have rt := h.2.2.1.1
  have lt := layT h.2.2.1.2.1
  obtain ⟨n0, n1, n2, n3, n4, n5⟩ := h.1.1
  unfold Mo_soon OW_soon
  rw [zl_e]
  generalize sI v 1 0 0 = v at *
  rcases arg_ix x (show N 3 < 2 ^ 31 by omega) with ⟨o, ho, rfl⟩ | hx
  · rcases arg_ix y (show N 0 < 2 ^ 31 by omega) with ⟨p, hp, rfl⟩ | hy
    · obtain ⟨u1, a1, a2, a3, a4, a5⟩ := foretell_eq h.1 h.2.2.1 hS h.2.2.2.2.2.2.2.2.2.1 (D := 60) (by omega)
      have e1 := daysToPlace_eq h.1 a3 ho hp (fun d hd => (a5 d hd).2.2)
      obtain ⟨m1, b1, b2⟩ := go_start h.1 h.2.2.2.1
      have c1 : gI m1 40 (13 + o) = nI (S (13 + o)) := by have := (b2.1.2.2.2.2.2.1 o ho).1; rwa [Nat.zero_add] at this
      have hat := (h.1.2.2.2.2.2.1 o ho).1
      obtain ⟨v', d1, d2, d3⟩ := soonM h.1 hS ((b2.s1 h.1.1 (k := 58) (by omega) (by omega) (nI (2 ^ S (13 + o)))).s1 h.1.1 (k := 59) (by omega) (by omega) 0) ho hp ((gs_ne (by omega)).trans (gs_eq ⟨rfl, rfl⟩)) (gs_eq ⟨rfl, rfl⟩)
      refine ⟨fst1 (soP E N K S o p) 61 0, u1, v', ?_, ?_, by omega, t, l, N, K, E, S, h.out (a4.mono (fun c k q => Or.inl q)) d3 d2 a2⟩
      · rw [zb_eq (OW_isOtter_ok h.1 h.2.2.1 ho), if_neg one_ne, zb_eq (OW_isPlace_ok h.1 h.2.2.1 hp), if_neg one_ne, rt, if_pos lt, zb_eq (show Ou_foretell t 54 60 u = some ((), u1) from a1), a3.1, if_pos lt, zb_eq e1]
      · rw [zb_eq (Mo_isOtter_ok h.1 h.2.2.2.1 ho), if_neg one_ne, zb_eq (Mo_isPlace_ok h.1 h.2.2.2.1 hp), if_neg one_ne, zb_eq (show Mo_copies 40 0 42 0 v = some ((), m1) from b1), show (13 : Int32) + nI o = nI (13 + o) from nI_add 13 o, if_pos (ib_nI (by omega) (by omega)), ix_nI (by omega), c1, show (1 : Int32) <<< (nI (S (13 + o)) &&& 31) = nI (2 ^ S (13 + o)) from bn_shl (by omega), zl_e, zl_e]
        exact d1
    · refine ⟨mI, u, v, ?_, ?_, by omega, t, l, N, K, E, S, h.up⟩
      · rw [zb_eq (OW_isOtter_ok h.1 h.2.2.1 ho), if_neg one_ne, zb_eq (OW_isPlace_no h.1 h.2.2.1 hy)]; rfl
      · rw [zb_eq (Mo_isOtter_ok h.1 h.2.2.2.1 ho), if_neg one_ne, zb_eq (Mo_isPlace_no h.1 h.2.2.2.1 hy)]; rfl
  · refine ⟨mI, u, v, ?_, ?_, by omega, t, l, N, K, E, S, h.up⟩
    · rw [zb_eq (OW_isOtter_no h.1 h.2.2.1 hx)]; rfl
    · rw [zb_eq (Mo_isOtter_no h.1 h.2.2.2.1 hx)]; rfl
