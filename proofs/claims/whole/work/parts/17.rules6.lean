/-! ===== cells that come (constructors): the world in which references are all read ===== -/
theorem zsort {c : Nat} (h : c < 11) : ∀ k, k < zNf c → (zint (zty c k) || zref (zty c k) || decide (zty c k = .long)) = true := by
  match c, h with
  | 0, _ => decide +kernel
  | 1, _ => decide +kernel
  | 2, _ => decide +kernel
  | 3, _ => decide +kernel
  | 4, _ => decide +kernel
  | 5, _ => decide +kernel
  | 6, _ => decide +kernel
  | 7, _ => decide +kernel
  | 8, _ => decide +kernel
  | 9, _ => decide +kernel
  | 10, _ => decide +kernel
def zid (r : Nat → Nat → Nat) : Nat → Nat → Nat := r
theorem gN_sN (m : zM) : gN (sN m) = gN m + 1 := rfl
theorem sN_row (m : zM) {x : Nat} (hx : x ≠ gN m + 1) : (∀ k, gI (sN m) x k = gI m x k) ∧ (∀ k, gL (sN m) x k = gL m x k) ∧ ∀ k, (sN m).2.2.1 x k = m.2.2.1 x k := by
  refine ⟨fun k => ?_, fun k => ?_, fun k => ?_⟩
  · show (if x = gN m + 1 then 0 else m.1 x k) = m.1 x k
    rw [if_neg hx]
  · show (if x = gN m + 1 then 0 else m.2.1 x k) = m.2.1 x k
    rw [if_neg hx]
  · show (if x = gN m + 1 then 0 else m.2.2.1 x k) = m.2.2.1 x k
    rw [if_neg hx]
theorem sN_new (m : zM) : (∀ k, gI (sN m) (gN m + 1) k = 0) ∧ (∀ k, gL (sN m) (gN m + 1) k = 0) ∧ ∀ k, (sN m).2.2.1 (gN m + 1) k = 0 := by
  refine ⟨fun k => ?_, fun k => ?_, fun k => ?_⟩
  · show (if gN m + 1 = gN m + 1 then 0 else m.1 (gN m + 1) k) = 0
    rw [if_pos rfl]
  · show (if gN m + 1 = gN m + 1 then 0 else m.2.1 (gN m + 1) k) = 0
    rw [if_pos rfl]
  · show (if gN m + 1 = gN m + 1 then 0 else m.2.2.1 (gN m + 1) k) = 0
    rw [if_pos rfl]
theorem zRep.new {D : zD} {b : Nat} {lay : Nat → Nat × Nat} {mem : zM} {H H' : Heap} (h : zRep D b lay zid (0, true) mem H) (hlt : b + gN mem < H.size) (hq : ∀ q, q < H.size → H'[q]? = H[q]?)
    (h1 : ∀ k n, lay (gN mem + 1) = (k, n) → (k = 1 ∨ k = 3 ∨ k = 4) → H'[b + (gN mem + 1)]? = some (arrV (D.2.2.1 k) n (fun _ => .int 0)))
    (h2 : ∀ n, lay (gN mem + 1) = (2, n) → H'[b + (gN mem + 1)]? = some (arrV (D.2.2.1 2) n (fun _ => .long 0)))
    (h3 : ∀ k n, lay (gN mem + 1) = (k, n) → (k = 5 ∨ k = 6) → H'[b + (gN mem + 1)]? = some (arrV (D.2.2.1 k) n (fun _ => .null)))
    (h4 : ∀ c n, lay (gN mem + 1) = (10 + c, n) → t_OB (b + (gN mem + 1)) (D.1 c) (zNf c) (D.2.1 c) H' (fun k => zfv b zid (sN mem) (gN mem + 1) (zty c k) k)) : zRep D b lay zid (0, true) (sN mem) H' := by
  have old : ∀ x, zok (0, true) (sN mem) x → x ≠ gN mem + 1 → zok (0, true) mem x ∧ b + x < H.size := by
    intro x hx hne
    obtain ⟨k1, k2 | ⟨k2, k3⟩⟩ := hx
    · exact absurd k2 (by show ¬ x ≤ 0; omega)
    · rw [gN_sN] at k3
      exact ⟨⟨k1, Or.inr ⟨rfl, by omega⟩⟩, by omega⟩
  refine ⟨fun x k z g1 g2 g3 => ?_, fun x z g1 g2 => ?_, fun x k z g1 g2 g3 => ?_, fun x c z g1 g2 => ?_⟩
  · by_cases hx : x = gN mem + 1
    · subst hx
      rw [h1 k z g2 g3]
      simp only [(sN_new mem).1]
    · obtain ⟨o1, o2⟩ := old x g1 hx
      rw [hq _ o2, h.1 x k z o1 g2 g3]
      simp only [(sN_row mem hx).1]
  · by_cases hx : x = gN mem + 1
    · subst hx
      rw [h2 z g2]
      simp only [(sN_new mem).2.1]
    · obtain ⟨o1, o2⟩ := old x g1 hx
      rw [hq _ o2, h.2.1 x z o1 g2]
      simp only [(sN_row mem hx).2.1]
  · by_cases hx : x = gN mem + 1
    · subst hx
      rw [h3 k z g2 g3]
      simp only [zid, (sN_new mem).2.2, zrv]
    · obtain ⟨o1, o2⟩ := old x g1 hx
      rw [hq _ o2, h.2.2.1 x k z o1 g2 g3]
      simp only [zid, (sN_row mem hx).2.2]
  · by_cases hx : x = gN mem + 1
    · subst hx
      exact h4 c z g2
    · obtain ⟨o1, o2⟩ := old x g1 hx
      refine ((h.2.2.2 x c z o1 g2).kept (hq _ o2)).to (fun k _ => ?_)
      unfold zfv zid
      simp only [(sN_row mem hx).1, (sN_row mem hx).2.1, (sN_row mem hx).2.2]
abbrev wD (D : zD) (b : Nat) (lay : Nat → Nat × Nat) : zWd := (D, b, lay, zid, 0, true)
/-- a cell that is there, of a kind -/
def zkd (lay : Nat → Nat × Nat) (u : zM) (a k n : Nat) : Bool := decide (lay a = (k, n)) && (Nat.ble 1 a && Nat.ble a (gN u))
theorem zkd_lay {lay : Nat → Nat × Nat} {u : zM} {a k n : Nat} (h : zkd lay u a k n = true) : lay a = (k, n) := by
  simp only [zkd, Bool.and_eq_true, decide_eq_true_eq] at h
  exact h.1
theorem zkd_ok {lay : Nat → Nat × Nat} {u : zM} {a k n : Nat} (h : zkd lay u a k n = true) : zok (0, true) u a := by
  simp only [zkd, Bool.and_eq_true, decide_eq_true_eq] at h
  exact ⟨Nat.le_of_ble_eq_true h.2.1, Or.inr ⟨rfl, Nat.le_of_ble_eq_true h.2.2⟩⟩
theorem zkd_pos {lay : Nat → Nat × Nat} {u : zM} {a k n : Nat} (h : zkd lay u a k n = true) : 1 ≤ a := (zkd_ok h).1

section ZR
variable {α : Type} {enc : α → Option Value} {p : Program} {l : Launch} {e : Env} {R : Room} {s : State} {m : MethodId} {args : Array Value} {below : List Frame} {meth : Method} {c : Code} {D : zD} {b : Nat} {lay : Nat → Nat × Nat} {m0 : zM} {nL : Nat} {fin : α × zM} {pc : Nat} {L : List (Nat × Value)} {st : List Value} {mem : zM} {o : Option (α × zM)} {own : String} {cc : ByteArray} {ret : Option FieldType}

theorem zD_room {H : Heap} {locs : List Loc} (hI : zI (wD D b lay) s m0 mem H locs) (hR : R.cells = zc (wD D b lay) m0 fin.2 ∧ R.slots = zs (wD D b lay) m0 fin.2) (h1 : gN mem + 1 ≤ gN fin.2) : zc (wD D b lay) m0 mem + 1 ≤ R.cells ∧ zs (wD D b lay) m0 mem + (lay (gN mem + 1)).2 ≤ R.slots ∧ zc (wD D b lay) m0 mem + 1 = zc (wD D b lay) m0 (sN mem) ∧ zs (wD D b lay) m0 mem + (lay (gN mem + 1)).2 = zs (wD D b lay) m0 (sN mem) := by
  have h0 := hI.2.1 rfl
  have a0 := zsum_mono lay h0
  have a1 := zsum_mono lay h1
  have e : zsum lay (gN mem + 1) = zsum lay (gN mem) + (lay (gN mem + 1)).2 := rfl
  rw [hR.1, hR.2]
  simp only [zc, zs, if_pos, gN_sN]
  omega
theorem zD_top {H : Heap} {locs : List Loc} (hc : zCx p s m args meth c (wD D b lay) m0 own cc nL ret) (hI : zI (wD D b lay) s m0 mem H locs) : H.size = b + (gN mem + 1) := by
  have h1 := hc.2.2.2.2.2.2.2.2.2 rfl
  have h2 := hI.2.1 rfl
  have h3 := hI.2.2.1
  rw [h3, h1]
  simp only [zc, if_pos]
  omega
theorem zD_new {H H' : Heap} {locs : List Loc} (hc : zCx p s m args meth c (wD D b lay) m0 own cc nL ret) (hI : zI (wD D b lay) s m0 mem H locs) (hz : H'.size = H.size + 1) (hq : ∀ q, q < H.size → H'[q]? = H[q]?) (hr : zRep D b lay zid (0, true) (sN mem) H') : zI (wD D b lay) s m0 (sN mem) H' locs := by
  have h2 := hI.2.1 rfl
  refine ⟨hr, fun _ => by rw [gN_sN]; omega, ?_, fun q g1 g2 => ?_, hI.2.2.2.2⟩
  · rw [hz, hI.2.2.1]
    simp only [zc, if_pos, gN_sN]
    omega
  · rw [hq q (by rw [hI.2.2.1]; omega)]
    exact hI.2.2.2.1 q g1 g2
theorem z_new (hc : zCx p s m args meth c (wD D b lay) m0 own cc nL ret) {ci idx : Nat} (hci : ci < 11) (hly : ∀ k, k < zNf ci → u_lay (zRn ci) (zTb ci) k ∈ zT) (hlay : lay (gN mem + 1) = (10 + ci, zNf ci)) (hR : R.cells = zc (wD D b lay) m0 fin.2 ∧ R.slots = zs (wD D b lay) m0 fin.2) (hcl : Cond.classLink own idx (zRn ci) ∈ zT) (hins : Cond.instantiable (zRn ci) (zNf ci) ∈ zT) (hini : Cond.initialized (zRn ci) ∈ zT) (hd : decode cc pc = .ok (.new idx, 3))
    (kk : zJ enc p l e R s m args below meth c (wD D b lay) m0 nL fin (pc + 3) L (.ref (gN mem + 1) :: st) (sN mem) o) : zJ enc p l e R s m args below meth c (wD D b lay) m0 nL fin pc L st mem o := by
  intro ho
  obtain ⟨k1, k2⟩ := kk ho
  have k1' : gN mem + 1 ≤ gN fin.2 := k1 rfl
  refine ⟨fun _ => by omega, fun H locs ls hI hl => ?_⟩
  obtain ⟨r1, r2, r3, r4⟩ := zD_room (R := R) (fin := fin) hI hR k1'
  have htop := zD_top hc hI
  have hts := hc.2.2.2.2.2.1
  have hKn := hc.2.2.2.2.2.2.2.1.1.1 ci _ (zcl hci)
  rw [hlay] at r2 r4
  refine W.newcK hc.1 hc.2.1 hc.2.2.2.2.1 (hts _ hcl) (hts _ hins) (hts _ hini) rfl hd r1 r2 hKn.2.1 rfl (fun H' kC hkC e1 z1 o1 => ?_)
  rw [r3, show zs (wD D b lay) m0 mem + zNf ci = zs (wD D b lay) m0 (sN mem) from r4]
  have hb := u_born (zty ci) hts (zlay_of hly) hKn hkC e1 (zty_ok hci)
  rw [htop] at hb
  have hrep : zRep D b lay zid (0, true) (sN mem) H' := by
    have hrep0 : zRep D b lay zid (0, true) mem H := hI.1
    refine hrep0.new (by omega) o1 (fun k n g1 g2 => ?_) (fun n g1 => ?_) (fun k n g1 g2 => ?_) (fun c' n g1 => ?_)
    · rw [hlay] at g1; have := congrArg Prod.fst g1; simp at this; omega
    · rw [hlay] at g1; have := congrArg Prod.fst g1; simp at this; omega
    · rw [hlay] at g1; have := congrArg Prod.fst g1; simp at this; omega
    · rw [hlay] at g1
      have e : ci = c' := by have := congrArg Prod.fst g1; simp at this; exact this
      subst e
      refine hb.to (fun k hk => ?_)
      unfold zfv zid
      simp only [(sN_new mem).1, (sN_new mem).2.1, (sN_new mem).2.2, zrv]
      have hz := zsort hci
      have := hz k hk
      revert this
      cases zty ci k <;> intro h <;> first | rfl | (simp [zint, zref] at h)
  have := k2 H' locs ls (zD_new hc hI z1 o1 hrep) hl
  rw [htop]
  exact this

theorem z_newa_int (hc : zCx p s m args meth c (wD D b lay) m0 own cc nL ret) {v : Int32} {N : Nat} (h0 : ¬ v < 0) (hN : ix v = N) (hbd : N * 8 ≤ 536870912) (hlay : lay (gN mem + 1) = (1, N)) (hR : R.cells = zc (wD D b lay) m0 fin.2 ∧ R.slots = zs (wD D b lay) m0 fin.2) (hw : Cond.arrayClass (newarray.typeOf .int) ∈ zT) (hd : decode cc pc = .ok (.newarray .int, 2))
    (kk : zJ enc p l e R s m args below meth c (wD D b lay) m0 nL fin (pc + 2) L (.ref (gN mem + 1) :: st) (sN mem) o) : zJ enc p l e R s m args below meth c (wD D b lay) m0 nL fin pc L (.int v :: st) mem o := by
  intro ho
  obtain ⟨k1, k2⟩ := kk ho
  have k1' : gN mem + 1 ≤ gN fin.2 := k1 rfl
  refine ⟨fun _ => by omega, fun H locs ls hI hl => ?_⟩
  obtain ⟨r1, r2, r3, r4⟩ := zD_room (R := R) (fin := fin) hI hR k1'
  have htop := zD_top hc hI
  have hts := hc.2.2.2.2.2.1
  rw [hlay] at r2 r4
  have hN' : v.toNatClampNeg = N := hN
  refine W.newa hc.1 hc.2.1 (hts _ hw) rfl hd rfl h0 (by rw [hN']; refine Nat.le_trans (Nat.mul_le_mul_left N ?_) hbd; decide) r1 (by rw [hN']; exact r2) (fun cA kA comp e1 e2 e3 => ?_)
  have hcA : cA = D.2.2.1 1 := by
    have h9 : s.vm.findClass _ = some (D.2.2.1 1) := (hc.2.2.2.2.2.2.2.1.1.2 0 _ rfl).2
    exact Option.some.inj (e1.symm.trans h9)
  subst hcA
  rw [hN', r3, show zs (wD D b lay) m0 mem + N = zs (wD D b lay) m0 (sN mem) from r4, arrV_new]
  have o1 : ∀ q, q < H.size → (H.push (arrV (D.2.2.1 1) N (fun _ => defaultValue (newarray.typeOf .int))))[q]? = H[q]? := fun q hq => by rw [Array.getElem?_push, if_neg (Nat.ne_of_lt hq)]
  have oN : (H.push (arrV (D.2.2.1 1) N (fun _ => defaultValue (newarray.typeOf .int))))[b + (gN mem + 1)]? = some (arrV (D.2.2.1 1) N (fun _ => .int 0)) := by rw [← htop]; simp; rfl
  have hrep : zRep D b lay zid (0, true) (sN mem) (H.push (arrV (D.2.2.1 1) N (fun _ => defaultValue (newarray.typeOf .int)))) := by
    have hrep0 : zRep D b lay zid (0, true) mem H := hI.1
    refine hrep0.new (by omega) o1 (fun k n g1 g2 => ?_) (fun n g1 => ?_) (fun k n g1 g2 => ?_) (fun c' n g1 => ?_) <;> rw [hlay] at g1
    all_goals first | (cases g1; exact oN) | (exfalso; have := congrArg Prod.fst g1; simp at this; done) | (exfalso; have := congrArg Prod.fst g1; simp at this; omega)
  have := k2 _ locs ls (zD_new hc hI (by simp) o1 hrep) hl
  rw [htop]
  exact this

theorem z_newa_long (hc : zCx p s m args meth c (wD D b lay) m0 own cc nL ret) {v : Int32} {N : Nat} (h0 : ¬ v < 0) (hN : ix v = N) (hbd : N * 8 ≤ 536870912) (hlay : lay (gN mem + 1) = (2, N)) (hR : R.cells = zc (wD D b lay) m0 fin.2 ∧ R.slots = zs (wD D b lay) m0 fin.2) (hw : Cond.arrayClass (newarray.typeOf .long) ∈ zT) (hd : decode cc pc = .ok (.newarray .long, 2))
    (kk : zJ enc p l e R s m args below meth c (wD D b lay) m0 nL fin (pc + 2) L (.ref (gN mem + 1) :: st) (sN mem) o) : zJ enc p l e R s m args below meth c (wD D b lay) m0 nL fin pc L (.int v :: st) mem o := by
  intro ho
  obtain ⟨k1, k2⟩ := kk ho
  have k1' : gN mem + 1 ≤ gN fin.2 := k1 rfl
  refine ⟨fun _ => by omega, fun H locs ls hI hl => ?_⟩
  obtain ⟨r1, r2, r3, r4⟩ := zD_room (R := R) (fin := fin) hI hR k1'
  have htop := zD_top hc hI
  have hts := hc.2.2.2.2.2.1
  rw [hlay] at r2 r4
  have hN' : v.toNatClampNeg = N := hN
  refine W.newa hc.1 hc.2.1 (hts _ hw) rfl hd rfl h0 (by rw [hN']; refine Nat.le_trans (Nat.mul_le_mul_left N ?_) hbd; decide) r1 (by rw [hN']; exact r2) (fun cA kA comp e1 e2 e3 => ?_)
  have hcA : cA = D.2.2.1 2 := by
    have h9 : s.vm.findClass _ = some (D.2.2.1 2) := (hc.2.2.2.2.2.2.2.1.1.2 1 _ rfl).2
    exact Option.some.inj (e1.symm.trans h9)
  subst hcA
  rw [hN', r3, show zs (wD D b lay) m0 mem + N = zs (wD D b lay) m0 (sN mem) from r4, arrV_new]
  have o1 : ∀ q, q < H.size → (H.push (arrV (D.2.2.1 2) N (fun _ => defaultValue (newarray.typeOf .long))))[q]? = H[q]? := fun q hq => by rw [Array.getElem?_push, if_neg (Nat.ne_of_lt hq)]
  have oN : (H.push (arrV (D.2.2.1 2) N (fun _ => defaultValue (newarray.typeOf .long))))[b + (gN mem + 1)]? = some (arrV (D.2.2.1 2) N (fun _ => .long 0)) := by rw [← htop]; simp; rfl
  have hrep : zRep D b lay zid (0, true) (sN mem) (H.push (arrV (D.2.2.1 2) N (fun _ => defaultValue (newarray.typeOf .long)))) := by
    have hrep0 : zRep D b lay zid (0, true) mem H := hI.1
    refine hrep0.new (by omega) o1 (fun k n g1 g2 => ?_) (fun n g1 => ?_) (fun k n g1 g2 => ?_) (fun c' n g1 => ?_) <;> rw [hlay] at g1
    all_goals first | (cases g1; exact oN) | (exfalso; have := congrArg Prod.fst g1; simp at this; done) | (exfalso; have := congrArg Prod.fst g1; simp at this; omega)
  have := k2 _ locs ls (zD_new hc hI (by simp) o1 hrep) hl
  rw [htop]
  exact this

theorem z_newa_boolean (hc : zCx p s m args meth c (wD D b lay) m0 own cc nL ret) {v : Int32} {N : Nat} (h0 : ¬ v < 0) (hN : ix v = N) (hbd : N * 8 ≤ 536870912) (hlay : lay (gN mem + 1) = (3, N)) (hR : R.cells = zc (wD D b lay) m0 fin.2 ∧ R.slots = zs (wD D b lay) m0 fin.2) (hw : Cond.arrayClass (newarray.typeOf .boolean) ∈ zT) (hd : decode cc pc = .ok (.newarray .boolean, 2))
    (kk : zJ enc p l e R s m args below meth c (wD D b lay) m0 nL fin (pc + 2) L (.ref (gN mem + 1) :: st) (sN mem) o) : zJ enc p l e R s m args below meth c (wD D b lay) m0 nL fin pc L (.int v :: st) mem o := by
  intro ho
  obtain ⟨k1, k2⟩ := kk ho
  have k1' : gN mem + 1 ≤ gN fin.2 := k1 rfl
  refine ⟨fun _ => by omega, fun H locs ls hI hl => ?_⟩
  obtain ⟨r1, r2, r3, r4⟩ := zD_room (R := R) (fin := fin) hI hR k1'
  have htop := zD_top hc hI
  have hts := hc.2.2.2.2.2.1
  rw [hlay] at r2 r4
  have hN' : v.toNatClampNeg = N := hN
  refine W.newa hc.1 hc.2.1 (hts _ hw) rfl hd rfl h0 (by rw [hN']; refine Nat.le_trans (Nat.mul_le_mul_left N ?_) hbd; decide) r1 (by rw [hN']; exact r2) (fun cA kA comp e1 e2 e3 => ?_)
  have hcA : cA = D.2.2.1 3 := by
    have h9 : s.vm.findClass _ = some (D.2.2.1 3) := (hc.2.2.2.2.2.2.2.1.1.2 2 _ rfl).2
    exact Option.some.inj (e1.symm.trans h9)
  subst hcA
  rw [hN', r3, show zs (wD D b lay) m0 mem + N = zs (wD D b lay) m0 (sN mem) from r4, arrV_new]
  have o1 : ∀ q, q < H.size → (H.push (arrV (D.2.2.1 3) N (fun _ => defaultValue (newarray.typeOf .boolean))))[q]? = H[q]? := fun q hq => by rw [Array.getElem?_push, if_neg (Nat.ne_of_lt hq)]
  have oN : (H.push (arrV (D.2.2.1 3) N (fun _ => defaultValue (newarray.typeOf .boolean))))[b + (gN mem + 1)]? = some (arrV (D.2.2.1 3) N (fun _ => .int 0)) := by rw [← htop]; simp; rfl
  have hrep : zRep D b lay zid (0, true) (sN mem) (H.push (arrV (D.2.2.1 3) N (fun _ => defaultValue (newarray.typeOf .boolean)))) := by
    have hrep0 : zRep D b lay zid (0, true) mem H := hI.1
    refine hrep0.new (by omega) o1 (fun k n g1 g2 => ?_) (fun n g1 => ?_) (fun k n g1 g2 => ?_) (fun c' n g1 => ?_) <;> rw [hlay] at g1
    all_goals first | (cases g1; exact oN) | (exfalso; have := congrArg Prod.fst g1; simp at this; done) | (exfalso; have := congrArg Prod.fst g1; simp at this; omega)
  have := k2 _ locs ls (zD_new hc hI (by simp) o1 hrep) hl
  rw [htop]
  exact this

theorem z_newa_byte (hc : zCx p s m args meth c (wD D b lay) m0 own cc nL ret) {v : Int32} {N : Nat} (h0 : ¬ v < 0) (hN : ix v = N) (hbd : N * 8 ≤ 536870912) (hlay : lay (gN mem + 1) = (4, N)) (hR : R.cells = zc (wD D b lay) m0 fin.2 ∧ R.slots = zs (wD D b lay) m0 fin.2) (hw : Cond.arrayClass (newarray.typeOf .byte) ∈ zT) (hd : decode cc pc = .ok (.newarray .byte, 2))
    (kk : zJ enc p l e R s m args below meth c (wD D b lay) m0 nL fin (pc + 2) L (.ref (gN mem + 1) :: st) (sN mem) o) : zJ enc p l e R s m args below meth c (wD D b lay) m0 nL fin pc L (.int v :: st) mem o := by
  intro ho
  obtain ⟨k1, k2⟩ := kk ho
  have k1' : gN mem + 1 ≤ gN fin.2 := k1 rfl
  refine ⟨fun _ => by omega, fun H locs ls hI hl => ?_⟩
  obtain ⟨r1, r2, r3, r4⟩ := zD_room (R := R) (fin := fin) hI hR k1'
  have htop := zD_top hc hI
  have hts := hc.2.2.2.2.2.1
  rw [hlay] at r2 r4
  have hN' : v.toNatClampNeg = N := hN
  refine W.newa hc.1 hc.2.1 (hts _ hw) rfl hd rfl h0 (by rw [hN']; refine Nat.le_trans (Nat.mul_le_mul_left N ?_) hbd; decide) r1 (by rw [hN']; exact r2) (fun cA kA comp e1 e2 e3 => ?_)
  have hcA : cA = D.2.2.1 4 := by
    have h9 : s.vm.findClass _ = some (D.2.2.1 4) := (hc.2.2.2.2.2.2.2.1.1.2 3 _ rfl).2
    exact Option.some.inj (e1.symm.trans h9)
  subst hcA
  rw [hN', r3, show zs (wD D b lay) m0 mem + N = zs (wD D b lay) m0 (sN mem) from r4, arrV_new]
  have o1 : ∀ q, q < H.size → (H.push (arrV (D.2.2.1 4) N (fun _ => defaultValue (newarray.typeOf .byte))))[q]? = H[q]? := fun q hq => by rw [Array.getElem?_push, if_neg (Nat.ne_of_lt hq)]
  have oN : (H.push (arrV (D.2.2.1 4) N (fun _ => defaultValue (newarray.typeOf .byte))))[b + (gN mem + 1)]? = some (arrV (D.2.2.1 4) N (fun _ => .int 0)) := by rw [← htop]; simp; rfl
  have hrep : zRep D b lay zid (0, true) (sN mem) (H.push (arrV (D.2.2.1 4) N (fun _ => defaultValue (newarray.typeOf .byte)))) := by
    have hrep0 : zRep D b lay zid (0, true) mem H := hI.1
    refine hrep0.new (by omega) o1 (fun k n g1 g2 => ?_) (fun n g1 => ?_) (fun k n g1 g2 => ?_) (fun c' n g1 => ?_) <;> rw [hlay] at g1
    all_goals first | (cases g1; exact oN) | (exfalso; have := congrArg Prod.fst g1; simp at this; done) | (exfalso; have := congrArg Prod.fst g1; simp at this; omega)
  have := k2 _ locs ls (zD_new hc hI (by simp) o1 hrep) hl
  rw [htop]
  exact this

theorem z_anew (hc : zCx p s m args meth c (wD D b lay) m0 own cc nL ret) {v : Int32} {N kd idx : Nat} {C : String} (hC : (kd = 5 ∧ C = RX7) ∨ (kd = 6 ∧ C = RX2)) (h0 : ¬ v < 0) (hN : ix v = N) (hbd : N * 8 ≤ 536870912) (hlay : lay (gN mem + 1) = (kd, N)) (hR : R.cells = zc (wD D b lay) m0 fin.2 ∧ R.slots = zs (wD D b lay) m0 fin.2) (hcl : Cond.classLink own idx C ∈ zT) (hd : decode cc pc = .ok (.anewarray idx, 3))
    (kk : zJ enc p l e R s m args below meth c (wD D b lay) m0 nL fin (pc + 3) L (.ref (gN mem + 1) :: st) (sN mem) o) : zJ enc p l e R s m args below meth c (wD D b lay) m0 nL fin pc L (.int v :: st) mem o := by
  intro ho
  obtain ⟨k1, k2⟩ := kk ho
  have k1' : gN mem + 1 ≤ gN fin.2 := k1 rfl
  refine ⟨fun _ => by omega, fun H locs ls hI hl => ?_⟩
  obtain ⟨r1, r2, r3, r4⟩ := zD_room (R := R) (fin := fin) hI hR k1'
  have htop := zD_top hc hI
  have hts := hc.2.2.2.2.2.1
  rw [hlay] at r2 r4
  have hN' : v.toNatClampNeg = N := hN
  refine W.anew hc.1 hc.2.1 hc.2.2.2.2.1 (hts _ hcl) (by rcases hC with ⟨-, rfl⟩ | ⟨-, rfl⟩; exact va_AO.use hc.2.2.2.2.2.2.2.1.2.2.2.1; exact va_AO.use hc.2.2.2.2.2.2.2.1.2.2.2.2) rfl hd rfl h0 (by rw [hN']; omega) r1 (by rw [hN']; exact r2) (fun cA kA comp e1 e2 e3 e4 => ?_)
  have hcA : cA = D.2.2.1 kd := by
    rcases hC with ⟨rfl, rfl⟩ | ⟨rfl, rfl⟩
    · obtain ⟨kA', comp', h1, h2, h3, h4⟩ := (hc.2.2.2.2.2.2.2.1.1.2 4 _ rfl).2
      exact Option.some.inj (e1.symm.trans h4)
    · obtain ⟨kA', comp', h1, h2, h3, h4⟩ := (hc.2.2.2.2.2.2.2.1.1.2 5 _ rfl).2
      exact Option.some.inj (e1.symm.trans h4)
  subst hcA
  rw [hN', r3, show zs (wD D b lay) m0 mem + N = zs (wD D b lay) m0 (sN mem) from r4, arrV_new]
  have o1 : ∀ q, q < H.size → (H.push (arrV (D.2.2.1 kd) N (fun _ => Value.null)))[q]? = H[q]? := fun q hq => by rw [Array.getElem?_push, if_neg (Nat.ne_of_lt hq)]
  have oN : (H.push (arrV (D.2.2.1 kd) N (fun _ => Value.null)))[b + (gN mem + 1)]? = some (arrV (D.2.2.1 kd) N (fun _ => .null)) := by rw [← htop]; simp
  have hk : kd = 5 ∨ kd = 6 := by rcases hC with ⟨h, -⟩ | ⟨h, -⟩ <;> omega
  have hrep : zRep D b lay zid (0, true) (sN mem) (H.push (arrV (D.2.2.1 kd) N (fun _ => Value.null))) := by
    have hrep0 : zRep D b lay zid (0, true) mem H := hI.1
    refine hrep0.new (by omega) o1 (fun k n g1 g2 => ?_) (fun n g1 => ?_) (fun k n g1 g2 => ?_) (fun c' n g1 => ?_) <;> rw [hlay] at g1
    · exfalso; have := congrArg Prod.fst g1; simp at this; omega
    · exfalso; have := congrArg Prod.fst g1; simp at this; omega
    · cases g1; exact oN
    · exfalso; have := congrArg Prod.fst g1; simp at this; omega
  have := k2 _ locs ls (zD_new hc hI (by simp) o1 hrep) hl
  rw [htop]
  exact this
theorem z_aast (hc : zCx p s m args meth c (wD D b lay) m0 own cc nL ret) {a kd n k x ci nx : Nat} {i : Int32} (hC : (kd = 5 ∧ ci = 7) ∨ (kd = 6 ∧ ci = 2)) (hlay : lay a = (kd, n)) (hok : zok (0, true) mem a) (hlx : lay x = (10 + ci, nx)) (hox : zok (0, true) mem x) (hi : ib i n = true) (hk : ix i = k) (hd : decode cc pc = .ok (.aastore, 1))
    (kk : zJ enc p l e R s m args below meth c (wD D b lay) m0 nL fin (pc + 1) L st (sR mem a k x) o) : zJ enc p l e R s m args below meth c (wD D b lay) m0 nL fin pc L (.ref x :: .int i :: .ref a :: st) mem o := by
  intro ho
  obtain ⟨kk1, kk2⟩ := kk ho
  refine ⟨kk1, fun H locs ls hI hl => ?_⟩
  have hin := ib_in hi
  have hlt : i.toNatClampNeg < n := Nat.not_le.mp fun q => hin (Or.inr q)
  have hk' : kd = 5 ∨ kd = 6 := by rcases hC with ⟨h, -⟩ | ⟨h, -⟩ <;> omega
  subst hk
  obtain ⟨cx, q1, q2, q3, q4⟩ := hI.1.2.2.2 x ci nx hox hlx
  obtain ⟨kA, comp, kv, h1, h2, h3, h4, h5⟩ : ∃ (kA : Class) (comp : ClassId) (kv : Class), s.vm.classes[D.2.2.1 kd]? = some kA ∧ (∃ t : FieldType, kA.kind = .array comp t ∧ t.isReference = true) ∧ s.vm.classes[comp]? = some kv ∧ comp = D.1 ci ∧ s.vm.assignable (D.1 ci) comp = true := by
    rcases hC with ⟨rfl, rfl⟩ | ⟨rfl, rfl⟩
    · obtain ⟨kA', comp', h1, h2, h3, h4⟩ := (hc.2.2.2.2.2.2.2.1.1.2 4 _ rfl).2
      have hcls := (hc.2.2.2.2.2.2.2.1.1.1 7 _ (zcl (by decide))).2
      obtain ⟨hfc, kC, hkC, hkd⟩ := id hcls
      have e : comp' = D.1 7 := Option.some.inj (h3.symm.trans hfc)
      exact ⟨kA', comp', kC, h1, ⟨_, h2, rfl⟩, by rw [e]; exact hkC, e, by rw [e]; exact va_assign hcls⟩
    · obtain ⟨kA', comp', h1, h2, h3, h4⟩ := (hc.2.2.2.2.2.2.2.1.1.2 5 _ rfl).2
      have hcls := (hc.2.2.2.2.2.2.2.1.1.1 2 _ (zcl (by decide))).2
      obtain ⟨hfc, kC, hkC, hkd⟩ := id hcls
      have e : comp' = D.1 2 := Option.some.inj (h3.symm.trans hfc)
      exact ⟨kA', comp', kC, h1, ⟨_, h2, rfl⟩, by rw [e]; exact hkC, e, by rw [e]; exact va_assign hcls⟩
  obtain ⟨t, ht1, ht2⟩ := h2
  refine W.aast (cv := cx) hc.1 hc.2.1 (hI.1.2.2.1 a kd n hok hlay hk') (fun q h => by cases h) (fun h => by cases h) h1 ht1 ht2 h3 ⟨fun h => hin (Or.inl h), by rw [arrV_size]; exact hlt⟩ q1 (fun q h => by rw [q3] at h; cases h) (kv := kv) (by rw [q2, ← h4]; exact h3) (by rw [q2]; exact h5) rfl rfl hd (fun H' e1 e2 e3 => ?_)
  rw [arrV_store] at e1
  have hx1 := hox.1
  refine kk2 H' _ ls (hI.row hc hlay (by omega) hok rfl (fun y hy => ⟨fun _ => rfl, fun _ => rfl, fun j => ?_⟩) e1 (fun h => by omega) (fun h => by omega) (fun _ j => ?_) e2 e3) hl
  · show (if y = a ∧ j = ix i then x else mem.2.2.1 y j) = mem.2.2.1 y j
    rw [if_neg (fun h => hy h.1)]
  · by_cases hj : j = ix i
    · subst hj
      show (if ix i = ix i then _ else _) = zrv b (if a = a ∧ ix i = ix i then x else mem.2.2.1 a (ix i))
      rw [if_pos rfl, if_pos ⟨rfl, rfl⟩]
      cases x with
      | zero => omega
      | succ x => rfl
    · show (if j = ix i then _ else _) = zrv b (if a = a ∧ j = ix i then x else mem.2.2.1 a j)
      rw [if_neg hj, if_neg (fun h => hj h.2)]
      rfl
end ZR
