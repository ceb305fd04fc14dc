section ZR
variable {α : Type} {enc : α → Option Value} {p : Program} {l : Launch} {e : Env} {R : Room} {s : State} {m : MethodId} {args : Array Value} {below : List Frame} {meth : Method} {c : Code} {w : zWd} {m0 : zM} {nL : Nat} {fin : α × zM} {pc : Nat} {L : List (Nat × Value)} {st : List Value} {mem : zM} {o : Option (α × zM)} {own : String} {cc : ByteArray} {ret : Option FieldType}

/-- whether a field's type is one of the small whole numbers -/
def zint (t : FieldType) : Bool := match t with
  | .int => true
  | .boolean => true
  | _ => false
def zref (t : FieldType) : Bool := match t with
  | .object _ => true
  | .array _ => true
  | _ => false
theorem zfv_int {b : Nat} {rf : (Nat → Nat → Nat) → Nat → Nat → Nat} {m : zM} {a k : Nat} {t : FieldType} (h : zint t = true) : zfv b rf m a t k = .int (gI m a k) := by
  cases t <;> first | rfl | cases h
theorem zfv_ref {b : Nat} {rf : (Nat → Nat → Nat) → Nat → Nat → Nat} {m : zM} {a k : Nat} {t : FieldType} (h : zref t = true) : zfv b rf m a t k = zrv b (rf m.2.2.1 a k) := by
  cases t <;> first | rfl | cases h
theorem z_getI (hc : zCx p s m args meth c w m0 own cc nL ret) {a k ci idx n : Nat} (hci : ci < 11) (hk : k < zNf ci) (hly : ∀ k, k < zNf ci → u_lay (zRn ci) (zTb ci) k ∈ zT) (hlay : w.2.2.1 a = (10 + ci, n)) (hok : zok w.2.2.2.2 mem a) (hw : Cond.fieldLink own idx (zTb ci k).1 (zTb ci k).2.1 (zTb ci k).2.2.1 ∈ zT) (ht : zint (zty ci k) = true) (hd : decode cc pc = .ok (.getfield idx, 3)) (kk : zJ enc p l e R s m args below meth c w m0 nL fin (pc + 3) L (.int (gI mem a k) :: st) mem o) : zJ enc p l e R s m args below meth c w m0 nL fin pc L (.ref a :: st) mem o :=
  z_get hc hci hk hly hlay hok hw hd (zfv_int ht) kk
theorem z_getL (hc : zCx p s m args meth c w m0 own cc nL ret) {a k ci idx n : Nat} (hci : ci < 11) (hk : k < zNf ci) (hly : ∀ k, k < zNf ci → u_lay (zRn ci) (zTb ci) k ∈ zT) (hlay : w.2.2.1 a = (10 + ci, n)) (hok : zok w.2.2.2.2 mem a) (hw : Cond.fieldLink own idx (zTb ci k).1 (zTb ci k).2.1 (zTb ci k).2.2.1 ∈ zT) (ht : zty ci k = .long) (hd : decode cc pc = .ok (.getfield idx, 3)) (kk : zJ enc p l e R s m args below meth c w m0 nL fin (pc + 3) L (.long (gL mem a k) :: st) mem o) : zJ enc p l e R s m args below meth c w m0 nL fin pc L (.ref a :: st) mem o :=
  z_get hc hci hk hly hlay hok hw hd (by rw [ht]; rfl) kk
theorem z_getR (hc : zCx p s m args meth c w m0 own cc nL ret) {a k ci idx n : Nat} {x : Nat} (hci : ci < 11) (hk : k < zNf ci) (hly : ∀ k, k < zNf ci → u_lay (zRn ci) (zTb ci) k ∈ zT) (hlay : w.2.2.1 a = (10 + ci, n)) (hok : zok w.2.2.2.2 mem a) (hw : Cond.fieldLink own idx (zTb ci k).1 (zTb ci k).2.1 (zTb ci k).2.2.1 ∈ zT) (ht : zref (zty ci k) = true) (hd : decode cc pc = .ok (.getfield idx, 3)) (hr : w.2.2.2.1 mem.2.2.1 a k = x) (hx : 1 ≤ x) (kk : zJ enc p l e R s m args below meth c w m0 nL fin (pc + 3) L (.ref x :: st) mem o) : zJ enc p l e R s m args below meth c w m0 nL fin pc L (.ref a :: st) mem o :=
  z_get hc hci hk hly hlay hok hw hd (by rw [zfv_ref ht, hr]; cases x with | zero => omega | succ x => rfl) kk
theorem z_putI (hc : zCx p s m args meth c w m0 own cc nL ret) {a k ci idx n : Nat} {x : Int32} (hci : ci < 11) (hk : k < zNf ci) (hly : ∀ k, k < zNf ci → u_lay (zRn ci) (zTb ci) k ∈ zT) (hlay : w.2.2.1 a = (10 + ci, n)) (hok : zok w.2.2.2.2 mem a) (hw : Cond.fieldLink own idx (zTb ci k).1 (zTb ci k).2.1 (zTb ci k).2.2.1 ∈ zT) (ht : zint (zty ci k) = true) (hfin : (zTb ci k).2.2.2 = false) (hn : narrow (zty ci k) (.int x) = .int x) (hfit : fits (zty ci k) (.int x) = true) (hd : decode cc pc = .ok (.putfield idx, 3)) (kk : zJ enc p l e R s m args below meth c w m0 nL fin (pc + 3) L st (sI mem a k x) o) : zJ enc p l e R s m args below meth c w m0 nL fin pc L (.int x :: .ref a :: st) mem o := by
  refine z_put (v := .int x) hc hci hk hly hlay hok hw (Or.inl hfin) hn hfit (mem' := sI mem a k x) rfl (fun y hy => ⟨fun j => ?_, fun _ => rfl, fun _ => rfl⟩) (fun j hj => ?_) hd kk
  · show (if y = a ∧ j = k then x else mem.1 y j) = mem.1 y j
    rw [if_neg (fun h => hy h.1)]
  · by_cases hjk : j = k
    · subst hjk
      rw [zfv_int ht]
      simp [updV, gI, sI, zv]
    · have e : gI (sI mem a k x) a j = gI mem a j := by
        show (if a = a ∧ j = k then x else mem.1 a j) = mem.1 a j
        rw [if_neg (fun h => hjk h.2)]
      simp only [updV, if_neg hjk, zfv, e]
      rfl
theorem z_putL (hc : zCx p s m args meth c w m0 own cc nL ret) {a k ci idx n : Nat} {x : Int64} (hci : ci < 11) (hk : k < zNf ci) (hly : ∀ k, k < zNf ci → u_lay (zRn ci) (zTb ci) k ∈ zT) (hlay : w.2.2.1 a = (10 + ci, n)) (hok : zok w.2.2.2.2 mem a) (hw : Cond.fieldLink own idx (zTb ci k).1 (zTb ci k).2.1 (zTb ci k).2.2.1 ∈ zT) (ht : zty ci k = .long) (hfin : (zTb ci k).2.2.2 = false) (hd : decode cc pc = .ok (.putfield idx, 3)) (kk : zJ enc p l e R s m args below meth c w m0 nL fin (pc + 3) L st (sL mem a k x) o) : zJ enc p l e R s m args below meth c w m0 nL fin pc L (.long x :: .ref a :: st) mem o := by
  refine z_put (v := .long x) hc hci hk hly hlay hok hw (Or.inl hfin) (by rw [ht]; rfl) (by rw [ht]; rfl) (mem' := sL mem a k x) rfl (fun y hy => ⟨fun _ => rfl, fun j => ?_, fun _ => rfl⟩) (fun j hj => ?_) hd kk
  · show (if y = a ∧ j = k then x else mem.2.1 y j) = mem.2.1 y j
    rw [if_neg (fun h => hy h.1)]
  · by_cases hjk : j = k
    · subst hjk
      rw [ht]
      simp [updV, gL, sL, zv, zfv]
    · have e : gL (sL mem a k x) a j = gL mem a j := by
        show (if a = a ∧ j = k then x else mem.2.1 a j) = mem.2.1 a j
        rw [if_neg (fun h => hjk h.2)]
      simp only [updV, if_neg hjk, zfv, e]
      rfl
theorem zrv_ref {D : zD} {b x : Nat} (hx : 1 ≤ x) : zrv b x = zv D b (.ref x) := by
  cases x with
  | zero => omega
  | succ x => rfl
theorem z_putR (hc : zCx p s m args meth c w m0 own cc nL ret) {a k ci idx n : Nat} {x : Nat} (hci : ci < 11) (hk : k < zNf ci) (hly : ∀ k, k < zNf ci → u_lay (zRn ci) (zTb ci) k ∈ zT) (hlay : w.2.2.1 a = (10 + ci, n)) (hok : zok w.2.2.2.2 mem a) (hw : Cond.fieldLink own idx (zTb ci k).1 (zTb ci k).2.1 (zTb ci k).2.2.1 ∈ zT) (ht : zref (zty ci k) = true) (hfin : (zTb ci k).2.2.2 = false ∨ ((zTb ci k).2.2.2 = true ∧ meth.name = "<init>" ∧ (zTb ci k).1 = own)) (hx : 1 ≤ x) (hrf : ∀ y j, w.2.2.2.1 (sR mem a k x).2.2.1 y j = if y = a ∧ j = k then x else w.2.2.2.1 mem.2.2.1 y j) (hd : decode cc pc = .ok (.putfield idx, 3)) (kk : zJ enc p l e R s m args below meth c w m0 nL fin (pc + 3) L st (sR mem a k x) o) : zJ enc p l e R s m args below meth c w m0 nL fin pc L (.ref x :: .ref a :: st) mem o := by
  refine z_put (v := .ref x) hc hci hk hly hlay hok hw hfin (by revert ht; cases zty ci k <;> intro h <;> first | rfl | cases h) (by revert ht; cases zty ci k <;> intro h <;> first | rfl | cases h) (mem' := sR mem a k x) rfl (fun y hy => ⟨fun _ => rfl, fun _ => rfl, fun j => ?_⟩) (fun j hj => ?_) hd kk
  · rw [hrf, if_neg (fun h => hy h.1)]
  · by_cases hjk : j = k
    · subst hjk
      rw [zfv_ref ht, hrf, if_pos ⟨rfl, rfl⟩]
      simp only [updV, if_pos]
      exact zrv_ref hx
    · have e : w.2.2.2.1 (sR mem a k x).2.2.1 a j = w.2.2.2.1 mem.2.2.1 a j := by
        rw [hrf, if_neg (fun h => hjk h.2)]
      simp only [updV, if_neg hjk, zfv, e]
      rfl

theorem z_iald (hc : zCx p s m args meth c w m0 own cc nL ret) {a n k : Nat} {i : Int32} (hlay : w.2.2.1 a = (1, n)) (hok : zok w.2.2.2.2 mem a) (hi : ib i n = true) (hk : ix i = k) (hd : decode cc pc = .ok (.iaload, 1)) (kk : zJ enc p l e R s m args below meth c w m0 nL fin (pc + 1) L (.int (gI mem a k) :: st) mem o) : zJ enc p l e R s m args below meth c w m0 nL fin pc L (.int i :: .ref a :: st) mem o := by
  refine zJ.go (fun H locs ls cells slots Q hI hl kw => ?_) kk
  have hin := ib_in hi
  have hlt : i.toNatClampNeg < n := Nat.not_le.mp fun q => hin (Or.inr q)
  subst hk
  exact W.iald (v := .int (gI mem a i.toNatClampNeg)) hc.1 hc.2.1 (hI.1.1 a 1 n hok hlay (by decide)) ((hc.2.2.2.2.2.2.2.1.1.2 0 _ rfl).1 n _) (fun q => by cases q) (by rw [arrV_size]; exact hin) (by rw [arrV_read _ _ hlt]) rfl rfl hd kw

theorem z_bald (hc : zCx p s m args meth c w m0 own cc nL ret) {a n k : Nat} {i : Int32} (hlay : w.2.2.1 a = (4, n)) (hok : zok w.2.2.2.2 mem a) (hi : ib i n = true) (hk : ix i = k) (hd : decode cc pc = .ok (.baload, 1)) (kk : zJ enc p l e R s m args below meth c w m0 nL fin (pc + 1) L (.int (gI mem a k) :: st) mem o) : zJ enc p l e R s m args below meth c w m0 nL fin pc L (.int i :: .ref a :: st) mem o := by
  refine zJ.go (fun H locs ls cells slots Q hI hl kw => ?_) kk
  have hin := ib_in hi
  have hlt : i.toNatClampNeg < n := Nat.not_le.mp fun q => hin (Or.inr q)
  subst hk
  exact W.bald (v := .int (gI mem a i.toNatClampNeg)) hc.1 hc.2.1 (hI.1.1 a 4 n hok hlay (by decide)) ((hc.2.2.2.2.2.2.2.1.1.2 3 _ rfl).1 n _) (fun q => by cases q) (by rw [arrV_size]; exact hin) (by rw [arrV_read _ _ hlt]) rfl rfl hd kw

theorem z_zald (hc : zCx p s m args meth c w m0 own cc nL ret) {a n k : Nat} {i : Int32} (hlay : w.2.2.1 a = (3, n)) (hok : zok w.2.2.2.2 mem a) (hi : ib i n = true) (hk : ix i = k) (hd : decode cc pc = .ok (.baload, 1)) (kk : zJ enc p l e R s m args below meth c w m0 nL fin (pc + 1) L (.int (gI mem a k) :: st) mem o) : zJ enc p l e R s m args below meth c w m0 nL fin pc L (.int i :: .ref a :: st) mem o := by
  refine zJ.go (fun H locs ls cells slots Q hI hl kw => ?_) kk
  have hin := ib_in hi
  have hlt : i.toNatClampNeg < n := Nat.not_le.mp fun q => hin (Or.inr q)
  subst hk
  exact W.zald (v := .int (gI mem a i.toNatClampNeg)) hc.1 hc.2.1 (hI.1.1 a 3 n hok hlay (by decide)) ((hc.2.2.2.2.2.2.2.1.1.2 2 _ rfl).1 n _) (fun q => by cases q) (by rw [arrV_size]; exact hin) (by rw [arrV_read _ _ hlt]) rfl rfl hd kw

theorem z_lald (hc : zCx p s m args meth c w m0 own cc nL ret) {a n k : Nat} {i : Int32} (hlay : w.2.2.1 a = (2, n)) (hok : zok w.2.2.2.2 mem a) (hi : ib i n = true) (hk : ix i = k) (hd : decode cc pc = .ok (.laload, 1)) (kk : zJ enc p l e R s m args below meth c w m0 nL fin (pc + 1) L (.long (gL mem a k) :: st) mem o) : zJ enc p l e R s m args below meth c w m0 nL fin pc L (.int i :: .ref a :: st) mem o := by
  refine zJ.go (fun H locs ls cells slots Q hI hl kw => ?_) kk
  have hin := ib_in hi
  have hlt : i.toNatClampNeg < n := Nat.not_le.mp fun q => hin (Or.inr q)
  subst hk
  exact W.lald (v := .long (gL mem a i.toNatClampNeg)) hc.1 hc.2.1 (hI.1.2.1 a n hok hlay) ((hc.2.2.2.2.2.2.2.1.1.2 1 _ rfl).1 n _) (fun q => by cases q) (by rw [arrV_size]; exact hin) (by rw [arrV_read _ _ hlt]) rfl rfl hd kw
theorem zArr (hc : zCx p s m args meth c w m0 own cc nL ret) {kd : Nat} (h : kd = 5 ∨ kd = 6) (n : Nat) (z : Nat → Value) : ∃ t : FieldType, t.isReference = true ∧ s.isArrayOf (arrV (w.1.2.2.1 kd) n z) t := by
  rcases h with rfl | rfl
  · exact ⟨_, rfl, (hc.2.2.2.2.2.2.2.1.1.2 4 _ rfl).1 n z⟩
  · exact ⟨_, rfl, (hc.2.2.2.2.2.2.2.1.1.2 5 _ rfl).1 n z⟩
theorem z_aald (hc : zCx p s m args meth c w m0 own cc nL ret) {a kd n k x : Nat} {i : Int32} (hlay : w.2.2.1 a = (kd, n)) (hkd : kd = 5 ∨ kd = 6) (hok : zok w.2.2.2.2 mem a) (hi : ib i n = true) (hk : ix i = k) (hr : w.2.2.2.1 mem.2.2.1 a k = x) (hx : 1 ≤ x) (hd : decode cc pc = .ok (.aaload, 1)) (kk : zJ enc p l e R s m args below meth c w m0 nL fin (pc + 1) L (.ref x :: st) mem o) : zJ enc p l e R s m args below meth c w m0 nL fin pc L (.int i :: .ref a :: st) mem o := by
  refine zJ.go (fun H locs ls cells slots Q hI hl kw => ?_) kk
  have hin := ib_in hi
  have hlt : i.toNatClampNeg < n := Nat.not_le.mp fun q => hin (Or.inr q)
  subst hk
  obtain ⟨t, ht1, ht2⟩ := zArr hc hkd n (fun j => zrv w.2.1 (w.2.2.2.1 mem.2.2.1 a j))
  exact W.aald (v := zv w.1 w.2.1 (.ref x)) hc.1 hc.2.1 (hI.1.2.2.1 a kd n hok hlay hkd) ht2 ht1 (fun q => by cases q) (by rw [arrV_size]; exact hin) (by rw [arrV_read _ _ hlt]; exact congrArg some (by show zrv _ (w.2.2.2.1 mem.2.2.1 a (ix i)) = _; rw [hr]; exact zrv_ref hx)) rfl rfl hd kw
theorem z_alen (hc : zCx p s m args meth c w m0 own cc nL ret) {a kd n : Nat} {v : Int32} (hlay : w.2.2.1 a = (kd, n)) (hkd : kd = 1 ∨ kd = 2) (hok : zok w.2.2.2.2 mem a) (hv : n.toInt32 = v) (hd : decode cc pc = .ok (.arraylength, 1)) (kk : zJ enc p l e R s m args below meth c w m0 nL fin (pc + 1) L (.int v :: st) mem o) : zJ enc p l e R s m args below meth c w m0 nL fin pc L (.ref a :: st) mem o := by
  refine zJ.go (fun H locs ls cells slots Q hI hl kw => ?_) kk
  rcases hkd with rfl | rfl
  · exact W.alen hc.1 hc.2.1 (hI.1.1 a 1 n hok hlay (by decide)) ((hc.2.2.2.2.2.2.2.1.1.2 0 _ rfl).1 n _) (by rw [arrV_size]; exact hv) rfl rfl hd kw
  · exact W.alen hc.1 hc.2.1 (hI.1.2.1 a n hok hlay) ((hc.2.2.2.2.2.2.2.1.1.2 1 _ rfl).1 n _) (by rw [arrV_size]; exact hv) rfl rfl hd kw
/-- a store into a row: the memory behind it -/
theorem zI.row {H H' : Heap} {locs : List Loc} {a kd n i : Nat} {mem' : zM} {fv : Nat → Value} (hc : zCx p s m args meth c w m0 own cc nL ret) (hI : zI w s m0 mem H locs) (hlay : w.2.2.1 a = (kd, n)) (hkd : kd < 10) (hok : zok w.2.2.2.2 mem a) (hN : gN mem' = gN mem)
    (hs : ∀ x, x ≠ a → (∀ k, gI mem' x k = gI mem x k) ∧ (∀ k, gL mem' x k = gL mem x k) ∧ ∀ k, w.2.2.2.1 mem'.2.2.1 x k = w.2.2.2.1 mem.2.2.1 x k)
    (ho : H'[w.2.1 + a]? = some (arrV (w.1.2.2.1 kd) n fv)) (h1 : kd = 1 ∨ kd = 3 ∨ kd = 4 → ∀ j, fv j = .int (gI mem' a j)) (h2 : kd = 2 → ∀ j, fv j = .long (gL mem' a j)) (h5 : kd = 5 ∨ kd = 6 → ∀ j, fv j = zrv w.2.1 (w.2.2.2.1 mem'.2.2.1 a j)) (hz : H'.size = H.size) (hq : ∀ q, q ≠ w.2.1 + a → H'[q]? = H[q]?) : zI w s m0 mem' H' (locs ++ [⟨w.2.1 + a, i⟩]) :=
  hI.put hc.2.2.2.2.2.2.2.2.2 hok hN hz hq (hI.1.arr hlay hkd hN hs ho h1 h2 h5 hq)
theorem sI_row {a : Nat} {k : Nat} {x : Int32} : ∀ y, y ≠ a → (∀ j, gI (sI mem a k x) y j = gI mem y j) ∧ (∀ j, gL (sI mem a k x) y j = gL mem y j) ∧ ∀ j, w.2.2.2.1 (sI mem a k x).2.2.1 y j = w.2.2.2.1 mem.2.2.1 y j := by
  refine fun y hy => ⟨fun j => ?_, fun _ => rfl, fun _ => rfl⟩
  show (if y = a ∧ j = k then x else mem.1 y j) = mem.1 y j
  rw [if_neg (fun h => hy h.1)]
theorem sL_row {a : Nat} {k : Nat} {x : Int64} : ∀ y, y ≠ a → (∀ j, gI (sL mem a k x) y j = gI mem y j) ∧ (∀ j, gL (sL mem a k x) y j = gL mem y j) ∧ ∀ j, w.2.2.2.1 (sL mem a k x).2.2.1 y j = w.2.2.2.1 mem.2.2.1 y j := by
  refine fun y hy => ⟨fun _ => rfl, fun j => ?_, fun _ => rfl⟩
  show (if y = a ∧ j = k then x else mem.2.1 y j) = mem.2.1 y j
  rw [if_neg (fun h => hy h.1)]
theorem sI_upd {a k : Nat} {x : Int32} (j : Nat) : updV (fun j => Value.int (gI mem a j)) k (.int x) j = .int (gI (sI mem a k x) a j) := by
  by_cases h : j = k <;> simp [updV, gI, sI, h]
theorem sL_upd {a k : Nat} {x : Int64} (j : Nat) : updV (fun j => Value.long (gL mem a j)) k (.long x) j = .long (gL (sL mem a k x) a j) := by
  by_cases h : j = k <;> simp [updV, gL, sL, h]

theorem z_iast (hc : zCx p s m args meth c w m0 own cc nL ret) {a n k : Nat} {i x : Int32} (hlay : w.2.2.1 a = (1, n)) (hok : zok w.2.2.2.2 mem a) (hi : ib i n = true) (hk : ix i = k) (hd : decode cc pc = .ok (.iastore, 1)) (kk : zJ enc p l e R s m args below meth c w m0 nL fin (pc + 1) L st (sI mem a k x) o) : zJ enc p l e R s m args below meth c w m0 nL fin pc L (.int x :: .int i :: .ref a :: st) mem o := by
  intro ho
  obtain ⟨kk1, kk2⟩ := kk ho
  refine ⟨kk1, fun H locs ls hI hl => ?_⟩
  have hin := ib_in hi
  subst hk
  refine W.iast hc.1 hc.2.1 (hI.1.1 a 1 n hok hlay (by decide)) ((hc.2.2.2.2.2.2.2.1.1.2 0 _ rfl).1 n _) (fun q => by cases q) (by rw [arrV_size]; exact hin) rfl rfl hd (fun H' e1 e2 e3 => ?_)
  rw [arrV_store] at e1
  exact kk2 H' _ ls (hI.row hc hlay (by decide) hok rfl sI_row e1 (fun _ j => sI_upd j) (fun h => absurd h (by decide)) (fun h => absurd h (by decide)) e2 e3) hl

theorem z_bast (hc : zCx p s m args meth c w m0 own cc nL ret) {a n k : Nat} {i x : Int32} (hlay : w.2.2.1 a = (4, n)) (hok : zok w.2.2.2.2 mem a) (hi : ib i n = true) (hk : ix i = k) (hd : decode cc pc = .ok (.bastore, 1)) (kk : zJ enc p l e R s m args below meth c w m0 nL fin (pc + 1) L st (sI mem a k (x.toInt8.toInt32)) o) : zJ enc p l e R s m args below meth c w m0 nL fin pc L (.int x :: .int i :: .ref a :: st) mem o := by
  intro ho
  obtain ⟨kk1, kk2⟩ := kk ho
  refine ⟨kk1, fun H locs ls hI hl => ?_⟩
  have hin := ib_in hi
  subst hk
  refine W.bast hc.1 hc.2.1 (hI.1.1 a 4 n hok hlay (by decide)) ((hc.2.2.2.2.2.2.2.1.1.2 3 _ rfl).1 n _) (fun q => by cases q) (by rw [arrV_size]; exact hin) rfl rfl hd (fun H' e1 e2 e3 => ?_)
  rw [arrV_store] at e1
  exact kk2 H' _ ls (hI.row hc hlay (by decide) hok rfl sI_row e1 (fun _ j => sI_upd j) (fun h => absurd h (by decide)) (fun h => absurd h (by decide)) e2 e3) hl

theorem z_zast (hc : zCx p s m args meth c w m0 own cc nL ret) {a n k : Nat} {i x : Int32} (hlay : w.2.2.1 a = (3, n)) (hok : zok w.2.2.2.2 mem a) (hi : ib i n = true) (hk : ix i = k) (hd : decode cc pc = .ok (.bastore, 1)) (kk : zJ enc p l e R s m args below meth c w m0 nL fin (pc + 1) L st (sI mem a k (vp_nar .boolean x)) o) : zJ enc p l e R s m args below meth c w m0 nL fin pc L (.int x :: .int i :: .ref a :: st) mem o := by
  intro ho
  obtain ⟨kk1, kk2⟩ := kk ho
  refine ⟨kk1, fun H locs ls hI hl => ?_⟩
  have hin := ib_in hi
  subst hk
  refine W.zast hc.1 hc.2.1 (hI.1.1 a 3 n hok hlay (by decide)) ((hc.2.2.2.2.2.2.2.1.1.2 2 _ rfl).1 n _) (fun q => by cases q) (by rw [arrV_size]; exact hin) rfl rfl hd (fun H' e1 e2 e3 => ?_)
  rw [arrV_store] at e1
  exact kk2 H' _ ls (hI.row hc hlay (by decide) hok rfl sI_row e1 (fun _ j => sI_upd j) (fun h => absurd h (by decide)) (fun h => absurd h (by decide)) e2 e3) hl

theorem z_last (hc : zCx p s m args meth c w m0 own cc nL ret) {a n k : Nat} {i : Int32} {x : Int64} (hlay : w.2.2.1 a = (2, n)) (hok : zok w.2.2.2.2 mem a) (hi : ib i n = true) (hk : ix i = k) (hd : decode cc pc = .ok (.lastore, 1)) (kk : zJ enc p l e R s m args below meth c w m0 nL fin (pc + 1) L st (sL mem a k x) o) : zJ enc p l e R s m args below meth c w m0 nL fin pc L (.long x :: .int i :: .ref a :: st) mem o := by
  intro ho
  obtain ⟨kk1, kk2⟩ := kk ho
  refine ⟨kk1, fun H locs ls hI hl => ?_⟩
  have hin := ib_in hi
  subst hk
  refine W.last hc.1 hc.2.1 (hI.1.2.1 a n hok hlay) ((hc.2.2.2.2.2.2.2.1.1.2 1 _ rfl).1 n _) (fun q => by cases q) (by rw [arrV_size]; exact hin) rfl rfl hd (fun H' e1 e2 e3 => ?_)
  rw [arrV_store] at e1
  exact kk2 H' _ ls (hI.row hc hlay (by decide) hok rfl sL_row e1 (fun h => absurd h (by decide)) (fun _ j => sL_upd j) (fun h => absurd h (by decide)) e2 e3) hl

end ZR
