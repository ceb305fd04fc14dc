/-! ===== the small machine: memory as functions, a heap's picture of it, the judgement zJ ===== -/
abbrev zM : Type := (Nat → Nat → Int32) × (Nat → Nat → Int64) × (Nat → Nat → Nat) × Nat
def gI (m : zM) (a k : Nat) : Int32 := m.1 a k
def gL (m : zM) (a k : Nat) : Int64 := m.2.1 a k
def gR (m : zM) (a k : Nat) : Nat := m.2.2.1 a k
def gN (m : zM) : Nat := m.2.2.2
def sI (m : zM) (a k : Nat) (v : Int32) : zM := (fun x j => if x = a ∧ j = k then v else m.1 x j, m.2)
def sL (m : zM) (a k : Nat) (v : Int64) : zM := (m.1, fun x j => if x = a ∧ j = k then v else m.2.1 x j, m.2.2)
def sR (m : zM) (a k : Nat) (v : Nat) : zM := (m.1, m.2.1, fun x j => if x = a ∧ j = k then v else m.2.2.1 x j, m.2.2.2)
/-- one more cell, all its slots at their defaults -/
def sN (m : zM) : zM := (fun x j => if x = m.2.2.2 + 1 then 0 else m.1 x j, fun x j => if x = m.2.2.2 + 1 then 0 else m.2.1 x j, fun x j => if x = m.2.2.2 + 1 then 0 else m.2.2.1 x j, m.2.2.2 + 1)
/-- n ints of row a from place i laid into row b from place j -/
def sC (m : zM) (a i b j n : Nat) : zM := (fun x q => if x = b ∧ j ≤ q ∧ q < j + n then m.1 a (i + (q - j)) else m.1 x q, m.2)
def ix (i : Int32) : Nat := i.toNatClampNeg
/-- an index within -/
def ib (i : Int32) (n : Nat) : Bool := decide (0 ≤ i.toInt) && decide (i.toInt < n)
theorem ib_in {i : Int32} {n : Nat} (h : ib i n = true) : vp_in i n := by
  simp only [ib, Bool.and_eq_true, decide_eq_true_eq] at h
  exact vp_in_iff.mpr h
abbrev zD : Type := (Nat → ClassId) × (Nat → Nat → Nat) × (Nat → ClassId) × Nat
def zty : Nat → Nat → FieldType := fun c => match c with
  | 0 => tyX0 | 1 => tyX1 | 2 => tyX2 | 3 => tyX3 | 4 => tyX4 | 5 => tyX5 | 6 => tyX6 | 7 => tyX7 | 8 => tyX8 | 9 => tyX9 | _ => tyX10
def zNf : Nat → Nat := fun c => match c with
  | 0 => 16 | 1 => 3 | 2 => 4 | 3 => 2 | 4 => 9 | 5 => 4 | 6 => 4 | 7 => 6 | 8 => 7 | 9 => 15 | _ => 67
def zTb : Nat → u_T := fun c => match c with
  | 0 => TX0 | 1 => TX1 | 2 => TX2 | 3 => TX3 | 4 => TX4 | 5 => TX5 | 6 => TX6 | 7 => TX7 | 8 => TX8 | 9 => TX9 | _ => TX10
def zRn : Nat → String := fun c => match c with
  | 0 => RX0 | 1 => RX1 | 2 => RX2 | 3 => RX3 | 4 => RX4 | 5 => RX5 | 6 => RX6 | 7 => RX7 | 8 => RX8 | 9 => RX9 | _ => RX10
theorem zcl {c : Nat} (h : c < 11) : vwCl[c]? = some (zRn c, zTb c, zNf c) := by
  match c, h with
  | 0, _ => rfl
  | 1, _ => rfl
  | 2, _ => rfl
  | 3, _ => rfl
  | 4, _ => rfl
  | 5, _ => rfl
  | 6, _ => rfl
  | 7, _ => rfl
  | 8, _ => rfl
  | 9, _ => rfl
  | 10, _ => rfl
theorem zty_ok {c : Nat} (h : c < 11) : ∀ k, k < zNf c → parseFieldDescriptor (zTb c k).2.2.1 = some (zty c k) := by
  match c, h with
  | 0, _ => exact tyX0_ok
  | 1, _ => exact tyX1_ok
  | 2, _ => exact tyX2_ok
  | 3, _ => exact tyX3_ok
  | 4, _ => exact tyX4_ok
  | 5, _ => exact tyX5_ok
  | 6, _ => exact tyX6_ok
  | 7, _ => exact tyX7_ok
  | 8, _ => exact tyX8_ok
  | 9, _ => exact tyX9_ok
  | 10, _ => exact tyX10_ok
theorem znm {c : Nat} (h : c < 11) : ∀ a, a < zNf c → ∀ b, b < zNf c → a ≠ b → (zTb c a).2.1 ≠ (zTb c b).2.1 := by
  match c, h with
  | 0, _ => exact nmX0
  | 1, _ => exact nmX1
  | 2, _ => exact nmX2
  | 3, _ => exact nmX3
  | 4, _ => exact nmX4
  | 5, _ => exact nmX5
  | 6, _ => exact nmX6
  | 7, _ => exact nmX7
  | 8, _ => exact nmX8
  | 9, _ => exact nmX9
  | 10, _ => exact nmX10
def zrv (b r : Nat) : Value := match r with
  | 0 => .null
  | n + 1 => .ref (b + (n + 1))
def zfv (b : Nat) (rf : (Nat → Nat → Nat) → Nat → Nat → Nat) (m : zM) (a : Nat) (ty : FieldType) (k : Nat) : Value := match ty with
  | .long => .long (gL m a k)
  | .object _ => zrv b (rf m.2.2.1 a k)
  | .array _ => zrv b (rf m.2.2.1 a k)
  | _ => .int (gI m a k)
/-- what a value of the small machine is on the machine; a double stands for the one static array -/
def zv (D : zD) (b : Nat) (v : Value) : Value := match v with
  | .ref a => .ref (b + a)
  | .double _ => .ref D.2.2.2
  | v => v
def zl (D : zD) (b : Nat) (L : List (Nat × Value)) : List (Nat × Value) := L.map (fun q => (q.1, zv D b q.2))
theorem zv_cat (D : zD) (b : Nat) (v : Value) (h : ∀ x, v ≠ .double x) : (zv D b v).category = v.category := by
  cases v <;> first | rfl | exact absurd rfl (h _)
/-- the cells that there are -/
def zok (mn : Nat × Bool) (m : zM) (a : Nat) : Prop := 1 ≤ a ∧ (a ≤ mn.1 ∨ (mn.2 = true ∧ a ≤ gN m))
def zRep (D : zD) (b : Nat) (lay : Nat → Nat × Nat) (rf : (Nat → Nat → Nat) → Nat → Nat → Nat) (mn : Nat × Bool) (m : zM) (H : Heap) : Prop :=
  (∀ a k n, zok mn m a → lay a = (k, n) → (k = 1 ∨ k = 3 ∨ k = 4) → H[b + a]? = some (arrV (D.2.2.1 k) n (fun j => .int (gI m a j)))) ∧
  (∀ a n, zok mn m a → lay a = (2, n) → H[b + a]? = some (arrV (D.2.2.1 2) n (fun j => .long (gL m a j)))) ∧
  (∀ a k n, zok mn m a → lay a = (k, n) → (k = 5 ∨ k = 6) → H[b + a]? = some (arrV (D.2.2.1 k) n (fun j => zrv b (rf m.2.2.1 a j)))) ∧
  (∀ a c n, zok mn m a → lay a = (10 + c, n) → t_OB (b + a) (D.1 c) (zNf c) (D.2.1 c) H (fun k => zfv b rf m a (zty c k) k))
abbrev zTys (D : zD) : List (ClassId × FieldType) := [(D.2.2.1 1, .int), (D.2.2.1 2, .long), (D.2.2.1 3, .boolean), (D.2.2.1 4, .byte), (D.2.2.1 5, .object "OtterWrits$State"), (D.2.2.1 6, .object "OtterWrits$Mark")]
/-- the words that a contract carries: those of the tables that stay -/
def zT : List Cond := lw_tbl.filter goodWord
theorem zT_mem {w : Cond} (h : w ∈ lw_tbl) (g : goodWord w = true) : w ∈ zT := List.mem_filter.mpr ⟨h, g⟩
theorem zT_good : ∀ w ∈ zT, goodWord w = true := fun w h => (List.mem_filter.mp h).2
theorem zT_1 {w : Cond} (h : w ∈ tables_1_1) (g : goodWord w = true) : w ∈ zT := zT_mem (List.mem_append_right _ (List.mem_append_left _ h)) g
theorem zT_2 {w : Cond} (h : w ∈ tables_1_2) (g : goodWord w = true) : w ∈ zT := zT_mem (List.mem_append_right _ (List.mem_append_right _ (List.mem_append_left _ h))) g
theorem zT_3 {w : Cond} (h : w ∈ tables_1_3) (g : goodWord w = true) : w ∈ zT := zT_mem (List.mem_append_right _ (List.mem_append_right _ (List.mem_append_right _ (List.mem_append_left _ h)))) g
theorem zT_4 {w : Cond} (h : w ∈ tables_1_4) (g : goodWord w = true) : w ∈ zT := zT_mem (List.mem_append_right _ (List.mem_append_right _ (List.mem_append_right _ (List.mem_append_right _ (List.mem_append_left _ h))))) g
theorem zT_5 {w : Cond} (h : w ∈ tables_1_5) (g : goodWord w = true) : w ∈ zT := zT_mem (List.mem_append_right _ (List.mem_append_right _ (List.mem_append_right _ (List.mem_append_right _ (List.mem_append_right _ (List.mem_append_left _ h)))))) g
theorem zT_6 {w : Cond} (h : w ∈ tables_1_6) (g : goodWord w = true) : w ∈ zT := zT_mem (List.mem_append_right _ (List.mem_append_right _ (List.mem_append_right _ (List.mem_append_right _ (List.mem_append_right _ (List.mem_append_right _ (List.mem_append_left _ h))))))) g
theorem zT_7 {w : Cond} (h : w ∈ tables_1_7) (g : goodWord w = true) : w ∈ zT := zT_mem (List.mem_append_right _ (List.mem_append_right _ (List.mem_append_right _ (List.mem_append_right _ (List.mem_append_right _ (List.mem_append_right _ (List.mem_append_right _ (List.mem_append_left _ h)))))))) g
theorem zT_8 {w : Cond} (h : w ∈ tables_1_8) (g : goodWord w = true) : w ∈ zT := zT_mem (List.mem_append_right _ (List.mem_append_right _ (List.mem_append_right _ (List.mem_append_right _ (List.mem_append_right _ (List.mem_append_right _ (List.mem_append_right _ (List.mem_append_right _ h)))))))) g
theorem zT_s {w : Cond} (h : w ∈ k2_sels lw_privs) (g : goodWord w = true) : w ∈ zT := zT_mem (List.mem_append_left _ h) g
theorem zT_sub : GoodIn zT zT := fun w h => ⟨h, good_of_word (zT_good w h)⟩
theorem zT_cons {c d : Cond} (hd : d ∈ zT) : GoodIn (c :: zT) (d :: zT) := fun w h => by
  rcases List.mem_cons.mp h with rfl | h
  · exact ⟨List.mem_cons_of_mem _ hd, good_of_word (zT_good _ hd)⟩
  · exact ⟨List.mem_cons_of_mem _ h, good_of_word (zT_good _ h)⟩
def zKept : List Int64 := [482854658917, 512736126322, 126943972647277, 123581014175598, 26990, 478695155058, 1885430629, 2003986804, 6713202, 25209, 1918986606, 2003137651, 6578553, 1952541541, 1937205613, 495623239269, 482854660462, 2002875001, 108170704348530, 1684371321, 7237492, 6385252, 28530]
abbrev zNestM : List (String × Nat × MethodName × String) := [(RX9, 9, yX8_init, "OtterWrits"), (RX9, 18, yX0_init, "OtterWrits"), (RX0, 59, yX1_init, "OtterWrits"), (RX9, 28, yX6_init, "OtterWrits"), (RX9, 38, yX7_init, "OtterWrits"), (RX9, 48, yX5_init, "OtterWrits"), (RX9, 55, yX4_init, "OtterWrits"), (RX4, 11, yX7_init, "OtterWrits"), (RX9, 74, yX2_init, "OtterWrits"), (RX2, 9, yX7_init, "OtterWrits"), (RX2, 18, yX6_init, "OtterWrits"), (RX2, 25, yX5_init, "OtterWrits"), (RX8, 17, yX9_within, "OtterWrits"), (RX0, 225, yX1_readExpression, "OtterWrits"), (RX7, 58, yX9_within, "OtterWrits"), (RX7, 65, yX9_bitsOf, "OtterWrits")]
def zNw (U : State) : Prop := (∀ q ∈ zNestM, va_Nw (.methodLinkNest q.1 q.2.1 q.2.2.1 q.2.2.2) U) ∧ va_Nw (.fieldLinkNest RX8 68 RX9 "KEPT_WORDS" "[J" "OtterWrits") U ∧ va_AO RX7 U ∧ va_AO RX2 U
/-- what the tables say, wherever a method begins -/
def zK (D : zD) (U : State) : Prop := va_K (D.1, D.2.1) vwCl (zTys D) U ∧ zNw U
theorem zK.moved {D : zD} {s U : State} (hW : s.WarmedH U.vm) (h : zK D s) : zK D U := ⟨va_K.moved hW.alike h.1, fun q hq => va_Nw.warmM hW (h.2.1 q hq), va_Nw.warmF hW h.2.2.1, h.2.2.2.1.moved hW.alike, h.2.2.2.2.moved hW.alike⟩
theorem zK.same {D : zD} {s U : State} (hv : s.vm = U.vm) (h : zK D s) : zK D U := ⟨va_K.moved (by rw [← hv]; exact Vm.Alike.refl _) h.1, fun q hq => va_Nw.same rfl hv (h.2.1 q hq), va_Nw.same rfl hv h.2.2.1, h.2.2.2.1.moved (by rw [← hv]; exact Vm.Alike.refl _), h.2.2.2.2.moved (by rw [← hv]; exact Vm.Alike.refl _)⟩
/-- the one static array, below all that is ours -/
def zSt (D : zD) (b : Nat) (U : State) (H : Heap) : Prop := va_Z RX9 "KEPT_WORDS" "[J" (.ref D.2.2.2) (fun q => b < q) U H ∧ va_T .long D.2.2.2 23 (fun j => .long (zKept.getD j 0)) (fun q => b < q) U H
theorem zSt.moved {D : zD} {b : Nat} {u U : State} {H : Heap} (hvm : u.vm.Alike U.vm) (h : zSt D b u H) : zSt D b U H := ⟨h.1.moved hvm, h.2.moved hvm⟩
theorem zSt.kept {D : zD} {b : Nat} {U : State} {H H1 : Heap} (h : zSt D b U H) (hq : ∀ a : Nat, a < H.size → a ≤ b → H1[a]? = H[a]?) : zSt D b U H1 := ⟨h.1.kept (fun a h1 h2 => hq a h1 (Nat.not_lt.mp h2)), h.2.kept (fun a h1 h2 => hq a h1 (Nat.not_lt.mp h2))⟩
/-- slots of the cells up to n -/
def zsum (lay : Nat → Nat × Nat) : Nat → Nat
  | 0 => 0
  | n + 1 => zsum lay n + (lay (n + 1)).2
theorem zsum_mono (lay : Nat → Nat × Nat) {i j : Nat} (h : i ≤ j) : zsum lay i ≤ zsum lay j := by
  induction j with
  | zero => rw [Nat.le_zero.mp h]; exact Nat.le_refl _
  | succ j ih =>
    rcases Nat.lt_or_ge i (j + 1) with h1 | h1
    · exact Nat.le_trans (ih (Nat.lt_succ_iff.mp h1)) (Nat.le_add_right _ _)
    · rw [Nat.le_antisymm h h1]; exact Nat.le_refl _
/-- the world's fixed things: tables, where the cells lie, their kinds, how a reference is read, how many there are always, whether cells may come -/
abbrev zWd : Type := zD × Nat × (Nat → Nat × Nat) × ((Nat → Nat → Nat) → Nat → Nat → Nat) × (Nat × Bool)
/-- cells, slots that have come between two memories -/
def zc (w : zWd) (m m' : zM) : Nat := if w.2.2.2.2.2 = true then gN m' - gN m else 0
def zs (w : zWd) (m m' : zM) : Nat := if w.2.2.2.2.2 = true then zsum w.2.2.1 (gN m') - zsum w.2.2.1 (gN m) else 0
def zPre (w : zWd) (av : List Value) (m : zM) : Array Value → State → Prop := va_Pc (av.map (zv w.1 w.2.1)) (fun U => zRep w.1 w.2.1 w.2.2.1 w.2.2.2.1 w.2.2.2.2 m U.heap ∧ zK w.1 U ∧ zSt w.1 w.2.1 U U.heap ∧ (w.2.2.2.2.2 = true → U.heap.size = w.2.1 + gN m + 1))
def zPost (w : zWd) (m : zM) (r : Option Value) (m' : zM) : Array Value → State → Outcome → State → Prop := fun _ st oc t =>
  oc = .returned (r.map (zv w.1 w.2.1)) ∧ zRep w.1 w.2.1 w.2.2.1 w.2.2.2.1 w.2.2.2.2 m' t.heap ∧ t.heap.size = st.heap.size + zc w m m' ∧ ∀ q, q < st.heap.size → ¬ (∃ a, q = w.2.1 + a ∧ zok w.2.2.2.2 m a) → t.heap[q]? = st.heap[q]?
/-- a method's contract: of these arguments and this memory comes this answer and that memory -/
def zMet (l : Launch) (w : zWd) (fr lo : Nat) (y : MethodName) (code : ByteArray) (maxL : Nat) (ret : Option FieldType) (av : List Value) (m : zM) (r : Option Value) (m' : zM) : Prop :=
  (w.2.2.2.2.2 = true → gN m ≤ gN m') ∧
  Met l y (.code y code maxL ret :: zT) ({ frames := fr, cells := zc w m m', slots := zs w m m', locals := lo }) (zPre w av m) (zPost w m r m') (zc w m m') (zs w m m') (fun q => w.2.1 < q)
/-- inside a method, at any of its instructions: the heap holds the memory; nothing else has changed -/
def zI (w : zWd) (s : State) (m0 mem : zM) (H : Heap) (locs : List Loc) : Prop :=
  zRep w.1 w.2.1 w.2.2.1 w.2.2.2.1 w.2.2.2.2 mem H ∧ (w.2.2.2.2.2 = true → gN m0 ≤ gN mem) ∧ H.size = s.heap.size + zc w m0 mem ∧ (∀ q, q < s.heap.size → ¬ (∃ a, q = w.2.1 + a ∧ zok w.2.2.2.2 m0 a) → H[q]? = s.heap[q]?) ∧ (∀ q ∈ locs, w.2.1 < q.base)
/-- what stands fixed inside a method -/
def zCx (p : Program) (s : State) (m : MethodId) (args : Array Value) (meth : Method) (c : Code) (w : zWd) (m0 : zM) (own : String) (cc : ByteArray) (nL : Nat) (ret : Option FieldType) : Prop :=
  p.tables.exec = Jvm.exec ∧ c.code = cc ∧ meth.sig.returnType = ret ∧ c.maxLocals = nL ∧ s.vm.findClass own = some m.cls ∧ (∀ x ∈ zT, x.before args s = true) ∧ meth.locks = false ∧ zK w.1 s ∧ zSt w.1 w.2.1 s s.heap ∧ (w.2.2.2.2.2 = true → s.heap.size = w.2.1 + gN m0 + 1)
/-- the judgement: if o is the end that is wanted, the machine comes from here to it -/
def zJ {α : Type} (enc : α → Option Value) (p : Program) (l : Launch) (e : Env) (R : Room) (s : State) (m : MethodId) (args : Array Value) (below : List Frame) (meth : Method) (c : Code) (w : zWd) (m0 : zM) (nL : Nat) (fin : α × zM) (pc : Nat) (L : List (Nat × Value)) (st : List Value) (mem : zM) (o : Option (α × zM)) : Prop :=
  o = some fin → (w.2.2.2.2.2 = true → gN mem ≤ gN fin.2) ∧ ∀ (H : Heap) (locs : List Loc) (ls : Array Slot), zI w s m0 mem H locs → lv_has ls nL (zl w.1 w.2.1 L) →
    W p l e R s m args below meth c H locs (zc w m0 mem) (zs w m0 mem) (MQ below (zPost w m0 (enc fin.1) fin.2) args s (zc w m0 fin.2) (zs w m0 fin.2) (fun q => w.2.1 < q)) (F0 m pc ls (st.map (zv w.1 w.2.1)))
theorem zc_eq {w : zWd} {m0 mem mem' : zM} (h : gN mem' = gN mem) : zc w m0 mem' = zc w m0 mem ∧ zs w m0 mem' = zs w m0 mem := by
  unfold zc zs; rw [h]; exact ⟨rfl, rfl⟩
theorem zc_add {w : zWd} {m0 mem m1 : zM} (h0 : w.2.2.2.2.2 = true → gN m0 ≤ gN mem) (h1 : w.2.2.2.2.2 = true → gN mem ≤ gN m1) : zc w m0 mem + zc w mem m1 = zc w m0 m1 ∧ zs w m0 mem + zs w mem m1 = zs w m0 m1 := by
  unfold zc zs
  cases ht : w.2.2.2.2.2 with
  | false => exact ⟨rfl, rfl⟩
  | true =>
    have a1 := zsum_mono w.2.2.1 (h0 ht)
    have a2 := zsum_mono w.2.2.1 (h1 ht)
    have a3 := h0 ht
    have a4 := h1 ht
    simp only [if_pos]
    omega
