section ZR
variable {α : Type} {enc : α → Option Value} {p : Program} {l : Launch} {e : Env} {R : Room} {s : State} {m : MethodId} {args : Array Value} {below : List Frame} {meth : Method} {c : Code} {w : zWd} {m0 : zM} {nL : Nat} {fin : α × zM} {pc : Nat} {L : List (Nat × Value)} {st : List Value} {mem : zM} {o : Option (α × zM)} {own : String} {cc : ByteArray} {ret : Option FieldType}
/-- an instruction that leaves locals and memory as they are -/
theorem zJ.go {pc' : Nat} {st st' : List Value} (h : ∀ (H : Heap) (locs : List Loc) (ls : Array Slot) (cells slots : Nat) (Q : State → Prop), zI w s m0 mem H locs → lv_has ls nL (zl w.1 w.2.1 L) → W p l e R s m args below meth c H locs cells slots Q (F0 m pc' ls (st'.map (zv w.1 w.2.1))) → W p l e R s m args below meth c H locs cells slots Q (F0 m pc ls (st.map (zv w.1 w.2.1))))
    (k : zJ enc p l e R s m args below meth c w m0 nL fin pc' L st' mem o) : zJ enc p l e R s m args below meth c w m0 nL fin pc L st mem o :=
  fun ho => ⟨(k ho).1, fun H locs ls hI hl => h H locs ls _ _ _ hI hl ((k ho).2 H locs ls hI hl)⟩
/-- an instruction that leaves memory as it is -/
theorem zJ.goL {pc' : Nat} {st st' : List Value} {L' : List (Nat × Value)} (h : ∀ (H : Heap) (locs : List Loc) (ls : Array Slot) (cells slots : Nat) (Q : State → Prop), zI w s m0 mem H locs → lv_has ls nL (zl w.1 w.2.1 L) → (∀ ls' : Array Slot, lv_has ls' nL (zl w.1 w.2.1 L') → W p l e R s m args below meth c H locs cells slots Q (F0 m pc' ls' (st'.map (zv w.1 w.2.1)))) → W p l e R s m args below meth c H locs cells slots Q (F0 m pc ls (st.map (zv w.1 w.2.1))))
    (k : zJ enc p l e R s m args below meth c w m0 nL fin pc' L' st' mem o) : zJ enc p l e R s m args below meth c w m0 nL fin pc L st mem o :=
  fun ho => ⟨(k ho).1, fun H locs ls hI hl => h H locs ls _ _ _ hI hl (fun ls' hl' => (k ho).2 H locs ls' hI hl')⟩
theorem zl_at {D : zD} {b : Nat} {L : List (Nat × Value)} {ls : Array Slot} (h : lv_has ls nL (zl D b L)) (k : Nat) {i : Nat} {v : Value} (hk : L[k]? = some (i, v)) : ls[i]? = some (.val (zv D b v)) :=
  lv_at h k (by simp only [zl, List.getElem?_map, hk]; rfl)
theorem zl_sub {D : zD} {b : Nat} {L L' : List (Nat × Value)} {ls : Array Slot} (h : lv_has ls nL (zl D b L)) (ks : List Nat) (hk : lv_pick L ks = L') : lv_has ls nL (zl D b L') := by
  refine ⟨h.1, h.2.1, fun q hq => ?_⟩
  obtain ⟨r, hr, rfl⟩ := List.mem_map.mp hq
  rw [← hk] at hr
  obtain ⟨k, -, hk⟩ := List.mem_filterMap.mp hr
  exact zl_at h k hk
/-- fewer locals -/
theorem zJ.sub {L' : List (Nat × Value)} (ks : List Nat) (hk : lv_pick L ks = L') (k : zJ enc p l e R s m args below meth c w m0 nL fin pc L' st mem o) : zJ enc p l e R s m args below meth c w m0 nL fin pc L st mem o :=
  fun ho => ⟨(k ho).1, fun H locs ls hI hl => (k ho).2 H locs ls hI (zl_sub hl ks hk)⟩
theorem zJ.nil : zJ enc p l e R s m args below meth c w m0 nL fin pc L st mem none := fun h => by cases h
theorem zJ.eq {o' : Option (α × zM)} (h : o = o') (k : zJ enc p l e R s m args below meth c w m0 nL fin pc L st mem o') : zJ enc p l e R s m args below meth c w m0 nL fin pc L st mem o := h ▸ k
theorem zJ.cut {P : Prop} (d : Decidable P) {o1 o2 : Option (α × zM)} (k1 : P → zJ enc p l e R s m args below meth c w m0 nL fin pc L st mem o1) (k2 : ¬ P → zJ enc p l e R s m args below meth c w m0 nL fin pc L st mem o2) : zJ enc p l e R s m args below meth c w m0 nL fin pc L st mem (@_root_.ite _ P d o1 o2) := by
  by_cases h : P
  · rw [if_pos h]; exact k1 h
  · rw [if_neg h]; exact k2 h
/-- a test of the small machine's own: where it fails there is no answer -/
theorem zJ.chk {P : Prop} (d : Decidable P) (k1 : P → zJ enc p l e R s m args below meth c w m0 nL fin pc L st mem o) : zJ enc p l e R s m args below meth c w m0 nL fin pc L st mem (@_root_.ite _ P d o none) := zJ.cut d k1 (fun _ => zJ.nil)
theorem zl_fil1 (D : zD) (b i : Nat) (L : List (Nat × Value)) (hL : ∀ q ∈ L, ∀ x, q.2 ≠ .double x) : (zl D b L).filter (fun q => !(q.1 == i) && !(q.1 + 1 == i && q.2.category == 2)) = zl D b (L.filter (fun q => !(q.1 == i) && !(q.1 + 1 == i && q.2.category == 2))) := by
  induction L with
  | nil => rfl
  | cons q L ih =>
    have hq := zv_cat D b q.2 (hL q List.mem_cons_self)
    have := ih (fun r hr => hL r (List.mem_cons_of_mem _ hr))
    simp only [zl, List.map_cons, List.filter_cons, hq] at this ⊢
    split
    · rw [List.map_cons, this]
    · exact this
theorem zl_fil2 (D : zD) (b i : Nat) (L : List (Nat × Value)) (hL : ∀ q ∈ L, ∀ x, q.2 ≠ .double x) : (zl D b L).filter (fun q => !(q.1 == i) && (!(q.1 == i + 1) && !(q.1 + 1 == i && q.2.category == 2))) = zl D b (L.filter (fun q => !(q.1 == i) && (!(q.1 == i + 1) && !(q.1 + 1 == i && q.2.category == 2)))) := by
  induction L with
  | nil => rfl
  | cons q L ih =>
    have hq := zv_cat D b q.2 (hL q List.mem_cons_self)
    have := ih (fun r hr => hL r (List.mem_cons_of_mem _ hr))
    simp only [zl, List.map_cons, List.filter_cons, hq] at this ⊢
    split
    · rw [List.map_cons, this]
    · exact this
/-- no local holds the static array -/
def zNd (L : List (Nat × Value)) : Bool := L.all (fun q => match q.2 with | .double _ => false | _ => true)
theorem zNd.of {L : List (Nat × Value)} (h : zNd L = true) : ∀ q ∈ L, ∀ x, q.2 ≠ .double x := by
  intro q hq x hx
  have := List.all_eq_true.mp h q hq
  rw [hx] at this
  cases this

theorem z_iconst (hc : zCx p s m args meth c w m0 own cc nL ret) {n : Int} {v : Int32} (hd : decode cc pc = .ok (.iconst n, 1)) (hv : Int32.ofInt n = v) (k : zJ enc p l e R s m args below meth c w m0 nL fin (pc + 1) L (.int v :: st) mem o) : zJ enc p l e R s m args below meth c w m0 nL fin pc L st mem o :=
  zJ.go (fun _ _ _ _ _ _ _ _ k => lv_iconst hc.1 hc.2.1 hd hv k) k
theorem z_bipush (hc : zCx p s m args meth c w m0 own cc nL ret) {n : Int} {v : Int32} (hd : decode cc pc = .ok (.bipush n, 2)) (hv : (Int8.ofInt n).toInt32 = v) (k : zJ enc p l e R s m args below meth c w m0 nL fin (pc + 2) L (.int v :: st) mem o) : zJ enc p l e R s m args below meth c w m0 nL fin pc L st mem o :=
  zJ.go (fun _ _ _ _ _ _ _ _ k => lv_bipush hc.1 hc.2.1 hd hv k) k
theorem z_sipush (hc : zCx p s m args meth c w m0 own cc nL ret) {n : Int} {v : Int32} (hd : decode cc pc = .ok (.sipush n, 3)) (hv : (Int16.ofInt n).toInt32 = v) (k : zJ enc p l e R s m args below meth c w m0 nL fin (pc + 3) L (.int v :: st) mem o) : zJ enc p l e R s m args below meth c w m0 nL fin pc L st mem o :=
  zJ.go (fun _ _ _ _ _ _ _ _ k => lv_sipush hc.1 hc.2.1 hd hv k) k
theorem z_lconst (hc : zCx p s m args meth c w m0 own cc nL ret) {n : Fin 2} {v : Int64} (hd : decode cc pc = .ok (.lconst n, 1)) (hv : Int64.ofNat (n : Nat) = v) (k : zJ enc p l e R s m args below meth c w m0 nL fin (pc + 1) L (.long v :: st) mem o) : zJ enc p l e R s m args below meth c w m0 nL fin pc L st mem o :=
  zJ.go (fun _ _ _ _ _ _ _ _ k => lv_lconst hc.1 hc.2.1 hd hv k) k
theorem z_ldcw (hc : zCx p s m args meth c w m0 own cc nL ret) {n : Nat} {v : Int32} (hw : Cond.constant own n v ∈ zT) (hd : decode cc pc = .ok (.ldc_w n, 3)) (k : zJ enc p l e R s m args below meth c w m0 nL fin (pc + 3) L (.int v :: st) mem o) : zJ enc p l e R s m args below meth c w m0 nL fin pc L st mem o :=
  zJ.go (fun _ _ _ _ _ _ _ _ k => lv_ldcw hc.1 hc.2.1 hc.2.2.2.2.1 (hc.2.2.2.2.2.1 _ hw) hd k) k
theorem z_ldc2 (hc : zCx p s m args meth c w m0 own cc nL ret) {n : Nat} {v : Int64} (hw : Cond.constantLong own n v ∈ zT) (hd : decode cc pc = .ok (.ldc2_w n, 3)) (k : zJ enc p l e R s m args below meth c w m0 nL fin (pc + 3) L (.long v :: st) mem o) : zJ enc p l e R s m args below meth c w m0 nL fin pc L st mem o :=
  zJ.go (fun _ _ _ _ _ _ _ _ k => lv_ldc2 hc.1 hc.2.1 hc.2.2.2.2.1 (hc.2.2.2.2.2.1 _ hw) hd k) k
theorem z_iload_n (hc : zCx p s m args meth c w m0 own cc nL ret) {j : Fin 4} {i : Nat} {x : Int32} (hd : decode cc pc = .ok (.iload_n j, 1)) (q : Nat) (hq : L[q]? = some (i, .int x)) (hj : (j : Nat) = i) (k : zJ enc p l e R s m args below meth c w m0 nL fin (pc + 1) L (.int x :: st) mem o) : zJ enc p l e R s m args below meth c w m0 nL fin pc L st mem o :=
  zJ.go (fun _ _ _ _ _ _ _ hl k => lv_iload_n hc.1 hc.2.1 hd hj (zl_at hl q hq) k) k
theorem z_iload (hc : zCx p s m args meth c w m0 own cc nL ret) {i : Nat} {x : Int32} (hd : decode cc pc = .ok (.iload i, 2)) (q : Nat) (hq : L[q]? = some (i, .int x)) (k : zJ enc p l e R s m args below meth c w m0 nL fin (pc + 2) L (.int x :: st) mem o) : zJ enc p l e R s m args below meth c w m0 nL fin pc L st mem o :=
  zJ.go (fun _ _ _ _ _ _ _ hl k => lv_iload hc.1 hc.2.1 hd (zl_at hl q hq) k) k
theorem z_lload_n (hc : zCx p s m args meth c w m0 own cc nL ret) {j : Fin 4} {i : Nat} {x : Int64} (hd : decode cc pc = .ok (.lload_n j, 1)) (q : Nat) (hq : L[q]? = some (i, .long x)) (hj : (j : Nat) = i) (k : zJ enc p l e R s m args below meth c w m0 nL fin (pc + 1) L (.long x :: st) mem o) : zJ enc p l e R s m args below meth c w m0 nL fin pc L st mem o :=
  zJ.go (fun _ _ _ _ _ _ _ hl k => lv_lload_n hc.1 hc.2.1 hd hj (zl_at hl q hq) k) k
theorem z_lload (hc : zCx p s m args meth c w m0 own cc nL ret) {i : Nat} {x : Int64} (hd : decode cc pc = .ok (.lload i, 2)) (q : Nat) (hq : L[q]? = some (i, .long x)) (k : zJ enc p l e R s m args below meth c w m0 nL fin (pc + 2) L (.long x :: st) mem o) : zJ enc p l e R s m args below meth c w m0 nL fin pc L st mem o :=
  zJ.go (fun _ _ _ _ _ _ _ hl k => lv_lload hc.1 hc.2.1 hd (zl_at hl q hq) k) k
theorem z_aload_n (hc : zCx p s m args meth c w m0 own cc nL ret) {j : Fin 4} {i : Nat} {x : Nat} (hd : decode cc pc = .ok (.aload_n j, 1)) (q : Nat) (hq : L[q]? = some (i, .ref x)) (hj : (j : Nat) = i) (k : zJ enc p l e R s m args below meth c w m0 nL fin (pc + 1) L (.ref x :: st) mem o) : zJ enc p l e R s m args below meth c w m0 nL fin pc L st mem o :=
  zJ.go (fun _ _ _ _ _ _ _ hl k => lv_aload_n hc.1 hc.2.1 hd hj (zl_at hl q hq) k) k
theorem z_aload (hc : zCx p s m args meth c w m0 own cc nL ret) {i : Nat} {x : Nat} (hd : decode cc pc = .ok (.aload i, 2)) (q : Nat) (hq : L[q]? = some (i, .ref x)) (k : zJ enc p l e R s m args below meth c w m0 nL fin (pc + 2) L (.ref x :: st) mem o) : zJ enc p l e R s m args below meth c w m0 nL fin pc L st mem o :=
  zJ.go (fun _ _ _ _ _ _ _ hl k => lv_aload hc.1 hc.2.1 hd (zl_at hl q hq) k) k
theorem z_istore_n (hc : zCx p s m args meth c w m0 own cc nL ret) {j : Fin 4} {i : Nat} {x : Int32} {L' : List (Nat × Value)} (hd : decode cc pc = .ok (.istore_n j, 1)) (hj : (j : Nat) = i) (hn : i < nL) (hn2 : zNd L = true) (hL : (i, Value.int x) :: L.filter (fun q => !(q.1 == i) && !(q.1 + 1 == i && q.2.category == 2)) = L') (k : zJ enc p l e R s m args below meth c w m0 nL fin (pc + 1) L' st mem o) : zJ enc p l e R s m args below meth c w m0 nL fin pc L (.int x :: st) mem o :=
  zJ.goL (fun _ _ _ _ _ _ _ hl k => lv_istore_n hc.1 hc.2.1 hd hj hl hn (by rw [zl_fil1 _ _ _ _ (zNd.of hn2), ← hL]; rfl) k) k
theorem z_istore (hc : zCx p s m args meth c w m0 own cc nL ret) {i : Nat} {x : Int32} {L' : List (Nat × Value)} (hd : decode cc pc = .ok (.istore i, 2)) (hn : i < nL) (hn2 : zNd L = true) (hL : (i, Value.int x) :: L.filter (fun q => !(q.1 == i) && !(q.1 + 1 == i && q.2.category == 2)) = L') (k : zJ enc p l e R s m args below meth c w m0 nL fin (pc + 2) L' st mem o) : zJ enc p l e R s m args below meth c w m0 nL fin pc L (.int x :: st) mem o :=
  zJ.goL (fun _ _ _ _ _ _ _ hl k => lv_istore hc.1 hc.2.1 hd hl hn (by rw [zl_fil1 _ _ _ _ (zNd.of hn2), ← hL]; rfl) k) k
theorem z_lstore_n (hc : zCx p s m args meth c w m0 own cc nL ret) {j : Fin 4} {i : Nat} {x : Int64} {L' : List (Nat × Value)} (hd : decode cc pc = .ok (.lstore_n j, 1)) (hj : (j : Nat) = i) (hn : i + 1 < nL) (hn2 : zNd L = true) (hL : (i, Value.long x) :: L.filter (fun q => !(q.1 == i) && (!(q.1 == i + 1) && !(q.1 + 1 == i && q.2.category == 2))) = L') (k : zJ enc p l e R s m args below meth c w m0 nL fin (pc + 1) L' st mem o) : zJ enc p l e R s m args below meth c w m0 nL fin pc L (.long x :: st) mem o :=
  zJ.goL (fun _ _ _ _ _ _ _ hl k => lv_lstore_n hc.1 hc.2.1 hd hj hl hn (by rw [zl_fil2 _ _ _ _ (zNd.of hn2), ← hL]; rfl) k) k
theorem z_lstore (hc : zCx p s m args meth c w m0 own cc nL ret) {i : Nat} {x : Int64} {L' : List (Nat × Value)} (hd : decode cc pc = .ok (.lstore i, 2)) (hn : i + 1 < nL) (hn2 : zNd L = true) (hL : (i, Value.long x) :: L.filter (fun q => !(q.1 == i) && (!(q.1 == i + 1) && !(q.1 + 1 == i && q.2.category == 2))) = L') (k : zJ enc p l e R s m args below meth c w m0 nL fin (pc + 2) L' st mem o) : zJ enc p l e R s m args below meth c w m0 nL fin pc L (.long x :: st) mem o :=
  zJ.goL (fun _ _ _ _ _ _ _ hl k => lv_lstore hc.1 hc.2.1 hd hl hn (by rw [zl_fil2 _ _ _ _ (zNd.of hn2), ← hL]; rfl) k) k
theorem z_astore_n (hc : zCx p s m args meth c w m0 own cc nL ret) {j : Fin 4} {i : Nat} {x : Nat} {L' : List (Nat × Value)} (hd : decode cc pc = .ok (.astore_n j, 1)) (hj : (j : Nat) = i) (hn : i < nL) (hn2 : zNd L = true) (hL : (i, Value.ref x) :: L.filter (fun q => !(q.1 == i) && !(q.1 + 1 == i && q.2.category == 2)) = L') (k : zJ enc p l e R s m args below meth c w m0 nL fin (pc + 1) L' st mem o) : zJ enc p l e R s m args below meth c w m0 nL fin pc L (.ref x :: st) mem o :=
  zJ.goL (fun _ _ _ _ _ _ _ hl k => lv_astore_n hc.1 hc.2.1 hd hj hl hn (by rw [zl_fil1 _ _ _ _ (zNd.of hn2), ← hL]; rfl) k) k
theorem z_astore (hc : zCx p s m args meth c w m0 own cc nL ret) {i : Nat} {x : Nat} {L' : List (Nat × Value)} (hd : decode cc pc = .ok (.astore i, 2)) (hn : i < nL) (hn2 : zNd L = true) (hL : (i, Value.ref x) :: L.filter (fun q => !(q.1 == i) && !(q.1 + 1 == i && q.2.category == 2)) = L') (k : zJ enc p l e R s m args below meth c w m0 nL fin (pc + 2) L' st mem o) : zJ enc p l e R s m args below meth c w m0 nL fin pc L (.ref x :: st) mem o :=
  zJ.goL (fun _ _ _ _ _ _ _ hl k => lv_astore hc.1 hc.2.1 hd hl hn (by rw [zl_fil1 _ _ _ _ (zNd.of hn2), ← hL]; rfl) k) k
theorem z_iinc (hc : zCx p s m args meth c w m0 own cc nL ret) {i : Nat} {n : Int} {x v : Int32} {L' : List (Nat × Value)} (hd : decode cc pc = .ok (.iinc i n, 3)) (q : Nat) (hq : L[q]? = some (i, .int x)) (hv : x + Int32.ofInt n = v) (hn : i < nL) (hn2 : zNd L = true) (hL : (i, Value.int v) :: L.filter (fun q => !(q.1 == i) && !(q.1 + 1 == i && q.2.category == 2)) = L') (k : zJ enc p l e R s m args below meth c w m0 nL fin (pc + 3) L' st mem o) : zJ enc p l e R s m args below meth c w m0 nL fin pc L st mem o :=
  zJ.goL (fun _ _ _ _ _ _ _ hl k => lv_iinc hc.1 hc.2.1 hd hl (k := q) (by simp only [zl, List.getElem?_map, hq]; rfl) hv hn (by rw [zl_fil1 _ _ _ _ (zNd.of hn2), ← hL]; rfl) k) k
theorem z_iadd (hc : zCx p s m args meth c w m0 own cc nL ret) {x y : Int32} (hd : decode cc pc = .ok (.iadd, 1)) (k : zJ enc p l e R s m args below meth c w m0 nL fin (pc + 1) L (.int (x + y) :: st) mem o) : zJ enc p l e R s m args below meth c w m0 nL fin pc L (.int y :: .int x :: st) mem o :=
  zJ.go (fun _ _ _ _ _ _ _ hl k => lv_iadd hc.1 hc.2.1 hd k) k
theorem z_isub (hc : zCx p s m args meth c w m0 own cc nL ret) {x y : Int32} (hd : decode cc pc = .ok (.isub, 1)) (k : zJ enc p l e R s m args below meth c w m0 nL fin (pc + 1) L (.int (x - y) :: st) mem o) : zJ enc p l e R s m args below meth c w m0 nL fin pc L (.int y :: .int x :: st) mem o :=
  zJ.go (fun _ _ _ _ _ _ _ hl k => lv_isub hc.1 hc.2.1 hd k) k
theorem z_imul (hc : zCx p s m args meth c w m0 own cc nL ret) {x y : Int32} (hd : decode cc pc = .ok (.imul, 1)) (k : zJ enc p l e R s m args below meth c w m0 nL fin (pc + 1) L (.int (x * y) :: st) mem o) : zJ enc p l e R s m args below meth c w m0 nL fin pc L (.int y :: .int x :: st) mem o :=
  zJ.go (fun _ _ _ _ _ _ _ hl k => lv_imul hc.1 hc.2.1 hd k) k
theorem z_iand (hc : zCx p s m args meth c w m0 own cc nL ret) {x y : Int32} (hd : decode cc pc = .ok (.iand, 1)) (k : zJ enc p l e R s m args below meth c w m0 nL fin (pc + 1) L (.int (x &&& y) :: st) mem o) : zJ enc p l e R s m args below meth c w m0 nL fin pc L (.int y :: .int x :: st) mem o :=
  zJ.go (fun _ _ _ _ _ _ _ hl k => lv_iand hc.1 hc.2.1 hd k) k
theorem z_ior (hc : zCx p s m args meth c w m0 own cc nL ret) {x y : Int32} (hd : decode cc pc = .ok (.ior, 1)) (k : zJ enc p l e R s m args below meth c w m0 nL fin (pc + 1) L (.int (x ||| y) :: st) mem o) : zJ enc p l e R s m args below meth c w m0 nL fin pc L (.int y :: .int x :: st) mem o :=
  zJ.go (fun _ _ _ _ _ _ _ hl k => lv_ior hc.1 hc.2.1 hd k) k
theorem z_ixor (hc : zCx p s m args meth c w m0 own cc nL ret) {x y : Int32} (hd : decode cc pc = .ok (.ixor, 1)) (k : zJ enc p l e R s m args below meth c w m0 nL fin (pc + 1) L (.int (x ^^^ y) :: st) mem o) : zJ enc p l e R s m args below meth c w m0 nL fin pc L (.int y :: .int x :: st) mem o :=
  zJ.go (fun _ _ _ _ _ _ _ hl k => lv_ixor hc.1 hc.2.1 hd k) k
theorem z_ishl (hc : zCx p s m args meth c w m0 own cc nL ret) {x y : Int32} (hd : decode cc pc = .ok (.ishl, 1)) (k : zJ enc p l e R s m args below meth c w m0 nL fin (pc + 1) L (.int (x <<< (y &&& 31)) :: st) mem o) : zJ enc p l e R s m args below meth c w m0 nL fin pc L (.int y :: .int x :: st) mem o :=
  zJ.go (fun _ _ _ _ _ _ _ hl k => lv_ishl hc.1 hc.2.1 hd k) k
theorem z_ishr (hc : zCx p s m args meth c w m0 own cc nL ret) {x y : Int32} (hd : decode cc pc = .ok (.ishr, 1)) (k : zJ enc p l e R s m args below meth c w m0 nL fin (pc + 1) L (.int (x >>> (y &&& 31)) :: st) mem o) : zJ enc p l e R s m args below meth c w m0 nL fin pc L (.int y :: .int x :: st) mem o :=
  zJ.go (fun _ _ _ _ _ _ _ hl k => lv_ishr hc.1 hc.2.1 hd k) k
theorem z_iushr (hc : zCx p s m args meth c w m0 own cc nL ret) {x y : Int32} (hd : decode cc pc = .ok (.iushr, 1)) (k : zJ enc p l e R s m args below meth c w m0 nL fin (pc + 1) L (.int (x.toUInt32 >>> (y.toUInt32 &&& Int32.toUInt32 31)).toInt32 :: st) mem o) : zJ enc p l e R s m args below meth c w m0 nL fin pc L (.int y :: .int x :: st) mem o :=
  zJ.go (fun _ _ _ _ _ _ _ hl k => lv_iushr hc.1 hc.2.1 hd rfl k) k
theorem z_idiv (hc : zCx p s m args meth c w m0 own cc nL ret) {x y : Int32} (h0 : ¬ y = 0) (hd : decode cc pc = .ok (.idiv, 1)) (k : zJ enc p l e R s m args below meth c w m0 nL fin (pc + 1) L (.int (x / y) :: st) mem o) : zJ enc p l e R s m args below meth c w m0 nL fin pc L (.int y :: .int x :: st) mem o :=
  zJ.go (fun _ _ _ _ _ _ _ hl k => lv_idiv hc.1 hc.2.1 hd h0 k) k
theorem z_irem (hc : zCx p s m args meth c w m0 own cc nL ret) {x y : Int32} (h0 : ¬ y = 0) (hd : decode cc pc = .ok (.irem, 1)) (k : zJ enc p l e R s m args below meth c w m0 nL fin (pc + 1) L (.int (x - x / y * y) :: st) mem o) : zJ enc p l e R s m args below meth c w m0 nL fin pc L (.int y :: .int x :: st) mem o :=
  zJ.go (fun _ _ _ _ _ _ _ hl k => lv_irem hc.1 hc.2.1 hd h0 k) k
theorem z_ineg (hc : zCx p s m args meth c w m0 own cc nL ret) {x : Int32} (hd : decode cc pc = .ok (.ineg, 1)) (k : zJ enc p l e R s m args below meth c w m0 nL fin (pc + 1) L (.int (-x) :: st) mem o) : zJ enc p l e R s m args below meth c w m0 nL fin pc L (.int x :: st) mem o :=
  zJ.go (fun _ _ _ _ _ _ _ hl k => lv_ineg hc.1 hc.2.1 hd k) k
theorem z_ladd (hc : zCx p s m args meth c w m0 own cc nL ret) {x y : Int64} (hd : decode cc pc = .ok (.ladd, 1)) (k : zJ enc p l e R s m args below meth c w m0 nL fin (pc + 1) L (.long (x + y) :: st) mem o) : zJ enc p l e R s m args below meth c w m0 nL fin pc L (.long y :: .long x :: st) mem o :=
  zJ.go (fun _ _ _ _ _ _ _ hl k => lv_ladd hc.1 hc.2.1 hd k) k
theorem z_lsub (hc : zCx p s m args meth c w m0 own cc nL ret) {x y : Int64} (hd : decode cc pc = .ok (.lsub, 1)) (k : zJ enc p l e R s m args below meth c w m0 nL fin (pc + 1) L (.long (x - y) :: st) mem o) : zJ enc p l e R s m args below meth c w m0 nL fin pc L (.long y :: .long x :: st) mem o :=
  zJ.go (fun _ _ _ _ _ _ _ hl k => lv_lsub hc.1 hc.2.1 hd k) k
theorem z_lmul (hc : zCx p s m args meth c w m0 own cc nL ret) {x y : Int64} (hd : decode cc pc = .ok (.lmul, 1)) (k : zJ enc p l e R s m args below meth c w m0 nL fin (pc + 1) L (.long (x * y) :: st) mem o) : zJ enc p l e R s m args below meth c w m0 nL fin pc L (.long y :: .long x :: st) mem o :=
  zJ.go (fun _ _ _ _ _ _ _ hl k => lv_lmul hc.1 hc.2.1 hd k) k
theorem z_land (hc : zCx p s m args meth c w m0 own cc nL ret) {x y : Int64} (hd : decode cc pc = .ok (.land, 1)) (k : zJ enc p l e R s m args below meth c w m0 nL fin (pc + 1) L (.long (x &&& y) :: st) mem o) : zJ enc p l e R s m args below meth c w m0 nL fin pc L (.long y :: .long x :: st) mem o :=
  zJ.go (fun _ _ _ _ _ _ _ hl k => lv_land hc.1 hc.2.1 hd k) k
theorem z_lor (hc : zCx p s m args meth c w m0 own cc nL ret) {x y : Int64} (hd : decode cc pc = .ok (.lor, 1)) (k : zJ enc p l e R s m args below meth c w m0 nL fin (pc + 1) L (.long (x ||| y) :: st) mem o) : zJ enc p l e R s m args below meth c w m0 nL fin pc L (.long y :: .long x :: st) mem o :=
  zJ.go (fun _ _ _ _ _ _ _ hl k => lv_lor hc.1 hc.2.1 hd k) k
theorem z_ldiv (hc : zCx p s m args meth c w m0 own cc nL ret) {x y : Int64} (h0 : ¬ y = 0) (hd : decode cc pc = .ok (.ldiv, 1)) (k : zJ enc p l e R s m args below meth c w m0 nL fin (pc + 1) L (.long (x / y) :: st) mem o) : zJ enc p l e R s m args below meth c w m0 nL fin pc L (.long y :: .long x :: st) mem o :=
  zJ.go (fun _ _ _ _ _ _ _ hl k => lv_ldiv hc.1 hc.2.1 hd h0 k) k
theorem z_lrem (hc : zCx p s m args meth c w m0 own cc nL ret) {x y : Int64} (h0 : ¬ y = 0) (hd : decode cc pc = .ok (.lrem, 1)) (k : zJ enc p l e R s m args below meth c w m0 nL fin (pc + 1) L (.long (x - x / y * y) :: st) mem o) : zJ enc p l e R s m args below meth c w m0 nL fin pc L (.long y :: .long x :: st) mem o :=
  zJ.go (fun _ _ _ _ _ _ _ hl k => lv_lrem hc.1 hc.2.1 hd h0 k) k
theorem z_lshl (hc : zCx p s m args meth c w m0 own cc nL ret) {x : Int64} {y : Int32} (hd : decode cc pc = .ok (.lshl, 1)) (k : zJ enc p l e R s m args below meth c w m0 nL fin (pc + 1) L (.long (x <<< (y.toInt64 &&& 63)) :: st) mem o) : zJ enc p l e R s m args below meth c w m0 nL fin pc L (.int y :: .long x :: st) mem o :=
  zJ.go (fun _ _ _ _ _ _ _ hl k => lv_lshl hc.1 hc.2.1 hd rfl k) k
theorem z_lushr (hc : zCx p s m args meth c w m0 own cc nL ret) {x : Int64} {y : Int32} (hd : decode cc pc = .ok (.lushr, 1)) (k : zJ enc p l e R s m args below meth c w m0 nL fin (pc + 1) L (.long (x.toUInt64 >>> (y.toInt64.toUInt64 &&& Int64.toUInt64 63)).toInt64 :: st) mem o) : zJ enc p l e R s m args below meth c w m0 nL fin pc L (.int y :: .long x :: st) mem o :=
  zJ.go (fun _ _ _ _ _ _ _ hl k => lv_lushr hc.1 hc.2.1 hd rfl k) k
theorem z_i2l (hc : zCx p s m args meth c w m0 own cc nL ret) {x : Int32} (hd : decode cc pc = .ok (.i2l, 1)) (k : zJ enc p l e R s m args below meth c w m0 nL fin (pc + 1) L (.long x.toInt64 :: st) mem o) : zJ enc p l e R s m args below meth c w m0 nL fin pc L (.int x :: st) mem o :=
  zJ.go (fun _ _ _ _ _ _ _ hl k => lv_i2l hc.1 hc.2.1 hd rfl k) k
theorem z_l2i (hc : zCx p s m args meth c w m0 own cc nL ret) {x : Int64} (hd : decode cc pc = .ok (.l2i, 1)) (k : zJ enc p l e R s m args below meth c w m0 nL fin (pc + 1) L (.int x.toInt32 :: st) mem o) : zJ enc p l e R s m args below meth c w m0 nL fin pc L (.long x :: st) mem o :=
  zJ.go (fun _ _ _ _ _ _ _ hl k => lv_l2i hc.1 hc.2.1 hd rfl k) k
theorem z_i2b (hc : zCx p s m args meth c w m0 own cc nL ret) {x : Int32} (hd : decode cc pc = .ok (.i2b, 1)) (k : zJ enc p l e R s m args below meth c w m0 nL fin (pc + 1) L (.int x.toInt8.toInt32 :: st) mem o) : zJ enc p l e R s m args below meth c w m0 nL fin pc L (.int x :: st) mem o :=
  zJ.go (fun _ _ _ _ _ _ _ hl k => lv_i2b hc.1 hc.2.1 hd rfl k) k
theorem z_lcmp (hc : zCx p s m args meth c w m0 own cc nL ret) {x y : Int64} (hd : decode cc pc = .ok (.lcmp, 1)) (k : zJ enc p l e R s m args below meth c w m0 nL fin (pc + 1) L (.int (lg_cmp x y) :: st) mem o) : zJ enc p l e R s m args below meth c w m0 nL fin pc L (.long y :: .long x :: st) mem o :=
  zJ.go (fun _ _ _ _ _ _ _ hl k => W.lcmp hc.1 hc.2.1 hd k) k
theorem z_dup (hc : zCx p s m args meth c w m0 own cc nL ret) {v : Value} (hd : decode cc pc = .ok (.dup, 1)) (hv : (zv w.1 w.2.1 v).category = 1) (k : zJ enc p l e R s m args below meth c w m0 nL fin (pc + 1) L (v :: v :: st) mem o) : zJ enc p l e R s m args below meth c w m0 nL fin pc L (v :: st) mem o :=
  zJ.go (fun _ _ _ _ _ _ _ _ k => lv_dup hc.1 hc.2.1 hd hv k) k
theorem z_dup2 (hc : zCx p s m args meth c w m0 own cc nL ret) {v u : Value} (hd : decode cc pc = .ok (.dup2, 1)) (hv : (zv w.1 w.2.1 v).category = 1) (hu : (zv w.1 w.2.1 u).category = 1) (k : zJ enc p l e R s m args below meth c w m0 nL fin (pc + 1) L (v :: u :: v :: u :: st) mem o) : zJ enc p l e R s m args below meth c w m0 nL fin pc L (v :: u :: st) mem o :=
  zJ.go (fun _ _ _ _ _ _ _ _ k => lv_dup2_11 hc.1 hc.2.1 hd hv hu k) k
theorem z_pop (hc : zCx p s m args meth c w m0 own cc nL ret) {v : Value} (hd : decode cc pc = .ok (.pop, 1)) (hv : (zv w.1 w.2.1 v).category = 1) (k : zJ enc p l e R s m args below meth c w m0 nL fin (pc + 1) L st mem o) : zJ enc p l e R s m args below meth c w m0 nL fin pc L (v :: st) mem o :=
  zJ.go (fun _ _ _ _ _ _ _ _ k => lv_pop hc.1 hc.2.1 hd hv k) k
theorem z_goto (hc : zCx p s m args meth c w m0 own cc nL ret) {off : Int} {tgt : Nat} (hd : decode cc pc = .ok (.goto off, 3)) (ht : (pc : Int) + off = (tgt : Int)) (k : zJ enc p l e R s m args below meth c w m0 nL fin tgt L st mem o) : zJ enc p l e R s m args below meth c w m0 nL fin pc L st mem o :=
  zJ.go (fun _ _ _ _ _ _ _ _ k => lv_goto hc.1 hc.2.1 hd ht k) k
theorem z_if_ne (hc : zCx p s m args meth c w m0 own cc nL ret) {x : Int32} {off : Int} {tgt : Nat} {o1 o2 : Option (α × zM)} (hd : decode cc pc = .ok (.ifCond .ne off, 3)) (ht : (pc : Int) + off = (tgt : Int)) (d : Decidable ((x = 0))) (k1 : ¬ (x = 0) → zJ enc p l e R s m args below meth c w m0 nL fin tgt L st mem o1) (k2 : (x = 0) → zJ enc p l e R s m args below meth c w m0 nL fin (pc + 3) L st mem o2) : zJ enc p l e R s m args below meth c w m0 nL fin pc L (.int x :: st) mem (@ite _ ((x = 0)) d o2 o1) := by
  by_cases h : (x = 0)
  · rw [if_pos h]
    exact fun ho => ⟨(k2 h ho).1, fun H locs ls hI hl => lv_if_ne hc.1 hc.2.1 hd ht (fun q => absurd h q) (fun _ => (k2 h ho).2 H locs ls hI hl)⟩
  · rw [if_neg h]
    exact fun ho => ⟨(k1 h ho).1, fun H locs ls hI hl => lv_if_ne hc.1 hc.2.1 hd ht (fun _ => (k1 h ho).2 H locs ls hI hl) (fun q => absurd q h)⟩
theorem z_icmp_ne (hc : zCx p s m args meth c w m0 own cc nL ret) {x y : Int32} {off : Int} {tgt : Nat} {o1 o2 : Option (α × zM)} (hd : decode cc pc = .ok (.if_icmp .ne off, 3)) (ht : (pc : Int) + off = (tgt : Int)) (d : Decidable ((x = y))) (k1 : ¬ (x = y) → zJ enc p l e R s m args below meth c w m0 nL fin tgt L st mem o1) (k2 : (x = y) → zJ enc p l e R s m args below meth c w m0 nL fin (pc + 3) L st mem o2) : zJ enc p l e R s m args below meth c w m0 nL fin pc L (.int y :: .int x :: st) mem (@ite _ ((x = y)) d o2 o1) := by
  by_cases h : (x = y)
  · rw [if_pos h]
    exact fun ho => ⟨(k2 h ho).1, fun H locs ls hI hl => lv_icmp_ne hc.1 hc.2.1 hd ht (fun q => absurd h q) (fun _ => (k2 h ho).2 H locs ls hI hl)⟩
  · rw [if_neg h]
    exact fun ho => ⟨(k1 h ho).1, fun H locs ls hI hl => lv_icmp_ne hc.1 hc.2.1 hd ht (fun _ => (k1 h ho).2 H locs ls hI hl) (fun q => absurd q h)⟩
theorem z_if_eq (hc : zCx p s m args meth c w m0 own cc nL ret) {x : Int32} {off : Int} {tgt : Nat} {o1 o2 : Option (α × zM)} (hd : decode cc pc = .ok (.ifCond .eq off, 3)) (ht : (pc : Int) + off = (tgt : Int)) (d : Decidable ((x = 0))) (k1 : (x = 0) → zJ enc p l e R s m args below meth c w m0 nL fin tgt L st mem o1) (k2 : ¬ (x = 0) → zJ enc p l e R s m args below meth c w m0 nL fin (pc + 3) L st mem o2) : zJ enc p l e R s m args below meth c w m0 nL fin pc L (.int x :: st) mem (@ite _ ((x = 0)) d o1 o2) := by
  by_cases h : (x = 0)
  · rw [if_pos h]
    exact fun ho => ⟨(k1 h ho).1, fun H locs ls hI hl => lv_if_eq hc.1 hc.2.1 hd ht (fun _ => (k1 h ho).2 H locs ls hI hl) (fun q => absurd h q)⟩
  · rw [if_neg h]
    exact fun ho => ⟨(k2 h ho).1, fun H locs ls hI hl => lv_if_eq hc.1 hc.2.1 hd ht (fun q => absurd q h) (fun _ => (k2 h ho).2 H locs ls hI hl)⟩
theorem z_if_lt (hc : zCx p s m args meth c w m0 own cc nL ret) {x : Int32} {off : Int} {tgt : Nat} {o1 o2 : Option (α × zM)} (hd : decode cc pc = .ok (.ifCond .lt off, 3)) (ht : (pc : Int) + off = (tgt : Int)) (d : Decidable ((x < 0))) (k1 : (x < 0) → zJ enc p l e R s m args below meth c w m0 nL fin tgt L st mem o1) (k2 : ¬ (x < 0) → zJ enc p l e R s m args below meth c w m0 nL fin (pc + 3) L st mem o2) : zJ enc p l e R s m args below meth c w m0 nL fin pc L (.int x :: st) mem (@ite _ ((x < 0)) d o1 o2) := by
  by_cases h : (x < 0)
  · rw [if_pos h]
    exact fun ho => ⟨(k1 h ho).1, fun H locs ls hI hl => lv_if_lt hc.1 hc.2.1 hd ht (fun _ => (k1 h ho).2 H locs ls hI hl) (fun q => absurd h q)⟩
  · rw [if_neg h]
    exact fun ho => ⟨(k2 h ho).1, fun H locs ls hI hl => lv_if_lt hc.1 hc.2.1 hd ht (fun q => absurd q h) (fun _ => (k2 h ho).2 H locs ls hI hl)⟩
theorem z_if_ge (hc : zCx p s m args meth c w m0 own cc nL ret) {x : Int32} {off : Int} {tgt : Nat} {o1 o2 : Option (α × zM)} (hd : decode cc pc = .ok (.ifCond .ge off, 3)) (ht : (pc : Int) + off = (tgt : Int)) (d : Decidable ((0 ≤ x))) (k1 : (0 ≤ x) → zJ enc p l e R s m args below meth c w m0 nL fin tgt L st mem o1) (k2 : ¬ (0 ≤ x) → zJ enc p l e R s m args below meth c w m0 nL fin (pc + 3) L st mem o2) : zJ enc p l e R s m args below meth c w m0 nL fin pc L (.int x :: st) mem (@ite _ ((0 ≤ x)) d o1 o2) := by
  by_cases h : (0 ≤ x)
  · rw [if_pos h]
    exact fun ho => ⟨(k1 h ho).1, fun H locs ls hI hl => lv_if_ge hc.1 hc.2.1 hd ht (fun _ => (k1 h ho).2 H locs ls hI hl) (fun q => absurd h q)⟩
  · rw [if_neg h]
    exact fun ho => ⟨(k2 h ho).1, fun H locs ls hI hl => lv_if_ge hc.1 hc.2.1 hd ht (fun q => absurd q h) (fun _ => (k2 h ho).2 H locs ls hI hl)⟩
theorem z_if_gt (hc : zCx p s m args meth c w m0 own cc nL ret) {x : Int32} {off : Int} {tgt : Nat} {o1 o2 : Option (α × zM)} (hd : decode cc pc = .ok (.ifCond .gt off, 3)) (ht : (pc : Int) + off = (tgt : Int)) (d : Decidable ((0 < x))) (k1 : (0 < x) → zJ enc p l e R s m args below meth c w m0 nL fin tgt L st mem o1) (k2 : ¬ (0 < x) → zJ enc p l e R s m args below meth c w m0 nL fin (pc + 3) L st mem o2) : zJ enc p l e R s m args below meth c w m0 nL fin pc L (.int x :: st) mem (@ite _ ((0 < x)) d o1 o2) := by
  by_cases h : (0 < x)
  · rw [if_pos h]
    exact fun ho => ⟨(k1 h ho).1, fun H locs ls hI hl => lv_if_gt hc.1 hc.2.1 hd ht (fun _ => (k1 h ho).2 H locs ls hI hl) (fun q => absurd h q)⟩
  · rw [if_neg h]
    exact fun ho => ⟨(k2 h ho).1, fun H locs ls hI hl => lv_if_gt hc.1 hc.2.1 hd ht (fun q => absurd q h) (fun _ => (k2 h ho).2 H locs ls hI hl)⟩
theorem z_if_le (hc : zCx p s m args meth c w m0 own cc nL ret) {x : Int32} {off : Int} {tgt : Nat} {o1 o2 : Option (α × zM)} (hd : decode cc pc = .ok (.ifCond .le off, 3)) (ht : (pc : Int) + off = (tgt : Int)) (d : Decidable ((x ≤ 0))) (k1 : (x ≤ 0) → zJ enc p l e R s m args below meth c w m0 nL fin tgt L st mem o1) (k2 : ¬ (x ≤ 0) → zJ enc p l e R s m args below meth c w m0 nL fin (pc + 3) L st mem o2) : zJ enc p l e R s m args below meth c w m0 nL fin pc L (.int x :: st) mem (@ite _ ((x ≤ 0)) d o1 o2) := by
  by_cases h : (x ≤ 0)
  · rw [if_pos h]
    exact fun ho => ⟨(k1 h ho).1, fun H locs ls hI hl => lv_if_le hc.1 hc.2.1 hd ht (fun _ => (k1 h ho).2 H locs ls hI hl) (fun q => absurd h q)⟩
  · rw [if_neg h]
    exact fun ho => ⟨(k2 h ho).1, fun H locs ls hI hl => lv_if_le hc.1 hc.2.1 hd ht (fun q => absurd q h) (fun _ => (k2 h ho).2 H locs ls hI hl)⟩
theorem z_icmp_eq (hc : zCx p s m args meth c w m0 own cc nL ret) {x y : Int32} {off : Int} {tgt : Nat} {o1 o2 : Option (α × zM)} (hd : decode cc pc = .ok (.if_icmp .eq off, 3)) (ht : (pc : Int) + off = (tgt : Int)) (d : Decidable ((x = y))) (k1 : (x = y) → zJ enc p l e R s m args below meth c w m0 nL fin tgt L st mem o1) (k2 : ¬ (x = y) → zJ enc p l e R s m args below meth c w m0 nL fin (pc + 3) L st mem o2) : zJ enc p l e R s m args below meth c w m0 nL fin pc L (.int y :: .int x :: st) mem (@ite _ ((x = y)) d o1 o2) := by
  by_cases h : (x = y)
  · rw [if_pos h]
    exact fun ho => ⟨(k1 h ho).1, fun H locs ls hI hl => lv_icmp_eq hc.1 hc.2.1 hd ht (fun _ => (k1 h ho).2 H locs ls hI hl) (fun q => absurd h q)⟩
  · rw [if_neg h]
    exact fun ho => ⟨(k2 h ho).1, fun H locs ls hI hl => lv_icmp_eq hc.1 hc.2.1 hd ht (fun q => absurd q h) (fun _ => (k2 h ho).2 H locs ls hI hl)⟩
theorem z_icmp_lt (hc : zCx p s m args meth c w m0 own cc nL ret) {x y : Int32} {off : Int} {tgt : Nat} {o1 o2 : Option (α × zM)} (hd : decode cc pc = .ok (.if_icmp .lt off, 3)) (ht : (pc : Int) + off = (tgt : Int)) (d : Decidable ((x < y))) (k1 : (x < y) → zJ enc p l e R s m args below meth c w m0 nL fin tgt L st mem o1) (k2 : ¬ (x < y) → zJ enc p l e R s m args below meth c w m0 nL fin (pc + 3) L st mem o2) : zJ enc p l e R s m args below meth c w m0 nL fin pc L (.int y :: .int x :: st) mem (@ite _ ((x < y)) d o1 o2) := by
  by_cases h : (x < y)
  · rw [if_pos h]
    exact fun ho => ⟨(k1 h ho).1, fun H locs ls hI hl => lv_icmp_lt hc.1 hc.2.1 hd ht (fun _ => (k1 h ho).2 H locs ls hI hl) (fun q => absurd h q)⟩
  · rw [if_neg h]
    exact fun ho => ⟨(k2 h ho).1, fun H locs ls hI hl => lv_icmp_lt hc.1 hc.2.1 hd ht (fun q => absurd q h) (fun _ => (k2 h ho).2 H locs ls hI hl)⟩
theorem z_icmp_ge (hc : zCx p s m args meth c w m0 own cc nL ret) {x y : Int32} {off : Int} {tgt : Nat} {o1 o2 : Option (α × zM)} (hd : decode cc pc = .ok (.if_icmp .ge off, 3)) (ht : (pc : Int) + off = (tgt : Int)) (d : Decidable ((y ≤ x))) (k1 : (y ≤ x) → zJ enc p l e R s m args below meth c w m0 nL fin tgt L st mem o1) (k2 : ¬ (y ≤ x) → zJ enc p l e R s m args below meth c w m0 nL fin (pc + 3) L st mem o2) : zJ enc p l e R s m args below meth c w m0 nL fin pc L (.int y :: .int x :: st) mem (@ite _ ((y ≤ x)) d o1 o2) := by
  by_cases h : (y ≤ x)
  · rw [if_pos h]
    exact fun ho => ⟨(k1 h ho).1, fun H locs ls hI hl => lv_icmp_ge hc.1 hc.2.1 hd ht (fun _ => (k1 h ho).2 H locs ls hI hl) (fun q => absurd h q)⟩
  · rw [if_neg h]
    exact fun ho => ⟨(k2 h ho).1, fun H locs ls hI hl => lv_icmp_ge hc.1 hc.2.1 hd ht (fun q => absurd q h) (fun _ => (k2 h ho).2 H locs ls hI hl)⟩
theorem z_icmp_gt (hc : zCx p s m args meth c w m0 own cc nL ret) {x y : Int32} {off : Int} {tgt : Nat} {o1 o2 : Option (α × zM)} (hd : decode cc pc = .ok (.if_icmp .gt off, 3)) (ht : (pc : Int) + off = (tgt : Int)) (d : Decidable ((y < x))) (k1 : (y < x) → zJ enc p l e R s m args below meth c w m0 nL fin tgt L st mem o1) (k2 : ¬ (y < x) → zJ enc p l e R s m args below meth c w m0 nL fin (pc + 3) L st mem o2) : zJ enc p l e R s m args below meth c w m0 nL fin pc L (.int y :: .int x :: st) mem (@ite _ ((y < x)) d o1 o2) := by
  by_cases h : (y < x)
  · rw [if_pos h]
    exact fun ho => ⟨(k1 h ho).1, fun H locs ls hI hl => lv_icmp_gt hc.1 hc.2.1 hd ht (fun _ => (k1 h ho).2 H locs ls hI hl) (fun q => absurd h q)⟩
  · rw [if_neg h]
    exact fun ho => ⟨(k2 h ho).1, fun H locs ls hI hl => lv_icmp_gt hc.1 hc.2.1 hd ht (fun q => absurd q h) (fun _ => (k2 h ho).2 H locs ls hI hl)⟩
theorem z_icmp_le (hc : zCx p s m args meth c w m0 own cc nL ret) {x y : Int32} {off : Int} {tgt : Nat} {o1 o2 : Option (α × zM)} (hd : decode cc pc = .ok (.if_icmp .le off, 3)) (ht : (pc : Int) + off = (tgt : Int)) (d : Decidable ((x ≤ y))) (k1 : (x ≤ y) → zJ enc p l e R s m args below meth c w m0 nL fin tgt L st mem o1) (k2 : ¬ (x ≤ y) → zJ enc p l e R s m args below meth c w m0 nL fin (pc + 3) L st mem o2) : zJ enc p l e R s m args below meth c w m0 nL fin pc L (.int y :: .int x :: st) mem (@ite _ ((x ≤ y)) d o1 o2) := by
  by_cases h : (x ≤ y)
  · rw [if_pos h]
    exact fun ho => ⟨(k1 h ho).1, fun H locs ls hI hl => lv_icmp_le hc.1 hc.2.1 hd ht (fun _ => (k1 h ho).2 H locs ls hI hl) (fun q => absurd h q)⟩
  · rw [if_neg h]
    exact fun ho => ⟨(k2 h ho).1, fun H locs ls hI hl => lv_icmp_le hc.1 hc.2.1 hd ht (fun q => absurd q h) (fun _ => (k2 h ho).2 H locs ls hI hl)⟩
end ZR
