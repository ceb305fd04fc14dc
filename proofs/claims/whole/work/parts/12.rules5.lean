theorem Met.ofWF {l : Launch} {y : MethodName} {ws ws' : List Cond} {rm : Room} {Pc : Array Value → State → Prop} {Qc : Array Value → State → Outcome → State → Prop} {mc ms : Nat} {free : Addr → Prop} {cc : ByteArray} {maxL : Nat} {ret : Option FieldType}
    (hy : plainFor y = true) (hw : ws = Cond.code y cc maxL ret :: ws')
    (body : ∀ p e s m args below meth c s₁, BodyLoose p l y (headSpec ws rm) cc maxL ret e s m args below meth c s₁ → c.maxLocals = maxL → Pc args s →
      W p l e (headSpec ws rm).room s m args below meth c s.heap [] 0 0 (MQ below Qc args s mc ms free) (entryFrame m args maxL)) : Met l y ws rm Pc Qc mc ms free := by
  refine MetFree.of_bodySF (code := cc) (maxLocals := maxL) (ret := ret) hy ?_ ?_
  · intro args s m h hn
    obtain ⟨meth, c, h1, h2, h3, h4, h5, h6, -, -⟩ := Cond.code_spec hn (atoms_spec (ws := ws) h _ (by rw [hw]; exact List.mem_cons_self))
    exact ⟨meth, c, h1, h2, h3, h4, h5, h6⟩
  · intro p e s m args below meth c s₁ B hml hP _
    have hh0 : s₁.heap = s.heap := by rw [B.state]; rfl
    obtain ⟨t, a1, o, b1, b2, b3⟩ := body p e s m args below meth c s₁ B hml hP s₁ hh0 (Stand.of_body B)
    exact ⟨t, o, a1, b1, b2, ⟨b3.1, b3.2⟩⟩
theorem zMet.of {α : Type} {enc : α → Option Value} {l : Launch} {w : zWd} {fr lo : Nat} {y : MethodName} {code : ByteArray} {maxL : Nat} {ret : Option FieldType} {av : List Value} {mem : zM} {f : Option (α × zM)} (own : String) (hy : plainFor y = true) (hown : y.cls = own) (hlen : (lg_sl (av.map (zv w.1 w.2.1))).length ≤ maxL)
    (hmono : w.2.2.2.2.2 = true → ∀ r m1, f = some (r, m1) → gN mem ≤ gN m1) {L : List (Nat × Value)} (hL : lv_args 0 (av.map (zv w.1 w.2.1)) = zl w.1 w.2.1 L)
    (body : ∀ (p : Program) (e : Env) (s : State) (m : MethodId) (args : Array Value) (below : List Frame) (meth : Method) (c : Code) (R : Room) (fin : α × zM), zCx p s m args meth c w mem own code maxL ret → (y.name = "<init>" → meth.name = "<init>") → R.frames = fr ∧ R.locals = lo ∧ R.cells = zc w mem fin.2 ∧ R.slots = zs w mem fin.2 → zJ enc p l e R s m args below meth c w mem maxL fin 0 L [] mem f) :
    ∀ r m1, f = some (r, m1) → zMet l w fr lo y code maxL ret av mem (enc r) m1 := by
  intro r m1 hf
  refine ⟨fun ht => hmono ht r m1 hf, ?_⟩
  refine Met.ofWF (cc := code) (maxL := maxL) (ret := ret) hy rfl ?_
  intro p e s m args below meth c s₁ B hml hv
  obtain ⟨rfl, hP, hK, hSt, htop⟩ := hv
  have hts := atoms_spec (ws := .code y code maxL ret :: zT) B.pre
  have hown2 : s.vm.findClass own = some m.cls := by rw [← hown]; exact findClass_of_methodNamed B.named
  have hcx : zCx p s m (av.map (zv w.1 w.2.1)).toArray meth c w mem own code maxL ret := ⟨B.exec, B.bytes, B.returns, hml, hown2, fun x hx => hts x (List.mem_cons_of_mem _ hx), B.notSynchronized, hK, hSt, htop⟩
  have hb := body p e s m _ below meth c (headSpec (.code y code maxL ret :: zT) ({ frames := fr, cells := zc w mem m1, slots := zs w mem m1, locals := lo })).room (r, m1) hcx (fun h => by rw [← h]; exact (name_of_methodNamed B.named B.method).1) ⟨rfl, rfl, rfl, rfl⟩
  obtain ⟨-, h2⟩ := hb hf
  have hl := lv_entry (av.map (zv w.1 w.2.1)) hlen
  rw [lg_entry_eq]
  rw [hL] at hl
  have z0 : zc w mem mem = 0 ∧ zs w mem mem = 0 := by unfold zc zs; simp
  have := h2 s.heap [] _ ⟨hP, fun _ => Nat.le_refl _, by rw [z0.1]; rfl, fun _ _ _ => rfl, fun q hq => by cases hq⟩ hl
  rw [z0.1, z0.2] at this
  exact this

theorem zI.putL {w : zWd} {s : State} {m0 mem mem' : zM} {H H' : Heap} {locs Lc : List Loc} {a : Nat} (h : zI w s m0 mem H locs) (htop : w.2.2.2.2.2 = true → s.heap.size = w.2.1 + gN m0 + 1) (hok : zok w.2.2.2.2 mem a) (hN : gN mem' = gN mem) (hz : H'.size = H.size) (hq : ∀ q, q ≠ w.2.1 + a → H'[q]? = H[q]?) (hr : zRep w.1 w.2.1 w.2.2.1 w.2.2.2.1 w.2.2.2.2 mem' H') (hL : ∀ q ∈ Lc, q.base = w.2.1 + a) : zI w s m0 mem' H' (locs ++ Lc) := by
  obtain ⟨h1, h2, h3, h4, h5⟩ := h.put (i := 0) htop hok hN hz hq hr
  refine ⟨h1, h2, h3, h4, fun q hq => ?_⟩
  rcases List.mem_append.mp hq with g | g
  · exact h5 q (List.mem_append_left _ g)
  · rw [hL q g]
    have := hok.1
    omega

section ZR
variable {α : Type} {enc : α → Option Value} {p : Program} {l : Launch} {e : Env} {R : Room} {s : State} {m : MethodId} {args : Array Value} {below : List Frame} {meth : Method} {c : Code} {w : zWd} {m0 : zM} {nL : Nat} {fin : α × zM} {pc : Nat} {L : List (Nat × Value)} {st : List Value} {mem : zM} {o : Option (α × zM)} {own : String} {cc : ByteArray} {ret : Option FieldType}

theorem z_objInit (hc : zCx p s m args meth c w m0 own cc nL ret) {a idx : Nat} (hl : Cond.methodLink own idx Lib.objectInit ∈ zT) (hin : Cond.instanceMethod Lib.objectInit ∈ zT) (hco : Cond.code Lib.objectInit ⟨#[0xb1]⟩ 1 none ∈ zT) (hR : 1 ≤ R.frames ∧ 20 ≤ R.locals) (hW : ((st.map (zv w.1 w.2.1)).map fun v => v.category).sum ≤ 8) (hd : decode cc pc = .ok (.invokespecial idx, 3)) (kk : zJ enc p l e R s m args below meth c w m0 nL fin (pc + 3) L st mem o) : zJ enc p l e R s m args below meth c w m0 nL fin pc L (.ref a :: st) mem o := by
  refine zJ.go (fun H locs ls cells slots Q hI hl2 kw => ?_) kk
  have hts := hc.2.2.2.2.2.1
  exact W.objInit hc.1 hc.2.1 hc.2.2.2.2.1 (hts _ hl) (hts _ hin) (hts _ hco) rfl (by rw [hc.2.2.2.1]; exact hl2.1) rfl hd hR.1 (by show 2 * 0 + _ + 12 ≤ _; omega) kw
theorem z_kept (hc : zCx p s m args meth c w m0 RX8 cc nL ret) (hd : decode cc pc = .ok (.getstatic 68, 3)) (kk : zJ enc p l e R s m args below meth c w m0 nL fin (pc + 3) L (.double 0 :: st) mem o) : zJ enc p l e R s m args below meth c w m0 nL fin pc L st mem o := by
  refine zJ.go (fun H locs ls cells slots Q hI hl kw => ?_) kk
  obtain ⟨cf, kf, fi, f, a, cell, h1, h2, h3, h4, h5, h6, h7, h8⟩ := hc.2.2.2.2.2.2.2.2.1.1
  refine va_WgetsN hc.1 hc.2.1 hc.2.2.2.2.1 (va_Nw.use rfl hc.2.2.2.2.2.2.2.1.2.2.1) h1 h2 h3 h4 (cell₁ := cell) ?_ (fun e => by rw [e] at h6; cases h6) h7 rfl hd kw
  rw [hI.2.2.2.1 a (Array.getElem?_eq_some_iff.mp h5).1 ?_]
  · exact h5
  · rintro ⟨x, e1, e2⟩
    have := e2.1
    omega
theorem zkept_cell (hc : zCx p s m args meth c w m0 own cc nL ret) {H : Heap} {locs : List Loc} (hI : zI w s m0 mem H locs) : ∃ cell : Cell, H[w.1.2.2.2]? = some cell ∧ s.isArrayOf cell .long ∧ cell.vm ≠ .unknown ∧ 23 ≤ cell.slots.size ∧ cell.slots.size.toInt32 = 23 ∧ (∀ j : Nat, j < 23 → cell.slots[j]? = some (.long (zKept.getD j 0))) := by
  obtain ⟨cell, h1, h2, h3, h4, h5, h6, h7⟩ := hc.2.2.2.2.2.2.2.2.1.2
  refine ⟨cell, ?_, h2, h3, h4, h5, h6⟩
  rw [hI.2.2.2.1 _ (Array.getElem?_eq_some_iff.mp h1).1 ?_]
  · exact h1
  · rintro ⟨x, e1, e2⟩
    have := e2.1
    omega
theorem z_keptLen (hc : zCx p s m args meth c w m0 own cc nL ret) (hd : decode cc pc = .ok (.arraylength, 1)) (kk : zJ enc p l e R s m args below meth c w m0 nL fin (pc + 1) L (.int 23 :: st) mem o) : zJ enc p l e R s m args below meth c w m0 nL fin pc L (.double 0 :: st) mem o := by
  refine zJ.go (fun H locs ls cells slots Q hI hl kw => ?_) kk
  obtain ⟨cell, h1, h2, h3, h4, h5, h6⟩ := zkept_cell hc hI
  exact W.alen hc.1 hc.2.1 h1 h2 h5 rfl rfl hd kw
theorem z_keptLd (hc : zCx p s m args meth c w m0 own cc nL ret) {i : Int32} (hi : ib i 23 = true) (hd : decode cc pc = .ok (.laload, 1)) (kk : zJ enc p l e R s m args below meth c w m0 nL fin (pc + 1) L (.long (zKept.getD (ix i) 0) :: st) mem o) : zJ enc p l e R s m args below meth c w m0 nL fin pc L (.int i :: .double 0 :: st) mem o := by
  refine zJ.go (fun H locs ls cells slots Q hI hl kw => ?_) kk
  obtain ⟨cell, h1, h2, h3, h4, h5, h6⟩ := zkept_cell hc hI
  have hin := ib_in hi
  have hlt : i.toNatClampNeg < 23 := Nat.not_le.mp fun q => hin (Or.inr q)
  exact W.lald (v := .long (zKept.getD (ix i) 0)) hc.1 hc.2.1 h1 h2 h3 (fun q => by rcases q with q | q; exact hin (Or.inl q); exact absurd (Nat.lt_of_lt_of_le hlt h4) (Nat.not_lt.mpr q)) (h6 _ hlt) rfl rfl hd kw
/-- System.arraycopy between rows of ints -/
theorem z_copy (hc : zCx p s m args meth c w m0 own cc nL ret) {a b na nb idx i j k : Nat} {sp dp n : Int32} (ha : w.2.2.1 a = (1, na)) (hb : w.2.2.1 b = (1, nb)) (hoa : zok w.2.2.2.2 mem a) (hob : zok w.2.2.2.2 mem b) (h1 : ib sp (na + 1) = true) (h2 : ib dp (nb + 1) = true) (h3 : ¬ n < 0) (e1 : ix sp = i) (e2 : ix dp = j) (e3 : ix n = k) (h4 : i + k ≤ na) (h5 : j + k ≤ nb)
    (hl : Cond.methodLink own idx arraycopyName ∈ zT) (hnat : Cond.native arraycopyName ∈ zT) (hst : Cond.static arraycopyName ∈ zT) (hin : Cond.initialized "java/lang/System" ∈ zT) (hR : 1 ≤ R.frames ∧ 8 + (nativeFrameWords "java/lang/System" "arraycopy" 5 + 11) ≤ R.locals) (hW : ((st.map (zv w.1 w.2.1)).map fun v => v.category).sum ≤ 8) (hd : decode cc pc = .ok (.invokestatic idx, 3))
    (kk : zJ enc p l e R s m args below meth c w m0 nL fin (pc + 3) L st (sC mem a i b j k) o) : zJ enc p l e R s m args below meth c w m0 nL fin pc L (.int n :: .int dp :: .ref b :: .int sp :: .ref a :: st) mem o := by
  intro ho
  obtain ⟨kk1, kk2⟩ := kk ho
  refine ⟨kk1, fun H locs ls hI hl2 => ?_⟩
  subst e1; subst e2; subst e3
  have g1 := ib_in h1
  have g2 := ib_in h2
  have hts := hc.2.2.2.2.2.1
  have hr : va_K (w.1.1, w.1.2.1) vwCl (zTys w.1) s := hc.2.2.2.2.2.2.2.1.1
  have nn : ∀ z : Int32, ¬ z < 0 → z.toInt = (z.toNatClampNeg : Int) := by
    intro z hz
    have hz0 : (0 : Int) ≤ z.toInt := by
      have := Int32.not_lt.mp hz
      simpa using Int32.le_iff_toInt_le.mp this
    show z.toInt = ((z.toInt.toNat : Nat) : Int)
    omega
  have gs : ¬ sp < 0 := fun q => g1 (Or.inl q)
  have gd : ¬ dp < 0 := fun q => g2 (Or.inl q)
  have h4' : sp.toNatClampNeg + n.toNatClampNeg ≤ na := h4
  have h5' : dp.toNatClampNeg + n.toNatClampNeg ≤ nb := h5
  intro T hT X
  have hc0 := hI.1.1 a 1 na hoa ha (by decide)
  have hc1 := hI.1.1 b 1 nb hob hb (by decide)
  obtain ⟨-, k0, hk0, cm0, hkk0⟩ := (hr.2 0 _ rfl).1 na (fun j => .int (gI mem a j))
  obtain ⟨-, k1, hk1, cm1, hkk1⟩ := (hr.2 0 _ rfl).1 nb (fun j => .int (gI mem b j))
  obtain ⟨vm', X', step⟩ := X.arraycopy hc.1 hc.2.2.2.2.1 (hts _ hl) (hts _ hnat) (hts _ hst) (hts _ hin) (src := w.2.1 + a) (dst := w.2.1 + b) (srcPos := sp) (destPos := dp) (n := n) (by rw [hT]; exact hc0) (by rw [hT]; exact hc1)
    (fun _ h => by cases h) (fun _ h => by cases h) (fun h => by cases h) (fun h => by cases h) hk0 hk1 hkk0 hkk1 (by simp [refKind]) gs gd h3
    (by rw [nn sp gs, nn n h3, arrV_size]; omega) (by rw [nn dp gd, nn n h3, arrV_size]; omega)
    (fun vm₁ _ i hi => by
      have e : (arrV (w.1.2.2.1 1) na (fun j => Value.int (gI mem a j))).slots.getD (sp.toNatClampNeg + i) .null = .int (gI mem a (sp.toNatClampNeg + i)) := by
        rw [Array.getD_eq_getD_getElem?, arrV_read _ _ (by omega)]
        rfl
      refine ⟨?_, ?_⟩
      · rw [e]; rfl
      · rw [e]; exact trivial)
    (g := F0 m pc ls (.int n :: .int dp :: .ref (w.2.1 + b) :: .int sp :: .ref (w.2.1 + a) :: st.map (zv w.1 w.2.1))) rfl (by rw [hc.2.2.2.1]; exact hl2.1) (rest := st.map (zv w.1 w.2.1)) rfl (by rw [hc.2.1]; exact hd) hR.1 (by show 2 * 0 + _ + _ ≤ _; omega)
  have e1 : copied (arrV (w.1.2.2.1 1) na (fun j => Value.int (gI mem a j))) (arrV (w.1.2.2.1 1) nb (fun j => Value.int (gI mem b j))) sp dp n = arrV (w.1.2.2.1 1) nb (fun j => .int (va_cpy (gI mem a) (gI mem b) sp.toNatClampNeg dp.toNatClampNeg n.toNatClampNeg j)) := va_copied (fun z => .int z) _ _ _ _ h4'
  rw [e1] at X' step
  have hlt : w.2.1 + b < H.size := (Array.getElem?_eq_some_iff.mp hc1).1
  have hN : gN (sC mem a (ix sp) b (ix dp) (ix n)) = gN mem := rfl
  generalize hcell : arrV (w.1.2.2.1 1) nb (fun j => Value.int (va_cpy (gI mem a) (gI mem b) sp.toNatClampNeg dp.toNatClampNeg n.toNatClampNeg j)) = nc at X' step
  have hheap : ((T.setVm vm').setCell (w.2.1 + b) nc).heap = H.setIfInBounds (w.2.1 + b) nc := by rw [← hT]; rfl
  have oq : ∀ q : Nat, q ≠ w.2.1 + b → (H.setIfInBounds (w.2.1 + b) nc)[q]? = H[q]? := fun q hq => by simp [Array.getElem?_setIfInBounds, Ne.symm hq]
  have os : (H.setIfInBounds (w.2.1 + b) nc)[w.2.1 + b]? = some nc := by simp [Array.getElem?_setIfInBounds, hlt]
  have hs : ∀ x, x ≠ b → (∀ q, gI (sC mem a (ix sp) b (ix dp) (ix n)) x q = gI mem x q) ∧ (∀ q, gL (sC mem a (ix sp) b (ix dp) (ix n)) x q = gL mem x q) ∧ ∀ q, w.2.2.2.1 (sC mem a (ix sp) b (ix dp) (ix n)).2.2.1 x q = w.2.2.2.1 mem.2.2.1 x q := by
    refine fun x hx => ⟨fun q => ?_, fun _ => rfl, fun _ => rfl⟩
    show (if x = b ∧ ix dp ≤ q ∧ q < ix dp + ix n then _ else mem.1 x q) = mem.1 x q
    rw [if_neg (fun h => hx h.1)]
  have hrep : zRep w.1 w.2.1 w.2.2.1 w.2.2.2.1 w.2.2.2.2 (sC mem a (ix sp) b (ix dp) (ix n)) (H.setIfInBounds (w.2.1 + b) nc) := by
    refine hI.1.arr hb (by decide) hN hs (fv := fun j => Value.int (va_cpy (gI mem a) (gI mem b) sp.toNatClampNeg dp.toNatClampNeg n.toNatClampNeg j)) (by rw [os, hcell]) (fun _ j => ?_) (fun h => absurd h (by decide)) (fun h => absurd h (by decide)) oq
    congr 1
    unfold va_cpy
    show (if ix dp ≤ j ∧ j < ix dp + ix n then gI mem a (ix sp + (j - ix dp)) else gI mem b j) = if b = b ∧ ix dp ≤ j ∧ j < ix dp + ix n then gI mem a (ix sp + (j - ix dp)) else gI mem b j
    by_cases hj : ix dp ≤ j ∧ j < ix dp + ix n
    · rw [if_pos hj, if_pos ⟨rfl, hj⟩]
    · rw [if_neg hj, if_neg (fun h => hj h.2)]
  obtain ⟨t, a1, b1⟩ := kk2 _ _ ls (hI.putL hc.2.2.2.2.2.2.2.2.2 hob hN (by simp) oq hrep (fun q hq => by obtain ⟨z, -, hz⟩ := List.mem_map.mp hq; rw [← hz])) hl2 _ hheap X'
  exact ⟨t, step t a1, b1⟩
theorem z_tabIn (hc : zCx p s m args meth c w m0 own cc nL ret) {dflt lo hi : Int} {offs : Array Int} {len tgt : Nat} {x v : Int32} {off : Int} (hd : decode cc pc = .ok (.tableswitch dflt lo hi offs, len)) (hx : x = v) (h1 : ¬ v.toInt < lo) (h2 : ¬ hi < v.toInt) (ho : offs[(v.toInt - lo).toNat]? = some off) (ht : (pc : Int) + off = (tgt : Int)) (k : zJ enc p l e R s m args below meth c w m0 nL fin tgt L st mem o) : zJ enc p l e R s m args below meth c w m0 nL fin pc L (.int x :: st) mem o := by
  subst hx
  exact zJ.go (fun _ _ _ _ _ _ _ _ k => lv_tableIn hc.1 hc.2.1 hd h1 h2 ho ht k) k
theorem z_tabOut (hc : zCx p s m args meth c w m0 own cc nL ret) {dflt lo hi : Int} {offs : Array Int} {len tgt : Nat} {x : Int32} (hd : decode cc pc = .ok (.tableswitch dflt lo hi offs, len)) (h : x.toInt < lo ∨ hi < x.toInt) (ht : (pc : Int) + dflt = (tgt : Int)) (k : zJ enc p l e R s m args below meth c w m0 nL fin tgt L st mem o) : zJ enc p l e R s m args below meth c w m0 nL fin pc L (.int x :: st) mem o :=
  zJ.go (fun _ _ _ _ _ _ _ _ k => lv_tableOut hc.1 hc.2.1 hd h ht k) k
theorem tab_out {x : Int32} {lo hi : Int} (n : Nat) (hn : hi < lo + n) (h : ∀ j : Nat, j < n → x ≠ Int32.ofInt (lo + j)) : x.toInt < lo ∨ hi < x.toInt := by
  by_cases h1 : x.toInt < lo
  · exact Or.inl h1
  · refine Or.inr (Int.not_le.mp fun h2 => h (x.toInt - lo).toNat (by omega) ?_)
    have e : lo + ((x.toInt - lo).toNat : Int) = x.toInt := by omega
    rw [e, Int32.ofInt_toInt]
theorem z_look (hc : zCx p s m args meth c w m0 own cc nL ret) {dflt : Int} {ps : Array (Int × Int)} {len tgt : Nat} {x : Int32} {off : Int} (hd : decode cc pc = .ok (.lookupswitch dflt ps, len)) (hp : (ps.toList.zip (ps.toList.drop 1)).all (fun (a, next) => a.1 < next.1) = true) (ho : Op.lookupswitch.offset ps.toList dflt x.toInt = off) (ht : (pc : Int) + off = (tgt : Int)) (k : zJ enc p l e R s m args below meth c w m0 nL fin tgt L st mem o) : zJ enc p l e R s m args below meth c w m0 nL fin pc L (.int x :: st) mem o :=
  zJ.go (fun _ _ _ _ _ _ _ _ k => lv_lookup hc.1 hc.2.1 hd hp ho ht k) k
/-- a value, a memory by name -/
def zlet {β γ : Type} (v : β) (k : β → γ) : γ := k v
theorem zJ.letI {v : Int32} {k : Int32 → Option (α × zM)} (h : ∀ x, x = v → zJ enc p l e R s m args below meth c w m0 nL fin pc L (.int x :: st) mem (k x)) : zJ enc p l e R s m args below meth c w m0 nL fin pc L (.int v :: st) mem (zlet v k) := h v rfl
theorem zJ.letL {v : Int64} {k : Int64 → Option (α × zM)} (h : ∀ x, x = v → zJ enc p l e R s m args below meth c w m0 nL fin pc L (.long x :: st) mem (k x)) : zJ enc p l e R s m args below meth c w m0 nL fin pc L (.long v :: st) mem (zlet v k) := h v rfl
theorem zJ.letM {k : zM → Option (α × zM)} (h : ∀ x, x = mem → zJ enc p l e R s m args below meth c w m0 nL fin pc L st x (k x)) : zJ enc p l e R s m args below meth c w m0 nL fin pc L st mem (zlet mem k) := h mem rfl
theorem zJ.letN {i q : Nat} {v : Int32} {L' : List (Nat × Value)} {k : Int32 → Option (α × zM)} (h : ∀ x, x = v → zJ enc p l e R s m args below meth c w m0 nL fin pc L' st mem (k x)) (hL : ∀ x, x = v → L' = L) : zJ enc p l e R s m args below meth c w m0 nL fin pc L st mem (zlet v k) := by
  have := h v rfl
  rw [hL v rfl] at this
  exact this
end ZR
