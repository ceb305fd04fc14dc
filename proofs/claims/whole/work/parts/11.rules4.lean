/-- a call's answer and memory, and what is done with them -/
def zb {β γ : Type} (f : Option (β × zM)) (k : β → zM → Option γ) : Option γ := match f with
  | none => none
  | some (r, m) => k r m
theorem zb_some {β γ : Type} {r : β} {m : zM} {k : β → zM → Option γ} : zb (some (r, m)) k = k r m := rfl
theorem zb_none {β γ : Type} {k : β → zM → Option γ} : zb none k = none := rfl
theorem zb_eq {β γ : Type} {f : Option (β × zM)} {k : β → zM → Option γ} {r : β} {m : zM} (h : f = some (r, m)) : zb f k = k r m := by rw [h]; rfl
def eI (r : Int32) : Option Value := some (.int r)
def eL (r : Int64) : Option Value := some (.long r)
def eV (_ : Unit) : Option Value := none
theorem zPre_blind (w : zWd) (av : List Value) (mem : zM) : FrameBlind (zPre w av mem) := by
  intro a U g mk h
  obtain ⟨h1, h2, h3, h4, h5⟩ := h
  exact ⟨h1, h2, zK.same (U := U.calling g mk a) rfl h3, zSt.moved (U := U.calling g mk a) (Vm.Alike.refl U.vm) h4, h5⟩

section ZR
variable {α : Type} {enc : α → Option Value} {p : Program} {l : Launch} {e : Env} {R : Room} {s : State} {m : MethodId} {args : Array Value} {below : List Frame} {meth : Method} {c : Code} {w : zWd} {m0 : zM} {nL : Nat} {fin : α × zM} {pc : Nat} {L : List (Nat × Value)} {st : List Value} {mem : zM} {o : Option (α × zM)} {own : String} {cc : ByteArray} {ret : Option FieldType}

theorem z_iret {fin : Int32 × zM} {v : Int32} (hc : zCx p s m args meth c w m0 own cc nL (some .int)) (hd : decode cc pc = .ok (.ireturn, 1)) : zJ eI p l e R s m args below meth c w m0 nL fin pc L [.int v] mem (some (v, mem)) := by
  intro ho
  cases ho
  refine ⟨fun _ => Nat.le_refl _, fun H locs ls hI hl => ?_⟩
  exact W.iret hc.1 hc.2.1 hc.2.2.1 (fun t ht hW => ⟨rfl, by rw [ht]; exact hI.1, by rw [ht]; exact hI.2.2.1, fun q h1 h2 => by rw [ht]; exact hI.2.2.2.1 q h1 h2⟩) hI.2.2.2.2 hd (hlocks := hc.2.2.2.2.2.2.1)

theorem z_lret {fin : Int64 × zM} {v : Int64} (hc : zCx p s m args meth c w m0 own cc nL (some .long)) (hd : decode cc pc = .ok (.lreturn, 1)) : zJ eL p l e R s m args below meth c w m0 nL fin pc L [.long v] mem (some (v, mem)) := by
  intro ho
  cases ho
  refine ⟨fun _ => Nat.le_refl _, fun H locs ls hI hl => ?_⟩
  exact W.lret hc.1 hc.2.1 hc.2.2.1 (fun t ht hW => ⟨rfl, by rw [ht]; exact hI.1, by rw [ht]; exact hI.2.2.1, fun q h1 h2 => by rw [ht]; exact hI.2.2.2.1 q h1 h2⟩) hI.2.2.2.2 hd (hlocks := hc.2.2.2.2.2.2.1)

theorem z_zret {fin : Int32 × zM} {v : Int32} (hc : zCx p s m args meth c w m0 own cc nL (some .boolean)) (hv : narrow .boolean (.int v) = .int v) (hd : decode cc pc = .ok (.ireturn, 1)) : zJ eI p l e R s m args below meth c w m0 nL fin pc L [.int v] mem (some (v, mem)) := by
  intro ho
  cases ho
  refine ⟨fun _ => Nat.le_refl _, fun H locs ls hI hl => ?_⟩
  exact W.zret hc.1 hc.2.1 hc.2.2.1 hv (fun t ht hW => ⟨rfl, by rw [ht]; exact hI.1, by rw [ht]; exact hI.2.2.1, fun q h1 h2 => by rw [ht]; exact hI.2.2.2.1 q h1 h2⟩) hI.2.2.2.2 hd (hlocks := hc.2.2.2.2.2.2.1)
/-- a boolean answer that is one -/
def zbo (v : Int32) (m : zM) : Option (Int32 × zM) := if v = 0 ∨ v = 1 then some (v, m) else none
theorem z_zretC {fin : Int32 × zM} {v : Int32} (hc : zCx p s m args meth c w m0 own cc nL (some .boolean)) (hd : decode cc pc = .ok (.ireturn, 1)) : zJ eI p l e R s m args below meth c w m0 nL fin pc L [.int v] mem (zbo v mem) := by
  unfold zbo
  refine zJ.chk _ (fun h => z_zret hc ?_ hd)
  rcases h with rfl | rfl <;> rfl
theorem z_vret {fin : Unit × zM} (hc : zCx p s m args meth c w m0 own cc nL none) (hd : decode cc pc = .ok (.return_, 1)) : zJ eV p l e R s m args below meth c w m0 nL fin pc L [] mem (some ((), mem)) := by
  intro ho
  cases ho
  refine ⟨fun _ => Nat.le_refl _, fun H locs ls hI hl => ?_⟩
  exact W.vret hc.1 hc.2.1 hc.2.2.1 (fun t ht hW => ⟨rfl, by rw [ht]; exact hI.1, by rw [ht]; exact hI.2.2.1, fun q h1 h2 => by rw [ht]; exact hI.2.2.2.1 q h1 h2⟩) hI.2.2.2.2 hd (hlocks := hc.2.2.2.2.2.2.1)
/-- behind a call -/
theorem zI.call {H : Heap} {locs Lc : List Loc} {st0 t : State} {m1 : zM} {r : Option Value} {av : Array Value} {v : Option Value} (hc : zCx p s m args meth c w m0 own cc nL ret) (hI : zI w s m0 mem H locs) (h1 : w.2.2.2.2.2 = true → gN mem ≤ gN m1) (h0 : st0.heap = H) (hq : zPost w mem r m1 av st0 (.returned v) t) (hL : ∀ q ∈ Lc, w.2.1 < q.base) : zI w s m0 m1 t.heap (locs ++ Lc) := by
  obtain ⟨i1, i2, i3, i4, i5⟩ := hI
  obtain ⟨q1, q2, q3, q4⟩ := hq
  have hz := (zc_add i2 h1).1
  refine ⟨q2, fun ht => Nat.le_trans (i2 ht) (h1 ht), by rw [q3, h0, i3]; omega, fun q g1 g2 => ?_, fun q hq => ?_⟩
  · rw [q4 q (by rw [h0, i3]; omega) ?_, h0]
    · exact i4 q g1 g2
    · rintro ⟨a, e1, e2⟩
      refine g2 ⟨a, e1, ?_⟩
      rcases e2 with ⟨k1, k2 | ⟨k2, k3⟩⟩
      · exact ⟨k1, Or.inl k2⟩
      · have := hc.2.2.2.2.2.2.2.2.2 k2
        exact ⟨k1, Or.inr ⟨k2, by omega⟩⟩
  · rcases List.mem_append.mp hq with g | g
    · exact i5 q g
    · exact hL q g
theorem zPre.of {H : Heap} {locs : List Loc} (hc : zCx p s m args meth c w m0 own cc nL ret) (hI : zI w s m0 mem H locs) (av : List Value) {U : State} (hU : U.heap = H) (hW : s.WarmedH U.vm) : zPre w av mem (av.map (zv w.1 w.2.1)).toArray U := by
  refine ⟨rfl, by rw [hU]; exact hI.1, zK.moved hW hc.2.2.2.2.2.2.2.1, zSt.moved hW.alike ?_, fun ht => ?_⟩
  · rw [hU]
    refine hc.2.2.2.2.2.2.2.2.1.kept (fun a h1 h2 => hI.2.2.2.1 a h1 ?_)
    rintro ⟨x, e1, e2⟩
    have := e2.1
    omega
  · have := hc.2.2.2.2.2.2.2.2.2 ht
    have h3 := hI.2.2.1
    have h2 := hI.2.1 ht
    rw [hU, h3, this]
    simp only [zc, ht, if_pos]
    omega

/-- what every call comes to -/
theorem z_run {β : Type} {enc' : β → Option Value} {r : β} {m1 : zM} {k : Option (α × zM)} {av : Array Value} {stk : List Value} (hc : zCx p s m args meth c w m0 own cc nL ret) (hm1 : w.2.2.2.2.2 = true → gN mem ≤ gN m1)
    (hrun : (w.2.2.2.2.2 = true → gN m1 ≤ gN fin.2) → ∀ (H : Heap) (locs : List Loc) (ls : Array Slot), zI w s m0 mem H locs → lv_has ls nL (zl w.1 w.2.1 L) → va_Run p l e R s m args below meth c H locs (zc w m0 mem) (zs w m0 mem) (zc w mem m1) (zs w mem m1) (F0 m pc ls (stk.map (zv w.1 w.2.1))) (st.map (zv w.1 w.2.1)) (zPost w mem (enc' r) m1 av) (fun q => w.2.1 < q))
    (kk : zJ enc p l e R s m args below meth c w m0 nL fin (pc + 3) L ((enc' r).toList ++ st) m1 k) : zJ enc p l e R s m args below meth c w m0 nL fin pc L stk mem k := by
  intro ho
  obtain ⟨k1, k2⟩ := kk ho
  refine ⟨fun ht => Nat.le_trans (hm1 ht) (k1 ht), fun H locs ls hI hl => ?_⟩
  intro T hT X
  obtain ⟨v, st0, t, T', Lc, h0, X', hL, e1, e2, hq, stp⟩ := hrun k1 H locs ls hI hl T hT X
  have hv : v = (enc' r).map (zv w.1 w.2.1) := Outcome.returned.inj hq.1
  have hI2 := hI.call hc hm1 h0 hq hL
  rw [← e1] at hI2
  obtain ⟨z1, z2⟩ := zc_add hI.2.1 hm1
  rw [z1, z2] at X'
  obtain ⟨t2, a1, b1⟩ := k2 T'.heap (locs ++ Lc) ls hI2 hl T' rfl X'
  refine ⟨t2, stp t2 ?_, b1⟩
  have e3 : ((enc' r).toList ++ st).map (zv w.1 w.2.1) = v.toList ++ st.map (zv w.1 w.2.1) := by
    rw [hv, List.map_append]
    cases enc' r <;> rfl
  rw [e3] at a1
  exact a1
theorem z_fits {m1 : zM} (h0 : w.2.2.2.2.2 = true → gN m0 ≤ gN mem) (h1 : w.2.2.2.2.2 = true → gN mem ≤ gN m1) (h2 : w.2.2.2.2.2 = true → gN m1 ≤ gN fin.2) (hR : R.cells = zc w m0 fin.2 ∧ R.slots = zs w m0 fin.2) : zc w m0 mem + zc w mem m1 ≤ R.cells ∧ zs w m0 mem + zs w mem m1 ≤ R.slots := by
  have a0 := zc_add h0 h1
  have a1 := zc_add (m0 := m0) (fun ht => Nat.le_trans (h0 ht) (h1 ht)) h2
  rw [hR.1, hR.2]
  omega

theorem z_callV (hc : zCx p s m args meth c w m0 own cc nL ret) {β : Type} {enc' : β → Option Value} {f : Option (β × zM)} {kf : β → zM → Option (α × zM)} {idx fr lo maxL : Nat} {y : MethodName} {code : ByteArray} {rt : Option FieldType} {stk : List Value} {t ci n : Nat} {av : List Value} (hstk : stk = av.reverse ++ .ref t :: st) (hM : ∀ r m1, f = some (r, m1) → zMet l w fr lo y code maxL rt (.ref t :: av) mem (enc' r) m1)
    (hci : ci < 11) (hlay : w.2.2.1 t = (10 + ci, n)) (hok : zok w.2.2.2.2 mem t) (hcl : y.cls = zRn ci) (hws : ∀ x ∈ wsV own idx (zRn ci) y [.code y code maxL rt], x ∈ zT) (hpar : (parseMethodDescriptor y.desc).map (fun d => d.parameters.length) = some av.length) (hy : y.cls ≠ "java/lang/invoke/MethodHandle" ∧ y.cls ≠ "java/lang/invoke/VarHandle") (hR : fr + 1 ≤ R.frames ∧ 8 + (maxL + 11) + lo ≤ R.locals) (hW : ((st.map (zv w.1 w.2.1)).map fun v => v.category).sum ≤ 8) (hRc : R.cells = zc w m0 fin.2 ∧ R.slots = zs w m0 fin.2) (hd : decode cc pc = .ok (.invokevirtual idx, 3))
    (kk : ∀ r m1, f = some (r, m1) → zJ enc p l e R s m args below meth c w m0 nL fin (pc + 3) L ((enc' r).toList ++ st) m1 (kf r m1)) : zJ enc p l e R s m args below meth c w m0 nL fin pc L stk mem (zb f kf) := by
  intro ho
  cases hf : f with
  | none => rw [hf] at ho; cases ho
  | some q =>
  obtain ⟨r, m1⟩ := q
  obtain ⟨g1, hMet⟩ := hM r m1 hf
  rw [hf] at ho
  revert ho
  show zJ enc p l e R s m args below meth c w m0 nL fin pc L stk mem (kf r m1)
  subst hstk
  refine z_run (enc' := enc') (r := r) (av := ((.ref t :: av).map (zv w.1 w.2.1)).toArray) hc g1 (fun hle H locs ls hI hl => ?_) (kk r m1 hf)
  have hfit := z_fits (R := R) hI.2.1 g1 hle hRc
  obtain ⟨cell, q1, q2, q3, q4⟩ := hI.1.2.2.2 t ci n hok hlay
  obtain ⟨hS, hfc, kC, hkC, hkind⟩ := hc.2.2.2.2.2.2.2.1.1.1 ci _ (zcl hci)
  have hGI : GoodIn zT (wsV own idx (zRn ci) y (.code y code maxL rt :: zT)) := fun x hx => by
    have hx2 : x ∈ zT := by
      rcases List.mem_append.mp hx with h | h
      · exact hws x (List.mem_append_left _ h)
      · rcases List.mem_cons.mp h with rfl | h
        · exact hws _ (List.mem_append_right _ List.mem_cons_self)
        · exact h
    exact ⟨hx2, good_of_word (zT_good x hx2)⟩
  exact va_runV (As := av.map (zv w.1 w.2.1)) (rest := st.map (zv w.1 w.2.1)) ⟨hc.1, hc.2.1, hc.2.2.2.1, hc.2.2.2.2.1, hc.2.2.2.2.2.1⟩ hMet (cwV av.length hc.2.2.2.2.2.1 hGI rfl rfl rfl ⟨hcl, hy.1, hy.2, hpar⟩ hR)
    ⟨zPre_blind _ _ _, ⟨cell, q1, by rw [q3]; rfl, by rw [q2]; exact hfc⟩, fun U hU hWm => zPre.of hc hI (.ref t :: av) hU hWm⟩ rfl (by rw [List.length_map]) hl.1 (by rw [List.map_append, List.map_reverse]; rfl) (by show 2 * 0 + _ ≤ 8; omega) hd hfit
theorem z_callVN (hc : zCx p s m args meth c w m0 own cc nL ret) {β : Type} {enc' : β → Option Value} {f : Option (β × zM)} {kf : β → zM → Option (α × zM)} {idx fr lo maxL : Nat} {y : MethodName} {code : ByteArray} {rt : Option FieldType} {stk : List Value} {t ci n : Nat} {av : List Value} {host : String} (hstk : stk = av.reverse ++ .ref t :: st) (hM : ∀ r m1, f = some (r, m1) → zMet l w fr lo y code maxL rt (.ref t :: av) mem (enc' r) m1)
    (hci : ci < 11) (hlay : w.2.2.1 t = (10 + ci, n)) (hok : zok w.2.2.2.2 mem t) (hnest : (own, idx, y, host) ∈ zNestM) (hws : ∀ x ∈ ([.instanceMethod y, .selects (zRn ci) y y, .initialized y.cls, .code y code maxL rt] : List Cond), x ∈ zT) (hpar : (parseMethodDescriptor y.desc).map (fun d => d.parameters.length) = some av.length) (hy : y.cls ≠ "java/lang/invoke/MethodHandle" ∧ y.cls ≠ "java/lang/invoke/VarHandle") (hR : fr + 1 ≤ R.frames ∧ 8 + (maxL + 11) + lo ≤ R.locals) (hW : ((st.map (zv w.1 w.2.1)).map fun v => v.category).sum ≤ 8) (hRc : R.cells = zc w m0 fin.2 ∧ R.slots = zs w m0 fin.2) (hd : decode cc pc = .ok (.invokevirtual idx, 3))
    (kk : ∀ r m1, f = some (r, m1) → zJ enc p l e R s m args below meth c w m0 nL fin (pc + 3) L ((enc' r).toList ++ st) m1 (kf r m1)) : zJ enc p l e R s m args below meth c w m0 nL fin pc L stk mem (zb f kf) := by
  intro ho
  cases hf : f with
  | none => rw [hf] at ho; cases ho
  | some q =>
  obtain ⟨r, m1⟩ := q
  obtain ⟨g1, hMet⟩ := hM r m1 hf
  rw [hf] at ho
  revert ho
  show zJ enc p l e R s m args below meth c w m0 nL fin pc L stk mem (kf r m1)
  subst hstk
  refine z_run (enc' := enc') (r := r) (av := ((.ref t :: av).map (zv w.1 w.2.1)).toArray) hc g1 (fun hle H locs ls hI hl => ?_) (kk r m1 hf)
  have hfit := z_fits (R := R) hI.2.1 g1 hle hRc
  obtain ⟨cell, q1, q2, q3, q4⟩ := hI.1.2.2.2 t ci n hok hlay
  obtain ⟨hS, hfc, kC, hkC, hkind⟩ := hc.2.2.2.2.2.2.2.1.1.1 ci _ (zcl hci)
  have hts := hc.2.2.2.2.2.1
  have hGI : GoodIn zT (.code y code maxL rt :: zT) := fun x hx => by
    have hx2 : x ∈ zT := by
      rcases List.mem_cons.mp hx with rfl | h
      · exact hws _ (by simp)
      · exact h
    exact ⟨hx2, good_of_word (zT_good x hx2)⟩
  exact va_runVN (C := zRn ci) (As := av.map (zv w.1 w.2.1)) (rest := st.map (zv w.1 w.2.1)) ⟨hc.1, hc.2.1, hc.2.2.2.1, hc.2.2.2.2.1, hts⟩ hMet ⟨va_cnB av.length hts hGI rfl rfl rfl (hc.2.2.2.2.2.2.2.1.2.1 _ hnest) (hts (.initialized y.cls) (hws _ (by simp))) ⟨hy.1, hy.2, hpar⟩ hR, hts (.instanceMethod y) (hws _ (by simp)), hts (.selects (zRn ci) y y) (hws _ (by simp))⟩
    ⟨zPre_blind _ _ _, ⟨cell, q1, by rw [q3]; rfl, by rw [q2]; exact hfc⟩, fun U hU hWm => zPre.of hc hI (.ref t :: av) hU hWm⟩ rfl (by rw [List.length_map]) hl.1 (by rw [List.map_append, List.map_reverse]; rfl) (by show 2 * 0 + _ ≤ 8; omega) hd hfit
theorem z_callS (hc : zCx p s m args meth c w m0 own cc nL ret) {β : Type} {enc' : β → Option Value} {f : Option (β × zM)} {kf : β → zM → Option (α × zM)} {idx fr lo maxL : Nat} {y : MethodName} {code : ByteArray} {rt : Option FieldType} {stk : List Value} {av : List Value} (hstk : stk = av.reverse ++ st) (hM : ∀ r m1, f = some (r, m1) → zMet l w fr lo y code maxL rt av mem (enc' r) m1)
    (hws : ∀ x ∈ va_wsS own idx y [.code y code maxL rt], x ∈ zT) (hpar : (parseMethodDescriptor y.desc).map (fun d => d.parameters.length) = some av.length) (hy : y.cls ≠ "java/lang/invoke/MethodHandle" ∧ y.cls ≠ "java/lang/invoke/VarHandle") (hR : fr + 1 ≤ R.frames ∧ 8 + (maxL + 11) + lo ≤ R.locals) (hW : ((st.map (zv w.1 w.2.1)).map fun v => v.category).sum ≤ 8) (hRc : R.cells = zc w m0 fin.2 ∧ R.slots = zs w m0 fin.2) (hd : decode cc pc = .ok (.invokestatic idx, 3))
    (kk : ∀ r m1, f = some (r, m1) → zJ enc p l e R s m args below meth c w m0 nL fin (pc + 3) L ((enc' r).toList ++ st) m1 (kf r m1)) : zJ enc p l e R s m args below meth c w m0 nL fin pc L stk mem (zb f kf) := by
  intro ho
  cases hf : f with
  | none => rw [hf] at ho; cases ho
  | some q =>
  obtain ⟨r, m1⟩ := q
  obtain ⟨g1, hMet⟩ := hM r m1 hf
  rw [hf] at ho
  revert ho
  show zJ enc p l e R s m args below meth c w m0 nL fin pc L stk mem (kf r m1)
  subst hstk
  refine z_run (enc' := enc') (r := r) (av := (av.map (zv w.1 w.2.1)).toArray) hc g1 (fun hle H locs ls hI hl => ?_) (kk r m1 hf)
  have hfit := z_fits (R := R) hI.2.1 g1 hle hRc
  have hGI : GoodIn zT (va_wsS own idx y (.code y code maxL rt :: zT)) := fun x hx => by
    have hx2 : x ∈ zT := by
      rcases List.mem_append.mp hx with h | h
      · exact hws x (List.mem_append_left _ h)
      · rcases List.mem_cons.mp h with rfl | h
        · exact hws _ (List.mem_append_right _ List.mem_cons_self)
        · exact h
    exact ⟨hx2, good_of_word (zT_good x hx2)⟩
  exact va_runS (As := av.map (zv w.1 w.2.1)) (rest := st.map (zv w.1 w.2.1)) ⟨hc.1, hc.2.1, hc.2.2.2.1, hc.2.2.2.2.1, hc.2.2.2.2.2.1⟩ hMet (va_cwS av.length hc.2.2.2.2.2.1 hGI rfl rfl rfl ⟨hy.1, hy.2, hpar⟩ hR)
    ⟨zPre_blind _ _ _, fun U hU hWm => zPre.of hc hI av hU hWm⟩ rfl (by rw [List.length_map]) hl.1 (by rw [List.map_append, List.map_reverse]) (by show 2 * 0 + _ ≤ 8; omega) hd hfit
theorem z_callSN (hc : zCx p s m args meth c w m0 own cc nL ret) {β : Type} {enc' : β → Option Value} {f : Option (β × zM)} {kf : β → zM → Option (α × zM)} {idx fr lo maxL : Nat} {y : MethodName} {code : ByteArray} {rt : Option FieldType} {stk : List Value} {av : List Value} {host : String} (hstk : stk = av.reverse ++ st) (hM : ∀ r m1, f = some (r, m1) → zMet l w fr lo y code maxL rt av mem (enc' r) m1)
    (hnest : (own, idx, y, host) ∈ zNestM) (hws : ∀ x ∈ ([.static y, .initialized y.cls, .code y code maxL rt] : List Cond), x ∈ zT) (hpar : (parseMethodDescriptor y.desc).map (fun d => d.parameters.length) = some av.length) (hy : y.cls ≠ "java/lang/invoke/MethodHandle" ∧ y.cls ≠ "java/lang/invoke/VarHandle") (hR : fr + 1 ≤ R.frames ∧ 8 + (maxL + 11) + lo ≤ R.locals) (hW : ((st.map (zv w.1 w.2.1)).map fun v => v.category).sum ≤ 8) (hRc : R.cells = zc w m0 fin.2 ∧ R.slots = zs w m0 fin.2) (hd : decode cc pc = .ok (.invokestatic idx, 3))
    (kk : ∀ r m1, f = some (r, m1) → zJ enc p l e R s m args below meth c w m0 nL fin (pc + 3) L ((enc' r).toList ++ st) m1 (kf r m1)) : zJ enc p l e R s m args below meth c w m0 nL fin pc L stk mem (zb f kf) := by
  intro ho
  cases hf : f with
  | none => rw [hf] at ho; cases ho
  | some q =>
  obtain ⟨r, m1⟩ := q
  obtain ⟨g1, hMet⟩ := hM r m1 hf
  rw [hf] at ho
  revert ho
  show zJ enc p l e R s m args below meth c w m0 nL fin pc L stk mem (kf r m1)
  subst hstk
  refine z_run (enc' := enc') (r := r) (av := (av.map (zv w.1 w.2.1)).toArray) hc g1 (fun hle H locs ls hI hl => ?_) (kk r m1 hf)
  have hfit := z_fits (R := R) hI.2.1 g1 hle hRc
  have hts := hc.2.2.2.2.2.1
  have hGI : GoodIn zT (.code y code maxL rt :: zT) := fun x hx => by
    have hx2 : x ∈ zT := by
      rcases List.mem_cons.mp hx with rfl | h
      · exact hws _ (by simp)
      · exact h
    exact ⟨hx2, good_of_word (zT_good x hx2)⟩
  exact va_runSN (As := av.map (zv w.1 w.2.1)) (rest := st.map (zv w.1 w.2.1)) ⟨hc.1, hc.2.1, hc.2.2.2.1, hc.2.2.2.2.1, hts⟩ hMet ⟨va_cnB av.length hts hGI rfl rfl rfl (hc.2.2.2.2.2.2.2.1.2.1 _ hnest) (hts (.initialized y.cls) (hws _ (by simp))) ⟨hy.1, hy.2, hpar⟩ hR, hts (.static y) (hws _ (by simp)), trivial⟩
    ⟨zPre_blind _ _ _, fun U hU hWm => zPre.of hc hI av hU hWm⟩ rfl (by rw [List.length_map]) hl.1 (by rw [List.map_append, List.map_reverse]) (by show 2 * 0 + _ ≤ 8; omega) hd hfit

end ZR
