/-! ===== constructors ===== -/
def zmono {α : Type} (u : zM) (o : Option (α × zM)) : Option (α × zM) := match o with
  | none => none
  | some (r, m) => if gN u ≤ gN m then some (r, m) else none
theorem zmono_le {α : Type} {u : zM} {o : Option (α × zM)} {r : α} {m : zM} (h : zmono u o = some (r, m)) : gN u ≤ gN m ∧ o = some (r, m) := by
  cases o with
  | none => cases h
  | some q =>
    obtain ⟨r', m'⟩ := q
    unfold zmono at h
    simp only at h
    split at h
    · rename_i hle
      cases h
      exact ⟨hle, rfl⟩
    · cases h
section ZR
variable {α : Type} {enc : α → Option Value} {p : Program} {l : Launch} {e : Env} {R : Room} {s : State} {m : MethodId} {args : Array Value} {below : List Frame} {meth : Method} {c : Code} {w : zWd} {m0 : zM} {nL : Nat} {fin : α × zM} {pc : Nat} {L : List (Nat × Value)} {st : List Value} {mem : zM} {o : Option (α × zM)} {own : String} {cc : ByteArray} {ret : Option FieldType}
theorem zJ.mono {u : zM} (k : zJ enc p l e R s m args below meth c w m0 nL fin pc L st mem o) : zJ enc p l e R s m args below meth c w m0 nL fin pc L st mem (zmono u o) := fun ho => k (zmono_le (r := fin.1) (m := fin.2) ho).2
theorem z_callI (hc : zCx p s m args meth c w m0 own cc nL ret) {β : Type} {enc' : β → Option Value} {f : Option (β × zM)} {kf : β → zM → Option (α × zM)} {idx fr lo maxL : Nat} {y : MethodName} {code : ByteArray} {stk : List Value} {t : Nat} {av : List Value} (hstk : stk = av.reverse ++ .ref t :: st) (hM : ∀ r m1, f = some (r, m1) → zMet l w fr lo y code maxL none (.ref t :: av) mem (enc' r) m1)
    (hyn : y.name = "<init>") (hws : ∀ x ∈ ([.methodLink own idx y, .instanceMethod y, .initialized y.cls, .code y code maxL none] : List Cond), x ∈ zT) (hpar : (parseMethodDescriptor y.desc).map (fun d => d.parameters.length) = some av.length) (hy : y.cls ≠ "java/lang/invoke/MethodHandle" ∧ y.cls ≠ "java/lang/invoke/VarHandle") (hR : fr + 1 ≤ R.frames ∧ 8 + (maxL + 11) + lo ≤ R.locals) (hW : ((st.map (zv w.1 w.2.1)).map fun v => v.category).sum ≤ 8) (hRc : R.cells = zc w m0 fin.2 ∧ R.slots = zs w m0 fin.2) (hd : decode cc pc = .ok (.invokespecial idx, 3))
    (kk : ∀ r m1, f = some (r, m1) → zJ enc p l e R s m args below meth c w m0 nL fin (pc + 3) L ((enc' r).toList ++ st) m1 (kf r m1)) : zJ enc p l e R s m args below meth c w m0 nL fin pc L stk mem (zb f kf) := by
  intro ho
  cases hf : f with
  | none => rw [hf] at ho; cases ho
  | some q =>
  obtain ⟨r, m1⟩ := q
  obtain ⟨g1, hMet⟩ := hM r m1 hf
  rw [hf] at ho
  revert ho
  show zJ enc p l e R s m args below meth c w m0 nL fin pc L stk mem (kf r m1)
  subst hstk
  refine z_run (enc' := enc') (r := r) (av := ((.ref t :: av).map (zv w.1 w.2.1)).toArray) hc g1 (fun hle H locs ls hI hl => ?_) (kk r m1 hf)
  have hfit := z_fits (R := R) hI.2.1 g1 hle hRc
  have hts := hc.2.2.2.2.2.1
  have hGI : GoodIn zT (.code y code maxL none :: zT) := fun x hx => by
    have hx2 : x ∈ zT := by
      rcases List.mem_cons.mp hx with rfl | h
      · exact hws _ (by simp)
      · exact h
    exact ⟨hx2, good_of_word (zT_good x hx2)⟩
  exact va_runI (As := av.map (zv w.1 w.2.1)) (rest := st.map (zv w.1 w.2.1)) ⟨hc.1, hc.2.1, hc.2.2.2.1, hc.2.2.2.2.1, hts⟩ hMet (cwI av.length hts hGI rfl rfl rfl (hts (.initialized y.cls) (hws _ (by simp))) (hts (.methodLink own idx y) (hws _ (by simp))) (hts (.instanceMethod y) (hws _ (by simp))) hyn ⟨hy.1, hy.2, hpar⟩ hR)
    ⟨zPre_blind _ _ _, fun U hU hWm => zPre.of hc hI (.ref t :: av) hU hWm⟩ rfl (by rw [List.length_map]) hl.1 (by rw [List.map_append, List.map_reverse]; rfl) (by show 2 * 0 + _ ≤ 8; omega) hd hfit
theorem z_callIN (hc : zCx p s m args meth c w m0 own cc nL ret) {β : Type} {enc' : β → Option Value} {f : Option (β × zM)} {kf : β → zM → Option (α × zM)} {idx fr lo maxL : Nat} {y : MethodName} {code : ByteArray} {stk : List Value} {t : Nat} {av : List Value} {host : String} (hstk : stk = av.reverse ++ .ref t :: st) (hM : ∀ r m1, f = some (r, m1) → zMet l w fr lo y code maxL none (.ref t :: av) mem (enc' r) m1)
    (hnest : (own, idx, y, host) ∈ zNestM) (hyn : y.name = "<init>") (hws : ∀ x ∈ ([.instanceMethod y, .initialized y.cls, .code y code maxL none] : List Cond), x ∈ zT) (hpar : (parseMethodDescriptor y.desc).map (fun d => d.parameters.length) = some av.length) (hy : y.cls ≠ "java/lang/invoke/MethodHandle" ∧ y.cls ≠ "java/lang/invoke/VarHandle") (hR : fr + 1 ≤ R.frames ∧ 8 + (maxL + 11) + lo ≤ R.locals) (hW : ((st.map (zv w.1 w.2.1)).map fun v => v.category).sum ≤ 8) (hRc : R.cells = zc w m0 fin.2 ∧ R.slots = zs w m0 fin.2) (hd : decode cc pc = .ok (.invokespecial idx, 3))
    (kk : ∀ r m1, f = some (r, m1) → zJ enc p l e R s m args below meth c w m0 nL fin (pc + 3) L ((enc' r).toList ++ st) m1 (kf r m1)) : zJ enc p l e R s m args below meth c w m0 nL fin pc L stk mem (zb f kf) := by
  intro ho
  cases hf : f with
  | none => rw [hf] at ho; cases ho
  | some q =>
  obtain ⟨r, m1⟩ := q
  obtain ⟨g1, hMet⟩ := hM r m1 hf
  rw [hf] at ho
  revert ho
  show zJ enc p l e R s m args below meth c w m0 nL fin pc L stk mem (kf r m1)
  subst hstk
  refine z_run (enc' := enc') (r := r) (av := ((.ref t :: av).map (zv w.1 w.2.1)).toArray) hc g1 (fun hle H locs ls hI hl => ?_) (kk r m1 hf)
  have hfit := z_fits (R := R) hI.2.1 g1 hle hRc
  have hts := hc.2.2.2.2.2.1
  have hGI : GoodIn zT (.code y code maxL none :: zT) := fun x hx => by
    have hx2 : x ∈ zT := by
      rcases List.mem_cons.mp hx with rfl | h
      · exact hws _ (by simp)
      · exact h
    exact ⟨hx2, good_of_word (zT_good x hx2)⟩
  exact va_runIN (As := av.map (zv w.1 w.2.1)) (rest := st.map (zv w.1 w.2.1)) ⟨hc.1, hc.2.1, hc.2.2.2.1, hc.2.2.2.2.1, hts⟩ hMet ⟨va_cnB av.length hts hGI rfl rfl rfl (hc.2.2.2.2.2.2.2.1.2.1 _ hnest) (hts (.initialized y.cls) (hws _ (by simp))) ⟨hy.1, hy.2, hpar⟩ hR, hyn, hts (.instanceMethod y) (hws _ (by simp))⟩
    ⟨zPre_blind _ _ _, fun U hU hWm => zPre.of hc hI (.ref t :: av) hU hWm⟩ rfl (by rw [List.length_map]) hl.1 (by rw [List.map_append, List.map_reverse]; rfl) (by show 2 * 0 + _ ≤ 8; omega) hd hfit
end ZR
theorem wCX9_7 : Cond.classLink RX9 7 RX8 ∈ zT := zT_1 (List.mem_of_getElem? (i := 27) rfl) rfl
theorem wCX9_16 : Cond.classLink RX9 16 RX0 ∈ zT := zT_1 (List.mem_of_getElem? (i := 62) rfl) rfl
theorem wCX9_26 : Cond.classLink RX9 26 RX6 ∈ zT := zT_1 (List.mem_of_getElem? (i := 181) rfl) rfl
theorem wCX9_36 : Cond.classLink RX9 36 RX7 ∈ zT := zT_1 (List.mem_of_getElem? (i := 204) rfl) rfl
theorem wCX9_46 : Cond.classLink RX9 46 RX5 ∈ zT := zT_2 (List.mem_of_getElem? (i := 0) rfl) rfl
theorem wCX9_53 : Cond.classLink RX9 53 RX4 ∈ zT := zT_2 (List.mem_of_getElem? (i := 24) rfl) rfl
theorem wCX9_64 : Cond.classLink RX9 64 RX2 ∈ zT := zT_2 (List.mem_of_getElem? (i := 64) rfl) rfl
theorem wCX0_9 : Cond.classLink RX0 9 RX3 ∈ zT := zT_1 (List.mem_of_getElem? (i := 68) rfl) rfl
theorem wCX0_57 : Cond.classLink RX0 57 RX1 ∈ zT := zT_1 (List.mem_of_getElem? (i := 86) rfl) rfl
theorem wCX2_7 : Cond.classLink RX2 7 RX7 ∈ zT := zT_2 (List.mem_of_getElem? (i := 71) rfl) rfl
theorem wCX2_16 : Cond.classLink RX2 16 RX6 ∈ zT := zT_2 (List.mem_of_getElem? (i := 73) rfl) rfl
theorem wCX2_23 : Cond.classLink RX2 23 RX5 ∈ zT := zT_2 (List.mem_of_getElem? (i := 75) rfl) rfl
theorem wCX4_9 : Cond.classLink RX4 9 RX7 ∈ zT := zT_2 (List.mem_of_getElem? (i := 30) rfl) rfl
theorem wN0 : Cond.instantiable (zRn 0) (zNf 0) ∈ zT := zT_1 (List.mem_of_getElem? (i := 63) rfl) rfl
theorem wI0 : Cond.initialized (zRn 0) ∈ zT := zT_1 (List.mem_of_getElem? (i := 3) rfl) rfl
theorem wN1 : Cond.instantiable (zRn 1) (zNf 1) ∈ zT := zT_1 (List.mem_of_getElem? (i := 87) rfl) rfl
theorem wI1 : Cond.initialized (zRn 1) ∈ zT := zT_1 (List.mem_of_getElem? (i := 5) rfl) rfl
theorem wN2 : Cond.instantiable (zRn 2) (zNf 2) ∈ zT := zT_2 (List.mem_of_getElem? (i := 66) rfl) rfl
theorem wI2 : Cond.initialized (zRn 2) ∈ zT := zT_1 (List.mem_of_getElem? (i := 10) rfl) rfl
theorem wN3 : Cond.instantiable (zRn 3) (zNf 3) ∈ zT := zT_1 (List.mem_of_getElem? (i := 69) rfl) rfl
theorem wI3 : Cond.initialized (zRn 3) ∈ zT := zT_1 (List.mem_of_getElem? (i := 4) rfl) rfl
theorem wN4 : Cond.instantiable (zRn 4) (zNf 4) ∈ zT := zT_2 (List.mem_of_getElem? (i := 25) rfl) rfl
theorem wI4 : Cond.initialized (zRn 4) ∈ zT := zT_1 (List.mem_of_getElem? (i := 9) rfl) rfl
theorem wN5 : Cond.instantiable (zRn 5) (zNf 5) ∈ zT := zT_2 (List.mem_of_getElem? (i := 1) rfl) rfl
theorem wI5 : Cond.initialized (zRn 5) ∈ zT := zT_1 (List.mem_of_getElem? (i := 8) rfl) rfl
theorem wN6 : Cond.instantiable (zRn 6) (zNf 6) ∈ zT := zT_1 (List.mem_of_getElem? (i := 182) rfl) rfl
theorem wI6 : Cond.initialized (zRn 6) ∈ zT := zT_1 (List.mem_of_getElem? (i := 6) rfl) rfl
theorem wN7 : Cond.instantiable (zRn 7) (zNf 7) ∈ zT := zT_1 (List.mem_of_getElem? (i := 205) rfl) rfl
theorem wI7 : Cond.initialized (zRn 7) ∈ zT := zT_1 (List.mem_of_getElem? (i := 7) rfl) rfl
theorem wN8 : Cond.instantiable (zRn 8) (zNf 8) ∈ zT := zT_1 (List.mem_of_getElem? (i := 28) rfl) rfl
theorem wI8 : Cond.initialized (zRn 8) ∈ zT := zT_1 (List.mem_of_getElem? (i := 2) rfl) rfl
theorem wN9 : Cond.instantiable (zRn 9) (zNf 9) ∈ zT := zT_1 (List.mem_of_getElem? (i := 20) rfl) rfl
theorem wI9 : Cond.initialized (zRn 9) ∈ zT := zT_1 (List.mem_of_getElem? (i := 1) rfl) rfl
theorem wN10 : Cond.instantiable (zRn 10) (zNf 10) ∈ zT := zT_5 (List.mem_of_getElem? (i := 180) rfl) rfl
theorem wI10 : Cond.initialized (zRn 10) ∈ zT := zT_1 (List.mem_of_getElem? (i := 12) rfl) rfl
theorem wRint : Cond.arrayClass (newarray.typeOf .int) ∈ zT := zT_1 (List.mem_of_getElem? (i := 103) rfl) rfl
theorem wRlong : Cond.arrayClass (newarray.typeOf .long) ∈ zT := zT_1 (List.mem_of_getElem? (i := 85) rfl) rfl
theorem wRboolean : Cond.arrayClass (newarray.typeOf .boolean) ∈ zT := zT_2 (List.mem_of_getElem? (i := 23) rfl) rfl
theorem wRbyte : Cond.arrayClass (newarray.typeOf .byte) ∈ zT := zT_1 (List.mem_of_getElem? (i := 61) rfl) rfl
theorem wBin : Cond.instanceMethod Lib.objectInit ∈ zT := zT_1 (List.mem_of_getElem? (i := 25) rfl) rfl
theorem wBco : Cond.code Lib.objectInit ⟨#[0xb1]⟩ 1 none ∈ zT := zT_1 (List.mem_of_getElem? (i := 26) rfl) rfl
theorem wBX9_1 : Cond.methodLink RX9 1 Lib.objectInit ∈ zT := zT_1 (List.mem_of_getElem? (i := 24) rfl) rfl
theorem hpyX8_init : (parseMethodDescriptor yX8_init.desc).map (fun d => d.parameters.length) = some 0 := by decide +kernel
theorem hmyX8_init : yX8_init.cls ≠ "java/lang/invoke/MethodHandle" ∧ yX8_init.cls ≠ "java/lang/invoke/VarHandle" := by decide +kernel
theorem wcyX8_init : Cond.code yX8_init cX8_init 1 none ∈ zT := zT_1 (List.mem_of_getElem? (i := 31) rfl) rfl
theorem wMX9_9 : ∀ x ∈ ([.instanceMethod yX8_init, .initialized yX8_init.cls, .code yX8_init cX8_init 1 none] : List Cond), x ∈ zT := (List.forall_mem_cons.mpr ⟨zT_1 (List.mem_of_getElem? (i := 30) rfl) rfl, (List.forall_mem_cons.mpr ⟨zT_1 (List.mem_of_getElem? (i := 2) rfl) rfl, (List.forall_mem_cons.mpr ⟨wcyX8_init, (fun _ h => absurd h List.not_mem_nil)⟩)⟩)⟩)
theorem hpyX0_init : (parseMethodDescriptor yX0_init.desc).map (fun d => d.parameters.length) = some 0 := by decide +kernel
theorem hmyX0_init : yX0_init.cls ≠ "java/lang/invoke/MethodHandle" ∧ yX0_init.cls ≠ "java/lang/invoke/VarHandle" := by decide +kernel
theorem wcyX0_init : Cond.code yX0_init cX0_init 1 none ∈ zT := zT_1 (List.mem_of_getElem? (i := 66) rfl) rfl
theorem wMX9_18 : ∀ x ∈ ([.instanceMethod yX0_init, .initialized yX0_init.cls, .code yX0_init cX0_init 1 none] : List Cond), x ∈ zT := (List.forall_mem_cons.mpr ⟨zT_1 (List.mem_of_getElem? (i := 65) rfl) rfl, (List.forall_mem_cons.mpr ⟨zT_1 (List.mem_of_getElem? (i := 3) rfl) rfl, (List.forall_mem_cons.mpr ⟨wcyX0_init, (fun _ h => absurd h List.not_mem_nil)⟩)⟩)⟩)
theorem hpyX6_init : (parseMethodDescriptor yX6_init.desc).map (fun d => d.parameters.length) = some 0 := by decide +kernel
theorem hmyX6_init : yX6_init.cls ≠ "java/lang/invoke/MethodHandle" ∧ yX6_init.cls ≠ "java/lang/invoke/VarHandle" := by decide +kernel
theorem wcyX6_init : Cond.code yX6_init cX6_init 1 none ∈ zT := zT_1 (List.mem_of_getElem? (i := 185) rfl) rfl
theorem wMX9_28 : ∀ x ∈ ([.instanceMethod yX6_init, .initialized yX6_init.cls, .code yX6_init cX6_init 1 none] : List Cond), x ∈ zT := (List.forall_mem_cons.mpr ⟨zT_1 (List.mem_of_getElem? (i := 184) rfl) rfl, (List.forall_mem_cons.mpr ⟨zT_1 (List.mem_of_getElem? (i := 6) rfl) rfl, (List.forall_mem_cons.mpr ⟨wcyX6_init, (fun _ h => absurd h List.not_mem_nil)⟩)⟩)⟩)
theorem hpyX7_init : (parseMethodDescriptor yX7_init.desc).map (fun d => d.parameters.length) = some 0 := by decide +kernel
theorem hmyX7_init : yX7_init.cls ≠ "java/lang/invoke/MethodHandle" ∧ yX7_init.cls ≠ "java/lang/invoke/VarHandle" := by decide +kernel
theorem wcyX7_init : Cond.code yX7_init cX7_init 1 none ∈ zT := zT_1 (List.mem_of_getElem? (i := 208) rfl) rfl
theorem wMX9_38 : ∀ x ∈ ([.instanceMethod yX7_init, .initialized yX7_init.cls, .code yX7_init cX7_init 1 none] : List Cond), x ∈ zT := (List.forall_mem_cons.mpr ⟨zT_1 (List.mem_of_getElem? (i := 207) rfl) rfl, (List.forall_mem_cons.mpr ⟨zT_1 (List.mem_of_getElem? (i := 7) rfl) rfl, (List.forall_mem_cons.mpr ⟨wcyX7_init, (fun _ h => absurd h List.not_mem_nil)⟩)⟩)⟩)
theorem hpyX5_init : (parseMethodDescriptor yX5_init.desc).map (fun d => d.parameters.length) = some 0 := by decide +kernel
theorem hmyX5_init : yX5_init.cls ≠ "java/lang/invoke/MethodHandle" ∧ yX5_init.cls ≠ "java/lang/invoke/VarHandle" := by decide +kernel
theorem wcyX5_init : Cond.code yX5_init cX5_init 1 none ∈ zT := zT_2 (List.mem_of_getElem? (i := 4) rfl) rfl
theorem wMX9_48 : ∀ x ∈ ([.instanceMethod yX5_init, .initialized yX5_init.cls, .code yX5_init cX5_init 1 none] : List Cond), x ∈ zT := (List.forall_mem_cons.mpr ⟨zT_2 (List.mem_of_getElem? (i := 3) rfl) rfl, (List.forall_mem_cons.mpr ⟨zT_1 (List.mem_of_getElem? (i := 8) rfl) rfl, (List.forall_mem_cons.mpr ⟨wcyX5_init, (fun _ h => absurd h List.not_mem_nil)⟩)⟩)⟩)
theorem hpyX4_init : (parseMethodDescriptor yX4_init.desc).map (fun d => d.parameters.length) = some 0 := by decide +kernel
theorem hmyX4_init : yX4_init.cls ≠ "java/lang/invoke/MethodHandle" ∧ yX4_init.cls ≠ "java/lang/invoke/VarHandle" := by decide +kernel
theorem wcyX4_init : Cond.code yX4_init cX4_init 1 none ∈ zT := zT_2 (List.mem_of_getElem? (i := 28) rfl) rfl
theorem wMX9_55 : ∀ x ∈ ([.instanceMethod yX4_init, .initialized yX4_init.cls, .code yX4_init cX4_init 1 none] : List Cond), x ∈ zT := (List.forall_mem_cons.mpr ⟨zT_2 (List.mem_of_getElem? (i := 27) rfl) rfl, (List.forall_mem_cons.mpr ⟨zT_1 (List.mem_of_getElem? (i := 9) rfl) rfl, (List.forall_mem_cons.mpr ⟨wcyX4_init, (fun _ h => absurd h List.not_mem_nil)⟩)⟩)⟩)
theorem hpyX2_init : (parseMethodDescriptor yX2_init.desc).map (fun d => d.parameters.length) = some 0 := by decide +kernel
theorem hmyX2_init : yX2_init.cls ≠ "java/lang/invoke/MethodHandle" ∧ yX2_init.cls ≠ "java/lang/invoke/VarHandle" := by decide +kernel
theorem wcyX2_init : Cond.code yX2_init cX2_init 1 none ∈ zT := zT_2 (List.mem_of_getElem? (i := 69) rfl) rfl
theorem wMX9_74 : ∀ x ∈ ([.instanceMethod yX2_init, .initialized yX2_init.cls, .code yX2_init cX2_init 1 none] : List Cond), x ∈ zT := (List.forall_mem_cons.mpr ⟨zT_2 (List.mem_of_getElem? (i := 68) rfl) rfl, (List.forall_mem_cons.mpr ⟨zT_1 (List.mem_of_getElem? (i := 10) rfl) rfl, (List.forall_mem_cons.mpr ⟨wcyX2_init, (fun _ h => absurd h List.not_mem_nil)⟩)⟩)⟩)
theorem wBX0_3 : Cond.methodLink RX0 3 Lib.objectInit ∈ zT := zT_1 (List.mem_of_getElem? (i := 67) rfl) rfl
theorem hpyX3_init : (parseMethodDescriptor yX3_init.desc).map (fun d => d.parameters.length) = some 1 := by decide +kernel
theorem hmyX3_init : yX3_init.cls ≠ "java/lang/invoke/MethodHandle" ∧ yX3_init.cls ≠ "java/lang/invoke/VarHandle" := by decide +kernel
theorem wcyX3_init : Cond.code yX3_init cX3_init 2 none ∈ zT := zT_1 (List.mem_of_getElem? (i := 72) rfl) rfl
theorem wMX0_11 : ∀ x ∈ ([.methodLink RX0 11 yX3_init, .instanceMethod yX3_init, .initialized yX3_init.cls, .code yX3_init cX3_init 2 none] : List Cond), x ∈ zT := (List.forall_mem_cons.mpr ⟨zT_1 (List.mem_of_getElem? (i := 70) rfl) rfl, (List.forall_mem_cons.mpr ⟨zT_1 (List.mem_of_getElem? (i := 71) rfl) rfl, (List.forall_mem_cons.mpr ⟨zT_1 (List.mem_of_getElem? (i := 4) rfl) rfl, (List.forall_mem_cons.mpr ⟨wcyX3_init, (fun _ h => absurd h List.not_mem_nil)⟩)⟩)⟩)⟩)
theorem hpyX1_init : (parseMethodDescriptor yX1_init.desc).map (fun d => d.parameters.length) = some 0 := by decide +kernel
theorem hmyX1_init : yX1_init.cls ≠ "java/lang/invoke/MethodHandle" ∧ yX1_init.cls ≠ "java/lang/invoke/VarHandle" := by decide +kernel
theorem wcyX1_init : Cond.code yX1_init cX1_init 1 none ∈ zT := zT_1 (List.mem_of_getElem? (i := 90) rfl) rfl
theorem wMX0_59 : ∀ x ∈ ([.instanceMethod yX1_init, .initialized yX1_init.cls, .code yX1_init cX1_init 1 none] : List Cond), x ∈ zT := (List.forall_mem_cons.mpr ⟨zT_1 (List.mem_of_getElem? (i := 89) rfl) rfl, (List.forall_mem_cons.mpr ⟨zT_1 (List.mem_of_getElem? (i := 5) rfl) rfl, (List.forall_mem_cons.mpr ⟨wcyX1_init, (fun _ h => absurd h List.not_mem_nil)⟩)⟩)⟩)
theorem wBX1_3 : Cond.methodLink RX1 3 Lib.objectInit ∈ zT := zT_1 (List.mem_of_getElem? (i := 91) rfl) rfl
theorem wBX2_1 : Cond.methodLink RX2 1 Lib.objectInit ∈ zT := zT_2 (List.mem_of_getElem? (i := 70) rfl) rfl
theorem wMX2_9 : ∀ x ∈ ([.instanceMethod yX7_init, .initialized yX7_init.cls, .code yX7_init cX7_init 1 none] : List Cond), x ∈ zT := (List.forall_mem_cons.mpr ⟨zT_1 (List.mem_of_getElem? (i := 207) rfl) rfl, (List.forall_mem_cons.mpr ⟨zT_1 (List.mem_of_getElem? (i := 7) rfl) rfl, (List.forall_mem_cons.mpr ⟨wcyX7_init, (fun _ h => absurd h List.not_mem_nil)⟩)⟩)⟩)
theorem wMX2_18 : ∀ x ∈ ([.instanceMethod yX6_init, .initialized yX6_init.cls, .code yX6_init cX6_init 1 none] : List Cond), x ∈ zT := (List.forall_mem_cons.mpr ⟨zT_1 (List.mem_of_getElem? (i := 184) rfl) rfl, (List.forall_mem_cons.mpr ⟨zT_1 (List.mem_of_getElem? (i := 6) rfl) rfl, (List.forall_mem_cons.mpr ⟨wcyX6_init, (fun _ h => absurd h List.not_mem_nil)⟩)⟩)⟩)
theorem wMX2_25 : ∀ x ∈ ([.instanceMethod yX5_init, .initialized yX5_init.cls, .code yX5_init cX5_init 1 none] : List Cond), x ∈ zT := (List.forall_mem_cons.mpr ⟨zT_2 (List.mem_of_getElem? (i := 3) rfl) rfl, (List.forall_mem_cons.mpr ⟨zT_1 (List.mem_of_getElem? (i := 8) rfl) rfl, (List.forall_mem_cons.mpr ⟨wcyX5_init, (fun _ h => absurd h List.not_mem_nil)⟩)⟩)⟩)
theorem wBX3_3 : Cond.methodLink RX3 3 Lib.objectInit ∈ zT := zT_1 (List.mem_of_getElem? (i := 73) rfl) rfl
theorem wBX4_3 : Cond.methodLink RX4 3 Lib.objectInit ∈ zT := zT_2 (List.mem_of_getElem? (i := 29) rfl) rfl
theorem wMX4_11 : ∀ x ∈ ([.instanceMethod yX7_init, .initialized yX7_init.cls, .code yX7_init cX7_init 1 none] : List Cond), x ∈ zT := (List.forall_mem_cons.mpr ⟨zT_1 (List.mem_of_getElem? (i := 207) rfl) rfl, (List.forall_mem_cons.mpr ⟨zT_1 (List.mem_of_getElem? (i := 7) rfl) rfl, (List.forall_mem_cons.mpr ⟨wcyX7_init, (fun _ h => absurd h List.not_mem_nil)⟩)⟩)⟩)
theorem wBX5_3 : Cond.methodLink RX5 3 Lib.objectInit ∈ zT := zT_2 (List.mem_of_getElem? (i := 5) rfl) rfl
theorem wBX6_3 : Cond.methodLink RX6 3 Lib.objectInit ∈ zT := zT_1 (List.mem_of_getElem? (i := 186) rfl) rfl
theorem wBX7_3 : Cond.methodLink RX7 3 Lib.objectInit ∈ zT := zT_1 (List.mem_of_getElem? (i := 209) rfl) rfl
theorem wBX8_3 : Cond.methodLink RX8 3 Lib.objectInit ∈ zT := zT_1 (List.mem_of_getElem? (i := 32) rfl) rfl
theorem wBX10_1 : Cond.methodLink RX10 1 Lib.objectInit ∈ zT := zT_5 (List.mem_of_getElem? (i := 184) rfl) rfl
set_option maxRecDepth 100000 in
def Ta_initDx (r0 : Nat) (u : zM) : Option (Unit × zM) :=
  if (1000 : Int32) < 0 then none else (if ix 1000 * 8 ≤ 536870912 then (if layC (gN u + 1) = (4, ix 1000) then (zlet (sN u) (fun u1 => if zkd layC u1 r0 18 7 = true then (if 1 ≤ (gN u + 1) then (zlet (sR u1 r0 0 (gN u + 1)) (fun u2 => some ((), u2))) else none) else none)) else none) else none)
def Ta_initD (r0 : Nat) (u : zM) : Option (Unit × zM) := zmono u (Ta_initDx r0 u)
set_option maxRecDepth 100000 in
def Na_initDx (r0 : Nat) (v1 : Int32) (u : zM) : Option (Unit × zM) :=
  if 0 ≤ v1 then (if (v1 : Int32) < 0 then none else (if ix v1 * 8 ≤ 536870912 then (if layC (gN u + 1) = (2, ix v1) then (zlet (sN u) (fun u1 => if zkd layC u1 r0 13 2 = true then (if 1 ≤ (gN u + 1) then (zlet (sR u1 r0 0 (gN u + 1)) (fun u2 => some ((), u2))) else none) else none)) else none) else none)) else (if (0 : Int32) < 0 then none else (if ix 0 * 8 ≤ 536870912 then (if layC (gN u + 1) = (2, ix 0) then (zlet (sN u) (fun u3 => if zkd layC u3 r0 13 2 = true then (if 1 ≤ (gN u + 1) then (zlet (sR u3 r0 0 (gN u + 1)) (fun u4 => some ((), u4))) else none) else none)) else none) else none))
def Na_initD (r0 : Nat) (v1 : Int32) (u : zM) : Option (Unit × zM) := zmono u (Na_initDx r0 v1 u)
set_option maxRecDepth 100000 in
def La_initDx (r0 : Nat) (u : zM) : Option (Unit × zM) :=
  if (1000 : Int32) < 0 then none else (if ix 1000 * 8 ≤ 536870912 then (if layC (gN u + 1) = (1, ix 1000) then (zlet (sN u) (fun u1 => if zkd layC u1 r0 11 3 = true then (if 1 ≤ (gN u + 1) then (zlet (sR u1 r0 0 (gN u + 1)) (fun u2 => if (32 : Int32) < 0 then none else (if ix 32 * 8 ≤ 536870912 then (if layC (gN u2 + 1) = (1, ix 32) then (zlet (sN u2) (fun u3 => if zkd layC u3 r0 11 3 = true then (if 1 ≤ (gN u2 + 1) then (zlet (sR u3 r0 1 (gN u2 + 1)) (fun u4 => some ((), u4))) else none) else none)) else none) else none))) else none) else none)) else none) else none)
def La_initD (r0 : Nat) (u : zM) : Option (Unit × zM) := zmono u (La_initDx r0 u)
set_option maxRecDepth 100000 in
def Co_initD_98 (r0 : Nat) (u : zM) : Option (Unit × zM) :=
  if (6 : Int32) < 0 then none else (if ix 6 * 8 ≤ 536870912 then (if layC (gN u + 1) = (1, ix 6) then (zlet (sN u) (fun u1 => if zkd layC u1 r0 10 16 = true then (if 1 ≤ (gN u + 1) then (zlet (sR u1 r0 10 (gN u + 1)) (fun u2 => if (6 : Int32) < 0 then none else (if ix 6 * 8 ≤ 536870912 then (if layC (gN u2 + 1) = (1, ix 6) then (zlet (sN u2) (fun u3 => if zkd layC u3 r0 10 16 = true then (if 1 ≤ (gN u2 + 1) then (zlet (sR u3 r0 11 (gN u2 + 1)) (fun u4 => if (12 : Int32) < 0 then none else (if ix 12 * 8 ≤ 536870912 then (if layC (gN u4 + 1) = (1, ix 12) then (zlet (sN u4) (fun u5 => if zkd layC u5 r0 10 16 = true then (if 1 ≤ (gN u4 + 1) then (zlet (sR u5 r0 12 (gN u4 + 1)) (fun u6 => if layC (gN u6 + 1) = (11, 3) then (zlet (sN u6) (fun u7 => zb (La_initD (gN u6 + 1) u7) (fun _ u8 => if zkd layC u8 r0 10 16 = true then (if 1 ≤ (gN u6 + 1) then (zlet (sR u8 r0 13 (gN u6 + 1)) (fun u9 => some ((), u9))) else none) else none))) else none)) else none) else none)) else none) else none))) else none) else none)) else none) else none))) else none) else none)) else none) else none)
set_option maxRecDepth 100000 in
def Co_initD_62 (r0 : Nat) (u : zM) : Option (Unit × zM) :=
  if (7 : Int32) < 0 then none else (if ix 7 * 8 ≤ 536870912 then (if layC (gN u + 1) = (1, ix 7) then (zlet (sN u) (fun u1 => if zkd layC u1 r0 10 16 = true then (if 1 ≤ (gN u + 1) then (zlet (sR u1 r0 5 (gN u + 1)) (fun u2 => if (5 : Int32) < 0 then none else (if ix 5 * 8 ≤ 536870912 then (if layC (gN u2 + 1) = (1, ix 5) then (zlet (sN u2) (fun u3 => if zkd layC u3 r0 10 16 = true then (if 1 ≤ (gN u2 + 1) then (zlet (sR u3 r0 6 (gN u2 + 1)) (fun u4 => if (5 : Int32) < 0 then none else (if ix 5 * 8 ≤ 536870912 then (if layC (gN u4 + 1) = (1, ix 5) then (zlet (sN u4) (fun u5 => if zkd layC u5 r0 10 16 = true then (if 1 ≤ (gN u4 + 1) then (zlet (sR u5 r0 7 (gN u4 + 1)) (fun u6 => if (3 : Int32) < 0 then none else (if ix 3 * 8 ≤ 536870912 then (if layC (gN u6 + 1) = (1, ix 3) then (zlet (sN u6) (fun u7 => if zkd layC u7 r0 10 16 = true then (if 1 ≤ (gN u6 + 1) then (zlet (sR u7 r0 8 (gN u6 + 1)) (fun u8 => if (3 : Int32) < 0 then none else (if ix 3 * 8 ≤ 536870912 then (if layC (gN u8 + 1) = (1, ix 3) then (zlet (sN u8) (fun u9 => if zkd layC u9 r0 10 16 = true then (if 1 ≤ (gN u8 + 1) then (zlet (sR u9 r0 9 (gN u8 + 1)) (fun u10 => Co_initD_98 r0 u10)) else none) else none)) else none) else none))) else none) else none)) else none) else none))) else none) else none)) else none) else none))) else none) else none)) else none) else none))) else none) else none)) else none) else none)
set_option maxRecDepth 100000 in
def Co_initDx (r0 : Nat) (u : zM) : Option (Unit × zM) :=
  if layC (gN u + 1) = (13, 2) then (zlet (sN u) (fun u1 => zb (Na_initD (gN u + 1) 7 u1) (fun _ u2 => if zkd layC u2 r0 10 16 = true then (if 1 ≤ (gN u + 1) then (zlet (sR u2 r0 0 (gN u + 1)) (fun u3 => if layC (gN u3 + 1) = (13, 2) then (zlet (sN u3) (fun u4 => zb (Na_initD (gN u3 + 1) 5 u4) (fun _ u5 => if zkd layC u5 r0 10 16 = true then (if 1 ≤ (gN u3 + 1) then (zlet (sR u5 r0 1 (gN u3 + 1)) (fun u6 => if layC (gN u6 + 1) = (13, 2) then (zlet (sN u6) (fun u7 => zb (Na_initD (gN u6 + 1) 3 u7) (fun _ u8 => if zkd layC u8 r0 10 16 = true then (if 1 ≤ (gN u6 + 1) then (zlet (sR u8 r0 2 (gN u6 + 1)) (fun u9 => if layC (gN u9 + 1) = (13, 2) then (zlet (sN u9) (fun u10 => zb (Na_initD (gN u9 + 1) 6 u10) (fun _ u11 => if zkd layC u11 r0 10 16 = true then (if 1 ≤ (gN u9 + 1) then (zlet (sR u11 r0 3 (gN u9 + 1)) (fun u12 => if (7 : Int32) < 0 then none else (if ix 7 * 8 ≤ 536870912 then (if layC (gN u12 + 1) = (1, ix 7) then (zlet (sN u12) (fun u13 => if zkd layC u13 r0 10 16 = true then (if 1 ≤ (gN u12 + 1) then (zlet (sR u13 r0 4 (gN u12 + 1)) (fun u14 => Co_initD_62 r0 u14)) else none) else none)) else none) else none))) else none) else none))) else none)) else none) else none))) else none)) else none) else none))) else none)) else none) else none))) else none
def Co_initD (r0 : Nat) (u : zM) : Option (Unit × zM) := zmono u (Co_initDx r0 u)
set_option maxRecDepth 100000 in
def Ss_initDx (r0 : Nat) (u : zM) : Option (Unit × zM) :=
  if (40 : Int32) < 0 then none else (if ix 40 * 8 ≤ 536870912 then (if layC (gN u + 1) = (1, ix 40) then (zlet (sN u) (fun u1 => if zkd layC u1 r0 16 4 = true then (if 1 ≤ (gN u + 1) then (zlet (sR u1 r0 0 (gN u + 1)) (fun u2 => if (40 : Int32) < 0 then none else (if ix 40 * 8 ≤ 536870912 then (if layC (gN u2 + 1) = (1, ix 40) then (zlet (sN u2) (fun u3 => if zkd layC u3 r0 16 4 = true then (if 1 ≤ (gN u2 + 1) then (zlet (sR u3 r0 1 (gN u2 + 1)) (fun u4 => if (40 : Int32) < 0 then none else (if ix 40 * 8 ≤ 536870912 then (if layC (gN u4 + 1) = (1, ix 40) then (zlet (sN u4) (fun u5 => if zkd layC u5 r0 16 4 = true then (if 1 ≤ (gN u4 + 1) then (zlet (sR u5 r0 2 (gN u4 + 1)) (fun u6 => some ((), u6))) else none) else none)) else none) else none))) else none) else none)) else none) else none))) else none) else none)) else none) else none)
def Ss_initD (r0 : Nat) (u : zM) : Option (Unit × zM) := zmono u (Ss_initDx r0 u)
set_option maxRecDepth 100000 in
def St_initDx (r0 : Nat) (u : zM) : Option (Unit × zM) :=
  if (7 : Int32) < 0 then none else (if ix 7 * 8 ≤ 536870912 then (if layC (gN u + 1) = (1, ix 7) then (zlet (sN u) (fun u1 => if zkd layC u1 r0 17 6 = true then (if 1 ≤ (gN u + 1) then (zlet (sR u1 r0 0 (gN u + 1)) (fun u2 => if (5 : Int32) < 0 then none else (if ix 5 * 8 ≤ 536870912 then (if layC (gN u2 + 1) = (1, ix 5) then (zlet (sN u2) (fun u3 => if zkd layC u3 r0 17 6 = true then (if 1 ≤ (gN u2 + 1) then (zlet (sR u3 r0 1 (gN u2 + 1)) (fun u4 => if (3 : Int32) < 0 then none else (if ix 3 * 8 ≤ 536870912 then (if layC (gN u4 + 1) = (1, ix 3) then (zlet (sN u4) (fun u5 => if zkd layC u5 r0 17 6 = true then (if 1 ≤ (gN u4 + 1) then (zlet (sR u5 r0 2 (gN u4 + 1)) (fun u6 => if (3 : Int32) < 0 then none else (if ix 3 * 8 ≤ 536870912 then (if layC (gN u6 + 1) = (1, ix 3) then (zlet (sN u6) (fun u7 => if zkd layC u7 r0 17 6 = true then (if 1 ≤ (gN u6 + 1) then (zlet (sR u7 r0 3 (gN u6 + 1)) (fun u8 => if (6 : Int32) < 0 then none else (if ix 6 * 8 ≤ 536870912 then (if layC (gN u8 + 1) = (1, ix 6) then (zlet (sN u8) (fun u9 => if zkd layC u9 r0 17 6 = true then (if 1 ≤ (gN u8 + 1) then (zlet (sR u9 r0 4 (gN u8 + 1)) (fun u10 => some ((), u10))) else none) else none)) else none) else none))) else none) else none)) else none) else none))) else none) else none)) else none) else none))) else none) else none)) else none) else none))) else none) else none)) else none) else none)
def St_initD (r0 : Nat) (u : zM) : Option (Unit × zM) := zmono u (St_initDx r0 u)
set_option maxRecDepth 100000 in
def Se_initDx (r0 : Nat) (u : zM) : Option (Unit × zM) :=
  if (8 : Int32) < 0 then none else (if ix 8 * 8 ≤ 536870912 then (if layC (gN u + 1) = (1, ix 8) then (zlet (sN u) (fun u1 => if zkd layC u1 r0 15 4 = true then (if 1 ≤ (gN u + 1) then (zlet (sR u1 r0 0 (gN u + 1)) (fun u2 => if (8 : Int32) < 0 then none else (if ix 8 * 8 ≤ 536870912 then (if layC (gN u2 + 1) = (1, ix 8) then (zlet (sN u2) (fun u3 => if zkd layC u3 r0 15 4 = true then (if 1 ≤ (gN u2 + 1) then (zlet (sR u3 r0 1 (gN u2 + 1)) (fun u4 => if (8 : Int32) < 0 then none else (if ix 8 * 8 ≤ 536870912 then (if layC (gN u4 + 1) = (3, ix 8) then (zlet (sN u4) (fun u5 => if zkd layC u5 r0 15 4 = true then (if 1 ≤ (gN u4 + 1) then (zlet (sR u5 r0 2 (gN u4 + 1)) (fun u6 => some ((), u6))) else none) else none)) else none) else none))) else none) else none)) else none) else none))) else none) else none)) else none) else none)
def Se_initD (r0 : Nat) (u : zM) : Option (Unit × zM) := zmono u (Se_initDx r0 u)
set_option maxRecDepth 100000 in
def Ou_initDx (r0 : Nat) (u : zM) : Option (Unit × zM) :=
  if layC (gN u + 1) = (17, 6) then (zlet (sN u) (fun u1 => zb (St_initD (gN u + 1) u1) (fun _ u2 => if zkd layC u2 r0 14 9 = true then (if 1 ≤ (gN u + 1) then (zlet (sR u2 r0 0 (gN u + 1)) (fun u3 => if (427 : Int32) < 0 then none else (if ix 427 * 8 ≤ 536870912 then (if layC (gN u3 + 1) = (1, ix 427) then (zlet (sN u3) (fun u4 => if zkd layC u4 r0 14 9 = true then (if 1 ≤ (gN u3 + 1) then (zlet (sR u4 r0 1 (gN u3 + 1)) (fun u5 => if (305 : Int32) < 0 then none else (if ix 305 * 8 ≤ 536870912 then (if layC (gN u5 + 1) = (1, ix 305) then (zlet (sN u5) (fun u6 => if zkd layC u6 r0 14 9 = true then (if 1 ≤ (gN u5 + 1) then (zlet (sR u6 r0 2 (gN u5 + 1)) (fun u7 => if (61 : Int32) < 0 then none else (if ix 61 * 8 ≤ 536870912 then (if layC (gN u7 + 1) = (1, ix 61) then (zlet (sN u7) (fun u8 => if zkd layC u8 r0 14 9 = true then (if 1 ≤ (gN u7 + 1) then (zlet (sR u8 r0 3 (gN u7 + 1)) (fun u9 => if (18 : Int32) < 0 then none else (if ix 18 * 8 ≤ 536870912 then (if layC (gN u9 + 1) = (1, ix 18) then (zlet (sN u9) (fun u10 => if zkd layC u10 r0 14 9 = true then (if 1 ≤ (gN u9 + 1) then (zlet (sR u10 r0 4 (gN u9 + 1)) (fun u11 => if (3 : Int32) < 0 then none else (if ix 3 * 8 ≤ 536870912 then (if layC (gN u11 + 1) = (1, ix 3) then (zlet (sN u11) (fun u12 => if zkd layC u12 r0 14 9 = true then (if 1 ≤ (gN u11 + 1) then (zlet (sR u12 r0 5 (gN u11 + 1)) (fun u13 => some ((), u13))) else none) else none)) else none) else none))) else none) else none)) else none) else none))) else none) else none)) else none) else none))) else none) else none)) else none) else none))) else none) else none)) else none) else none))) else none) else none))) else none
def Ou_initD (r0 : Nat) (u : zM) : Option (Unit × zM) := zmono u (Ou_initDx r0 u)
set_option maxRecDepth 100000 in
def Mk_initDx (r0 : Nat) (u : zM) : Option (Unit × zM) :=
  if layC (gN u + 1) = (17, 6) then (zlet (sN u) (fun u1 => zb (St_initD (gN u + 1) u1) (fun _ u2 => if zkd layC u2 r0 12 4 = true then (if 1 ≤ (gN u + 1) then (zlet (sR u2 r0 0 (gN u + 1)) (fun u3 => if layC (gN u3 + 1) = (16, 4) then (zlet (sN u3) (fun u4 => zb (Ss_initD (gN u3 + 1) u4) (fun _ u5 => if zkd layC u5 r0 12 4 = true then (if 1 ≤ (gN u3 + 1) then (zlet (sR u5 r0 1 (gN u3 + 1)) (fun u6 => if layC (gN u6 + 1) = (15, 4) then (zlet (sN u6) (fun u7 => zb (Se_initD (gN u6 + 1) u7) (fun _ u8 => if zkd layC u8 r0 12 4 = true then (if 1 ≤ (gN u6 + 1) then (zlet (sR u8 r0 2 (gN u6 + 1)) (fun u9 => some ((), u9))) else none) else none))) else none)) else none) else none))) else none)) else none) else none))) else none
def Mk_initD (r0 : Nat) (u : zM) : Option (Unit × zM) := zmono u (Mk_initDx r0 u)
set_option maxRecDepth 100000 in
def St_restD_2b (zr2 : Nat → Int32 → zM → Option (Unit × zM)) (r0 : Nat) (v1 : Int32) (u : zM) : Option (Unit × zM) :=
  if 3 ≤ v1 then (some ((), u)) else (if zkd layC u r0 17 6 = true then (if 1 ≤ (gR u r0 3) then (if zkd layC u (gR u r0 3) 1 (layC (gR u r0 3)).2 = true then (if ib v1 (layC (gR u r0 3)).2 = true then (zlet (sI u (gR u r0 3) (ix v1) 0) (fun u1 => zr2 r0 (v1 + 1) u1)) else none) else none) else none) else none)
set_option maxRecDepth 100000 in
def St_restD_2 : Nat → Nat → Int32 → zM → Option (Unit × zM)
  | 0 => fun _ _ _ => none
  | zf + 1 => St_restD_2b (St_restD_2 zf)
set_option maxRecDepth 100000 in
def St_restDx (r0 : Nat) (u : zM) : Option (Unit × zM) :=
  St_restD_2 zF r0 0 u
def St_restD (r0 : Nat) (u : zM) : Option (Unit × zM) := zmono u (St_restDx r0 u)
set_option maxRecDepth 100000 in
def St_beginD_49b (zr49 : Nat → Int32 → zM → Option (Unit × zM)) (r0 : Nat) (v2 : Int32) (u : zM) : Option (Unit × zM) :=
  if 6 ≤ v2 then (if zkd layC u r0 17 6 = true then (zlet (sI u r0 5 0) (fun u1 => some ((), u1))) else none) else (if zkd layC u r0 17 6 = true then (if 1 ≤ (gR u r0 4) then (if zkd layC u (gR u r0 4) 1 (layC (gR u r0 4)).2 = true then (if ib v2 (layC (gR u r0 4)).2 = true then (zlet (sI u (gR u r0 4) (ix v2) (-1)) (fun u2 => zr49 r0 (v2 + 1) u2)) else none) else none) else none) else none)
set_option maxRecDepth 100000 in
def St_beginD_49 : Nat → Nat → Int32 → zM → Option (Unit × zM)
  | 0 => fun _ _ _ => none
  | zf + 1 => St_beginD_49b (St_beginD_49 zf)
set_option maxRecDepth 100000 in
def St_beginDx (r0 : Nat) (r1 : Nat) (u : zM) : Option (Unit × zM) :=
  if zkd layC u r1 10 16 = true then (if 1 ≤ (gR u r1 4) then (if zkd layC u r0 17 6 = true then (if 1 ≤ (gR u r0 0) then (if zkd layC u (gR u r1 4) 1 (layC (gR u r1 4)).2 = true then (if zkd layC u (gR u r0 0) 1 (layC (gR u r0 0)).2 = true then (if ib 0 ((layC (gR u r1 4)).2 + 1) = true then (if ib 0 ((layC (gR u r0 0)).2 + 1) = true then (if 0 + 7 ≤ (layC (gR u r1 4)).2 then (if 0 + 7 ≤ (layC (gR u r0 0)).2 then (zlet (sC u (gR u r1 4) 0 (gR u r0 0) 0 7) (fun u1 => if zkd layC u1 r1 10 16 = true then (if 1 ≤ (gR u1 r1 7) then (if zkd layC u1 r0 17 6 = true then (if 1 ≤ (gR u1 r0 1) then (if zkd layC u1 (gR u1 r1 7) 1 (layC (gR u1 r1 7)).2 = true then (if zkd layC u1 (gR u1 r0 1) 1 (layC (gR u1 r0 1)).2 = true then (if ib 0 ((layC (gR u1 r1 7)).2 + 1) = true then (if ib 0 ((layC (gR u1 r0 1)).2 + 1) = true then (if 0 + 5 ≤ (layC (gR u1 r1 7)).2 then (if 0 + 5 ≤ (layC (gR u1 r0 1)).2 then (zlet (sC u1 (gR u1 r1 7) 0 (gR u1 r0 1) 0 5) (fun u2 => if zkd layC u2 r1 10 16 = true then (if 1 ≤ (gR u2 r1 8) then (if zkd layC u2 r0 17 6 = true then (if 1 ≤ (gR u2 r0 2) then (if zkd layC u2 (gR u2 r1 8) 1 (layC (gR u2 r1 8)).2 = true then (if zkd layC u2 (gR u2 r0 2) 1 (layC (gR u2 r0 2)).2 = true then (if ib 0 ((layC (gR u2 r1 8)).2 + 1) = true then (if ib 0 ((layC (gR u2 r0 2)).2 + 1) = true then (if 0 + 3 ≤ (layC (gR u2 r1 8)).2 then (if 0 + 3 ≤ (layC (gR u2 r0 2)).2 then (zlet (sC u2 (gR u2 r1 8) 0 (gR u2 r0 2) 0 3) (fun u3 => if zkd layC u3 r0 17 6 = true then (zb (St_restD r0 u3) (fun _ u4 => St_beginD_49 zF r0 0 u4)) else none)) else none) else none) else none) else none) else none) else none) else none) else none) else none) else none)) else none) else none) else none) else none) else none) else none) else none) else none) else none) else none)) else none) else none) else none) else none) else none) else none) else none) else none) else none) else none
def St_beginD (r0 : Nat) (r1 : Nat) (u : zM) : Option (Unit × zM) := zmono u (St_beginDx r0 r1 u)
set_option maxRecDepth 100000 in
def OW_initD_157b (zr157 : Nat → Int32 → zM → Option (Unit × zM)) (r0 : Nat) (v1 : Int32) (u : zM) : Option (Unit × zM) :=
  if 4 ≤ v1 then (if zkd layC u r0 19 15 = true then (if 1 ≤ (gR u r0 5) then (if zkd layC u r0 19 15 = true then (if 1 ≤ (gR u r0 1) then (if zkd layC u (gR u r0 5) 17 6 = true then (zb (St_beginD (gR u r0 5) (gR u r0 1) u) (fun _ u1 => some ((), u1))) else none) else none) else none) else none) else none) else (if zkd layC u r0 19 15 = true then (if 1 ≤ (gR u r0 10) then (if layC (gN u + 1) = (12, 4) then (zlet (sN u) (fun u2 => zb (Mk_initD (gN u + 1) u2) (fun _ u3 => if zkd layC u3 (gR u r0 10) 6 (layC (gR u r0 10)).2 = true then (if zkd layC u3 (gN u + 1) 12 4 = true then (if ib v1 (layC (gR u r0 10)).2 = true then (zlet (sR u3 (gR u r0 10) (ix v1) (gN u + 1)) (fun u4 => zr157 r0 (v1 + 1) u4)) else none) else none) else none))) else none) else none) else none)
set_option maxRecDepth 100000 in
def OW_initD_157 : Nat → Nat → Int32 → zM → Option (Unit × zM)
  | 0 => fun _ _ _ => none
  | zf + 1 => OW_initD_157b (OW_initD_157 zf)
set_option maxRecDepth 100000 in
def OW_initD_130b (zr130 : Nat → Int32 → zM → Option (Unit × zM)) (r0 : Nat) (v1 : Int32) (u : zM) : Option (Unit × zM) :=
  if 16 ≤ v1 then (OW_initD_157 zF r0 0 u) else (if zkd layC u r0 19 15 = true then (if 1 ≤ (gR u r0 9) then (if layC (gN u + 1) = (17, 6) then (zlet (sN u) (fun u1 => zb (St_initD (gN u + 1) u1) (fun _ u2 => if zkd layC u2 (gR u r0 9) 5 (layC (gR u r0 9)).2 = true then (if zkd layC u2 (gN u + 1) 17 6 = true then (if ib v1 (layC (gR u r0 9)).2 = true then (zlet (sR u2 (gR u r0 9) (ix v1) (gN u + 1)) (fun u3 => zr130 r0 (v1 + 1) u3)) else none) else none) else none))) else none) else none) else none)
set_option maxRecDepth 100000 in
def OW_initD_130 : Nat → Nat → Int32 → zM → Option (Unit × zM)
  | 0 => fun _ _ _ => none
  | zf + 1 => OW_initD_130b (OW_initD_130 zf)
set_option maxRecDepth 100000 in
def OW_initDx (r0 : Nat) (u : zM) : Option (Unit × zM) :=
  if layC (gN u + 1) = (18, 7) then (zlet (sN u) (fun u1 => zb (Ta_initD (gN u + 1) u1) (fun _ u2 => if zkd layC u2 r0 19 15 = true then (if 1 ≤ (gN u + 1) then (zlet (sR u2 r0 0 (gN u + 1)) (fun u3 => if layC (gN u3 + 1) = (10, 16) then (zlet (sN u3) (fun u4 => zb (Co_initD (gN u3 + 1) u4) (fun _ u5 => if zkd layC u5 r0 19 15 = true then (if 1 ≤ (gN u3 + 1) then (zlet (sR u5 r0 1 (gN u3 + 1)) (fun u6 => if layC (gN u6 + 1) = (10, 16) then (zlet (sN u6) (fun u7 => zb (Co_initD (gN u6 + 1) u7) (fun _ u8 => if zkd layC u8 r0 19 15 = true then (if 1 ≤ (gN u6 + 1) then (zlet (sR u8 r0 2 (gN u6 + 1)) (fun u9 => if layC (gN u9 + 1) = (16, 4) then (zlet (sN u9) (fun u10 => zb (Ss_initD (gN u9 + 1) u10) (fun _ u11 => if zkd layC u11 r0 19 15 = true then (if 1 ≤ (gN u9 + 1) then (zlet (sR u11 r0 3 (gN u9 + 1)) (fun u12 => if layC (gN u12 + 1) = (16, 4) then (zlet (sN u12) (fun u13 => zb (Ss_initD (gN u12 + 1) u13) (fun _ u14 => if zkd layC u14 r0 19 15 = true then (if 1 ≤ (gN u12 + 1) then (zlet (sR u14 r0 4 (gN u12 + 1)) (fun u15 => if layC (gN u15 + 1) = (17, 6) then (zlet (sN u15) (fun u16 => zb (St_initD (gN u15 + 1) u16) (fun _ u17 => if zkd layC u17 r0 19 15 = true then (if 1 ≤ (gN u15 + 1) then (zlet (sR u17 r0 5 (gN u15 + 1)) (fun u18 => if layC (gN u18 + 1) = (17, 6) then (zlet (sN u18) (fun u19 => zb (St_initD (gN u18 + 1) u19) (fun _ u20 => if zkd layC u20 r0 19 15 = true then (if 1 ≤ (gN u18 + 1) then (zlet (sR u20 r0 6 (gN u18 + 1)) (fun u21 => if layC (gN u21 + 1) = (15, 4) then (zlet (sN u21) (fun u22 => zb (Se_initD (gN u21 + 1) u22) (fun _ u23 => if zkd layC u23 r0 19 15 = true then (if 1 ≤ (gN u21 + 1) then (zlet (sR u23 r0 7 (gN u21 + 1)) (fun u24 => if layC (gN u24 + 1) = (14, 9) then (zlet (sN u24) (fun u25 => zb (Ou_initD (gN u24 + 1) u25) (fun _ u26 => if zkd layC u26 r0 19 15 = true then (if 1 ≤ (gN u24 + 1) then (zlet (sR u26 r0 8 (gN u24 + 1)) (fun u27 => if (16 : Int32) < 0 then none else (if ix 16 * 8 ≤ 536870912 then (if layC (gN u27 + 1) = (5, ix 16) then (zlet (sN u27) (fun u28 => if zkd layC u28 r0 19 15 = true then (if 1 ≤ (gN u27 + 1) then (zlet (sR u28 r0 9 (gN u27 + 1)) (fun u29 => if (4 : Int32) < 0 then none else (if ix 4 * 8 ≤ 536870912 then (if layC (gN u29 + 1) = (6, ix 4) then (zlet (sN u29) (fun u30 => if zkd layC u30 r0 19 15 = true then (if 1 ≤ (gN u29 + 1) then (zlet (sR u30 r0 10 (gN u29 + 1)) (fun u31 => if (10 : Int32) < 0 then none else (if ix 10 * 8 ≤ 536870912 then (if layC (gN u31 + 1) = (1, ix 10) then (zlet (sN u31) (fun u32 => if zkd layC u32 r0 19 15 = true then (if 1 ≤ (gN u31 + 1) then (zlet (sR u32 r0 11 (gN u31 + 1)) (fun u33 => OW_initD_130 zF r0 0 u33)) else none) else none)) else none) else none))) else none) else none)) else none) else none))) else none) else none)) else none) else none))) else none) else none))) else none)) else none) else none))) else none)) else none) else none))) else none)) else none) else none))) else none)) else none) else none))) else none)) else none) else none))) else none)) else none) else none))) else none)) else none) else none))) else none)) else none) else none))) else none
def OW_initD (r0 : Nat) (u : zM) : Option (Unit × zM) := zmono u (OW_initDx r0 u)
set_option maxRecDepth 100000 in
def Mo_fresh0D_25 (zr2 : Nat → Int32 → zM → Option (Unit × zM)) (r0 : Nat) (v1 : Int32) (s0 : Nat) (s1 : Int32) (u : zM) : Option (Unit × zM) :=
  if v1 < 19 then (if zkd layM u s0 1 (layM s0).2 = true then (if ib s1 (layM s0).2 = true then (zlet (sI u s0 (ix s1) 0) (fun u1 => zr2 r0 (v1 + 1) u1)) else none) else none) else (if zkd layM u s0 1 (layM s0).2 = true then (if ib s1 (layM s0).2 = true then (zlet (sI u s0 (ix s1) (-1)) (fun u2 => zr2 r0 (v1 + 1) u2)) else none) else none)
set_option maxRecDepth 100000 in
def Mo_fresh0D_110b (zr110 : Nat → Int32 → zM → Option (Unit × zM)) (r0 : Nat) (v1 : Int32) (u : zM) : Option (Unit × zM) :=
  if zkd layM u r0 20 67 = true then (if 1 ≤ (gR u r0 10) then (if zkd layM u (gR u r0 10) 1 (layM (gR u r0 10)).2 = true then (if ib 3 (layM (gR u r0 10)).2 = true then (if (gI u (gR u r0 10) (ix 3)) ≤ v1 then (some ((), u)) else (if zkd layM u r0 20 67 = true then (if 1 ≤ (gR u r0 50) then (if zkd layM u r0 20 67 = true then (if 1 ≤ (gR u r0 19) then (if zkd layM u (gR u r0 19) 1 (layM (gR u r0 19)).2 = true then (if ib v1 (layM (gR u r0 19)).2 = true then (if zkd layM u (gR u r0 50) 1 (layM (gR u r0 50)).2 = true then (if ib (13 + v1) (layM (gR u r0 50)).2 = true then (zlet (sI u (gR u r0 50) (ix (13 + v1)) (gI u (gR u r0 19) (ix v1))) (fun u1 => zr110 r0 (v1 + 1) u1)) else none) else none) else none) else none) else none) else none) else none) else none)) else none) else none) else none) else none
set_option maxRecDepth 100000 in
def Mo_fresh0D_110 : Nat → Nat → Int32 → zM → Option (Unit × zM)
  | 0 => fun _ _ _ => none
  | zf + 1 => Mo_fresh0D_110b (Mo_fresh0D_110 zf)
set_option maxRecDepth 100000 in
def Mo_fresh0D_77b (zr77 : Nat → Int32 → zM → Option (Unit × zM)) (r0 : Nat) (v1 : Int32) (u : zM) : Option (Unit × zM) :=
  if zkd layM u r0 20 67 = true then (if 1 ≤ (gR u r0 10) then (if zkd layM u (gR u r0 10) 1 (layM (gR u r0 10)).2 = true then (if ib 2 (layM (gR u r0 10)).2 = true then (if (gI u (gR u r0 10) (ix 2)) ≤ v1 then (Mo_fresh0D_110 zF r0 0 u) else (if zkd layM u r0 20 67 = true then (if 1 ≤ (gR u r0 50) then (if zkd layM u r0 20 67 = true then (if 1 ≤ (gR u r0 18) then (if zkd layM u (gR u r0 18) 1 (layM (gR u r0 18)).2 = true then (if ib v1 (layM (gR u r0 18)).2 = true then (if zkd layM u (gR u r0 50) 1 (layM (gR u r0 50)).2 = true then (if ib (8 + v1) (layM (gR u r0 50)).2 = true then (zlet (sI u (gR u r0 50) (ix (8 + v1)) (gI u (gR u r0 18) (ix v1))) (fun u1 => zr77 r0 (v1 + 1) u1)) else none) else none) else none) else none) else none) else none) else none) else none)) else none) else none) else none) else none
set_option maxRecDepth 100000 in
def Mo_fresh0D_77 : Nat → Nat → Int32 → zM → Option (Unit × zM)
  | 0 => fun _ _ _ => none
  | zf + 1 => Mo_fresh0D_77b (Mo_fresh0D_77 zf)
set_option maxRecDepth 100000 in
def Mo_fresh0D_45b (zr45 : Nat → Int32 → zM → Option (Unit × zM)) (r0 : Nat) (v1 : Int32) (u : zM) : Option (Unit × zM) :=
  if zkd layM u r0 20 67 = true then (if 1 ≤ (gR u r0 10) then (if zkd layM u (gR u r0 10) 1 (layM (gR u r0 10)).2 = true then (if ib 0 (layM (gR u r0 10)).2 = true then (if (gI u (gR u r0 10) (ix 0)) ≤ v1 then (Mo_fresh0D_77 zF r0 0 u) else (if zkd layM u r0 20 67 = true then (if 1 ≤ (gR u r0 50) then (if zkd layM u r0 20 67 = true then (if 1 ≤ (gR u r0 15) then (if zkd layM u (gR u r0 15) 1 (layM (gR u r0 15)).2 = true then (if ib v1 (layM (gR u r0 15)).2 = true then (if zkd layM u (gR u r0 50) 1 (layM (gR u r0 50)).2 = true then (if ib (1 + v1) (layM (gR u r0 50)).2 = true then (zlet (sI u (gR u r0 50) (ix (1 + v1)) (gI u (gR u r0 15) (ix v1))) (fun u1 => zr45 r0 (v1 + 1) u1)) else none) else none) else none) else none) else none) else none) else none) else none)) else none) else none) else none) else none
set_option maxRecDepth 100000 in
def Mo_fresh0D_45 : Nat → Nat → Int32 → zM → Option (Unit × zM)
  | 0 => fun _ _ _ => none
  | zf + 1 => Mo_fresh0D_45b (Mo_fresh0D_45 zf)
set_option maxRecDepth 100000 in
def Mo_fresh0D_2b (zr2 : Nat → Int32 → zM → Option (Unit × zM)) (r0 : Nat) (v1 : Int32) (u : zM) : Option (Unit × zM) :=
  if 25 ≤ v1 then (Mo_fresh0D_45 zF r0 0 u) else (if zkd layM u r0 20 67 = true then (if 1 ≤ (gR u r0 50) then (if v1 < 8 then (Mo_fresh0D_25 zr2 r0 v1 (gR u r0 50) v1 u) else (if v1 < 16 then (if zkd layM u (gR u r0 50) 1 (layM (gR u r0 50)).2 = true then (if ib v1 (layM (gR u r0 50)).2 = true then (zlet (sI u (gR u r0 50) (ix v1) (-1)) (fun u1 => zr2 r0 (v1 + 1) u1)) else none) else none) else (Mo_fresh0D_25 zr2 r0 v1 (gR u r0 50) v1 u))) else none) else none)
set_option maxRecDepth 100000 in
def Mo_fresh0D_2 : Nat → Nat → Int32 → zM → Option (Unit × zM)
  | 0 => fun _ _ _ => none
  | zf + 1 => Mo_fresh0D_2b (Mo_fresh0D_2 zf)
set_option maxRecDepth 100000 in
def Mo_fresh0Dx (r0 : Nat) (u : zM) : Option (Unit × zM) :=
  Mo_fresh0D_2 zF r0 0 u
def Mo_fresh0D (r0 : Nat) (u : zM) : Option (Unit × zM) := zmono u (Mo_fresh0Dx r0 u)
set_option maxRecDepth 100000 in
def Mo_initD_388 (r0 : Nat) (u : zM) : Option (Unit × zM) :=
  if (70 : Int32) < 0 then none else (if ix 70 * 8 ≤ 536870912 then (if layM (gN u + 1) = (1, ix 70) then (zlet (sN u) (fun u1 => if zkd layM u1 r0 20 67 = true then (if 1 ≤ (gN u + 1) then (zlet (sR u1 r0 65 (gN u + 1)) (fun u2 => if zkd layM u2 r0 20 67 = true then (zb (Mo_fresh0D r0 u2) (fun _ u3 => some ((), u3))) else none)) else none) else none)) else none) else none)
set_option maxRecDepth 100000 in
def Mo_initD_342 (r0 : Nat) (u : zM) : Option (Unit × zM) :=
  if (400 : Int32) < 0 then none else (if ix 400 * 8 ≤ 536870912 then (if layM (gN u + 1) = (1, ix 400) then (zlet (sN u) (fun u1 => if zkd layM u1 r0 20 67 = true then (if 1 ≤ (gN u + 1) then (zlet (sR u1 r0 54 (gN u + 1)) (fun u2 => if (4 : Int32) < 0 then none else (if ix 4 * 8 ≤ 536870912 then (if layM (gN u2 + 1) = (3, ix 4) then (zlet (sN u2) (fun u3 => if zkd layM u3 r0 20 67 = true then (if 1 ≤ (gN u2 + 1) then (zlet (sR u3 r0 55 (gN u2 + 1)) (fun u4 => if (7 : Int32) < 0 then none else (if ix 7 * 8 ≤ 536870912 then (if layM (gN u4 + 1) = (1, ix 7) then (zlet (sN u4) (fun u5 => if zkd layM u5 r0 20 67 = true then (if 1 ≤ (gN u4 + 1) then (zlet (sR u5 r0 57 (gN u4 + 1)) (fun u6 => if (18 : Int32) < 0 then none else (if ix 18 * 8 ≤ 536870912 then (if layM (gN u6 + 1) = (1, ix 18) then (zlet (sN u6) (fun u7 => if zkd layM u7 r0 20 67 = true then (if 1 ≤ (gN u6 + 1) then (zlet (sR u7 r0 60 (gN u6 + 1)) (fun u8 => if (3 : Int32) < 0 then none else (if ix 3 * 8 ≤ 536870912 then (if layM (gN u8 + 1) = (1, ix 3) then (zlet (sN u8) (fun u9 => if zkd layM u9 r0 20 67 = true then (if 1 ≤ (gN u8 + 1) then (zlet (sR u9 r0 61 (gN u8 + 1)) (fun u10 => if (3 : Int32) < 0 then none else (if ix 3 * 8 ≤ 536870912 then (if layM (gN u10 + 1) = (1, ix 3) then (zlet (sN u10) (fun u11 => if zkd layM u11 r0 20 67 = true then (if 1 ≤ (gN u10 + 1) then (zlet (sR u11 r0 62 (gN u10 + 1)) (fun u12 => Mo_initD_388 r0 u12)) else none) else none)) else none) else none))) else none) else none)) else none) else none))) else none) else none)) else none) else none))) else none) else none)) else none) else none))) else none) else none)) else none) else none))) else none) else none)) else none) else none)
set_option maxRecDepth 100000 in
def Mo_initD_294 (r0 : Nat) (u : zM) : Option (Unit × zM) :=
  if (40 : Int32) < 0 then none else (if ix 40 * 8 ≤ 536870912 then (if layM (gN u + 1) = (1, ix 40) then (zlet (sN u) (fun u1 => if zkd layM u1 r0 20 67 = true then (if 1 ≤ (gN u + 1) then (zlet (sR u1 r0 48 (gN u + 1)) (fun u2 => if (40 : Int32) < 0 then none else (if ix 40 * 8 ≤ 536870912 then (if layM (gN u2 + 1) = (3, ix 40) then (zlet (sN u2) (fun u3 => if zkd layM u3 r0 20 67 = true then (if 1 ≤ (gN u2 + 1) then (zlet (sR u3 r0 49 (gN u2 + 1)) (fun u4 => if (25 : Int32) < 0 then none else (if ix 25 * 8 ≤ 536870912 then (if layM (gN u4 + 1) = (1, ix 25) then (zlet (sN u4) (fun u5 => if zkd layM u5 r0 20 67 = true then (if 1 ≤ (gN u4 + 1) then (zlet (sR u5 r0 50 (gN u4 + 1)) (fun u6 => if (25 : Int32) < 0 then none else (if ix 25 * 8 ≤ 536870912 then (if layM (gN u6 + 1) = (1, ix 25) then (zlet (sN u6) (fun u7 => if zkd layM u7 r0 20 67 = true then (if 1 ≤ (gN u6 + 1) then (zlet (sR u7 r0 51 (gN u6 + 1)) (fun u8 => if (25 : Int32) < 0 then none else (if ix 25 * 8 ≤ 536870912 then (if layM (gN u8 + 1) = (1, ix 25) then (zlet (sN u8) (fun u9 => if zkd layM u9 r0 20 67 = true then (if 1 ≤ (gN u8 + 1) then (zlet (sR u9 r0 52 (gN u8 + 1)) (fun u10 => if (100 : Int32) < 0 then none else (if ix 100 * 8 ≤ 536870912 then (if layM (gN u10 + 1) = (1, ix 100) then (zlet (sN u10) (fun u11 => if zkd layM u11 r0 20 67 = true then (if 1 ≤ (gN u10 + 1) then (zlet (sR u11 r0 53 (gN u10 + 1)) (fun u12 => Mo_initD_342 r0 u12)) else none) else none)) else none) else none))) else none) else none)) else none) else none))) else none) else none)) else none) else none))) else none) else none)) else none) else none))) else none) else none)) else none) else none))) else none) else none)) else none) else none)
set_option maxRecDepth 100000 in
def Mo_initD_244 (r0 : Nat) (u : zM) : Option (Unit × zM) :=
  if (6 : Int32) < 0 then none else (if ix 6 * 8 ≤ 536870912 then (if layM (gN u + 1) = (1, ix 6) then (zlet (sN u) (fun u1 => if zkd layM u1 r0 20 67 = true then (if 1 ≤ (gN u + 1) then (zlet (sR u1 r0 42 (gN u + 1)) (fun u2 => if (240 : Int32) < 0 then none else (if ix 240 * 8 ≤ 536870912 then (if layM (gN u2 + 1) = (1, ix 240) then (zlet (sN u2) (fun u3 => if zkd layM u3 r0 20 67 = true then (if 1 ≤ (gN u2 + 1) then (zlet (sR u3 r0 43 (gN u2 + 1)) (fun u4 => if (240 : Int32) < 0 then none else (if ix 240 * 8 ≤ 536870912 then (if layM (gN u4 + 1) = (1, ix 240) then (zlet (sN u4) (fun u5 => if zkd layM u5 r0 20 67 = true then (if 1 ≤ (gN u4 + 1) then (zlet (sR u5 r0 44 (gN u4 + 1)) (fun u6 => if (240 : Int32) < 0 then none else (if ix 240 * 8 ≤ 536870912 then (if layM (gN u6 + 1) = (1, ix 240) then (zlet (sN u6) (fun u7 => if zkd layM u7 r0 20 67 = true then (if 1 ≤ (gN u6 + 1) then (zlet (sR u7 r0 45 (gN u6 + 1)) (fun u8 => if (5 : Int32) < 0 then none else (if ix 5 * 8 ≤ 536870912 then (if layM (gN u8 + 1) = (1, ix 5) then (zlet (sN u8) (fun u9 => if zkd layM u9 r0 20 67 = true then (if 1 ≤ (gN u8 + 1) then (zlet (sR u9 r0 46 (gN u8 + 1)) (fun u10 => if (40 : Int32) < 0 then none else (if ix 40 * 8 ≤ 536870912 then (if layM (gN u10 + 1) = (1, ix 40) then (zlet (sN u10) (fun u11 => if zkd layM u11 r0 20 67 = true then (if 1 ≤ (gN u10 + 1) then (zlet (sR u11 r0 47 (gN u10 + 1)) (fun u12 => Mo_initD_294 r0 u12)) else none) else none)) else none) else none))) else none) else none)) else none) else none))) else none) else none)) else none) else none))) else none) else none)) else none) else none))) else none) else none)) else none) else none))) else none) else none)) else none) else none)
set_option maxRecDepth 100000 in
def Mo_initD_196 (r0 : Nat) (u : zM) : Option (Unit × zM) :=
  if (7 : Int32) < 0 then none else (if ix 7 * 8 ≤ 536870912 then (if layM (gN u + 1) = (1, ix 7) then (zlet (sN u) (fun u1 => if zkd layM u1 r0 20 67 = true then (if 1 ≤ (gN u + 1) then (zlet (sR u1 r0 34 (gN u + 1)) (fun u2 => if (7 : Int32) < 0 then none else (if ix 7 * 8 ≤ 536870912 then (if layM (gN u2 + 1) = (1, ix 7) then (zlet (sN u2) (fun u3 => if zkd layM u3 r0 20 67 = true then (if 1 ≤ (gN u2 + 1) then (zlet (sR u3 r0 35 (gN u2 + 1)) (fun u4 => if (7 : Int32) < 0 then none else (if ix 7 * 8 ≤ 536870912 then (if layM (gN u4 + 1) = (1, ix 7) then (zlet (sN u4) (fun u5 => if zkd layM u5 r0 20 67 = true then (if 1 ≤ (gN u4 + 1) then (zlet (sR u5 r0 36 (gN u4 + 1)) (fun u6 => if (7 : Int32) < 0 then none else (if ix 7 * 8 ≤ 536870912 then (if layM (gN u6 + 1) = (1, ix 7) then (zlet (sN u6) (fun u7 => if zkd layM u7 r0 20 67 = true then (if 1 ≤ (gN u6 + 1) then (zlet (sR u7 r0 37 (gN u6 + 1)) (fun u8 => if (7 : Int32) < 0 then none else (if ix 7 * 8 ≤ 536870912 then (if layM (gN u8 + 1) = (1, ix 7) then (zlet (sN u8) (fun u9 => if zkd layM u9 r0 20 67 = true then (if 1 ≤ (gN u8 + 1) then (zlet (sR u9 r0 38 (gN u8 + 1)) (fun u10 => if (20 : Int32) < 0 then none else (if ix 20 * 8 ≤ 536870912 then (if layM (gN u10 + 1) = (1, ix 20) then (zlet (sN u10) (fun u11 => if zkd layM u11 r0 20 67 = true then (if 1 ≤ (gN u10 + 1) then (zlet (sR u11 r0 39 (gN u10 + 1)) (fun u12 => Mo_initD_244 r0 u12)) else none) else none)) else none) else none))) else none) else none)) else none) else none))) else none) else none)) else none) else none))) else none) else none)) else none) else none))) else none) else none)) else none) else none))) else none) else none)) else none) else none)
set_option maxRecDepth 100000 in
def Mo_initD_148 (r0 : Nat) (u : zM) : Option (Unit × zM) :=
  if (7 : Int32) < 0 then none else (if ix 7 * 8 ≤ 536870912 then (if layM (gN u + 1) = (1, ix 7) then (zlet (sN u) (fun u1 => if zkd layM u1 r0 20 67 = true then (if 1 ≤ (gN u + 1) then (zlet (sR u1 r0 28 (gN u + 1)) (fun u2 => if (7 : Int32) < 0 then none else (if ix 7 * 8 ≤ 536870912 then (if layM (gN u2 + 1) = (3, ix 7) then (zlet (sN u2) (fun u3 => if zkd layM u3 r0 20 67 = true then (if 1 ≤ (gN u2 + 1) then (zlet (sR u3 r0 29 (gN u2 + 1)) (fun u4 => if (7 : Int32) < 0 then none else (if ix 7 * 8 ≤ 536870912 then (if layM (gN u4 + 1) = (1, ix 7) then (zlet (sN u4) (fun u5 => if zkd layM u5 r0 20 67 = true then (if 1 ≤ (gN u4 + 1) then (zlet (sR u5 r0 30 (gN u4 + 1)) (fun u6 => if (7 : Int32) < 0 then none else (if ix 7 * 8 ≤ 536870912 then (if layM (gN u6 + 1) = (1, ix 7) then (zlet (sN u6) (fun u7 => if zkd layM u7 r0 20 67 = true then (if 1 ≤ (gN u6 + 1) then (zlet (sR u7 r0 31 (gN u6 + 1)) (fun u8 => if (7 : Int32) < 0 then none else (if ix 7 * 8 ≤ 536870912 then (if layM (gN u8 + 1) = (1, ix 7) then (zlet (sN u8) (fun u9 => if zkd layM u9 r0 20 67 = true then (if 1 ≤ (gN u8 + 1) then (zlet (sR u9 r0 32 (gN u8 + 1)) (fun u10 => if (7 : Int32) < 0 then none else (if ix 7 * 8 ≤ 536870912 then (if layM (gN u10 + 1) = (1, ix 7) then (zlet (sN u10) (fun u11 => if zkd layM u11 r0 20 67 = true then (if 1 ≤ (gN u10 + 1) then (zlet (sR u11 r0 33 (gN u10 + 1)) (fun u12 => Mo_initD_196 r0 u12)) else none) else none)) else none) else none))) else none) else none)) else none) else none))) else none) else none)) else none) else none))) else none) else none)) else none) else none))) else none) else none)) else none) else none))) else none) else none)) else none) else none)
set_option maxRecDepth 100000 in
def Mo_initD_101 (r0 : Nat) (u : zM) : Option (Unit × zM) :=
  if (12 : Int32) < 0 then none else (if ix 12 * 8 ≤ 536870912 then (if layM (gN u + 1) = (1, ix 12) then (zlet (sN u) (fun u1 => if zkd layM u1 r0 20 67 = true then (if 1 ≤ (gN u + 1) then (zlet (sR u1 r0 21 (gN u + 1)) (fun u2 => if (12 : Int32) < 0 then none else (if ix 12 * 8 ≤ 536870912 then (if layM (gN u2 + 1) = (1, ix 12) then (zlet (sN u2) (fun u3 => if zkd layM u3 r0 20 67 = true then (if 1 ≤ (gN u2 + 1) then (zlet (sR u3 r0 22 (gN u2 + 1)) (fun u4 => if (24 : Int32) < 0 then none else (if ix 24 * 8 ≤ 536870912 then (if layM (gN u4 + 1) = (1, ix 24) then (zlet (sN u4) (fun u5 => if zkd layM u5 r0 20 67 = true then (if 1 ≤ (gN u4 + 1) then (zlet (sR u5 r0 23 (gN u4 + 1)) (fun u6 => if (2 : Int32) < 0 then none else (if ix 2 * 8 ≤ 536870912 then (if layM (gN u6 + 1) = (1, ix 2) then (zlet (sN u6) (fun u7 => if zkd layM u7 r0 20 67 = true then (if 1 ≤ (gN u6 + 1) then (zlet (sR u7 r0 24 (gN u6 + 1)) (fun u8 => if (2 : Int32) < 0 then none else (if ix 2 * 8 ≤ 536870912 then (if layM (gN u8 + 1) = (1, ix 2) then (zlet (sN u8) (fun u9 => if zkd layM u9 r0 20 67 = true then (if 1 ≤ (gN u8 + 1) then (zlet (sR u9 r0 25 (gN u8 + 1)) (fun u10 => if (2000 : Int32) < 0 then none else (if ix 2000 * 8 ≤ 536870912 then (if layM (gN u10 + 1) = (1, ix 2000) then (zlet (sN u10) (fun u11 => if zkd layM u11 r0 20 67 = true then (if 1 ≤ (gN u10 + 1) then (zlet (sR u11 r0 26 (gN u10 + 1)) (fun u12 => Mo_initD_148 r0 u12)) else none) else none)) else none) else none))) else none) else none)) else none) else none))) else none) else none)) else none) else none))) else none) else none)) else none) else none))) else none) else none)) else none) else none))) else none) else none)) else none) else none)
set_option maxRecDepth 100000 in
def Mo_initD_53 (r0 : Nat) (u : zM) : Option (Unit × zM) :=
  if (14 : Int32) < 0 then none else (if ix 14 * 8 ≤ 536870912 then (if layM (gN u + 1) = (1, ix 14) then (zlet (sN u) (fun u1 => if zkd layM u1 r0 20 67 = true then (if 1 ≤ (gN u + 1) then (zlet (sR u1 r0 15 (gN u + 1)) (fun u2 => if (14 : Int32) < 0 then none else (if ix 14 * 8 ≤ 536870912 then (if layM (gN u2 + 1) = (1, ix 14) then (zlet (sN u2) (fun u3 => if zkd layM u3 r0 20 67 = true then (if 1 ≤ (gN u2 + 1) then (zlet (sR u3 r0 16 (gN u2 + 1)) (fun u4 => if (10 : Int32) < 0 then none else (if ix 10 * 8 ≤ 536870912 then (if layM (gN u4 + 1) = (1, ix 10) then (zlet (sN u4) (fun u5 => if zkd layM u5 r0 20 67 = true then (if 1 ≤ (gN u4 + 1) then (zlet (sR u5 r0 17 (gN u4 + 1)) (fun u6 => if (10 : Int32) < 0 then none else (if ix 10 * 8 ≤ 536870912 then (if layM (gN u6 + 1) = (1, ix 10) then (zlet (sN u6) (fun u7 => if zkd layM u7 r0 20 67 = true then (if 1 ≤ (gN u6 + 1) then (zlet (sR u7 r0 18 (gN u6 + 1)) (fun u8 => if (6 : Int32) < 0 then none else (if ix 6 * 8 ≤ 536870912 then (if layM (gN u8 + 1) = (1, ix 6) then (zlet (sN u8) (fun u9 => if zkd layM u9 r0 20 67 = true then (if 1 ≤ (gN u8 + 1) then (zlet (sR u9 r0 19 (gN u8 + 1)) (fun u10 => if (6 : Int32) < 0 then none else (if ix 6 * 8 ≤ 536870912 then (if layM (gN u10 + 1) = (1, ix 6) then (zlet (sN u10) (fun u11 => if zkd layM u11 r0 20 67 = true then (if 1 ≤ (gN u10 + 1) then (zlet (sR u11 r0 20 (gN u10 + 1)) (fun u12 => Mo_initD_101 r0 u12)) else none) else none)) else none) else none))) else none) else none)) else none) else none))) else none) else none)) else none) else none))) else none) else none)) else none) else none))) else none) else none)) else none) else none))) else none) else none)) else none) else none)
set_option maxRecDepth 100000 in
def Mo_initDx (r0 : Nat) (u : zM) : Option (Unit × zM) :=
  if (1000 : Int32) < 0 then none else (if ix 1000 * 8 ≤ 536870912 then (if layM (gN u + 1) = (1, ix 1000) then (zlet (sN u) (fun u1 => if zkd layM u1 r0 20 67 = true then (if 1 ≤ (gN u + 1) then (zlet (sR u1 r0 2 (gN u + 1)) (fun u2 => if (12 : Int32) < 0 then none else (if ix 12 * 8 ≤ 536870912 then (if layM (gN u2 + 1) = (1, ix 12) then (zlet (sN u2) (fun u3 => if zkd layM u3 r0 20 67 = true then (if 1 ≤ (gN u2 + 1) then (zlet (sR u3 r0 10 (gN u2 + 1)) (fun u4 => if (14 : Int32) < 0 then none else (if ix 14 * 8 ≤ 536870912 then (if layM (gN u4 + 1) = (2, ix 14) then (zlet (sN u4) (fun u5 => if zkd layM u5 r0 20 67 = true then (if 1 ≤ (gN u4 + 1) then (zlet (sR u5 r0 11 (gN u4 + 1)) (fun u6 => if (10 : Int32) < 0 then none else (if ix 10 * 8 ≤ 536870912 then (if layM (gN u6 + 1) = (2, ix 10) then (zlet (sN u6) (fun u7 => if zkd layM u7 r0 20 67 = true then (if 1 ≤ (gN u6 + 1) then (zlet (sR u7 r0 12 (gN u6 + 1)) (fun u8 => if (6 : Int32) < 0 then none else (if ix 6 * 8 ≤ 536870912 then (if layM (gN u8 + 1) = (2, ix 6) then (zlet (sN u8) (fun u9 => if zkd layM u9 r0 20 67 = true then (if 1 ≤ (gN u8 + 1) then (zlet (sR u9 r0 13 (gN u8 + 1)) (fun u10 => if (12 : Int32) < 0 then none else (if ix 12 * 8 ≤ 536870912 then (if layM (gN u10 + 1) = (2, ix 12) then (zlet (sN u10) (fun u11 => if zkd layM u11 r0 20 67 = true then (if 1 ≤ (gN u10 + 1) then (zlet (sR u11 r0 14 (gN u10 + 1)) (fun u12 => Mo_initD_53 r0 u12)) else none) else none)) else none) else none))) else none) else none)) else none) else none))) else none) else none)) else none) else none))) else none) else none)) else none) else none))) else none) else none)) else none) else none))) else none) else none)) else none) else none)
def Mo_initD (r0 : Nat) (u : zM) : Option (Unit × zM) := zmono u (Mo_initDx r0 u)
section ZS
variable {p : Program} {l : Launch} {e : Env} {R : Room} {s : State} {mi : MethodId} {args : Array Value} {below : List Frame} {meth : Method} {c : Code} {D : zD} {b : Nat} {m0 : zM}
set_option maxRecDepth 100000 in
set_option maxHeartbeats 4000000 in
theorem sTa_initD : ∀ (r0 : Nat) (u : zM) r m1, Ta_initD r0 u = some (r, m1) → zMet l (wD D b layC) 1 20 yX8_init cX8_init 1 none [.ref r0] u (eV r) m1 := by
  intro r0 u
  refine zMet.of (L := [(0, .ref r0)]) RX8 (by decide +kernel) rfl (Nat.le_of_ble_eq_true rfl) (fun _ r m1 h => (zmono_le h).1) rfl (fun p e s mi args below meth c R fin hc hin hRm => ?_)
  unfold Ta_initD
  refine zJ.mono ?_
  unfold Ta_initDx
  refine z_aload_n hc dX8_init_0 0 rfl rfl ?_
  refine z_objInit hc wBX8_3 wBin wBco (rm_ok hRm (Nat.le_of_ble_eq_true rfl) (Nat.le_of_ble_eq_true rfl)) (Nat.le_of_ble_eq_true rfl) dX8_init_1 ?_
  refine z_aload_n hc dX8_init_4 0 rfl rfl ?_
  refine z_sipush (v := 1000) hc dX8_init_5 rfl ?_
  refine zJ.cut _ (fun _ => zJ.nil) (fun h1 => ?_)
  refine zJ.chk _ (fun h2 => ?_)
  refine zJ.chk _ (fun h3 => ?_)
  refine z_newa_byte hc h1 rfl h2 h3 hRm.2.2 wRbyte dX8_init_8 ?_
  refine zJ.letM (fun u1 e1 => ?_)
  refine zJ.chk _ (fun h4 => ?_)
  refine zJ.chk _ (fun h5 => ?_)
  refine z_putR hc (ci := 8) (k := 0) (by decide) (by decide) zly8 (zkd_lay h4) (zkd_ok h4) wFX8_9 rfl (Or.inr ⟨rfl, hin rfl, rfl⟩) h5 (fun _ _ => rfl) dX8_init_10 ?_
  refine zJ.letM (fun u2 e2 => ?_)
  exact z_vret hc dX8_init_13
set_option maxRecDepth 100000 in
set_option maxHeartbeats 4000000 in
theorem sNa_initD : ∀ (r0 : Nat) (v1 : Int32) (u : zM) r m1, Na_initD r0 v1 u = some (r, m1) → zMet l (wD D b layC) 1 20 yX3_init cX3_init 2 none [.ref r0, .int v1] u (eV r) m1 := by
  intro r0 v1 u
  refine zMet.of (L := [(0, .ref r0), (1, .int v1)]) RX3 (by decide +kernel) rfl (Nat.le_of_ble_eq_true rfl) (fun _ r m1 h => (zmono_le h).1) rfl (fun p e s mi args below meth c R fin hc hin hRm => ?_)
  unfold Na_initD
  refine zJ.mono ?_
  unfold Na_initDx
  refine z_aload_n hc dX3_init_0 0 rfl rfl ?_
  refine z_objInit hc wBX3_3 wBin wBco (rm_ok hRm (Nat.le_of_ble_eq_true rfl) (Nat.le_of_ble_eq_true rfl)) (Nat.le_of_ble_eq_true rfl) dX3_init_1 ?_
  refine z_aload_n hc dX3_init_4 0 rfl rfl ?_
  refine z_iload_n hc dX3_init_5 1 rfl rfl ?_
  refine z_if_ge (tgt := 13) hc dX3_init_6 (by decide) _ (fun h1 => ?_) (fun h1 => ?_)
  · refine z_iload_n hc dX3_init_13 1 rfl rfl ?_
    refine zJ.cut _ (fun _ => zJ.nil) (fun h2 => ?_)
    refine zJ.chk _ (fun h3 => ?_)
    refine zJ.chk _ (fun h4 => ?_)
    refine z_newa_long hc h2 rfl h3 h4 hRm.2.2 wRlong dX3_init_14 ?_
    refine zJ.letM (fun u1 e1 => ?_)
    refine zJ.chk _ (fun h5 => ?_)
    refine zJ.chk _ (fun h6 => ?_)
    refine z_putR hc (ci := 3) (k := 0) (by decide) (by decide) zly3 (zkd_lay h5) (zkd_ok h5) wFX3_9 rfl (Or.inr ⟨rfl, hin rfl, rfl⟩) h6 (fun _ _ => rfl) dX3_init_16 ?_
    refine zJ.letM (fun u2 e2 => ?_)
    exact z_vret hc dX3_init_19
  · refine z_iconst (v := 0) hc dX3_init_9 rfl ?_
    refine z_goto (tgt := 14) hc dX3_init_10 (by decide) ?_
    refine zJ.cut _ (fun _ => zJ.nil) (fun h7 => ?_)
    refine zJ.chk _ (fun h8 => ?_)
    refine zJ.chk _ (fun h9 => ?_)
    refine z_newa_long hc h7 rfl h8 h9 hRm.2.2 wRlong dX3_init_14 ?_
    refine zJ.letM (fun u3 e3 => ?_)
    refine zJ.chk _ (fun h10 => ?_)
    refine zJ.chk _ (fun h11 => ?_)
    refine z_putR hc (ci := 3) (k := 0) (by decide) (by decide) zly3 (zkd_lay h10) (zkd_ok h10) wFX3_9 rfl (Or.inr ⟨rfl, hin rfl, rfl⟩) h11 (fun _ _ => rfl) dX3_init_16 ?_
    refine zJ.letM (fun u4 e4 => ?_)
    exact z_vret hc dX3_init_19
set_option maxRecDepth 100000 in
set_option maxHeartbeats 4000000 in
theorem sLa_initD : ∀ (r0 : Nat) (u : zM) r m1, La_initD r0 u = some (r, m1) → zMet l (wD D b layC) 1 20 yX1_init cX1_init 1 none [.ref r0] u (eV r) m1 := by
  intro r0 u
  refine zMet.of (L := [(0, .ref r0)]) RX1 (by decide +kernel) rfl (Nat.le_of_ble_eq_true rfl) (fun _ r m1 h => (zmono_le h).1) rfl (fun p e s mi args below meth c R fin hc hin hRm => ?_)
  unfold La_initD
  refine zJ.mono ?_
  unfold La_initDx
  refine z_aload_n hc dX1_init_0 0 rfl rfl ?_
  refine z_objInit hc wBX1_3 wBin wBco (rm_ok hRm (Nat.le_of_ble_eq_true rfl) (Nat.le_of_ble_eq_true rfl)) (Nat.le_of_ble_eq_true rfl) dX1_init_1 ?_
  refine z_aload_n hc dX1_init_4 0 rfl rfl ?_
  refine z_sipush (v := 1000) hc dX1_init_5 rfl ?_
  refine zJ.cut _ (fun _ => zJ.nil) (fun h1 => ?_)
  refine zJ.chk _ (fun h2 => ?_)
  refine zJ.chk _ (fun h3 => ?_)
  refine z_newa_int hc h1 rfl h2 h3 hRm.2.2 wRint dX1_init_8 ?_
  refine zJ.letM (fun u1 e1 => ?_)
  refine zJ.chk _ (fun h4 => ?_)
  refine zJ.chk _ (fun h5 => ?_)
  refine z_putR hc (ci := 1) (k := 0) (by decide) (by decide) zly1 (zkd_lay h4) (zkd_ok h4) wFX1_9 rfl (Or.inr ⟨rfl, hin rfl, rfl⟩) h5 (fun _ _ => rfl) dX1_init_10 ?_
  refine zJ.letM (fun u2 e2 => ?_)
  refine z_aload_n hc dX1_init_13 0 rfl rfl ?_
  refine z_bipush (v := 32) hc dX1_init_14 rfl ?_
  refine zJ.cut _ (fun _ => zJ.nil) (fun h6 => ?_)
  refine zJ.chk _ (fun h7 => ?_)
  refine zJ.chk _ (fun h8 => ?_)
  refine z_newa_int hc h6 rfl h7 h8 hRm.2.2 wRint dX1_init_16 ?_
  refine zJ.letM (fun u3 e3 => ?_)
  refine zJ.chk _ (fun h9 => ?_)
  refine zJ.chk _ (fun h10 => ?_)
  refine z_putR hc (ci := 1) (k := 1) (by decide) (by decide) zly1 (zkd_lay h9) (zkd_ok h9) wFX1_15 rfl (Or.inr ⟨rfl, hin rfl, rfl⟩) h10 (fun _ _ => rfl) dX1_init_18 ?_
  refine zJ.letM (fun u4 e4 => ?_)
  exact z_vret hc dX1_init_21
set_option maxRecDepth 100000 in
set_option maxHeartbeats 4000000 in
theorem sCo_initD_98 {fin : Unit × zM} (hc : zCx p s mi args meth c (wD D b layC) m0 RX0 cX0_init 1 none) (hRm : R.frames = 2 ∧ R.locals = 41 ∧ R.cells = zc (wD D b layC) m0 fin.2 ∧ R.slots = zs (wD D b layC) m0 fin.2) (hin : yX0_init.name = "<init>" → meth.name = "<init>") (r0 : Nat) (u : zM) : zJ eV p l e R s mi args below meth c (wD D b layC) m0 1 fin 98 [(0, .ref r0)] [] u (Co_initD_98 r0 u) := by
  unfold Co_initD_98
  refine z_aload_n hc dX0_init_98 0 rfl rfl ?_
  refine z_bipush (v := 6) hc dX0_init_99 rfl ?_
  refine zJ.cut _ (fun _ => zJ.nil) (fun h1 => ?_)
  refine zJ.chk _ (fun h2 => ?_)
  refine zJ.chk _ (fun h3 => ?_)
  refine z_newa_int hc h1 rfl h2 h3 hRm.2.2 wRint dX0_init_101 ?_
  refine zJ.letM (fun u1 e1 => ?_)
  refine zJ.chk _ (fun h4 => ?_)
  refine zJ.chk _ (fun h5 => ?_)
  refine z_putR hc (ci := 0) (k := 10) (by decide) (by decide) zly0 (zkd_lay h4) (zkd_ok h4) wFX0_48 rfl (Or.inr ⟨rfl, hin rfl, rfl⟩) h5 (fun _ _ => rfl) dX0_init_103 ?_
  refine zJ.letM (fun u2 e2 => ?_)
  refine z_aload_n hc dX0_init_106 0 rfl rfl ?_
  refine z_bipush (v := 6) hc dX0_init_107 rfl ?_
  refine zJ.cut _ (fun _ => zJ.nil) (fun h6 => ?_)
  refine zJ.chk _ (fun h7 => ?_)
  refine zJ.chk _ (fun h8 => ?_)
  refine z_newa_int hc h6 rfl h7 h8 hRm.2.2 wRint dX0_init_109 ?_
  refine zJ.letM (fun u3 e3 => ?_)
  refine zJ.chk _ (fun h9 => ?_)
  refine zJ.chk _ (fun h10 => ?_)
  refine z_putR hc (ci := 0) (k := 11) (by decide) (by decide) zly0 (zkd_lay h9) (zkd_ok h9) wFX0_51 rfl (Or.inr ⟨rfl, hin rfl, rfl⟩) h10 (fun _ _ => rfl) dX0_init_111 ?_
  refine zJ.letM (fun u4 e4 => ?_)
  refine z_aload_n hc dX0_init_114 0 rfl rfl ?_
  refine z_bipush (v := 12) hc dX0_init_115 rfl ?_
  refine zJ.cut _ (fun _ => zJ.nil) (fun h11 => ?_)
  refine zJ.chk _ (fun h12 => ?_)
  refine zJ.chk _ (fun h13 => ?_)
  refine z_newa_int hc h11 rfl h12 h13 hRm.2.2 wRint dX0_init_117 ?_
  refine zJ.letM (fun u5 e5 => ?_)
  refine zJ.chk _ (fun h14 => ?_)
  refine zJ.chk _ (fun h15 => ?_)
  refine z_putR hc (ci := 0) (k := 12) (by decide) (by decide) zly0 (zkd_lay h14) (zkd_ok h14) wFX0_54 rfl (Or.inr ⟨rfl, hin rfl, rfl⟩) h15 (fun _ _ => rfl) dX0_init_119 ?_
  refine zJ.letM (fun u6 e6 => ?_)
  refine z_aload_n hc dX0_init_122 0 rfl rfl ?_
  refine zJ.chk _ (fun h16 => ?_)
  refine z_new (ci := 1) hc (by decide) zly1 h16 hRm.2.2 wCX0_57 wN1 wI1 dX0_init_123 ?_
  refine zJ.letM (fun u7 e7 => ?_)
  refine z_dup hc dX0_init_126 rfl ?_
  refine z_callIN (t := (gN u6 + 1)) (av := []) (enc' := eV) hc rfl (sLa_initD (gN u6 + 1) _) (host := "OtterWrits") (by decide +kernel) rfl wMX0_59 hpyX1_init hmyX1_init (rm_ok hRm (Nat.le_of_ble_eq_true rfl) (Nat.le_of_ble_eq_true rfl)) (Nat.le_of_ble_eq_true rfl) hRm.2.2 dX0_init_127 (fun c1 u8 f1 => ?_)
  refine zJ.chk _ (fun h17 => ?_)
  refine zJ.chk _ (fun h18 => ?_)
  refine z_putR hc (ci := 0) (k := 13) (by decide) (by decide) zly0 (zkd_lay h17) (zkd_ok h17) wFX0_60 rfl (Or.inr ⟨rfl, hin rfl, rfl⟩) h18 (fun _ _ => rfl) dX0_init_130 ?_
  refine zJ.letM (fun u9 e8 => ?_)
  exact z_vret hc dX0_init_133
set_option maxRecDepth 100000 in
set_option maxHeartbeats 4000000 in
theorem sCo_initD_62 {fin : Unit × zM} (hc : zCx p s mi args meth c (wD D b layC) m0 RX0 cX0_init 1 none) (hRm : R.frames = 2 ∧ R.locals = 41 ∧ R.cells = zc (wD D b layC) m0 fin.2 ∧ R.slots = zs (wD D b layC) m0 fin.2) (hin : yX0_init.name = "<init>" → meth.name = "<init>") (r0 : Nat) (u : zM) : zJ eV p l e R s mi args below meth c (wD D b layC) m0 1 fin 62 [(0, .ref r0)] [] u (Co_initD_62 r0 u) := by
  unfold Co_initD_62
  refine z_aload_n hc dX0_init_62 0 rfl rfl ?_
  refine z_bipush (v := 7) hc dX0_init_63 rfl ?_
  refine zJ.cut _ (fun _ => zJ.nil) (fun h1 => ?_)
  refine zJ.chk _ (fun h2 => ?_)
  refine zJ.chk _ (fun h3 => ?_)
  refine z_newa_int hc h1 rfl h2 h3 hRm.2.2 wRint dX0_init_65 ?_
  refine zJ.letM (fun u1 e1 => ?_)
  refine zJ.chk _ (fun h4 => ?_)
  refine zJ.chk _ (fun h5 => ?_)
  refine z_putR hc (ci := 0) (k := 5) (by decide) (by decide) zly0 (zkd_lay h4) (zkd_ok h4) wFX0_33 rfl (Or.inr ⟨rfl, hin rfl, rfl⟩) h5 (fun _ _ => rfl) dX0_init_67 ?_
  refine zJ.letM (fun u2 e2 => ?_)
  refine z_aload_n hc dX0_init_70 0 rfl rfl ?_
  refine z_iconst (v := 5) hc dX0_init_71 rfl ?_
  refine zJ.cut _ (fun _ => zJ.nil) (fun h6 => ?_)
  refine zJ.chk _ (fun h7 => ?_)
  refine zJ.chk _ (fun h8 => ?_)
  refine z_newa_int hc h6 rfl h7 h8 hRm.2.2 wRint dX0_init_72 ?_
  refine zJ.letM (fun u3 e3 => ?_)
  refine zJ.chk _ (fun h9 => ?_)
  refine zJ.chk _ (fun h10 => ?_)
  refine z_putR hc (ci := 0) (k := 6) (by decide) (by decide) zly0 (zkd_lay h9) (zkd_ok h9) wFX0_36 rfl (Or.inr ⟨rfl, hin rfl, rfl⟩) h10 (fun _ _ => rfl) dX0_init_74 ?_
  refine zJ.letM (fun u4 e4 => ?_)
  refine z_aload_n hc dX0_init_77 0 rfl rfl ?_
  refine z_iconst (v := 5) hc dX0_init_78 rfl ?_
  refine zJ.cut _ (fun _ => zJ.nil) (fun h11 => ?_)
  refine zJ.chk _ (fun h12 => ?_)
  refine zJ.chk _ (fun h13 => ?_)
  refine z_newa_int hc h11 rfl h12 h13 hRm.2.2 wRint dX0_init_79 ?_
  refine zJ.letM (fun u5 e5 => ?_)
  refine zJ.chk _ (fun h14 => ?_)
  refine zJ.chk _ (fun h15 => ?_)
  refine z_putR hc (ci := 0) (k := 7) (by decide) (by decide) zly0 (zkd_lay h14) (zkd_ok h14) wFX0_39 rfl (Or.inr ⟨rfl, hin rfl, rfl⟩) h15 (fun _ _ => rfl) dX0_init_81 ?_
  refine zJ.letM (fun u6 e6 => ?_)
  refine z_aload_n hc dX0_init_84 0 rfl rfl ?_
  refine z_iconst (v := 3) hc dX0_init_85 rfl ?_
  refine zJ.cut _ (fun _ => zJ.nil) (fun h16 => ?_)
  refine zJ.chk _ (fun h17 => ?_)
  refine zJ.chk _ (fun h18 => ?_)
  refine z_newa_int hc h16 rfl h17 h18 hRm.2.2 wRint dX0_init_86 ?_
  refine zJ.letM (fun u7 e7 => ?_)
  refine zJ.chk _ (fun h19 => ?_)
  refine zJ.chk _ (fun h20 => ?_)
  refine z_putR hc (ci := 0) (k := 8) (by decide) (by decide) zly0 (zkd_lay h19) (zkd_ok h19) wFX0_42 rfl (Or.inr ⟨rfl, hin rfl, rfl⟩) h20 (fun _ _ => rfl) dX0_init_88 ?_
  refine zJ.letM (fun u8 e8 => ?_)
  refine z_aload_n hc dX0_init_91 0 rfl rfl ?_
  refine z_iconst (v := 3) hc dX0_init_92 rfl ?_
  refine zJ.cut _ (fun _ => zJ.nil) (fun h21 => ?_)
  refine zJ.chk _ (fun h22 => ?_)
  refine zJ.chk _ (fun h23 => ?_)
  refine z_newa_int hc h21 rfl h22 h23 hRm.2.2 wRint dX0_init_93 ?_
  refine zJ.letM (fun u9 e9 => ?_)
  refine zJ.chk _ (fun h24 => ?_)
  refine zJ.chk _ (fun h25 => ?_)
  refine z_putR hc (ci := 0) (k := 9) (by decide) (by decide) zly0 (zkd_lay h24) (zkd_ok h24) wFX0_45 rfl (Or.inr ⟨rfl, hin rfl, rfl⟩) h25 (fun _ _ => rfl) dX0_init_95 ?_
  refine zJ.letM (fun u10 e10 => ?_)
  exact sCo_initD_98 hc hRm hin r0 _
set_option maxRecDepth 100000 in
set_option maxHeartbeats 4000000 in
theorem sCo_initD : ∀ (r0 : Nat) (u : zM) r m1, Co_initD r0 u = some (r, m1) → zMet l (wD D b layC) 2 41 yX0_init cX0_init 1 none [.ref r0] u (eV r) m1 := by
  intro r0 u
  refine zMet.of (L := [(0, .ref r0)]) RX0 (by decide +kernel) rfl (Nat.le_of_ble_eq_true rfl) (fun _ r m1 h => (zmono_le h).1) rfl (fun p e s mi args below meth c R fin hc hin hRm => ?_)
  unfold Co_initD
  refine zJ.mono ?_
  unfold Co_initDx
  refine z_aload_n hc dX0_init_0 0 rfl rfl ?_
  refine z_objInit hc wBX0_3 wBin wBco (rm_ok hRm (Nat.le_of_ble_eq_true rfl) (Nat.le_of_ble_eq_true rfl)) (Nat.le_of_ble_eq_true rfl) dX0_init_1 ?_
  refine z_aload_n hc dX0_init_4 0 rfl rfl ?_
  refine zJ.chk _ (fun h1 => ?_)
  refine z_new (ci := 3) hc (by decide) zly3 h1 hRm.2.2 wCX0_9 wN3 wI3 dX0_init_5 ?_
  refine zJ.letM (fun u1 e1 => ?_)
  refine z_dup hc dX0_init_8 rfl ?_
  refine z_bipush (v := 7) hc dX0_init_9 rfl ?_
  refine z_callI (t := (gN u + 1)) (av := [.int 7]) (enc' := eV) hc rfl (sNa_initD (gN u + 1) 7 _) rfl wMX0_11 hpyX3_init hmyX3_init (rm_ok hRm (Nat.le_of_ble_eq_true rfl) (Nat.le_of_ble_eq_true rfl)) (Nat.le_of_ble_eq_true rfl) hRm.2.2 dX0_init_11 (fun c1 u2 f1 => ?_)
  refine zJ.chk _ (fun h2 => ?_)
  refine zJ.chk _ (fun h3 => ?_)
  refine z_putR hc (ci := 0) (k := 0) (by decide) (by decide) zly0 (zkd_lay h2) (zkd_ok h2) wFX0_14 rfl (Or.inr ⟨rfl, hin rfl, rfl⟩) h3 (fun _ _ => rfl) dX0_init_14 ?_
  refine zJ.letM (fun u3 e2 => ?_)
  refine z_aload_n hc dX0_init_17 0 rfl rfl ?_
  refine zJ.chk _ (fun h4 => ?_)
  refine z_new (ci := 3) hc (by decide) zly3 h4 hRm.2.2 wCX0_9 wN3 wI3 dX0_init_18 ?_
  refine zJ.letM (fun u4 e3 => ?_)
  refine z_dup hc dX0_init_21 rfl ?_
  refine z_iconst (v := 5) hc dX0_init_22 rfl ?_
  refine z_callI (t := (gN u3 + 1)) (av := [.int 5]) (enc' := eV) hc rfl (sNa_initD (gN u3 + 1) 5 _) rfl wMX0_11 hpyX3_init hmyX3_init (rm_ok hRm (Nat.le_of_ble_eq_true rfl) (Nat.le_of_ble_eq_true rfl)) (Nat.le_of_ble_eq_true rfl) hRm.2.2 dX0_init_23 (fun c2 u5 f2 => ?_)
  refine zJ.chk _ (fun h5 => ?_)
  refine zJ.chk _ (fun h6 => ?_)
  refine z_putR hc (ci := 0) (k := 1) (by decide) (by decide) zly0 (zkd_lay h5) (zkd_ok h5) wFX0_20 rfl (Or.inr ⟨rfl, hin rfl, rfl⟩) h6 (fun _ _ => rfl) dX0_init_26 ?_
  refine zJ.letM (fun u6 e4 => ?_)
  refine z_aload_n hc dX0_init_29 0 rfl rfl ?_
  refine zJ.chk _ (fun h7 => ?_)
  refine z_new (ci := 3) hc (by decide) zly3 h7 hRm.2.2 wCX0_9 wN3 wI3 dX0_init_30 ?_
  refine zJ.letM (fun u7 e5 => ?_)
  refine z_dup hc dX0_init_33 rfl ?_
  refine z_iconst (v := 3) hc dX0_init_34 rfl ?_
  refine z_callI (t := (gN u6 + 1)) (av := [.int 3]) (enc' := eV) hc rfl (sNa_initD (gN u6 + 1) 3 _) rfl wMX0_11 hpyX3_init hmyX3_init (rm_ok hRm (Nat.le_of_ble_eq_true rfl) (Nat.le_of_ble_eq_true rfl)) (Nat.le_of_ble_eq_true rfl) hRm.2.2 dX0_init_35 (fun c3 u8 f3 => ?_)
  refine zJ.chk _ (fun h8 => ?_)
  refine zJ.chk _ (fun h9 => ?_)
  refine z_putR hc (ci := 0) (k := 2) (by decide) (by decide) zly0 (zkd_lay h8) (zkd_ok h8) wFX0_23 rfl (Or.inr ⟨rfl, hin rfl, rfl⟩) h9 (fun _ _ => rfl) dX0_init_38 ?_
  refine zJ.letM (fun u9 e6 => ?_)
  refine z_aload_n hc dX0_init_41 0 rfl rfl ?_
  refine zJ.chk _ (fun h10 => ?_)
  refine z_new (ci := 3) hc (by decide) zly3 h10 hRm.2.2 wCX0_9 wN3 wI3 dX0_init_42 ?_
  refine zJ.letM (fun u10 e7 => ?_)
  refine z_dup hc dX0_init_45 rfl ?_
  refine z_bipush (v := 6) hc dX0_init_46 rfl ?_
  refine z_callI (t := (gN u9 + 1)) (av := [.int 6]) (enc' := eV) hc rfl (sNa_initD (gN u9 + 1) 6 _) rfl wMX0_11 hpyX3_init hmyX3_init (rm_ok hRm (Nat.le_of_ble_eq_true rfl) (Nat.le_of_ble_eq_true rfl)) (Nat.le_of_ble_eq_true rfl) hRm.2.2 dX0_init_48 (fun c4 u11 f4 => ?_)
  refine zJ.chk _ (fun h11 => ?_)
  refine zJ.chk _ (fun h12 => ?_)
  refine z_putR hc (ci := 0) (k := 3) (by decide) (by decide) zly0 (zkd_lay h11) (zkd_ok h11) wFX0_26 rfl (Or.inr ⟨rfl, hin rfl, rfl⟩) h12 (fun _ _ => rfl) dX0_init_51 ?_
  refine zJ.letM (fun u12 e8 => ?_)
  refine z_aload_n hc dX0_init_54 0 rfl rfl ?_
  refine z_bipush (v := 7) hc dX0_init_55 rfl ?_
  refine zJ.cut _ (fun _ => zJ.nil) (fun h13 => ?_)
  refine zJ.chk _ (fun h14 => ?_)
  refine zJ.chk _ (fun h15 => ?_)
  refine z_newa_int hc h13 rfl h14 h15 hRm.2.2 wRint dX0_init_57 ?_
  refine zJ.letM (fun u13 e9 => ?_)
  refine zJ.chk _ (fun h16 => ?_)
  refine zJ.chk _ (fun h17 => ?_)
  refine z_putR hc (ci := 0) (k := 4) (by decide) (by decide) zly0 (zkd_lay h16) (zkd_ok h16) wFX0_29 rfl (Or.inr ⟨rfl, hin rfl, rfl⟩) h17 (fun _ _ => rfl) dX0_init_59 ?_
  refine zJ.letM (fun u14 e10 => ?_)
  exact sCo_initD_62 hc hRm hin r0 _
set_option maxRecDepth 100000 in
set_option maxHeartbeats 4000000 in
theorem sSs_initD : ∀ (r0 : Nat) (u : zM) r m1, Ss_initD r0 u = some (r, m1) → zMet l (wD D b layC) 1 20 yX6_init cX6_init 1 none [.ref r0] u (eV r) m1 := by
  intro r0 u
  refine zMet.of (L := [(0, .ref r0)]) RX6 (by decide +kernel) rfl (Nat.le_of_ble_eq_true rfl) (fun _ r m1 h => (zmono_le h).1) rfl (fun p e s mi args below meth c R fin hc hin hRm => ?_)
  unfold Ss_initD
  refine zJ.mono ?_
  unfold Ss_initDx
  refine z_aload_n hc dX6_init_0 0 rfl rfl ?_
  refine z_objInit hc wBX6_3 wBin wBco (rm_ok hRm (Nat.le_of_ble_eq_true rfl) (Nat.le_of_ble_eq_true rfl)) (Nat.le_of_ble_eq_true rfl) dX6_init_1 ?_
  refine z_aload_n hc dX6_init_4 0 rfl rfl ?_
  refine z_bipush (v := 40) hc dX6_init_5 rfl ?_
  refine zJ.cut _ (fun _ => zJ.nil) (fun h1 => ?_)
  refine zJ.chk _ (fun h2 => ?_)
  refine zJ.chk _ (fun h3 => ?_)
  refine z_newa_int hc h1 rfl h2 h3 hRm.2.2 wRint dX6_init_7 ?_
  refine zJ.letM (fun u1 e1 => ?_)
  refine zJ.chk _ (fun h4 => ?_)
  refine zJ.chk _ (fun h5 => ?_)
  refine z_putR hc (ci := 6) (k := 0) (by decide) (by decide) zly6 (zkd_lay h4) (zkd_ok h4) wFX6_9 rfl (Or.inr ⟨rfl, hin rfl, rfl⟩) h5 (fun _ _ => rfl) dX6_init_9 ?_
  refine zJ.letM (fun u2 e2 => ?_)
  refine z_aload_n hc dX6_init_12 0 rfl rfl ?_
  refine z_bipush (v := 40) hc dX6_init_13 rfl ?_
  refine zJ.cut _ (fun _ => zJ.nil) (fun h6 => ?_)
  refine zJ.chk _ (fun h7 => ?_)
  refine zJ.chk _ (fun h8 => ?_)
  refine z_newa_int hc h6 rfl h7 h8 hRm.2.2 wRint dX6_init_15 ?_
  refine zJ.letM (fun u3 e3 => ?_)
  refine zJ.chk _ (fun h9 => ?_)
  refine zJ.chk _ (fun h10 => ?_)
  refine z_putR hc (ci := 6) (k := 1) (by decide) (by decide) zly6 (zkd_lay h9) (zkd_ok h9) wFX6_15 rfl (Or.inr ⟨rfl, hin rfl, rfl⟩) h10 (fun _ _ => rfl) dX6_init_17 ?_
  refine zJ.letM (fun u4 e4 => ?_)
  refine z_aload_n hc dX6_init_20 0 rfl rfl ?_
  refine z_bipush (v := 40) hc dX6_init_21 rfl ?_
  refine zJ.cut _ (fun _ => zJ.nil) (fun h11 => ?_)
  refine zJ.chk _ (fun h12 => ?_)
  refine zJ.chk _ (fun h13 => ?_)
  refine z_newa_int hc h11 rfl h12 h13 hRm.2.2 wRint dX6_init_23 ?_
  refine zJ.letM (fun u5 e5 => ?_)
  refine zJ.chk _ (fun h14 => ?_)
  refine zJ.chk _ (fun h15 => ?_)
  refine z_putR hc (ci := 6) (k := 2) (by decide) (by decide) zly6 (zkd_lay h14) (zkd_ok h14) wFX6_18 rfl (Or.inr ⟨rfl, hin rfl, rfl⟩) h15 (fun _ _ => rfl) dX6_init_25 ?_
  refine zJ.letM (fun u6 e6 => ?_)
  exact z_vret hc dX6_init_28
set_option maxRecDepth 100000 in
set_option maxHeartbeats 4000000 in
theorem sSt_initD : ∀ (r0 : Nat) (u : zM) r m1, St_initD r0 u = some (r, m1) → zMet l (wD D b layC) 1 20 yX7_init cX7_init 1 none [.ref r0] u (eV r) m1 := by
  intro r0 u
  refine zMet.of (L := [(0, .ref r0)]) RX7 (by decide +kernel) rfl (Nat.le_of_ble_eq_true rfl) (fun _ r m1 h => (zmono_le h).1) rfl (fun p e s mi args below meth c R fin hc hin hRm => ?_)
  unfold St_initD
  refine zJ.mono ?_
  unfold St_initDx
  refine z_aload_n hc dX7_init_0 0 rfl rfl ?_
  refine z_objInit hc wBX7_3 wBin wBco (rm_ok hRm (Nat.le_of_ble_eq_true rfl) (Nat.le_of_ble_eq_true rfl)) (Nat.le_of_ble_eq_true rfl) dX7_init_1 ?_
  refine z_aload_n hc dX7_init_4 0 rfl rfl ?_
  refine z_bipush (v := 7) hc dX7_init_5 rfl ?_
  refine zJ.cut _ (fun _ => zJ.nil) (fun h1 => ?_)
  refine zJ.chk _ (fun h2 => ?_)
  refine zJ.chk _ (fun h3 => ?_)
  refine z_newa_int hc h1 rfl h2 h3 hRm.2.2 wRint dX7_init_7 ?_
  refine zJ.letM (fun u1 e1 => ?_)
  refine zJ.chk _ (fun h4 => ?_)
  refine zJ.chk _ (fun h5 => ?_)
  refine z_putR hc (ci := 7) (k := 0) (by decide) (by decide) zly7 (zkd_lay h4) (zkd_ok h4) wFX7_9 rfl (Or.inr ⟨rfl, hin rfl, rfl⟩) h5 (fun _ _ => rfl) dX7_init_9 ?_
  refine zJ.letM (fun u2 e2 => ?_)
  refine z_aload_n hc dX7_init_12 0 rfl rfl ?_
  refine z_iconst (v := 5) hc dX7_init_13 rfl ?_
  refine zJ.cut _ (fun _ => zJ.nil) (fun h6 => ?_)
  refine zJ.chk _ (fun h7 => ?_)
  refine zJ.chk _ (fun h8 => ?_)
  refine z_newa_int hc h6 rfl h7 h8 hRm.2.2 wRint dX7_init_14 ?_
  refine zJ.letM (fun u3 e3 => ?_)
  refine zJ.chk _ (fun h9 => ?_)
  refine zJ.chk _ (fun h10 => ?_)
  refine z_putR hc (ci := 7) (k := 1) (by decide) (by decide) zly7 (zkd_lay h9) (zkd_ok h9) wFX7_15 rfl (Or.inr ⟨rfl, hin rfl, rfl⟩) h10 (fun _ _ => rfl) dX7_init_16 ?_
  refine zJ.letM (fun u4 e4 => ?_)
  refine z_aload_n hc dX7_init_19 0 rfl rfl ?_
  refine z_iconst (v := 3) hc dX7_init_20 rfl ?_
  refine zJ.cut _ (fun _ => zJ.nil) (fun h11 => ?_)
  refine zJ.chk _ (fun h12 => ?_)
  refine zJ.chk _ (fun h13 => ?_)
  refine z_newa_int hc h11 rfl h12 h13 hRm.2.2 wRint dX7_init_21 ?_
  refine zJ.letM (fun u5 e5 => ?_)
  refine zJ.chk _ (fun h14 => ?_)
  refine zJ.chk _ (fun h15 => ?_)
  refine z_putR hc (ci := 7) (k := 2) (by decide) (by decide) zly7 (zkd_lay h14) (zkd_ok h14) wFX7_18 rfl (Or.inr ⟨rfl, hin rfl, rfl⟩) h15 (fun _ _ => rfl) dX7_init_23 ?_
  refine zJ.letM (fun u6 e6 => ?_)
  refine z_aload_n hc dX7_init_26 0 rfl rfl ?_
  refine z_iconst (v := 3) hc dX7_init_27 rfl ?_
  refine zJ.cut _ (fun _ => zJ.nil) (fun h16 => ?_)
  refine zJ.chk _ (fun h17 => ?_)
  refine zJ.chk _ (fun h18 => ?_)
  refine z_newa_int hc h16 rfl h17 h18 hRm.2.2 wRint dX7_init_28 ?_
  refine zJ.letM (fun u7 e7 => ?_)
  refine zJ.chk _ (fun h19 => ?_)
  refine zJ.chk _ (fun h20 => ?_)
  refine z_putR hc (ci := 7) (k := 3) (by decide) (by decide) zly7 (zkd_lay h19) (zkd_ok h19) wFX7_21 rfl (Or.inr ⟨rfl, hin rfl, rfl⟩) h20 (fun _ _ => rfl) dX7_init_30 ?_
  refine zJ.letM (fun u8 e8 => ?_)
  refine z_aload_n hc dX7_init_33 0 rfl rfl ?_
  refine z_bipush (v := 6) hc dX7_init_34 rfl ?_
  refine zJ.cut _ (fun _ => zJ.nil) (fun h21 => ?_)
  refine zJ.chk _ (fun h22 => ?_)
  refine zJ.chk _ (fun h23 => ?_)
  refine z_newa_int hc h21 rfl h22 h23 hRm.2.2 wRint dX7_init_36 ?_
  refine zJ.letM (fun u9 e9 => ?_)
  refine zJ.chk _ (fun h24 => ?_)
  refine zJ.chk _ (fun h25 => ?_)
  refine z_putR hc (ci := 7) (k := 4) (by decide) (by decide) zly7 (zkd_lay h24) (zkd_ok h24) wFX7_24 rfl (Or.inr ⟨rfl, hin rfl, rfl⟩) h25 (fun _ _ => rfl) dX7_init_38 ?_
  refine zJ.letM (fun u10 e10 => ?_)
  exact z_vret hc dX7_init_41
set_option maxRecDepth 100000 in
set_option maxHeartbeats 4000000 in
theorem sSe_initD : ∀ (r0 : Nat) (u : zM) r m1, Se_initD r0 u = some (r, m1) → zMet l (wD D b layC) 1 20 yX5_init cX5_init 1 none [.ref r0] u (eV r) m1 := by
  intro r0 u
  refine zMet.of (L := [(0, .ref r0)]) RX5 (by decide +kernel) rfl (Nat.le_of_ble_eq_true rfl) (fun _ r m1 h => (zmono_le h).1) rfl (fun p e s mi args below meth c R fin hc hin hRm => ?_)
  unfold Se_initD
  refine zJ.mono ?_
  unfold Se_initDx
  refine z_aload_n hc dX5_init_0 0 rfl rfl ?_
  refine z_objInit hc wBX5_3 wBin wBco (rm_ok hRm (Nat.le_of_ble_eq_true rfl) (Nat.le_of_ble_eq_true rfl)) (Nat.le_of_ble_eq_true rfl) dX5_init_1 ?_
  refine z_aload_n hc dX5_init_4 0 rfl rfl ?_
  refine z_bipush (v := 8) hc dX5_init_5 rfl ?_
  refine zJ.cut _ (fun _ => zJ.nil) (fun h1 => ?_)
  refine zJ.chk _ (fun h2 => ?_)
  refine zJ.chk _ (fun h3 => ?_)
  refine z_newa_int hc h1 rfl h2 h3 hRm.2.2 wRint dX5_init_7 ?_
  refine zJ.letM (fun u1 e1 => ?_)
  refine zJ.chk _ (fun h4 => ?_)
  refine zJ.chk _ (fun h5 => ?_)
  refine z_putR hc (ci := 5) (k := 0) (by decide) (by decide) zly5 (zkd_lay h4) (zkd_ok h4) wFX5_9 rfl (Or.inr ⟨rfl, hin rfl, rfl⟩) h5 (fun _ _ => rfl) dX5_init_9 ?_
  refine zJ.letM (fun u2 e2 => ?_)
  refine z_aload_n hc dX5_init_12 0 rfl rfl ?_
  refine z_bipush (v := 8) hc dX5_init_13 rfl ?_
  refine zJ.cut _ (fun _ => zJ.nil) (fun h6 => ?_)
  refine zJ.chk _ (fun h7 => ?_)
  refine zJ.chk _ (fun h8 => ?_)
  refine z_newa_int hc h6 rfl h7 h8 hRm.2.2 wRint dX5_init_15 ?_
  refine zJ.letM (fun u3 e3 => ?_)
  refine zJ.chk _ (fun h9 => ?_)
  refine zJ.chk _ (fun h10 => ?_)
  refine z_putR hc (ci := 5) (k := 1) (by decide) (by decide) zly5 (zkd_lay h9) (zkd_ok h9) wFX5_15 rfl (Or.inr ⟨rfl, hin rfl, rfl⟩) h10 (fun _ _ => rfl) dX5_init_17 ?_
  refine zJ.letM (fun u4 e4 => ?_)
  refine z_aload_n hc dX5_init_20 0 rfl rfl ?_
  refine z_bipush (v := 8) hc dX5_init_21 rfl ?_
  refine zJ.cut _ (fun _ => zJ.nil) (fun h11 => ?_)
  refine zJ.chk _ (fun h12 => ?_)
  refine zJ.chk _ (fun h13 => ?_)
  refine z_newa_boolean hc h11 rfl h12 h13 hRm.2.2 wRboolean dX5_init_23 ?_
  refine zJ.letM (fun u5 e5 => ?_)
  refine zJ.chk _ (fun h14 => ?_)
  refine zJ.chk _ (fun h15 => ?_)
  refine z_putR hc (ci := 5) (k := 2) (by decide) (by decide) zly5 (zkd_lay h14) (zkd_ok h14) wFX5_18 rfl (Or.inr ⟨rfl, hin rfl, rfl⟩) h15 (fun _ _ => rfl) dX5_init_25 ?_
  refine zJ.letM (fun u6 e6 => ?_)
  exact z_vret hc dX5_init_28
set_option maxRecDepth 100000 in
set_option maxHeartbeats 4000000 in
theorem sOu_initD : ∀ (r0 : Nat) (u : zM) r m1, Ou_initD r0 u = some (r, m1) → zMet l (wD D b layC) 2 40 yX4_init cX4_init 1 none [.ref r0] u (eV r) m1 := by
  intro r0 u
  refine zMet.of (L := [(0, .ref r0)]) RX4 (by decide +kernel) rfl (Nat.le_of_ble_eq_true rfl) (fun _ r m1 h => (zmono_le h).1) rfl (fun p e s mi args below meth c R fin hc hin hRm => ?_)
  unfold Ou_initD
  refine zJ.mono ?_
  unfold Ou_initDx
  refine z_aload_n hc dX4_init_0 0 rfl rfl ?_
  refine z_objInit hc wBX4_3 wBin wBco (rm_ok hRm (Nat.le_of_ble_eq_true rfl) (Nat.le_of_ble_eq_true rfl)) (Nat.le_of_ble_eq_true rfl) dX4_init_1 ?_
  refine z_aload_n hc dX4_init_4 0 rfl rfl ?_
  refine zJ.chk _ (fun h1 => ?_)
  refine z_new (ci := 7) hc (by decide) zly7 h1 hRm.2.2 wCX4_9 wN7 wI7 dX4_init_5 ?_
  refine zJ.letM (fun u1 e1 => ?_)
  refine z_dup hc dX4_init_8 rfl ?_
  refine z_callIN (t := (gN u + 1)) (av := []) (enc' := eV) hc rfl (sSt_initD (gN u + 1) _) (host := "OtterWrits") (by decide +kernel) rfl wMX4_11 hpyX7_init hmyX7_init (rm_ok hRm (Nat.le_of_ble_eq_true rfl) (Nat.le_of_ble_eq_true rfl)) (Nat.le_of_ble_eq_true rfl) hRm.2.2 dX4_init_9 (fun c1 u2 f1 => ?_)
  refine zJ.chk _ (fun h2 => ?_)
  refine zJ.chk _ (fun h3 => ?_)
  refine z_putR hc (ci := 4) (k := 0) (by decide) (by decide) zly4 (zkd_lay h2) (zkd_ok h2) wFX4_12 rfl (Or.inr ⟨rfl, hin rfl, rfl⟩) h3 (fun _ _ => rfl) dX4_init_12 ?_
  refine zJ.letM (fun u3 e2 => ?_)
  refine z_aload_n hc dX4_init_15 0 rfl rfl ?_
  refine z_sipush (v := 427) hc dX4_init_16 rfl ?_
  refine zJ.cut _ (fun _ => zJ.nil) (fun h4 => ?_)
  refine zJ.chk _ (fun h5 => ?_)
  refine zJ.chk _ (fun h6 => ?_)
  refine z_newa_int hc h4 rfl h5 h6 hRm.2.2 wRint dX4_init_19 ?_
  refine zJ.letM (fun u4 e3 => ?_)
  refine zJ.chk _ (fun h7 => ?_)
  refine zJ.chk _ (fun h8 => ?_)
  refine z_putR hc (ci := 4) (k := 1) (by decide) (by decide) zly4 (zkd_lay h7) (zkd_ok h7) wFX4_18 rfl (Or.inr ⟨rfl, hin rfl, rfl⟩) h8 (fun _ _ => rfl) dX4_init_21 ?_
  refine zJ.letM (fun u5 e4 => ?_)
  refine z_aload_n hc dX4_init_24 0 rfl rfl ?_
  refine z_sipush (v := 305) hc dX4_init_25 rfl ?_
  refine zJ.cut _ (fun _ => zJ.nil) (fun h9 => ?_)
  refine zJ.chk _ (fun h10 => ?_)
  refine zJ.chk _ (fun h11 => ?_)
  refine z_newa_int hc h9 rfl h10 h11 hRm.2.2 wRint dX4_init_28 ?_
  refine zJ.letM (fun u6 e5 => ?_)
  refine zJ.chk _ (fun h12 => ?_)
  refine zJ.chk _ (fun h13 => ?_)
  refine z_putR hc (ci := 4) (k := 2) (by decide) (by decide) zly4 (zkd_lay h12) (zkd_ok h12) wFX4_22 rfl (Or.inr ⟨rfl, hin rfl, rfl⟩) h13 (fun _ _ => rfl) dX4_init_30 ?_
  refine zJ.letM (fun u7 e6 => ?_)
  refine z_aload_n hc dX4_init_33 0 rfl rfl ?_
  refine z_bipush (v := 61) hc dX4_init_34 rfl ?_
  refine zJ.cut _ (fun _ => zJ.nil) (fun h14 => ?_)
  refine zJ.chk _ (fun h15 => ?_)
  refine zJ.chk _ (fun h16 => ?_)
  refine z_newa_int hc h14 rfl h15 h16 hRm.2.2 wRint dX4_init_36 ?_
  refine zJ.letM (fun u8 e7 => ?_)
  refine zJ.chk _ (fun h17 => ?_)
  refine zJ.chk _ (fun h18 => ?_)
  refine z_putR hc (ci := 4) (k := 3) (by decide) (by decide) zly4 (zkd_lay h17) (zkd_ok h17) wFX4_25 rfl (Or.inr ⟨rfl, hin rfl, rfl⟩) h18 (fun _ _ => rfl) dX4_init_38 ?_
  refine zJ.letM (fun u9 e8 => ?_)
  refine z_aload_n hc dX4_init_41 0 rfl rfl ?_
  refine z_bipush (v := 18) hc dX4_init_42 rfl ?_
  refine zJ.cut _ (fun _ => zJ.nil) (fun h19 => ?_)
  refine zJ.chk _ (fun h20 => ?_)
  refine zJ.chk _ (fun h21 => ?_)
  refine z_newa_int hc h19 rfl h20 h21 hRm.2.2 wRint dX4_init_44 ?_
  refine zJ.letM (fun u10 e9 => ?_)
  refine zJ.chk _ (fun h22 => ?_)
  refine zJ.chk _ (fun h23 => ?_)
  refine z_putR hc (ci := 4) (k := 4) (by decide) (by decide) zly4 (zkd_lay h22) (zkd_ok h22) wFX4_28 rfl (Or.inr ⟨rfl, hin rfl, rfl⟩) h23 (fun _ _ => rfl) dX4_init_46 ?_
  refine zJ.letM (fun u11 e10 => ?_)
  refine z_aload_n hc dX4_init_49 0 rfl rfl ?_
  refine z_iconst (v := 3) hc dX4_init_50 rfl ?_
  refine zJ.cut _ (fun _ => zJ.nil) (fun h24 => ?_)
  refine zJ.chk _ (fun h25 => ?_)
  refine zJ.chk _ (fun h26 => ?_)
  refine z_newa_int hc h24 rfl h25 h26 hRm.2.2 wRint dX4_init_51 ?_
  refine zJ.letM (fun u12 e11 => ?_)
  refine zJ.chk _ (fun h27 => ?_)
  refine zJ.chk _ (fun h28 => ?_)
  refine z_putR hc (ci := 4) (k := 5) (by decide) (by decide) zly4 (zkd_lay h27) (zkd_ok h27) wFX4_31 rfl (Or.inr ⟨rfl, hin rfl, rfl⟩) h28 (fun _ _ => rfl) dX4_init_53 ?_
  refine zJ.letM (fun u13 e12 => ?_)
  exact z_vret hc dX4_init_56
set_option maxRecDepth 100000 in
set_option maxHeartbeats 4000000 in
theorem sMk_initD : ∀ (r0 : Nat) (u : zM) r m1, Mk_initD r0 u = some (r, m1) → zMet l (wD D b layC) 2 40 yX2_init cX2_init 1 none [.ref r0] u (eV r) m1 := by
  intro r0 u
  refine zMet.of (L := [(0, .ref r0)]) RX2 (by decide +kernel) rfl (Nat.le_of_ble_eq_true rfl) (fun _ r m1 h => (zmono_le h).1) rfl (fun p e s mi args below meth c R fin hc hin hRm => ?_)
  unfold Mk_initD
  refine zJ.mono ?_
  unfold Mk_initDx
  refine z_aload_n hc dX2_init_0 0 rfl rfl ?_
  refine z_objInit hc wBX2_1 wBin wBco (rm_ok hRm (Nat.le_of_ble_eq_true rfl) (Nat.le_of_ble_eq_true rfl)) (Nat.le_of_ble_eq_true rfl) dX2_init_1 ?_
  refine z_aload_n hc dX2_init_4 0 rfl rfl ?_
  refine zJ.chk _ (fun h1 => ?_)
  refine z_new (ci := 7) hc (by decide) zly7 h1 hRm.2.2 wCX2_7 wN7 wI7 dX2_init_5 ?_
  refine zJ.letM (fun u1 e1 => ?_)
  refine z_dup hc dX2_init_8 rfl ?_
  refine z_callIN (t := (gN u + 1)) (av := []) (enc' := eV) hc rfl (sSt_initD (gN u + 1) _) (host := "OtterWrits") (by decide +kernel) rfl wMX2_9 hpyX7_init hmyX7_init (rm_ok hRm (Nat.le_of_ble_eq_true rfl) (Nat.le_of_ble_eq_true rfl)) (Nat.le_of_ble_eq_true rfl) hRm.2.2 dX2_init_9 (fun c1 u2 f1 => ?_)
  refine zJ.chk _ (fun h2 => ?_)
  refine zJ.chk _ (fun h3 => ?_)
  refine z_putR hc (ci := 2) (k := 0) (by decide) (by decide) zly2 (zkd_lay h2) (zkd_ok h2) wFX2_10 rfl (Or.inr ⟨rfl, hin rfl, rfl⟩) h3 (fun _ _ => rfl) dX2_init_12 ?_
  refine zJ.letM (fun u3 e2 => ?_)
  refine z_aload_n hc dX2_init_15 0 rfl rfl ?_
  refine zJ.chk _ (fun h4 => ?_)
  refine z_new (ci := 6) hc (by decide) zly6 h4 hRm.2.2 wCX2_16 wN6 wI6 dX2_init_16 ?_
  refine zJ.letM (fun u4 e3 => ?_)
  refine z_dup hc dX2_init_19 rfl ?_
  refine z_callIN (t := (gN u3 + 1)) (av := []) (enc' := eV) hc rfl (sSs_initD (gN u3 + 1) _) (host := "OtterWrits") (by decide +kernel) rfl wMX2_18 hpyX6_init hmyX6_init (rm_ok hRm (Nat.le_of_ble_eq_true rfl) (Nat.le_of_ble_eq_true rfl)) (Nat.le_of_ble_eq_true rfl) hRm.2.2 dX2_init_20 (fun c2 u5 f2 => ?_)
  refine zJ.chk _ (fun h5 => ?_)
  refine zJ.chk _ (fun h6 => ?_)
  refine z_putR hc (ci := 2) (k := 1) (by decide) (by decide) zly2 (zkd_lay h5) (zkd_ok h5) wFX2_19 rfl (Or.inr ⟨rfl, hin rfl, rfl⟩) h6 (fun _ _ => rfl) dX2_init_23 ?_
  refine zJ.letM (fun u6 e4 => ?_)
  refine z_aload_n hc dX2_init_26 0 rfl rfl ?_
  refine zJ.chk _ (fun h7 => ?_)
  refine z_new (ci := 5) hc (by decide) zly5 h7 hRm.2.2 wCX2_23 wN5 wI5 dX2_init_27 ?_
  refine zJ.letM (fun u7 e5 => ?_)
  refine z_dup hc dX2_init_30 rfl ?_
  refine z_callIN (t := (gN u6 + 1)) (av := []) (enc' := eV) hc rfl (sSe_initD (gN u6 + 1) _) (host := "OtterWrits") (by decide +kernel) rfl wMX2_25 hpyX5_init hmyX5_init (rm_ok hRm (Nat.le_of_ble_eq_true rfl) (Nat.le_of_ble_eq_true rfl)) (Nat.le_of_ble_eq_true rfl) hRm.2.2 dX2_init_31 (fun c3 u8 f3 => ?_)
  refine zJ.chk _ (fun h8 => ?_)
  refine zJ.chk _ (fun h9 => ?_)
  refine z_putR hc (ci := 2) (k := 2) (by decide) (by decide) zly2 (zkd_lay h8) (zkd_ok h8) wFX2_26 rfl (Or.inr ⟨rfl, hin rfl, rfl⟩) h9 (fun _ _ => rfl) dX2_init_34 ?_
  refine zJ.letM (fun u9 e6 => ?_)
  exact z_vret hc dX2_init_37
set_option maxRecDepth 100000 in
set_option maxHeartbeats 4000000 in
theorem sSt_restD_2b {fin : Unit × zM} (hc : zCx p s mi args meth c (wD D b layC) m0 RX7 cX7_rest 2 none) (hRm : R.frames = 0 ∧ R.locals = 0 ∧ R.cells = zc (wD D b layC) m0 fin.2 ∧ R.slots = zs (wD D b layC) m0 fin.2) {zr2 : Nat → Int32 → zM → Option (Unit × zM)} (hr2 : ∀ (r0 : Nat) (v1 : Int32) (u : zM), zJ eV p l e R s mi args below meth c (wD D b layC) m0 2 fin 2 [(0, .ref r0), (1, .int v1)] [] u (zr2 r0 v1 u)) (r0 : Nat) (v1 : Int32) (u : zM) : zJ eV p l e R s mi args below meth c (wD D b layC) m0 2 fin 2 [(0, .ref r0), (1, .int v1)] [] u (St_restD_2b zr2 r0 v1 u) := by
  unfold St_restD_2b
  refine z_iload_n hc dX7_rest_2 1 rfl rfl ?_
  refine z_iconst (v := 3) hc dX7_rest_3 rfl ?_
  refine z_icmp_ge (tgt := 20) hc dX7_rest_4 (by decide) _ (fun h1 => ?_) (fun h1 => ?_)
  · exact z_vret hc dX7_rest_20
  · refine z_aload_n hc dX7_rest_7 0 rfl rfl ?_
    refine zJ.chk _ (fun h2 => ?_)
    refine zJ.chk _ (fun h3 => ?_)
    refine z_getR (x := (gR u r0 3)) hc (ci := 7) (k := 3) (by decide) (by decide) zly7 (zkd_lay h2) (zkd_ok h2) wFX7_21 rfl dX7_rest_8 rfl h3 ?_
    refine z_iload_n hc dX7_rest_11 1 rfl rfl ?_
    refine z_iconst (v := 0) hc dX7_rest_12 rfl ?_
    refine zJ.chk _ (fun h4 => ?_)
    refine zJ.chk _ (fun h5 => ?_)
    refine z_iast (k := (ix v1)) hc (zkd_lay h4) (zkd_ok h4) h5 rfl dX7_rest_13 ?_
    refine zJ.letM (fun u1 e1 => ?_)
    refine z_iinc (L' := [(1, .int (v1 + 1)), (0, .ref r0)]) hc dX7_rest_14 1 rfl (v := (v1 + 1)) rfl (by decide) rfl rfl ?_
    refine z_goto (tgt := 2) hc dX7_rest_17 (by decide) ?_
    refine zJ.sub (L' := [(0, .ref r0), (1, .int (v1 + 1))]) [1, 0] rfl ?_
    exact hr2 r0 (v1 + 1) _
set_option maxRecDepth 100000 in
set_option maxHeartbeats 4000000 in
theorem sSt_restD_2 {fin : Unit × zM} (hc : zCx p s mi args meth c (wD D b layC) m0 RX7 cX7_rest 2 none) (hRm : R.frames = 0 ∧ R.locals = 0 ∧ R.cells = zc (wD D b layC) m0 fin.2 ∧ R.slots = zs (wD D b layC) m0 fin.2) : ∀ (zf : Nat) (r0 : Nat) (v1 : Int32) (u : zM), zJ eV p l e R s mi args below meth c (wD D b layC) m0 2 fin 2 [(0, .ref r0), (1, .int v1)] [] u (St_restD_2 zf r0 v1 u) := by
  intro zf
  induction zf with
  | zero => intro r0 v1 u; exact zJ.nil
  | succ zf ih => intro r0 v1 u; exact sSt_restD_2b hc hRm ih r0 v1 u
set_option maxRecDepth 100000 in
set_option maxHeartbeats 4000000 in
theorem sSt_restD : ∀ (r0 : Nat) (u : zM) r m1, St_restD r0 u = some (r, m1) → zMet l (wD D b layC) 0 0 yX7_rest cX7_rest 2 none [.ref r0] u (eV r) m1 := by
  intro r0 u
  refine zMet.of (L := [(0, .ref r0)]) RX7 (by decide +kernel) rfl (Nat.le_of_ble_eq_true rfl) (fun _ r m1 h => (zmono_le h).1) rfl (fun p e s mi args below meth c R fin hc hin hRm => ?_)
  unfold St_restD
  refine zJ.mono ?_
  unfold St_restDx
  refine z_iconst (v := 0) hc dX7_rest_0 rfl ?_
  refine z_istore_n (L' := [(1, .int 0), (0, .ref r0)]) hc dX7_rest_1 rfl (by decide) rfl rfl ?_
  refine zJ.sub (L' := [(0, .ref r0), (1, .int 0)]) [1, 0] rfl ?_
  exact sSt_restD_2 hc hRm zF r0 0 _
set_option maxRecDepth 100000 in
set_option maxHeartbeats 4000000 in
theorem sSt_beginD_49b {fin : Unit × zM} (hc : zCx p s mi args meth c (wD D b layC) m0 RX7 cX7_begin 3 none) (hRm : R.frames = 1 ∧ R.locals = 100 ∧ R.cells = zc (wD D b layC) m0 fin.2 ∧ R.slots = zs (wD D b layC) m0 fin.2) {zr49 : Nat → Int32 → zM → Option (Unit × zM)} (hr49 : ∀ (r0 : Nat) (v2 : Int32) (u : zM), zJ eV p l e R s mi args below meth c (wD D b layC) m0 3 fin 49 [(0, .ref r0), (2, .int v2)] [] u (zr49 r0 v2 u)) (r0 : Nat) (v2 : Int32) (u : zM) : zJ eV p l e R s mi args below meth c (wD D b layC) m0 3 fin 49 [(0, .ref r0), (2, .int v2)] [] u (St_beginD_49b zr49 r0 v2 u) := by
  unfold St_beginD_49b
  refine z_iload_n hc dX7_begin_49 1 rfl rfl ?_
  refine z_bipush (v := 6) hc dX7_begin_50 rfl ?_
  refine z_icmp_ge (tgt := 68) hc dX7_begin_52 (by decide) _ (fun h1 => ?_) (fun h1 => ?_)
  · refine z_aload_n hc dX7_begin_68 0 rfl rfl ?_
    refine z_iconst (v := 0) hc dX7_begin_69 rfl ?_
    refine zJ.chk _ (fun h2 => ?_)
    refine z_putI hc (ci := 7) (k := 5) (by decide) (by decide) zly7 (zkd_lay h2) (zkd_ok h2) wFX7_45 rfl rfl rfl rfl dX7_begin_70 ?_
    refine zJ.letM (fun u1 e1 => ?_)
    exact z_vret hc dX7_begin_73
  · refine z_aload_n hc dX7_begin_55 0 rfl rfl ?_
    refine zJ.chk _ (fun h3 => ?_)
    refine zJ.chk _ (fun h4 => ?_)
    refine z_getR (x := (gR u r0 4)) hc (ci := 7) (k := 4) (by decide) (by decide) zly7 (zkd_lay h3) (zkd_ok h3) wFX7_24 rfl dX7_begin_56 rfl h4 ?_
    refine z_iload_n hc dX7_begin_59 1 rfl rfl ?_
    refine z_iconst (v := (-1)) hc dX7_begin_60 rfl ?_
    refine zJ.chk _ (fun h5 => ?_)
    refine zJ.chk _ (fun h6 => ?_)
    refine z_iast (k := (ix v2)) hc (zkd_lay h5) (zkd_ok h5) h6 rfl dX7_begin_61 ?_
    refine zJ.letM (fun u2 e2 => ?_)
    refine z_iinc (L' := [(2, .int (v2 + 1)), (0, .ref r0)]) hc dX7_begin_62 1 rfl (v := (v2 + 1)) rfl (by decide) rfl rfl ?_
    refine z_goto (tgt := 49) hc dX7_begin_65 (by decide) ?_
    refine zJ.sub (L' := [(0, .ref r0), (2, .int (v2 + 1))]) [1, 0] rfl ?_
    exact hr49 r0 (v2 + 1) _
set_option maxRecDepth 100000 in
set_option maxHeartbeats 4000000 in
theorem sSt_beginD_49 {fin : Unit × zM} (hc : zCx p s mi args meth c (wD D b layC) m0 RX7 cX7_begin 3 none) (hRm : R.frames = 1 ∧ R.locals = 100 ∧ R.cells = zc (wD D b layC) m0 fin.2 ∧ R.slots = zs (wD D b layC) m0 fin.2) : ∀ (zf : Nat) (r0 : Nat) (v2 : Int32) (u : zM), zJ eV p l e R s mi args below meth c (wD D b layC) m0 3 fin 49 [(0, .ref r0), (2, .int v2)] [] u (St_beginD_49 zf r0 v2 u) := by
  intro zf
  induction zf with
  | zero => intro r0 v2 u; exact zJ.nil
  | succ zf ih => intro r0 v2 u; exact sSt_beginD_49b hc hRm ih r0 v2 u
set_option maxRecDepth 100000 in
set_option maxHeartbeats 4000000 in
theorem sSt_beginD : ∀ (r0 : Nat) (r1 : Nat) (u : zM) r m1, St_beginD r0 r1 u = some (r, m1) → zMet l (wD D b layC) 1 100 yX7_begin cX7_begin 3 none [.ref r0, .ref r1] u (eV r) m1 := by
  intro r0 r1 u
  refine zMet.of (L := [(0, .ref r0), (1, .ref r1)]) RX7 (by decide +kernel) rfl (Nat.le_of_ble_eq_true rfl) (fun _ r m1 h => (zmono_le h).1) rfl (fun p e s mi args below meth c R fin hc hin hRm => ?_)
  unfold St_beginD
  refine zJ.mono ?_
  unfold St_beginDx
  refine z_aload_n hc dX7_begin_0 1 rfl rfl ?_
  refine zJ.chk _ (fun h1 => ?_)
  refine zJ.chk _ (fun h2 => ?_)
  refine z_getR (x := (gR u r1 4)) hc (ci := 0) (k := 4) (by decide) (by decide) zly0 (zkd_lay h1) (zkd_ok h1) wFX7_27 rfl dX7_begin_1 rfl h2 ?_
  refine z_iconst (v := 0) hc dX7_begin_4 rfl ?_
  refine z_aload_n hc dX7_begin_5 0 rfl rfl ?_
  refine zJ.chk _ (fun h3 => ?_)
  refine zJ.chk _ (fun h4 => ?_)
  refine z_getR (x := (gR u r0 0)) hc (ci := 7) (k := 0) (by decide) (by decide) zly7 (zkd_lay h3) (zkd_ok h3) wFX7_9 rfl dX7_begin_6 rfl h4 ?_
  refine z_iconst (v := 0) hc dX7_begin_9 rfl ?_
  refine z_bipush (v := 7) hc dX7_begin_10 rfl ?_
  refine zJ.chk _ (fun h5 => ?_)
  refine zJ.chk _ (fun h6 => ?_)
  refine zJ.chk _ (fun h7 => ?_)
  refine zJ.chk _ (fun h8 => ?_)
  refine zJ.chk _ (fun h9 => ?_)
  refine zJ.chk _ (fun h10 => ?_)
  refine z_copy (i := 0) (j := 0) (k := 7) hc (zkd_lay h5) (zkd_lay h6) (zkd_ok h5) (zkd_ok h6) h7 h8 (by decide) rfl rfl rfl h9 h10 wAX7_30 wAnat wAst wAin (rm_ok hRm (Nat.le_of_ble_eq_true rfl) (Nat.le_of_ble_eq_true rfl)) (Nat.le_of_ble_eq_true rfl) dX7_begin_12 ?_
  refine zJ.letM (fun u1 e1 => ?_)
  refine z_aload_n hc dX7_begin_15 1 rfl rfl ?_
  refine zJ.chk _ (fun h11 => ?_)
  refine zJ.chk _ (fun h12 => ?_)
  refine z_getR (x := (gR u1 r1 7)) hc (ci := 0) (k := 7) (by decide) (by decide) zly0 (zkd_lay h11) (zkd_ok h11) wFX7_36 rfl dX7_begin_16 rfl h12 ?_
  refine z_iconst (v := 0) hc dX7_begin_19 rfl ?_
  refine z_aload_n hc dX7_begin_20 0 rfl rfl ?_
  refine zJ.chk _ (fun h13 => ?_)
  refine zJ.chk _ (fun h14 => ?_)
  refine z_getR (x := (gR u1 r0 1)) hc (ci := 7) (k := 1) (by decide) (by decide) zly7 (zkd_lay h13) (zkd_ok h13) wFX7_15 rfl dX7_begin_21 rfl h14 ?_
  refine z_iconst (v := 0) hc dX7_begin_24 rfl ?_
  refine z_iconst (v := 5) hc dX7_begin_25 rfl ?_
  refine zJ.chk _ (fun h15 => ?_)
  refine zJ.chk _ (fun h16 => ?_)
  refine zJ.chk _ (fun h17 => ?_)
  refine zJ.chk _ (fun h18 => ?_)
  refine zJ.chk _ (fun h19 => ?_)
  refine zJ.chk _ (fun h20 => ?_)
  refine z_copy (i := 0) (j := 0) (k := 5) hc (zkd_lay h15) (zkd_lay h16) (zkd_ok h15) (zkd_ok h16) h17 h18 (by decide) rfl rfl rfl h19 h20 wAX7_30 wAnat wAst wAin (rm_ok hRm (Nat.le_of_ble_eq_true rfl) (Nat.le_of_ble_eq_true rfl)) (Nat.le_of_ble_eq_true rfl) dX7_begin_26 ?_
  refine zJ.letM (fun u2 e2 => ?_)
  refine z_aload_n hc dX7_begin_29 1 rfl rfl ?_
  refine zJ.chk _ (fun h21 => ?_)
  refine zJ.chk _ (fun h22 => ?_)
  refine z_getR (x := (gR u2 r1 8)) hc (ci := 0) (k := 8) (by decide) (by decide) zly0 (zkd_lay h21) (zkd_ok h21) wFX7_39 rfl dX7_begin_30 rfl h22 ?_
  refine z_iconst (v := 0) hc dX7_begin_33 rfl ?_
  refine z_aload_n hc dX7_begin_34 0 rfl rfl ?_
  refine zJ.chk _ (fun h23 => ?_)
  refine zJ.chk _ (fun h24 => ?_)
  refine z_getR (x := (gR u2 r0 2)) hc (ci := 7) (k := 2) (by decide) (by decide) zly7 (zkd_lay h23) (zkd_ok h23) wFX7_18 rfl dX7_begin_35 rfl h24 ?_
  refine z_iconst (v := 0) hc dX7_begin_38 rfl ?_
  refine z_iconst (v := 3) hc dX7_begin_39 rfl ?_
  refine zJ.chk _ (fun h25 => ?_)
  refine zJ.chk _ (fun h26 => ?_)
  refine zJ.chk _ (fun h27 => ?_)
  refine zJ.chk _ (fun h28 => ?_)
  refine zJ.chk _ (fun h29 => ?_)
  refine zJ.chk _ (fun h30 => ?_)
  refine z_copy (i := 0) (j := 0) (k := 3) hc (zkd_lay h25) (zkd_lay h26) (zkd_ok h25) (zkd_ok h26) h27 h28 (by decide) rfl rfl rfl h29 h30 wAX7_30 wAnat wAst wAin (rm_ok hRm (Nat.le_of_ble_eq_true rfl) (Nat.le_of_ble_eq_true rfl)) (Nat.le_of_ble_eq_true rfl) dX7_begin_40 ?_
  refine zJ.letM (fun u3 e3 => ?_)
  refine z_aload_n hc dX7_begin_43 0 rfl rfl ?_
  refine zJ.chk _ (fun h31 => ?_)
  refine z_callV (av := []) (enc' := eV) hc rfl (sSt_restD r0 _) (ci := 7) (by decide) (zkd_lay h31) (zkd_ok h31) rfl wMX7_42 hpyX7_rest hmyX7_rest (rm_ok hRm (Nat.le_of_ble_eq_true rfl) (Nat.le_of_ble_eq_true rfl)) (Nat.le_of_ble_eq_true rfl) hRm.2.2 dX7_begin_44 (fun c1 u4 f1 => ?_)
  refine z_iconst (v := 0) hc dX7_begin_47 rfl ?_
  refine z_istore_n (L' := [(2, .int 0), (0, .ref r0), (1, .ref r1)]) hc dX7_begin_48 rfl (by decide) rfl rfl ?_
  refine zJ.sub (L' := [(0, .ref r0), (2, .int 0)]) [1, 0] rfl ?_
  exact sSt_beginD_49 hc hRm zF r0 0 _
set_option maxRecDepth 100000 in
set_option maxHeartbeats 4000000 in
theorem sOW_initD_157b {fin : Unit × zM} (hc : zCx p s mi args meth c (wD D b layC) m0 RX9 cX9_init 2 none) (hRm : R.frames = 3 ∧ R.locals = 122 ∧ R.cells = zc (wD D b layC) m0 fin.2 ∧ R.slots = zs (wD D b layC) m0 fin.2) (hin : yX9_init.name = "<init>" → meth.name = "<init>") {zr157 : Nat → Int32 → zM → Option (Unit × zM)} (hr157 : ∀ (r0 : Nat) (v1 : Int32) (u : zM), zJ eV p l e R s mi args below meth c (wD D b layC) m0 2 fin 157 [(0, .ref r0), (1, .int v1)] [] u (zr157 r0 v1 u)) (r0 : Nat) (v1 : Int32) (u : zM) : zJ eV p l e R s mi args below meth c (wD D b layC) m0 2 fin 157 [(0, .ref r0), (1, .int v1)] [] u (OW_initD_157b zr157 r0 v1 u) := by
  unfold OW_initD_157b
  refine z_iload_n hc dX9_init_157 1 rfl rfl ?_
  refine z_iconst (v := 4) hc dX9_init_158 rfl ?_
  refine z_icmp_ge (tgt := 181) hc dX9_init_159 (by decide) _ (fun h1 => ?_) (fun h1 => ?_)
  · refine z_aload_n hc dX9_init_181 0 rfl rfl ?_
    refine zJ.chk _ (fun h2 => ?_)
    refine zJ.chk _ (fun h3 => ?_)
    refine z_getR (x := (gR u r0 5)) hc (ci := 9) (k := 5) (by decide) (by decide) zly9 (zkd_lay h2) (zkd_ok h2) wFX9_39 rfl dX9_init_182 rfl h3 ?_
    refine z_aload_n hc dX9_init_185 0 rfl rfl ?_
    refine zJ.chk _ (fun h4 => ?_)
    refine zJ.chk _ (fun h5 => ?_)
    refine z_getR (x := (gR u r0 1)) hc (ci := 9) (k := 1) (by decide) (by decide) zly9 (zkd_lay h4) (zkd_ok h4) wFX9_19 rfl dX9_init_186 rfl h5 ?_
    refine zJ.chk _ (fun h6 => ?_)
    refine z_callV (av := [.ref (gR u r0 1)]) (enc' := eV) hc rfl (sSt_beginD (gR u r0 5) (gR u r0 1) _) (ci := 7) (by decide) (zkd_lay h6) (zkd_ok h6) rfl wMX9_75 hpyX7_begin hmyX7_begin (rm_ok hRm (Nat.le_of_ble_eq_true rfl) (Nat.le_of_ble_eq_true rfl)) (Nat.le_of_ble_eq_true rfl) hRm.2.2 dX9_init_189 (fun c1 u1 f1 => ?_)
    exact z_vret hc dX9_init_192
  · refine z_aload_n hc dX9_init_162 0 rfl rfl ?_
    refine zJ.chk _ (fun h7 => ?_)
    refine zJ.chk _ (fun h8 => ?_)
    refine z_getR (x := (gR u r0 10)) hc (ci := 9) (k := 10) (by decide) (by decide) zly9 (zkd_lay h7) (zkd_ok h7) wFX9_66 rfl dX9_init_163 rfl h8 ?_
    refine z_iload_n hc dX9_init_166 1 rfl rfl ?_
    refine zJ.chk _ (fun h9 => ?_)
    refine z_new (ci := 2) hc (by decide) zly2 h9 hRm.2.2 wCX9_64 wN2 wI2 dX9_init_167 ?_
    refine zJ.letM (fun u2 e1 => ?_)
    refine z_dup hc dX9_init_170 rfl ?_
    refine z_callIN (t := (gN u + 1)) (av := []) (enc' := eV) hc rfl (sMk_initD (gN u + 1) _) (host := "OtterWrits") (by decide +kernel) rfl wMX9_74 hpyX2_init hmyX2_init (rm_ok hRm (Nat.le_of_ble_eq_true rfl) (Nat.le_of_ble_eq_true rfl)) (Nat.le_of_ble_eq_true rfl) hRm.2.2 dX9_init_171 (fun c2 u3 f2 => ?_)
    refine zJ.chk _ (fun h10 => ?_)
    refine zJ.chk _ (fun h11 => ?_)
    refine zJ.chk _ (fun h12 => ?_)
    refine z_aast (k := (ix v1)) (ci := 2) hc (by decide) (zkd_lay h10) (zkd_ok h10) (zkd_lay h11) (zkd_ok h11) h12 rfl dX9_init_174 ?_
    refine zJ.letM (fun u4 e2 => ?_)
    refine z_iinc (L' := [(1, .int (v1 + 1)), (0, .ref r0)]) hc dX9_init_175 1 rfl (v := (v1 + 1)) rfl (by decide) rfl rfl ?_
    refine z_goto (tgt := 157) hc dX9_init_178 (by decide) ?_
    refine zJ.sub (L' := [(0, .ref r0), (1, .int (v1 + 1))]) [1, 0] rfl ?_
    exact hr157 r0 (v1 + 1) _
set_option maxRecDepth 100000 in
set_option maxHeartbeats 4000000 in
theorem sOW_initD_157 {fin : Unit × zM} (hc : zCx p s mi args meth c (wD D b layC) m0 RX9 cX9_init 2 none) (hRm : R.frames = 3 ∧ R.locals = 122 ∧ R.cells = zc (wD D b layC) m0 fin.2 ∧ R.slots = zs (wD D b layC) m0 fin.2) (hin : yX9_init.name = "<init>" → meth.name = "<init>") : ∀ (zf : Nat) (r0 : Nat) (v1 : Int32) (u : zM), zJ eV p l e R s mi args below meth c (wD D b layC) m0 2 fin 157 [(0, .ref r0), (1, .int v1)] [] u (OW_initD_157 zf r0 v1 u) := by
  intro zf
  induction zf with
  | zero => intro r0 v1 u; exact zJ.nil
  | succ zf ih => intro r0 v1 u; exact sOW_initD_157b hc hRm hin ih r0 v1 u
set_option maxRecDepth 100000 in
set_option maxHeartbeats 4000000 in
theorem sOW_initD_130b {fin : Unit × zM} (hc : zCx p s mi args meth c (wD D b layC) m0 RX9 cX9_init 2 none) (hRm : R.frames = 3 ∧ R.locals = 122 ∧ R.cells = zc (wD D b layC) m0 fin.2 ∧ R.slots = zs (wD D b layC) m0 fin.2) (hin : yX9_init.name = "<init>" → meth.name = "<init>") {zr130 : Nat → Int32 → zM → Option (Unit × zM)} (hr130 : ∀ (r0 : Nat) (v1 : Int32) (u : zM), zJ eV p l e R s mi args below meth c (wD D b layC) m0 2 fin 130 [(0, .ref r0), (1, .int v1)] [] u (zr130 r0 v1 u)) (r0 : Nat) (v1 : Int32) (u : zM) : zJ eV p l e R s mi args below meth c (wD D b layC) m0 2 fin 130 [(0, .ref r0), (1, .int v1)] [] u (OW_initD_130b zr130 r0 v1 u) := by
  unfold OW_initD_130b
  refine z_iload_n hc dX9_init_130 1 rfl rfl ?_
  refine z_bipush (v := 16) hc dX9_init_131 rfl ?_
  refine z_icmp_ge (tgt := 155) hc dX9_init_133 (by decide) _ (fun h1 => ?_) (fun h1 => ?_)
  · refine z_iconst (v := 0) hc dX9_init_155 rfl ?_
    refine z_istore_n (L' := [(1, .int 0), (0, .ref r0)]) hc dX9_init_156 rfl (by decide) rfl rfl ?_
    refine zJ.sub (L' := [(0, .ref r0), (1, .int 0)]) [1, 0] rfl ?_
    exact sOW_initD_157 hc hRm hin zF r0 0 _
  · refine z_aload_n hc dX9_init_136 0 rfl rfl ?_
    refine zJ.chk _ (fun h2 => ?_)
    refine zJ.chk _ (fun h3 => ?_)
    refine z_getR (x := (gR u r0 9)) hc (ci := 9) (k := 9) (by decide) (by decide) zly9 (zkd_lay h2) (zkd_ok h2) wFX9_60 rfl dX9_init_137 rfl h3 ?_
    refine z_iload_n hc dX9_init_140 1 rfl rfl ?_
    refine zJ.chk _ (fun h4 => ?_)
    refine z_new (ci := 7) hc (by decide) zly7 h4 hRm.2.2 wCX9_36 wN7 wI7 dX9_init_141 ?_
    refine zJ.letM (fun u1 e1 => ?_)
    refine z_dup hc dX9_init_144 rfl ?_
    refine z_callIN (t := (gN u + 1)) (av := []) (enc' := eV) hc rfl (sSt_initD (gN u + 1) _) (host := "OtterWrits") (by decide +kernel) rfl wMX9_38 hpyX7_init hmyX7_init (rm_ok hRm (Nat.le_of_ble_eq_true rfl) (Nat.le_of_ble_eq_true rfl)) (Nat.le_of_ble_eq_true rfl) hRm.2.2 dX9_init_145 (fun c1 u2 f1 => ?_)
    refine zJ.chk _ (fun h5 => ?_)
    refine zJ.chk _ (fun h6 => ?_)
    refine zJ.chk _ (fun h7 => ?_)
    refine z_aast (k := (ix v1)) (ci := 7) hc (by decide) (zkd_lay h5) (zkd_ok h5) (zkd_lay h6) (zkd_ok h6) h7 rfl dX9_init_148 ?_
    refine zJ.letM (fun u3 e2 => ?_)
    refine z_iinc (L' := [(1, .int (v1 + 1)), (0, .ref r0)]) hc dX9_init_149 1 rfl (v := (v1 + 1)) rfl (by decide) rfl rfl ?_
    refine z_goto (tgt := 130) hc dX9_init_152 (by decide) ?_
    refine zJ.sub (L' := [(0, .ref r0), (1, .int (v1 + 1))]) [1, 0] rfl ?_
    exact hr130 r0 (v1 + 1) _
set_option maxRecDepth 100000 in
set_option maxHeartbeats 4000000 in
theorem sOW_initD_130 {fin : Unit × zM} (hc : zCx p s mi args meth c (wD D b layC) m0 RX9 cX9_init 2 none) (hRm : R.frames = 3 ∧ R.locals = 122 ∧ R.cells = zc (wD D b layC) m0 fin.2 ∧ R.slots = zs (wD D b layC) m0 fin.2) (hin : yX9_init.name = "<init>" → meth.name = "<init>") : ∀ (zf : Nat) (r0 : Nat) (v1 : Int32) (u : zM), zJ eV p l e R s mi args below meth c (wD D b layC) m0 2 fin 130 [(0, .ref r0), (1, .int v1)] [] u (OW_initD_130 zf r0 v1 u) := by
  intro zf
  induction zf with
  | zero => intro r0 v1 u; exact zJ.nil
  | succ zf ih => intro r0 v1 u; exact sOW_initD_130b hc hRm hin ih r0 v1 u
set_option maxRecDepth 100000 in
set_option maxHeartbeats 4000000 in
theorem sOW_initD : ∀ (r0 : Nat) (u : zM) r m1, OW_initD r0 u = some (r, m1) → zMet l (wD D b layC) 3 122 yX9_init cX9_init 2 none [.ref r0] u (eV r) m1 := by
  intro r0 u
  refine zMet.of (L := [(0, .ref r0)]) RX9 (by decide +kernel) rfl (Nat.le_of_ble_eq_true rfl) (fun _ r m1 h => (zmono_le h).1) rfl (fun p e s mi args below meth c R fin hc hin hRm => ?_)
  unfold OW_initD
  refine zJ.mono ?_
  unfold OW_initDx
  refine z_aload_n hc dX9_init_0 0 rfl rfl ?_
  refine z_objInit hc wBX9_1 wBin wBco (rm_ok hRm (Nat.le_of_ble_eq_true rfl) (Nat.le_of_ble_eq_true rfl)) (Nat.le_of_ble_eq_true rfl) dX9_init_1 ?_
  refine z_aload_n hc dX9_init_4 0 rfl rfl ?_
  refine zJ.chk _ (fun h1 => ?_)
  refine z_new (ci := 8) hc (by decide) zly8 h1 hRm.2.2 wCX9_7 wN8 wI8 dX9_init_5 ?_
  refine zJ.letM (fun u1 e1 => ?_)
  refine z_dup hc dX9_init_8 rfl ?_
  refine z_callIN (t := (gN u + 1)) (av := []) (enc' := eV) hc rfl (sTa_initD (gN u + 1) _) (host := "OtterWrits") (by decide +kernel) rfl wMX9_9 hpyX8_init hmyX8_init (rm_ok hRm (Nat.le_of_ble_eq_true rfl) (Nat.le_of_ble_eq_true rfl)) (Nat.le_of_ble_eq_true rfl) hRm.2.2 dX9_init_9 (fun c1 u2 f1 => ?_)
  refine zJ.chk _ (fun h2 => ?_)
  refine zJ.chk _ (fun h3 => ?_)
  refine z_putR hc (ci := 9) (k := 0) (by decide) (by decide) zly9 (zkd_lay h2) (zkd_ok h2) wFX9_10 rfl (Or.inr ⟨rfl, hin rfl, rfl⟩) h3 (fun _ _ => rfl) dX9_init_12 ?_
  refine zJ.letM (fun u3 e2 => ?_)
  refine z_aload_n hc dX9_init_15 0 rfl rfl ?_
  refine zJ.chk _ (fun h4 => ?_)
  refine z_new (ci := 0) hc (by decide) zly0 h4 hRm.2.2 wCX9_16 wN0 wI0 dX9_init_16 ?_
  refine zJ.letM (fun u4 e3 => ?_)
  refine z_dup hc dX9_init_19 rfl ?_
  refine z_callIN (t := (gN u3 + 1)) (av := []) (enc' := eV) hc rfl (sCo_initD (gN u3 + 1) _) (host := "OtterWrits") (by decide +kernel) rfl wMX9_18 hpyX0_init hmyX0_init (rm_ok hRm (Nat.le_of_ble_eq_true rfl) (Nat.le_of_ble_eq_true rfl)) (Nat.le_of_ble_eq_true rfl) hRm.2.2 dX9_init_20 (fun c2 u5 f2 => ?_)
  refine zJ.chk _ (fun h5 => ?_)
  refine zJ.chk _ (fun h6 => ?_)
  refine z_putR hc (ci := 9) (k := 1) (by decide) (by decide) zly9 (zkd_lay h5) (zkd_ok h5) wFX9_19 rfl (Or.inl rfl) h6 (fun _ _ => rfl) dX9_init_23 ?_
  refine zJ.letM (fun u6 e4 => ?_)
  refine z_aload_n hc dX9_init_26 0 rfl rfl ?_
  refine zJ.chk _ (fun h7 => ?_)
  refine z_new (ci := 0) hc (by decide) zly0 h7 hRm.2.2 wCX9_16 wN0 wI0 dX9_init_27 ?_
  refine zJ.letM (fun u7 e5 => ?_)
  refine z_dup hc dX9_init_30 rfl ?_
  refine z_callIN (t := (gN u6 + 1)) (av := []) (enc' := eV) hc rfl (sCo_initD (gN u6 + 1) _) (host := "OtterWrits") (by decide +kernel) rfl wMX9_18 hpyX0_init hmyX0_init (rm_ok hRm (Nat.le_of_ble_eq_true rfl) (Nat.le_of_ble_eq_true rfl)) (Nat.le_of_ble_eq_true rfl) hRm.2.2 dX9_init_31 (fun c3 u8 f3 => ?_)
  refine zJ.chk _ (fun h8 => ?_)
  refine zJ.chk _ (fun h9 => ?_)
  refine z_putR hc (ci := 9) (k := 2) (by decide) (by decide) zly9 (zkd_lay h8) (zkd_ok h8) wFX9_23 rfl (Or.inl rfl) h9 (fun _ _ => rfl) dX9_init_34 ?_
  refine zJ.letM (fun u9 e6 => ?_)
  refine z_aload_n hc dX9_init_37 0 rfl rfl ?_
  refine zJ.chk _ (fun h10 => ?_)
  refine z_new (ci := 6) hc (by decide) zly6 h10 hRm.2.2 wCX9_26 wN6 wI6 dX9_init_38 ?_
  refine zJ.letM (fun u10 e7 => ?_)
  refine z_dup hc dX9_init_41 rfl ?_
  refine z_callIN (t := (gN u9 + 1)) (av := []) (enc' := eV) hc rfl (sSs_initD (gN u9 + 1) _) (host := "OtterWrits") (by decide +kernel) rfl wMX9_28 hpyX6_init hmyX6_init (rm_ok hRm (Nat.le_of_ble_eq_true rfl) (Nat.le_of_ble_eq_true rfl)) (Nat.le_of_ble_eq_true rfl) hRm.2.2 dX9_init_42 (fun c4 u11 f4 => ?_)
  refine zJ.chk _ (fun h11 => ?_)
  refine zJ.chk _ (fun h12 => ?_)
  refine z_putR hc (ci := 9) (k := 3) (by decide) (by decide) zly9 (zkd_lay h11) (zkd_ok h11) wFX9_29 rfl (Or.inl rfl) h12 (fun _ _ => rfl) dX9_init_45 ?_
  refine zJ.letM (fun u12 e8 => ?_)
  refine z_aload_n hc dX9_init_48 0 rfl rfl ?_
  refine zJ.chk _ (fun h13 => ?_)
  refine z_new (ci := 6) hc (by decide) zly6 h13 hRm.2.2 wCX9_26 wN6 wI6 dX9_init_49 ?_
  refine zJ.letM (fun u13 e9 => ?_)
  refine z_dup hc dX9_init_52 rfl ?_
  refine z_callIN (t := (gN u12 + 1)) (av := []) (enc' := eV) hc rfl (sSs_initD (gN u12 + 1) _) (host := "OtterWrits") (by decide +kernel) rfl wMX9_28 hpyX6_init hmyX6_init (rm_ok hRm (Nat.le_of_ble_eq_true rfl) (Nat.le_of_ble_eq_true rfl)) (Nat.le_of_ble_eq_true rfl) hRm.2.2 dX9_init_53 (fun c5 u14 f5 => ?_)
  refine zJ.chk _ (fun h14 => ?_)
  refine zJ.chk _ (fun h15 => ?_)
  refine z_putR hc (ci := 9) (k := 4) (by decide) (by decide) zly9 (zkd_lay h14) (zkd_ok h14) wFX9_33 rfl (Or.inl rfl) h15 (fun _ _ => rfl) dX9_init_56 ?_
  refine zJ.letM (fun u15 e10 => ?_)
  refine z_aload_n hc dX9_init_59 0 rfl rfl ?_
  refine zJ.chk _ (fun h16 => ?_)
  refine z_new (ci := 7) hc (by decide) zly7 h16 hRm.2.2 wCX9_36 wN7 wI7 dX9_init_60 ?_
  refine zJ.letM (fun u16 e11 => ?_)
  refine z_dup hc dX9_init_63 rfl ?_
  refine z_callIN (t := (gN u15 + 1)) (av := []) (enc' := eV) hc rfl (sSt_initD (gN u15 + 1) _) (host := "OtterWrits") (by decide +kernel) rfl wMX9_38 hpyX7_init hmyX7_init (rm_ok hRm (Nat.le_of_ble_eq_true rfl) (Nat.le_of_ble_eq_true rfl)) (Nat.le_of_ble_eq_true rfl) hRm.2.2 dX9_init_64 (fun c6 u17 f6 => ?_)
  refine zJ.chk _ (fun h17 => ?_)
  refine zJ.chk _ (fun h18 => ?_)
  refine z_putR hc (ci := 9) (k := 5) (by decide) (by decide) zly9 (zkd_lay h17) (zkd_ok h17) wFX9_39 rfl (Or.inr ⟨rfl, hin rfl, rfl⟩) h18 (fun _ _ => rfl) dX9_init_67 ?_
  refine zJ.letM (fun u18 e12 => ?_)
  refine z_aload_n hc dX9_init_70 0 rfl rfl ?_
  refine zJ.chk _ (fun h19 => ?_)
  refine z_new (ci := 7) hc (by decide) zly7 h19 hRm.2.2 wCX9_36 wN7 wI7 dX9_init_71 ?_
  refine zJ.letM (fun u19 e13 => ?_)
  refine z_dup hc dX9_init_74 rfl ?_
  refine z_callIN (t := (gN u18 + 1)) (av := []) (enc' := eV) hc rfl (sSt_initD (gN u18 + 1) _) (host := "OtterWrits") (by decide +kernel) rfl wMX9_38 hpyX7_init hmyX7_init (rm_ok hRm (Nat.le_of_ble_eq_true rfl) (Nat.le_of_ble_eq_true rfl)) (Nat.le_of_ble_eq_true rfl) hRm.2.2 dX9_init_75 (fun c7 u20 f7 => ?_)
  refine zJ.chk _ (fun h20 => ?_)
  refine zJ.chk _ (fun h21 => ?_)
  refine z_putR hc (ci := 9) (k := 6) (by decide) (by decide) zly9 (zkd_lay h20) (zkd_ok h20) wFX9_43 rfl (Or.inr ⟨rfl, hin rfl, rfl⟩) h21 (fun _ _ => rfl) dX9_init_78 ?_
  refine zJ.letM (fun u21 e14 => ?_)
  refine z_aload_n hc dX9_init_81 0 rfl rfl ?_
  refine zJ.chk _ (fun h22 => ?_)
  refine z_new (ci := 5) hc (by decide) zly5 h22 hRm.2.2 wCX9_46 wN5 wI5 dX9_init_82 ?_
  refine zJ.letM (fun u22 e15 => ?_)
  refine z_dup hc dX9_init_85 rfl ?_
  refine z_callIN (t := (gN u21 + 1)) (av := []) (enc' := eV) hc rfl (sSe_initD (gN u21 + 1) _) (host := "OtterWrits") (by decide +kernel) rfl wMX9_48 hpyX5_init hmyX5_init (rm_ok hRm (Nat.le_of_ble_eq_true rfl) (Nat.le_of_ble_eq_true rfl)) (Nat.le_of_ble_eq_true rfl) hRm.2.2 dX9_init_86 (fun c8 u23 f8 => ?_)
  refine zJ.chk _ (fun h23 => ?_)
  refine zJ.chk _ (fun h24 => ?_)
  refine z_putR hc (ci := 9) (k := 7) (by decide) (by decide) zly9 (zkd_lay h23) (zkd_ok h23) wFX9_49 rfl (Or.inr ⟨rfl, hin rfl, rfl⟩) h24 (fun _ _ => rfl) dX9_init_89 ?_
  refine zJ.letM (fun u24 e16 => ?_)
  refine z_aload_n hc dX9_init_92 0 rfl rfl ?_
  refine zJ.chk _ (fun h25 => ?_)
  refine z_new (ci := 4) hc (by decide) zly4 h25 hRm.2.2 wCX9_53 wN4 wI4 dX9_init_93 ?_
  refine zJ.letM (fun u25 e17 => ?_)
  refine z_dup hc dX9_init_96 rfl ?_
  refine z_callIN (t := (gN u24 + 1)) (av := []) (enc' := eV) hc rfl (sOu_initD (gN u24 + 1) _) (host := "OtterWrits") (by decide +kernel) rfl wMX9_55 hpyX4_init hmyX4_init (rm_ok hRm (Nat.le_of_ble_eq_true rfl) (Nat.le_of_ble_eq_true rfl)) (Nat.le_of_ble_eq_true rfl) hRm.2.2 dX9_init_97 (fun c9 u26 f9 => ?_)
  refine zJ.chk _ (fun h26 => ?_)
  refine zJ.chk _ (fun h27 => ?_)
  refine z_putR hc (ci := 9) (k := 8) (by decide) (by decide) zly9 (zkd_lay h26) (zkd_ok h26) wFX9_56 rfl (Or.inr ⟨rfl, hin rfl, rfl⟩) h27 (fun _ _ => rfl) dX9_init_100 ?_
  refine zJ.letM (fun u27 e18 => ?_)
  refine z_aload_n hc dX9_init_103 0 rfl rfl ?_
  refine z_bipush (v := 16) hc dX9_init_104 rfl ?_
  refine zJ.cut _ (fun _ => zJ.nil) (fun h28 => ?_)
  refine zJ.chk _ (fun h29 => ?_)
  refine zJ.chk _ (fun h30 => ?_)
  refine z_anew (C := RX7) hc (by decide +kernel) h28 rfl h29 h30 hRm.2.2 wCX9_36 dX9_init_106 ?_
  refine zJ.letM (fun u28 e19 => ?_)
  refine zJ.chk _ (fun h31 => ?_)
  refine zJ.chk _ (fun h32 => ?_)
  refine z_putR hc (ci := 9) (k := 9) (by decide) (by decide) zly9 (zkd_lay h31) (zkd_ok h31) wFX9_60 rfl (Or.inr ⟨rfl, hin rfl, rfl⟩) h32 (fun _ _ => rfl) dX9_init_109 ?_
  refine zJ.letM (fun u29 e20 => ?_)
  refine z_aload_n hc dX9_init_112 0 rfl rfl ?_
  refine z_iconst (v := 4) hc dX9_init_113 rfl ?_
  refine zJ.cut _ (fun _ => zJ.nil) (fun h33 => ?_)
  refine zJ.chk _ (fun h34 => ?_)
  refine zJ.chk _ (fun h35 => ?_)
  refine z_anew (C := RX2) hc (by decide +kernel) h33 rfl h34 h35 hRm.2.2 wCX9_64 dX9_init_114 ?_
  refine zJ.letM (fun u30 e21 => ?_)
  refine zJ.chk _ (fun h36 => ?_)
  refine zJ.chk _ (fun h37 => ?_)
  refine z_putR hc (ci := 9) (k := 10) (by decide) (by decide) zly9 (zkd_lay h36) (zkd_ok h36) wFX9_66 rfl (Or.inr ⟨rfl, hin rfl, rfl⟩) h37 (fun _ _ => rfl) dX9_init_117 ?_
  refine zJ.letM (fun u31 e22 => ?_)
  refine z_aload_n hc dX9_init_120 0 rfl rfl ?_
  refine z_bipush (v := 10) hc dX9_init_121 rfl ?_
  refine zJ.cut _ (fun _ => zJ.nil) (fun h38 => ?_)
  refine zJ.chk _ (fun h39 => ?_)
  refine zJ.chk _ (fun h40 => ?_)
  refine z_newa_int hc h38 rfl h39 h40 hRm.2.2 wRint dX9_init_123 ?_
  refine zJ.letM (fun u32 e23 => ?_)
  refine zJ.chk _ (fun h41 => ?_)
  refine zJ.chk _ (fun h42 => ?_)
  refine z_putR hc (ci := 9) (k := 11) (by decide) (by decide) zly9 (zkd_lay h41) (zkd_ok h41) wFX9_70 rfl (Or.inr ⟨rfl, hin rfl, rfl⟩) h42 (fun _ _ => rfl) dX9_init_125 ?_
  refine zJ.letM (fun u33 e24 => ?_)
  refine z_iconst (v := 0) hc dX9_init_128 rfl ?_
  refine z_istore_n (L' := [(1, .int 0), (0, .ref r0)]) hc dX9_init_129 rfl (by decide) rfl rfl ?_
  refine zJ.sub (L' := [(0, .ref r0), (1, .int 0)]) [1, 0] rfl ?_
  exact sOW_initD_130 hc hRm hin zF r0 0 _
set_option maxRecDepth 100000 in
set_option maxHeartbeats 4000000 in
theorem sMo_fresh0D_25 {fin : Unit × zM} (hc : zCx p s mi args meth c (wD D b layM) m0 RX10 cX10_fresh0 2 none) (hRm : R.frames = 0 ∧ R.locals = 0 ∧ R.cells = zc (wD D b layM) m0 fin.2 ∧ R.slots = zs (wD D b layM) m0 fin.2) {zr2 : Nat → Int32 → zM → Option (Unit × zM)} (hr2 : ∀ (r0 : Nat) (v1 : Int32) (u : zM), zJ eV p l e R s mi args below meth c (wD D b layM) m0 2 fin 2 [(0, .ref r0), (1, .int v1)] [] u (zr2 r0 v1 u)) (r0 : Nat) (v1 : Int32) (s0 : Nat) (s1 : Int32) (u : zM) : zJ eV p l e R s mi args below meth c (wD D b layM) m0 2 fin 25 [(0, .ref r0), (1, .int v1)] [.int s1, .ref s0] u (Mo_fresh0D_25 zr2 r0 v1 s0 s1 u) := by
  unfold Mo_fresh0D_25
  refine z_iload_n hc dX10_fresh0_25 1 rfl rfl ?_
  refine z_bipush (v := 19) hc dX10_fresh0_26 rfl ?_
  refine z_icmp_lt (tgt := 35) hc dX10_fresh0_28 (by decide) _ (fun h1 => ?_) (fun h1 => ?_)
  · refine z_iconst (v := 0) hc dX10_fresh0_35 rfl ?_
    refine zJ.chk _ (fun h2 => ?_)
    refine zJ.chk _ (fun h3 => ?_)
    refine z_iast (k := (ix s1)) hc (zkd_lay h2) (zkd_ok h2) h3 rfl dX10_fresh0_36 ?_
    refine zJ.letM (fun u1 e1 => ?_)
    refine z_iinc (L' := [(1, .int (v1 + 1)), (0, .ref r0)]) hc dX10_fresh0_37 1 rfl (v := (v1 + 1)) rfl (by decide) rfl rfl ?_
    refine z_goto (tgt := 2) hc dX10_fresh0_40 (by decide) ?_
    refine zJ.sub (L' := [(0, .ref r0), (1, .int (v1 + 1))]) [1, 0] rfl ?_
    exact hr2 r0 (v1 + 1) _
  · refine z_iconst (v := (-1)) hc dX10_fresh0_31 rfl ?_
    refine z_goto (tgt := 36) hc dX10_fresh0_32 (by decide) ?_
    refine zJ.chk _ (fun h4 => ?_)
    refine zJ.chk _ (fun h5 => ?_)
    refine z_iast (k := (ix s1)) hc (zkd_lay h4) (zkd_ok h4) h5 rfl dX10_fresh0_36 ?_
    refine zJ.letM (fun u2 e2 => ?_)
    refine z_iinc (L' := [(1, .int (v1 + 1)), (0, .ref r0)]) hc dX10_fresh0_37 1 rfl (v := (v1 + 1)) rfl (by decide) rfl rfl ?_
    refine z_goto (tgt := 2) hc dX10_fresh0_40 (by decide) ?_
    refine zJ.sub (L' := [(0, .ref r0), (1, .int (v1 + 1))]) [1, 0] rfl ?_
    exact hr2 r0 (v1 + 1) _
set_option maxRecDepth 100000 in
set_option maxHeartbeats 4000000 in
theorem sMo_fresh0D_110b {fin : Unit × zM} (hc : zCx p s mi args meth c (wD D b layM) m0 RX10 cX10_fresh0 2 none) (hRm : R.frames = 0 ∧ R.locals = 0 ∧ R.cells = zc (wD D b layM) m0 fin.2 ∧ R.slots = zs (wD D b layM) m0 fin.2) {zr110 : Nat → Int32 → zM → Option (Unit × zM)} (hr110 : ∀ (r0 : Nat) (v1 : Int32) (u : zM), zJ eV p l e R s mi args below meth c (wD D b layM) m0 2 fin 110 [(0, .ref r0), (1, .int v1)] [] u (zr110 r0 v1 u)) (r0 : Nat) (v1 : Int32) (u : zM) : zJ eV p l e R s mi args below meth c (wD D b layM) m0 2 fin 110 [(0, .ref r0), (1, .int v1)] [] u (Mo_fresh0D_110b zr110 r0 v1 u) := by
  unfold Mo_fresh0D_110b
  refine z_iload_n hc dX10_fresh0_110 1 rfl rfl ?_
  refine z_aload_n hc dX10_fresh0_111 0 rfl rfl ?_
  refine zJ.chk _ (fun h1 => ?_)
  refine zJ.chk _ (fun h2 => ?_)
  refine z_getR (x := (gR u r0 10)) hc (ci := 10) (k := 10) (by decide) (by decide) zly10 (zkd_lay h1) (zkd_ok h1) wFX10_13 rfl dX10_fresh0_112 rfl h2 ?_
  refine z_iconst (v := 3) hc dX10_fresh0_115 rfl ?_
  refine zJ.chk _ (fun h3 => ?_)
  refine zJ.chk _ (fun h4 => ?_)
  refine z_iald (k := (ix 3)) hc (zkd_lay h3) (zkd_ok h3) h4 rfl dX10_fresh0_116 ?_
  refine z_icmp_ge (tgt := 141) hc dX10_fresh0_117 (by decide) _ (fun h5 => ?_) (fun h5 => ?_)
  · exact z_vret hc dX10_fresh0_141
  · refine z_aload_n hc dX10_fresh0_120 0 rfl rfl ?_
    refine zJ.chk _ (fun h6 => ?_)
    refine zJ.chk _ (fun h7 => ?_)
    refine z_getR (x := (gR u r0 50)) hc (ci := 10) (k := 50) (by decide) (by decide) zly10 (zkd_lay h6) (zkd_ok h6) wFX10_126 rfl dX10_fresh0_121 rfl h7 ?_
    refine z_bipush (v := 13) hc dX10_fresh0_124 rfl ?_
    refine z_iload_n hc dX10_fresh0_126 1 rfl rfl ?_
    refine z_iadd hc dX10_fresh0_127 ?_
    refine z_aload_n hc dX10_fresh0_128 0 rfl rfl ?_
    refine zJ.chk _ (fun h8 => ?_)
    refine zJ.chk _ (fun h9 => ?_)
    refine z_getR (x := (gR u r0 19)) hc (ci := 10) (k := 19) (by decide) (by decide) zly10 (zkd_lay h8) (zkd_ok h8) wFX10_41 rfl dX10_fresh0_129 rfl h9 ?_
    refine z_iload_n hc dX10_fresh0_132 1 rfl rfl ?_
    refine zJ.chk _ (fun h10 => ?_)
    refine zJ.chk _ (fun h11 => ?_)
    refine z_iald (k := (ix v1)) hc (zkd_lay h10) (zkd_ok h10) h11 rfl dX10_fresh0_133 ?_
    refine zJ.chk _ (fun h12 => ?_)
    refine zJ.chk _ (fun h13 => ?_)
    refine z_iast (k := (ix (13 + v1))) hc (zkd_lay h12) (zkd_ok h12) h13 rfl dX10_fresh0_134 ?_
    refine zJ.letM (fun u1 e1 => ?_)
    refine z_iinc (L' := [(1, .int (v1 + 1)), (0, .ref r0)]) hc dX10_fresh0_135 1 rfl (v := (v1 + 1)) rfl (by decide) rfl rfl ?_
    refine z_goto (tgt := 110) hc dX10_fresh0_138 (by decide) ?_
    refine zJ.sub (L' := [(0, .ref r0), (1, .int (v1 + 1))]) [1, 0] rfl ?_
    exact hr110 r0 (v1 + 1) _
set_option maxRecDepth 100000 in
set_option maxHeartbeats 4000000 in
theorem sMo_fresh0D_110 {fin : Unit × zM} (hc : zCx p s mi args meth c (wD D b layM) m0 RX10 cX10_fresh0 2 none) (hRm : R.frames = 0 ∧ R.locals = 0 ∧ R.cells = zc (wD D b layM) m0 fin.2 ∧ R.slots = zs (wD D b layM) m0 fin.2) : ∀ (zf : Nat) (r0 : Nat) (v1 : Int32) (u : zM), zJ eV p l e R s mi args below meth c (wD D b layM) m0 2 fin 110 [(0, .ref r0), (1, .int v1)] [] u (Mo_fresh0D_110 zf r0 v1 u) := by
  intro zf
  induction zf with
  | zero => intro r0 v1 u; exact zJ.nil
  | succ zf ih => intro r0 v1 u; exact sMo_fresh0D_110b hc hRm ih r0 v1 u
set_option maxRecDepth 100000 in
set_option maxHeartbeats 4000000 in
theorem sMo_fresh0D_77b {fin : Unit × zM} (hc : zCx p s mi args meth c (wD D b layM) m0 RX10 cX10_fresh0 2 none) (hRm : R.frames = 0 ∧ R.locals = 0 ∧ R.cells = zc (wD D b layM) m0 fin.2 ∧ R.slots = zs (wD D b layM) m0 fin.2) {zr77 : Nat → Int32 → zM → Option (Unit × zM)} (hr77 : ∀ (r0 : Nat) (v1 : Int32) (u : zM), zJ eV p l e R s mi args below meth c (wD D b layM) m0 2 fin 77 [(0, .ref r0), (1, .int v1)] [] u (zr77 r0 v1 u)) (r0 : Nat) (v1 : Int32) (u : zM) : zJ eV p l e R s mi args below meth c (wD D b layM) m0 2 fin 77 [(0, .ref r0), (1, .int v1)] [] u (Mo_fresh0D_77b zr77 r0 v1 u) := by
  unfold Mo_fresh0D_77b
  refine z_iload_n hc dX10_fresh0_77 1 rfl rfl ?_
  refine z_aload_n hc dX10_fresh0_78 0 rfl rfl ?_
  refine zJ.chk _ (fun h1 => ?_)
  refine zJ.chk _ (fun h2 => ?_)
  refine z_getR (x := (gR u r0 10)) hc (ci := 10) (k := 10) (by decide) (by decide) zly10 (zkd_lay h1) (zkd_ok h1) wFX10_13 rfl dX10_fresh0_79 rfl h2 ?_
  refine z_iconst (v := 2) hc dX10_fresh0_82 rfl ?_
  refine zJ.chk _ (fun h3 => ?_)
  refine zJ.chk _ (fun h4 => ?_)
  refine z_iald (k := (ix 2)) hc (zkd_lay h3) (zkd_ok h3) h4 rfl dX10_fresh0_83 ?_
  refine z_icmp_ge (tgt := 108) hc dX10_fresh0_84 (by decide) _ (fun h5 => ?_) (fun h5 => ?_)
  · refine z_iconst (v := 0) hc dX10_fresh0_108 rfl ?_
    refine z_istore_n (L' := [(1, .int 0), (0, .ref r0)]) hc dX10_fresh0_109 rfl (by decide) rfl rfl ?_
    refine zJ.sub (L' := [(0, .ref r0), (1, .int 0)]) [1, 0] rfl ?_
    exact sMo_fresh0D_110 hc hRm zF r0 0 _
  · refine z_aload_n hc dX10_fresh0_87 0 rfl rfl ?_
    refine zJ.chk _ (fun h6 => ?_)
    refine zJ.chk _ (fun h7 => ?_)
    refine z_getR (x := (gR u r0 50)) hc (ci := 10) (k := 50) (by decide) (by decide) zly10 (zkd_lay h6) (zkd_ok h6) wFX10_126 rfl dX10_fresh0_88 rfl h7 ?_
    refine z_bipush (v := 8) hc dX10_fresh0_91 rfl ?_
    refine z_iload_n hc dX10_fresh0_93 1 rfl rfl ?_
    refine z_iadd hc dX10_fresh0_94 ?_
    refine z_aload_n hc dX10_fresh0_95 0 rfl rfl ?_
    refine zJ.chk _ (fun h8 => ?_)
    refine zJ.chk _ (fun h9 => ?_)
    refine z_getR (x := (gR u r0 18)) hc (ci := 10) (k := 18) (by decide) (by decide) zly10 (zkd_lay h8) (zkd_ok h8) wFX10_38 rfl dX10_fresh0_96 rfl h9 ?_
    refine z_iload_n hc dX10_fresh0_99 1 rfl rfl ?_
    refine zJ.chk _ (fun h10 => ?_)
    refine zJ.chk _ (fun h11 => ?_)
    refine z_iald (k := (ix v1)) hc (zkd_lay h10) (zkd_ok h10) h11 rfl dX10_fresh0_100 ?_
    refine zJ.chk _ (fun h12 => ?_)
    refine zJ.chk _ (fun h13 => ?_)
    refine z_iast (k := (ix (8 + v1))) hc (zkd_lay h12) (zkd_ok h12) h13 rfl dX10_fresh0_101 ?_
    refine zJ.letM (fun u1 e1 => ?_)
    refine z_iinc (L' := [(1, .int (v1 + 1)), (0, .ref r0)]) hc dX10_fresh0_102 1 rfl (v := (v1 + 1)) rfl (by decide) rfl rfl ?_
    refine z_goto (tgt := 77) hc dX10_fresh0_105 (by decide) ?_
    refine zJ.sub (L' := [(0, .ref r0), (1, .int (v1 + 1))]) [1, 0] rfl ?_
    exact hr77 r0 (v1 + 1) _
set_option maxRecDepth 100000 in
set_option maxHeartbeats 4000000 in
theorem sMo_fresh0D_77 {fin : Unit × zM} (hc : zCx p s mi args meth c (wD D b layM) m0 RX10 cX10_fresh0 2 none) (hRm : R.frames = 0 ∧ R.locals = 0 ∧ R.cells = zc (wD D b layM) m0 fin.2 ∧ R.slots = zs (wD D b layM) m0 fin.2) : ∀ (zf : Nat) (r0 : Nat) (v1 : Int32) (u : zM), zJ eV p l e R s mi args below meth c (wD D b layM) m0 2 fin 77 [(0, .ref r0), (1, .int v1)] [] u (Mo_fresh0D_77 zf r0 v1 u) := by
  intro zf
  induction zf with
  | zero => intro r0 v1 u; exact zJ.nil
  | succ zf ih => intro r0 v1 u; exact sMo_fresh0D_77b hc hRm ih r0 v1 u
set_option maxRecDepth 100000 in
set_option maxHeartbeats 4000000 in
theorem sMo_fresh0D_45b {fin : Unit × zM} (hc : zCx p s mi args meth c (wD D b layM) m0 RX10 cX10_fresh0 2 none) (hRm : R.frames = 0 ∧ R.locals = 0 ∧ R.cells = zc (wD D b layM) m0 fin.2 ∧ R.slots = zs (wD D b layM) m0 fin.2) {zr45 : Nat → Int32 → zM → Option (Unit × zM)} (hr45 : ∀ (r0 : Nat) (v1 : Int32) (u : zM), zJ eV p l e R s mi args below meth c (wD D b layM) m0 2 fin 45 [(0, .ref r0), (1, .int v1)] [] u (zr45 r0 v1 u)) (r0 : Nat) (v1 : Int32) (u : zM) : zJ eV p l e R s mi args below meth c (wD D b layM) m0 2 fin 45 [(0, .ref r0), (1, .int v1)] [] u (Mo_fresh0D_45b zr45 r0 v1 u) := by
  unfold Mo_fresh0D_45b
  refine z_iload_n hc dX10_fresh0_45 1 rfl rfl ?_
  refine z_aload_n hc dX10_fresh0_46 0 rfl rfl ?_
  refine zJ.chk _ (fun h1 => ?_)
  refine zJ.chk _ (fun h2 => ?_)
  refine z_getR (x := (gR u r0 10)) hc (ci := 10) (k := 10) (by decide) (by decide) zly10 (zkd_lay h1) (zkd_ok h1) wFX10_13 rfl dX10_fresh0_47 rfl h2 ?_
  refine z_iconst (v := 0) hc dX10_fresh0_50 rfl ?_
  refine zJ.chk _ (fun h3 => ?_)
  refine zJ.chk _ (fun h4 => ?_)
  refine z_iald (k := (ix 0)) hc (zkd_lay h3) (zkd_ok h3) h4 rfl dX10_fresh0_51 ?_
  refine z_icmp_ge (tgt := 75) hc dX10_fresh0_52 (by decide) _ (fun h5 => ?_) (fun h5 => ?_)
  · refine z_iconst (v := 0) hc dX10_fresh0_75 rfl ?_
    refine z_istore_n (L' := [(1, .int 0), (0, .ref r0)]) hc dX10_fresh0_76 rfl (by decide) rfl rfl ?_
    refine zJ.sub (L' := [(0, .ref r0), (1, .int 0)]) [1, 0] rfl ?_
    exact sMo_fresh0D_77 hc hRm zF r0 0 _
  · refine z_aload_n hc dX10_fresh0_55 0 rfl rfl ?_
    refine zJ.chk _ (fun h6 => ?_)
    refine zJ.chk _ (fun h7 => ?_)
    refine z_getR (x := (gR u r0 50)) hc (ci := 10) (k := 50) (by decide) (by decide) zly10 (zkd_lay h6) (zkd_ok h6) wFX10_126 rfl dX10_fresh0_56 rfl h7 ?_
    refine z_iconst (v := 1) hc dX10_fresh0_59 rfl ?_
    refine z_iload_n hc dX10_fresh0_60 1 rfl rfl ?_
    refine z_iadd hc dX10_fresh0_61 ?_
    refine z_aload_n hc dX10_fresh0_62 0 rfl rfl ?_
    refine zJ.chk _ (fun h8 => ?_)
    refine zJ.chk _ (fun h9 => ?_)
    refine z_getR (x := (gR u r0 15)) hc (ci := 10) (k := 15) (by decide) (by decide) zly10 (zkd_lay h8) (zkd_ok h8) wFX10_29 rfl dX10_fresh0_63 rfl h9 ?_
    refine z_iload_n hc dX10_fresh0_66 1 rfl rfl ?_
    refine zJ.chk _ (fun h10 => ?_)
    refine zJ.chk _ (fun h11 => ?_)
    refine z_iald (k := (ix v1)) hc (zkd_lay h10) (zkd_ok h10) h11 rfl dX10_fresh0_67 ?_
    refine zJ.chk _ (fun h12 => ?_)
    refine zJ.chk _ (fun h13 => ?_)
    refine z_iast (k := (ix (1 + v1))) hc (zkd_lay h12) (zkd_ok h12) h13 rfl dX10_fresh0_68 ?_
    refine zJ.letM (fun u1 e1 => ?_)
    refine z_iinc (L' := [(1, .int (v1 + 1)), (0, .ref r0)]) hc dX10_fresh0_69 1 rfl (v := (v1 + 1)) rfl (by decide) rfl rfl ?_
    refine z_goto (tgt := 45) hc dX10_fresh0_72 (by decide) ?_
    refine zJ.sub (L' := [(0, .ref r0), (1, .int (v1 + 1))]) [1, 0] rfl ?_
    exact hr45 r0 (v1 + 1) _
set_option maxRecDepth 100000 in
set_option maxHeartbeats 4000000 in
theorem sMo_fresh0D_45 {fin : Unit × zM} (hc : zCx p s mi args meth c (wD D b layM) m0 RX10 cX10_fresh0 2 none) (hRm : R.frames = 0 ∧ R.locals = 0 ∧ R.cells = zc (wD D b layM) m0 fin.2 ∧ R.slots = zs (wD D b layM) m0 fin.2) : ∀ (zf : Nat) (r0 : Nat) (v1 : Int32) (u : zM), zJ eV p l e R s mi args below meth c (wD D b layM) m0 2 fin 45 [(0, .ref r0), (1, .int v1)] [] u (Mo_fresh0D_45 zf r0 v1 u) := by
  intro zf
  induction zf with
  | zero => intro r0 v1 u; exact zJ.nil
  | succ zf ih => intro r0 v1 u; exact sMo_fresh0D_45b hc hRm ih r0 v1 u
set_option maxRecDepth 100000 in
set_option maxHeartbeats 4000000 in
theorem sMo_fresh0D_2b {fin : Unit × zM} (hc : zCx p s mi args meth c (wD D b layM) m0 RX10 cX10_fresh0 2 none) (hRm : R.frames = 0 ∧ R.locals = 0 ∧ R.cells = zc (wD D b layM) m0 fin.2 ∧ R.slots = zs (wD D b layM) m0 fin.2) {zr2 : Nat → Int32 → zM → Option (Unit × zM)} (hr2 : ∀ (r0 : Nat) (v1 : Int32) (u : zM), zJ eV p l e R s mi args below meth c (wD D b layM) m0 2 fin 2 [(0, .ref r0), (1, .int v1)] [] u (zr2 r0 v1 u)) (r0 : Nat) (v1 : Int32) (u : zM) : zJ eV p l e R s mi args below meth c (wD D b layM) m0 2 fin 2 [(0, .ref r0), (1, .int v1)] [] u (Mo_fresh0D_2b zr2 r0 v1 u) := by
  unfold Mo_fresh0D_2b
  refine z_iload_n hc dX10_fresh0_2 1 rfl rfl ?_
  refine z_bipush (v := 25) hc dX10_fresh0_3 rfl ?_
  refine z_icmp_ge (tgt := 43) hc dX10_fresh0_5 (by decide) _ (fun h1 => ?_) (fun h1 => ?_)
  · refine z_iconst (v := 0) hc dX10_fresh0_43 rfl ?_
    refine z_istore_n (L' := [(1, .int 0), (0, .ref r0)]) hc dX10_fresh0_44 rfl (by decide) rfl rfl ?_
    refine zJ.sub (L' := [(0, .ref r0), (1, .int 0)]) [1, 0] rfl ?_
    exact sMo_fresh0D_45 hc hRm zF r0 0 _
  · refine z_aload_n hc dX10_fresh0_8 0 rfl rfl ?_
    refine zJ.chk _ (fun h2 => ?_)
    refine zJ.chk _ (fun h3 => ?_)
    refine z_getR (x := (gR u r0 50)) hc (ci := 10) (k := 50) (by decide) (by decide) zly10 (zkd_lay h2) (zkd_ok h2) wFX10_126 rfl dX10_fresh0_9 rfl h3 ?_
    refine z_iload_n hc dX10_fresh0_12 1 rfl rfl ?_
    refine z_iload_n hc dX10_fresh0_13 1 rfl rfl ?_
    refine z_bipush (v := 8) hc dX10_fresh0_14 rfl ?_
    refine z_icmp_lt (tgt := 25) hc dX10_fresh0_16 (by decide) _ (fun h4 => ?_) (fun h4 => ?_)
    · exact sMo_fresh0D_25 hc hRm hr2 r0 v1 (gR u r0 50) v1 _
    · refine z_iload_n hc dX10_fresh0_19 1 rfl rfl ?_
      refine z_bipush (v := 16) hc dX10_fresh0_20 rfl ?_
      refine z_icmp_lt (tgt := 31) hc dX10_fresh0_22 (by decide) _ (fun h5 => ?_) (fun h5 => ?_)
      · refine z_iconst (v := (-1)) hc dX10_fresh0_31 rfl ?_
        refine z_goto (tgt := 36) hc dX10_fresh0_32 (by decide) ?_
        refine zJ.chk _ (fun h6 => ?_)
        refine zJ.chk _ (fun h7 => ?_)
        refine z_iast (k := (ix v1)) hc (zkd_lay h6) (zkd_ok h6) h7 rfl dX10_fresh0_36 ?_
        refine zJ.letM (fun u1 e1 => ?_)
        refine z_iinc (L' := [(1, .int (v1 + 1)), (0, .ref r0)]) hc dX10_fresh0_37 1 rfl (v := (v1 + 1)) rfl (by decide) rfl rfl ?_
        refine z_goto (tgt := 2) hc dX10_fresh0_40 (by decide) ?_
        refine zJ.sub (L' := [(0, .ref r0), (1, .int (v1 + 1))]) [1, 0] rfl ?_
        exact hr2 r0 (v1 + 1) _
      · exact sMo_fresh0D_25 hc hRm hr2 r0 v1 (gR u r0 50) v1 _
set_option maxRecDepth 100000 in
set_option maxHeartbeats 4000000 in
theorem sMo_fresh0D_2 {fin : Unit × zM} (hc : zCx p s mi args meth c (wD D b layM) m0 RX10 cX10_fresh0 2 none) (hRm : R.frames = 0 ∧ R.locals = 0 ∧ R.cells = zc (wD D b layM) m0 fin.2 ∧ R.slots = zs (wD D b layM) m0 fin.2) : ∀ (zf : Nat) (r0 : Nat) (v1 : Int32) (u : zM), zJ eV p l e R s mi args below meth c (wD D b layM) m0 2 fin 2 [(0, .ref r0), (1, .int v1)] [] u (Mo_fresh0D_2 zf r0 v1 u) := by
  intro zf
  induction zf with
  | zero => intro r0 v1 u; exact zJ.nil
  | succ zf ih => intro r0 v1 u; exact sMo_fresh0D_2b hc hRm ih r0 v1 u
set_option maxRecDepth 100000 in
set_option maxHeartbeats 4000000 in
theorem sMo_fresh0D : ∀ (r0 : Nat) (u : zM) r m1, Mo_fresh0D r0 u = some (r, m1) → zMet l (wD D b layM) 0 0 yX10_fresh0 cX10_fresh0 2 none [.ref r0] u (eV r) m1 := by
  intro r0 u
  refine zMet.of (L := [(0, .ref r0)]) RX10 (by decide +kernel) rfl (Nat.le_of_ble_eq_true rfl) (fun _ r m1 h => (zmono_le h).1) rfl (fun p e s mi args below meth c R fin hc hin hRm => ?_)
  unfold Mo_fresh0D
  refine zJ.mono ?_
  unfold Mo_fresh0Dx
  refine z_iconst (v := 0) hc dX10_fresh0_0 rfl ?_
  refine z_istore_n (L' := [(1, .int 0), (0, .ref r0)]) hc dX10_fresh0_1 rfl (by decide) rfl rfl ?_
  refine zJ.sub (L' := [(0, .ref r0), (1, .int 0)]) [1, 0] rfl ?_
  exact sMo_fresh0D_2 hc hRm zF r0 0 _
set_option maxRecDepth 100000 in
set_option maxHeartbeats 4000000 in
theorem sMo_initD_388 {fin : Unit × zM} (hc : zCx p s mi args meth c (wD D b layM) m0 RX10 cX10_init 1 none) (hRm : R.frames = 1 ∧ R.locals = 21 ∧ R.cells = zc (wD D b layM) m0 fin.2 ∧ R.slots = zs (wD D b layM) m0 fin.2) (hin : yX10_init.name = "<init>" → meth.name = "<init>") (r0 : Nat) (u : zM) : zJ eV p l e R s mi args below meth c (wD D b layM) m0 1 fin 388 [(0, .ref r0)] [] u (Mo_initD_388 r0 u) := by
  unfold Mo_initD_388
  refine z_aload_n hc dX10_init_388 0 rfl rfl ?_
  refine z_bipush (v := 70) hc dX10_init_389 rfl ?_
  refine zJ.cut _ (fun _ => zJ.nil) (fun h1 => ?_)
  refine zJ.chk _ (fun h2 => ?_)
  refine zJ.chk _ (fun h3 => ?_)
  refine z_newa_int hc h1 rfl h2 h3 hRm.2.2 wRint dX10_init_391 ?_
  refine zJ.letM (fun u1 e1 => ?_)
  refine zJ.chk _ (fun h4 => ?_)
  refine zJ.chk _ (fun h5 => ?_)
  refine z_putR hc (ci := 10) (k := 65) (by decide) (by decide) zly10 (zkd_lay h4) (zkd_ok h4) wFX10_156 rfl (Or.inr ⟨rfl, hin rfl, rfl⟩) h5 (fun _ _ => rfl) dX10_init_393 ?_
  refine zJ.letM (fun u2 e2 => ?_)
  refine z_aload_n hc dX10_init_396 0 rfl rfl ?_
  refine zJ.chk _ (fun h6 => ?_)
  refine z_callV (av := []) (enc' := eV) hc rfl (sMo_fresh0D r0 _) (ci := 10) (by decide) (zkd_lay h6) (zkd_ok h6) rfl wMX10_159 hpyX10_fresh0 hmyX10_fresh0 (rm_ok hRm (Nat.le_of_ble_eq_true rfl) (Nat.le_of_ble_eq_true rfl)) (Nat.le_of_ble_eq_true rfl) hRm.2.2 dX10_init_397 (fun c1 u3 f1 => ?_)
  exact z_vret hc dX10_init_400
set_option maxRecDepth 100000 in
set_option maxHeartbeats 4000000 in
theorem sMo_initD_342 {fin : Unit × zM} (hc : zCx p s mi args meth c (wD D b layM) m0 RX10 cX10_init 1 none) (hRm : R.frames = 1 ∧ R.locals = 21 ∧ R.cells = zc (wD D b layM) m0 fin.2 ∧ R.slots = zs (wD D b layM) m0 fin.2) (hin : yX10_init.name = "<init>" → meth.name = "<init>") (r0 : Nat) (u : zM) : zJ eV p l e R s mi args below meth c (wD D b layM) m0 1 fin 342 [(0, .ref r0)] [] u (Mo_initD_342 r0 u) := by
  unfold Mo_initD_342
  refine z_aload_n hc dX10_init_342 0 rfl rfl ?_
  refine z_sipush (v := 400) hc dX10_init_343 rfl ?_
  refine zJ.cut _ (fun _ => zJ.nil) (fun h1 => ?_)
  refine zJ.chk _ (fun h2 => ?_)
  refine zJ.chk _ (fun h3 => ?_)
  refine z_newa_int hc h1 rfl h2 h3 hRm.2.2 wRint dX10_init_346 ?_
  refine zJ.letM (fun u1 e1 => ?_)
  refine zJ.chk _ (fun h4 => ?_)
  refine zJ.chk _ (fun h5 => ?_)
  refine z_putR hc (ci := 10) (k := 54) (by decide) (by decide) zly10 (zkd_lay h4) (zkd_ok h4) wFX10_138 rfl (Or.inr ⟨rfl, hin rfl, rfl⟩) h5 (fun _ _ => rfl) dX10_init_348 ?_
  refine zJ.letM (fun u2 e2 => ?_)
  refine z_aload_n hc dX10_init_351 0 rfl rfl ?_
  refine z_iconst (v := 4) hc dX10_init_352 rfl ?_
  refine zJ.cut _ (fun _ => zJ.nil) (fun h6 => ?_)
  refine zJ.chk _ (fun h7 => ?_)
  refine zJ.chk _ (fun h8 => ?_)
  refine z_newa_boolean hc h6 rfl h7 h8 hRm.2.2 wRboolean dX10_init_353 ?_
  refine zJ.letM (fun u3 e3 => ?_)
  refine zJ.chk _ (fun h9 => ?_)
  refine zJ.chk _ (fun h10 => ?_)
  refine z_putR hc (ci := 10) (k := 55) (by decide) (by decide) zly10 (zkd_lay h9) (zkd_ok h9) wFX10_141 rfl (Or.inr ⟨rfl, hin rfl, rfl⟩) h10 (fun _ _ => rfl) dX10_init_355 ?_
  refine zJ.letM (fun u4 e4 => ?_)
  refine z_aload_n hc dX10_init_358 0 rfl rfl ?_
  refine z_bipush (v := 7) hc dX10_init_359 rfl ?_
  refine zJ.cut _ (fun _ => zJ.nil) (fun h11 => ?_)
  refine zJ.chk _ (fun h12 => ?_)
  refine zJ.chk _ (fun h13 => ?_)
  refine z_newa_int hc h11 rfl h12 h13 hRm.2.2 wRint dX10_init_361 ?_
  refine zJ.letM (fun u5 e5 => ?_)
  refine zJ.chk _ (fun h14 => ?_)
  refine zJ.chk _ (fun h15 => ?_)
  refine z_putR hc (ci := 10) (k := 57) (by decide) (by decide) zly10 (zkd_lay h14) (zkd_ok h14) wFX10_144 rfl (Or.inr ⟨rfl, hin rfl, rfl⟩) h15 (fun _ _ => rfl) dX10_init_363 ?_
  refine zJ.letM (fun u6 e6 => ?_)
  refine z_aload_n hc dX10_init_366 0 rfl rfl ?_
  refine z_bipush (v := 18) hc dX10_init_367 rfl ?_
  refine zJ.cut _ (fun _ => zJ.nil) (fun h16 => ?_)
  refine zJ.chk _ (fun h17 => ?_)
  refine zJ.chk _ (fun h18 => ?_)
  refine z_newa_int hc h16 rfl h17 h18 hRm.2.2 wRint dX10_init_369 ?_
  refine zJ.letM (fun u7 e7 => ?_)
  refine zJ.chk _ (fun h19 => ?_)
  refine zJ.chk _ (fun h20 => ?_)
  refine z_putR hc (ci := 10) (k := 60) (by decide) (by decide) zly10 (zkd_lay h19) (zkd_ok h19) wFX10_147 rfl (Or.inr ⟨rfl, hin rfl, rfl⟩) h20 (fun _ _ => rfl) dX10_init_371 ?_
  refine zJ.letM (fun u8 e8 => ?_)
  refine z_aload_n hc dX10_init_374 0 rfl rfl ?_
  refine z_iconst (v := 3) hc dX10_init_375 rfl ?_
  refine zJ.cut _ (fun _ => zJ.nil) (fun h21 => ?_)
  refine zJ.chk _ (fun h22 => ?_)
  refine zJ.chk _ (fun h23 => ?_)
  refine z_newa_int hc h21 rfl h22 h23 hRm.2.2 wRint dX10_init_376 ?_
  refine zJ.letM (fun u9 e9 => ?_)
  refine zJ.chk _ (fun h24 => ?_)
  refine zJ.chk _ (fun h25 => ?_)
  refine z_putR hc (ci := 10) (k := 61) (by decide) (by decide) zly10 (zkd_lay h24) (zkd_ok h24) wFX10_150 rfl (Or.inr ⟨rfl, hin rfl, rfl⟩) h25 (fun _ _ => rfl) dX10_init_378 ?_
  refine zJ.letM (fun u10 e10 => ?_)
  refine z_aload_n hc dX10_init_381 0 rfl rfl ?_
  refine z_iconst (v := 3) hc dX10_init_382 rfl ?_
  refine zJ.cut _ (fun _ => zJ.nil) (fun h26 => ?_)
  refine zJ.chk _ (fun h27 => ?_)
  refine zJ.chk _ (fun h28 => ?_)
  refine z_newa_int hc h26 rfl h27 h28 hRm.2.2 wRint dX10_init_383 ?_
  refine zJ.letM (fun u11 e11 => ?_)
  refine zJ.chk _ (fun h29 => ?_)
  refine zJ.chk _ (fun h30 => ?_)
  refine z_putR hc (ci := 10) (k := 62) (by decide) (by decide) zly10 (zkd_lay h29) (zkd_ok h29) wFX10_153 rfl (Or.inr ⟨rfl, hin rfl, rfl⟩) h30 (fun _ _ => rfl) dX10_init_385 ?_
  refine zJ.letM (fun u12 e12 => ?_)
  exact sMo_initD_388 hc hRm hin r0 _
set_option maxRecDepth 100000 in
set_option maxHeartbeats 4000000 in
theorem sMo_initD_294 {fin : Unit × zM} (hc : zCx p s mi args meth c (wD D b layM) m0 RX10 cX10_init 1 none) (hRm : R.frames = 1 ∧ R.locals = 21 ∧ R.cells = zc (wD D b layM) m0 fin.2 ∧ R.slots = zs (wD D b layM) m0 fin.2) (hin : yX10_init.name = "<init>" → meth.name = "<init>") (r0 : Nat) (u : zM) : zJ eV p l e R s mi args below meth c (wD D b layM) m0 1 fin 294 [(0, .ref r0)] [] u (Mo_initD_294 r0 u) := by
  unfold Mo_initD_294
  refine z_aload_n hc dX10_init_294 0 rfl rfl ?_
  refine z_bipush (v := 40) hc dX10_init_295 rfl ?_
  refine zJ.cut _ (fun _ => zJ.nil) (fun h1 => ?_)
  refine zJ.chk _ (fun h2 => ?_)
  refine zJ.chk _ (fun h3 => ?_)
  refine z_newa_int hc h1 rfl h2 h3 hRm.2.2 wRint dX10_init_297 ?_
  refine zJ.letM (fun u1 e1 => ?_)
  refine zJ.chk _ (fun h4 => ?_)
  refine zJ.chk _ (fun h5 => ?_)
  refine z_putR hc (ci := 10) (k := 48) (by decide) (by decide) zly10 (zkd_lay h4) (zkd_ok h4) wFX10_120 rfl (Or.inr ⟨rfl, hin rfl, rfl⟩) h5 (fun _ _ => rfl) dX10_init_299 ?_
  refine zJ.letM (fun u2 e2 => ?_)
  refine z_aload_n hc dX10_init_302 0 rfl rfl ?_
  refine z_bipush (v := 40) hc dX10_init_303 rfl ?_
  refine zJ.cut _ (fun _ => zJ.nil) (fun h6 => ?_)
  refine zJ.chk _ (fun h7 => ?_)
  refine zJ.chk _ (fun h8 => ?_)
  refine z_newa_boolean hc h6 rfl h7 h8 hRm.2.2 wRboolean dX10_init_305 ?_
  refine zJ.letM (fun u3 e3 => ?_)
  refine zJ.chk _ (fun h9 => ?_)
  refine zJ.chk _ (fun h10 => ?_)
  refine z_putR hc (ci := 10) (k := 49) (by decide) (by decide) zly10 (zkd_lay h9) (zkd_ok h9) wFX10_123 rfl (Or.inr ⟨rfl, hin rfl, rfl⟩) h10 (fun _ _ => rfl) dX10_init_307 ?_
  refine zJ.letM (fun u4 e4 => ?_)
  refine z_aload_n hc dX10_init_310 0 rfl rfl ?_
  refine z_bipush (v := 25) hc dX10_init_311 rfl ?_
  refine zJ.cut _ (fun _ => zJ.nil) (fun h11 => ?_)
  refine zJ.chk _ (fun h12 => ?_)
  refine zJ.chk _ (fun h13 => ?_)
  refine z_newa_int hc h11 rfl h12 h13 hRm.2.2 wRint dX10_init_313 ?_
  refine zJ.letM (fun u5 e5 => ?_)
  refine zJ.chk _ (fun h14 => ?_)
  refine zJ.chk _ (fun h15 => ?_)
  refine z_putR hc (ci := 10) (k := 50) (by decide) (by decide) zly10 (zkd_lay h14) (zkd_ok h14) wFX10_126 rfl (Or.inr ⟨rfl, hin rfl, rfl⟩) h15 (fun _ _ => rfl) dX10_init_315 ?_
  refine zJ.letM (fun u6 e6 => ?_)
  refine z_aload_n hc dX10_init_318 0 rfl rfl ?_
  refine z_bipush (v := 25) hc dX10_init_319 rfl ?_
  refine zJ.cut _ (fun _ => zJ.nil) (fun h16 => ?_)
  refine zJ.chk _ (fun h17 => ?_)
  refine zJ.chk _ (fun h18 => ?_)
  refine z_newa_int hc h16 rfl h17 h18 hRm.2.2 wRint dX10_init_321 ?_
  refine zJ.letM (fun u7 e7 => ?_)
  refine zJ.chk _ (fun h19 => ?_)
  refine zJ.chk _ (fun h20 => ?_)
  refine z_putR hc (ci := 10) (k := 51) (by decide) (by decide) zly10 (zkd_lay h19) (zkd_ok h19) wFX10_129 rfl (Or.inr ⟨rfl, hin rfl, rfl⟩) h20 (fun _ _ => rfl) dX10_init_323 ?_
  refine zJ.letM (fun u8 e8 => ?_)
  refine z_aload_n hc dX10_init_326 0 rfl rfl ?_
  refine z_bipush (v := 25) hc dX10_init_327 rfl ?_
  refine zJ.cut _ (fun _ => zJ.nil) (fun h21 => ?_)
  refine zJ.chk _ (fun h22 => ?_)
  refine zJ.chk _ (fun h23 => ?_)
  refine z_newa_int hc h21 rfl h22 h23 hRm.2.2 wRint dX10_init_329 ?_
  refine zJ.letM (fun u9 e9 => ?_)
  refine zJ.chk _ (fun h24 => ?_)
  refine zJ.chk _ (fun h25 => ?_)
  refine z_putR hc (ci := 10) (k := 52) (by decide) (by decide) zly10 (zkd_lay h24) (zkd_ok h24) wFX10_132 rfl (Or.inr ⟨rfl, hin rfl, rfl⟩) h25 (fun _ _ => rfl) dX10_init_331 ?_
  refine zJ.letM (fun u10 e10 => ?_)
  refine z_aload_n hc dX10_init_334 0 rfl rfl ?_
  refine z_bipush (v := 100) hc dX10_init_335 rfl ?_
  refine zJ.cut _ (fun _ => zJ.nil) (fun h26 => ?_)
  refine zJ.chk _ (fun h27 => ?_)
  refine zJ.chk _ (fun h28 => ?_)
  refine z_newa_int hc h26 rfl h27 h28 hRm.2.2 wRint dX10_init_337 ?_
  refine zJ.letM (fun u11 e11 => ?_)
  refine zJ.chk _ (fun h29 => ?_)
  refine zJ.chk _ (fun h30 => ?_)
  refine z_putR hc (ci := 10) (k := 53) (by decide) (by decide) zly10 (zkd_lay h29) (zkd_ok h29) wFX10_135 rfl (Or.inr ⟨rfl, hin rfl, rfl⟩) h30 (fun _ _ => rfl) dX10_init_339 ?_
  refine zJ.letM (fun u12 e12 => ?_)
  exact sMo_initD_342 hc hRm hin r0 _
set_option maxRecDepth 100000 in
set_option maxHeartbeats 4000000 in
theorem sMo_initD_244 {fin : Unit × zM} (hc : zCx p s mi args meth c (wD D b layM) m0 RX10 cX10_init 1 none) (hRm : R.frames = 1 ∧ R.locals = 21 ∧ R.cells = zc (wD D b layM) m0 fin.2 ∧ R.slots = zs (wD D b layM) m0 fin.2) (hin : yX10_init.name = "<init>" → meth.name = "<init>") (r0 : Nat) (u : zM) : zJ eV p l e R s mi args below meth c (wD D b layM) m0 1 fin 244 [(0, .ref r0)] [] u (Mo_initD_244 r0 u) := by
  unfold Mo_initD_244
  refine z_aload_n hc dX10_init_244 0 rfl rfl ?_
  refine z_bipush (v := 6) hc dX10_init_245 rfl ?_
  refine zJ.cut _ (fun _ => zJ.nil) (fun h1 => ?_)
  refine zJ.chk _ (fun h2 => ?_)
  refine zJ.chk _ (fun h3 => ?_)
  refine z_newa_int hc h1 rfl h2 h3 hRm.2.2 wRint dX10_init_247 ?_
  refine zJ.letM (fun u1 e1 => ?_)
  refine zJ.chk _ (fun h4 => ?_)
  refine zJ.chk _ (fun h5 => ?_)
  refine z_putR hc (ci := 10) (k := 42) (by decide) (by decide) zly10 (zkd_lay h4) (zkd_ok h4) wFX10_102 rfl (Or.inr ⟨rfl, hin rfl, rfl⟩) h5 (fun _ _ => rfl) dX10_init_249 ?_
  refine zJ.letM (fun u2 e2 => ?_)
  refine z_aload_n hc dX10_init_252 0 rfl rfl ?_
  refine z_sipush (v := 240) hc dX10_init_253 rfl ?_
  refine zJ.cut _ (fun _ => zJ.nil) (fun h6 => ?_)
  refine zJ.chk _ (fun h7 => ?_)
  refine zJ.chk _ (fun h8 => ?_)
  refine z_newa_int hc h6 rfl h7 h8 hRm.2.2 wRint dX10_init_256 ?_
  refine zJ.letM (fun u3 e3 => ?_)
  refine zJ.chk _ (fun h9 => ?_)
  refine zJ.chk _ (fun h10 => ?_)
  refine z_putR hc (ci := 10) (k := 43) (by decide) (by decide) zly10 (zkd_lay h9) (zkd_ok h9) wFX10_105 rfl (Or.inr ⟨rfl, hin rfl, rfl⟩) h10 (fun _ _ => rfl) dX10_init_258 ?_
  refine zJ.letM (fun u4 e4 => ?_)
  refine z_aload_n hc dX10_init_261 0 rfl rfl ?_
  refine z_sipush (v := 240) hc dX10_init_262 rfl ?_
  refine zJ.cut _ (fun _ => zJ.nil) (fun h11 => ?_)
  refine zJ.chk _ (fun h12 => ?_)
  refine zJ.chk _ (fun h13 => ?_)
  refine z_newa_int hc h11 rfl h12 h13 hRm.2.2 wRint dX10_init_265 ?_
  refine zJ.letM (fun u5 e5 => ?_)
  refine zJ.chk _ (fun h14 => ?_)
  refine zJ.chk _ (fun h15 => ?_)
  refine z_putR hc (ci := 10) (k := 44) (by decide) (by decide) zly10 (zkd_lay h14) (zkd_ok h14) wFX10_108 rfl (Or.inr ⟨rfl, hin rfl, rfl⟩) h15 (fun _ _ => rfl) dX10_init_267 ?_
  refine zJ.letM (fun u6 e6 => ?_)
  refine z_aload_n hc dX10_init_270 0 rfl rfl ?_
  refine z_sipush (v := 240) hc dX10_init_271 rfl ?_
  refine zJ.cut _ (fun _ => zJ.nil) (fun h16 => ?_)
  refine zJ.chk _ (fun h17 => ?_)
  refine zJ.chk _ (fun h18 => ?_)
  refine z_newa_int hc h16 rfl h17 h18 hRm.2.2 wRint dX10_init_274 ?_
  refine zJ.letM (fun u7 e7 => ?_)
  refine zJ.chk _ (fun h19 => ?_)
  refine zJ.chk _ (fun h20 => ?_)
  refine z_putR hc (ci := 10) (k := 45) (by decide) (by decide) zly10 (zkd_lay h19) (zkd_ok h19) wFX10_111 rfl (Or.inr ⟨rfl, hin rfl, rfl⟩) h20 (fun _ _ => rfl) dX10_init_276 ?_
  refine zJ.letM (fun u8 e8 => ?_)
  refine z_aload_n hc dX10_init_279 0 rfl rfl ?_
  refine z_iconst (v := 5) hc dX10_init_280 rfl ?_
  refine zJ.cut _ (fun _ => zJ.nil) (fun h21 => ?_)
  refine zJ.chk _ (fun h22 => ?_)
  refine zJ.chk _ (fun h23 => ?_)
  refine z_newa_int hc h21 rfl h22 h23 hRm.2.2 wRint dX10_init_281 ?_
  refine zJ.letM (fun u9 e9 => ?_)
  refine zJ.chk _ (fun h24 => ?_)
  refine zJ.chk _ (fun h25 => ?_)
  refine z_putR hc (ci := 10) (k := 46) (by decide) (by decide) zly10 (zkd_lay h24) (zkd_ok h24) wFX10_114 rfl (Or.inr ⟨rfl, hin rfl, rfl⟩) h25 (fun _ _ => rfl) dX10_init_283 ?_
  refine zJ.letM (fun u10 e10 => ?_)
  refine z_aload_n hc dX10_init_286 0 rfl rfl ?_
  refine z_bipush (v := 40) hc dX10_init_287 rfl ?_
  refine zJ.cut _ (fun _ => zJ.nil) (fun h26 => ?_)
  refine zJ.chk _ (fun h27 => ?_)
  refine zJ.chk _ (fun h28 => ?_)
  refine z_newa_int hc h26 rfl h27 h28 hRm.2.2 wRint dX10_init_289 ?_
  refine zJ.letM (fun u11 e11 => ?_)
  refine zJ.chk _ (fun h29 => ?_)
  refine zJ.chk _ (fun h30 => ?_)
  refine z_putR hc (ci := 10) (k := 47) (by decide) (by decide) zly10 (zkd_lay h29) (zkd_ok h29) wFX10_117 rfl (Or.inr ⟨rfl, hin rfl, rfl⟩) h30 (fun _ _ => rfl) dX10_init_291 ?_
  refine zJ.letM (fun u12 e12 => ?_)
  exact sMo_initD_294 hc hRm hin r0 _
set_option maxRecDepth 100000 in
set_option maxHeartbeats 4000000 in
theorem sMo_initD_196 {fin : Unit × zM} (hc : zCx p s mi args meth c (wD D b layM) m0 RX10 cX10_init 1 none) (hRm : R.frames = 1 ∧ R.locals = 21 ∧ R.cells = zc (wD D b layM) m0 fin.2 ∧ R.slots = zs (wD D b layM) m0 fin.2) (hin : yX10_init.name = "<init>" → meth.name = "<init>") (r0 : Nat) (u : zM) : zJ eV p l e R s mi args below meth c (wD D b layM) m0 1 fin 196 [(0, .ref r0)] [] u (Mo_initD_196 r0 u) := by
  unfold Mo_initD_196
  refine z_aload_n hc dX10_init_196 0 rfl rfl ?_
  refine z_bipush (v := 7) hc dX10_init_197 rfl ?_
  refine zJ.cut _ (fun _ => zJ.nil) (fun h1 => ?_)
  refine zJ.chk _ (fun h2 => ?_)
  refine zJ.chk _ (fun h3 => ?_)
  refine z_newa_int hc h1 rfl h2 h3 hRm.2.2 wRint dX10_init_199 ?_
  refine zJ.letM (fun u1 e1 => ?_)
  refine zJ.chk _ (fun h4 => ?_)
  refine zJ.chk _ (fun h5 => ?_)
  refine z_putR hc (ci := 10) (k := 34) (by decide) (by decide) zly10 (zkd_lay h4) (zkd_ok h4) wFX10_84 rfl (Or.inr ⟨rfl, hin rfl, rfl⟩) h5 (fun _ _ => rfl) dX10_init_201 ?_
  refine zJ.letM (fun u2 e2 => ?_)
  refine z_aload_n hc dX10_init_204 0 rfl rfl ?_
  refine z_bipush (v := 7) hc dX10_init_205 rfl ?_
  refine zJ.cut _ (fun _ => zJ.nil) (fun h6 => ?_)
  refine zJ.chk _ (fun h7 => ?_)
  refine zJ.chk _ (fun h8 => ?_)
  refine z_newa_int hc h6 rfl h7 h8 hRm.2.2 wRint dX10_init_207 ?_
  refine zJ.letM (fun u3 e3 => ?_)
  refine zJ.chk _ (fun h9 => ?_)
  refine zJ.chk _ (fun h10 => ?_)
  refine z_putR hc (ci := 10) (k := 35) (by decide) (by decide) zly10 (zkd_lay h9) (zkd_ok h9) wFX10_87 rfl (Or.inr ⟨rfl, hin rfl, rfl⟩) h10 (fun _ _ => rfl) dX10_init_209 ?_
  refine zJ.letM (fun u4 e4 => ?_)
  refine z_aload_n hc dX10_init_212 0 rfl rfl ?_
  refine z_bipush (v := 7) hc dX10_init_213 rfl ?_
  refine zJ.cut _ (fun _ => zJ.nil) (fun h11 => ?_)
  refine zJ.chk _ (fun h12 => ?_)
  refine zJ.chk _ (fun h13 => ?_)
  refine z_newa_int hc h11 rfl h12 h13 hRm.2.2 wRint dX10_init_215 ?_
  refine zJ.letM (fun u5 e5 => ?_)
  refine zJ.chk _ (fun h14 => ?_)
  refine zJ.chk _ (fun h15 => ?_)
  refine z_putR hc (ci := 10) (k := 36) (by decide) (by decide) zly10 (zkd_lay h14) (zkd_ok h14) wFX10_90 rfl (Or.inr ⟨rfl, hin rfl, rfl⟩) h15 (fun _ _ => rfl) dX10_init_217 ?_
  refine zJ.letM (fun u6 e6 => ?_)
  refine z_aload_n hc dX10_init_220 0 rfl rfl ?_
  refine z_bipush (v := 7) hc dX10_init_221 rfl ?_
  refine zJ.cut _ (fun _ => zJ.nil) (fun h16 => ?_)
  refine zJ.chk _ (fun h17 => ?_)
  refine zJ.chk _ (fun h18 => ?_)
  refine z_newa_int hc h16 rfl h17 h18 hRm.2.2 wRint dX10_init_223 ?_
  refine zJ.letM (fun u7 e7 => ?_)
  refine zJ.chk _ (fun h19 => ?_)
  refine zJ.chk _ (fun h20 => ?_)
  refine z_putR hc (ci := 10) (k := 37) (by decide) (by decide) zly10 (zkd_lay h19) (zkd_ok h19) wFX10_93 rfl (Or.inr ⟨rfl, hin rfl, rfl⟩) h20 (fun _ _ => rfl) dX10_init_225 ?_
  refine zJ.letM (fun u8 e8 => ?_)
  refine z_aload_n hc dX10_init_228 0 rfl rfl ?_
  refine z_bipush (v := 7) hc dX10_init_229 rfl ?_
  refine zJ.cut _ (fun _ => zJ.nil) (fun h21 => ?_)
  refine zJ.chk _ (fun h22 => ?_)
  refine zJ.chk _ (fun h23 => ?_)
  refine z_newa_int hc h21 rfl h22 h23 hRm.2.2 wRint dX10_init_231 ?_
  refine zJ.letM (fun u9 e9 => ?_)
  refine zJ.chk _ (fun h24 => ?_)
  refine zJ.chk _ (fun h25 => ?_)
  refine z_putR hc (ci := 10) (k := 38) (by decide) (by decide) zly10 (zkd_lay h24) (zkd_ok h24) wFX10_96 rfl (Or.inr ⟨rfl, hin rfl, rfl⟩) h25 (fun _ _ => rfl) dX10_init_233 ?_
  refine zJ.letM (fun u10 e10 => ?_)
  refine z_aload_n hc dX10_init_236 0 rfl rfl ?_
  refine z_bipush (v := 20) hc dX10_init_237 rfl ?_
  refine zJ.cut _ (fun _ => zJ.nil) (fun h26 => ?_)
  refine zJ.chk _ (fun h27 => ?_)
  refine zJ.chk _ (fun h28 => ?_)
  refine z_newa_int hc h26 rfl h27 h28 hRm.2.2 wRint dX10_init_239 ?_
  refine zJ.letM (fun u11 e11 => ?_)
  refine zJ.chk _ (fun h29 => ?_)
  refine zJ.chk _ (fun h30 => ?_)
  refine z_putR hc (ci := 10) (k := 39) (by decide) (by decide) zly10 (zkd_lay h29) (zkd_ok h29) wFX10_99 rfl (Or.inr ⟨rfl, hin rfl, rfl⟩) h30 (fun _ _ => rfl) dX10_init_241 ?_
  refine zJ.letM (fun u12 e12 => ?_)
  exact sMo_initD_244 hc hRm hin r0 _
set_option maxRecDepth 100000 in
set_option maxHeartbeats 4000000 in
theorem sMo_initD_148 {fin : Unit × zM} (hc : zCx p s mi args meth c (wD D b layM) m0 RX10 cX10_init 1 none) (hRm : R.frames = 1 ∧ R.locals = 21 ∧ R.cells = zc (wD D b layM) m0 fin.2 ∧ R.slots = zs (wD D b layM) m0 fin.2) (hin : yX10_init.name = "<init>" → meth.name = "<init>") (r0 : Nat) (u : zM) : zJ eV p l e R s mi args below meth c (wD D b layM) m0 1 fin 148 [(0, .ref r0)] [] u (Mo_initD_148 r0 u) := by
  unfold Mo_initD_148
  refine z_aload_n hc dX10_init_148 0 rfl rfl ?_
  refine z_bipush (v := 7) hc dX10_init_149 rfl ?_
  refine zJ.cut _ (fun _ => zJ.nil) (fun h1 => ?_)
  refine zJ.chk _ (fun h2 => ?_)
  refine zJ.chk _ (fun h3 => ?_)
  refine z_newa_int hc h1 rfl h2 h3 hRm.2.2 wRint dX10_init_151 ?_
  refine zJ.letM (fun u1 e1 => ?_)
  refine zJ.chk _ (fun h4 => ?_)
  refine zJ.chk _ (fun h5 => ?_)
  refine z_putR hc (ci := 10) (k := 28) (by decide) (by decide) zly10 (zkd_lay h4) (zkd_ok h4) wFX10_65 rfl (Or.inr ⟨rfl, hin rfl, rfl⟩) h5 (fun _ _ => rfl) dX10_init_153 ?_
  refine zJ.letM (fun u2 e2 => ?_)
  refine z_aload_n hc dX10_init_156 0 rfl rfl ?_
  refine z_bipush (v := 7) hc dX10_init_157 rfl ?_
  refine zJ.cut _ (fun _ => zJ.nil) (fun h6 => ?_)
  refine zJ.chk _ (fun h7 => ?_)
  refine zJ.chk _ (fun h8 => ?_)
  refine z_newa_boolean hc h6 rfl h7 h8 hRm.2.2 wRboolean dX10_init_159 ?_
  refine zJ.letM (fun u3 e3 => ?_)
  refine zJ.chk _ (fun h9 => ?_)
  refine zJ.chk _ (fun h10 => ?_)
  refine z_putR hc (ci := 10) (k := 29) (by decide) (by decide) zly10 (zkd_lay h9) (zkd_ok h9) wFX10_68 rfl (Or.inr ⟨rfl, hin rfl, rfl⟩) h10 (fun _ _ => rfl) dX10_init_161 ?_
  refine zJ.letM (fun u4 e4 => ?_)
  refine z_aload_n hc dX10_init_164 0 rfl rfl ?_
  refine z_bipush (v := 7) hc dX10_init_165 rfl ?_
  refine zJ.cut _ (fun _ => zJ.nil) (fun h11 => ?_)
  refine zJ.chk _ (fun h12 => ?_)
  refine zJ.chk _ (fun h13 => ?_)
  refine z_newa_int hc h11 rfl h12 h13 hRm.2.2 wRint dX10_init_167 ?_
  refine zJ.letM (fun u5 e5 => ?_)
  refine zJ.chk _ (fun h14 => ?_)
  refine zJ.chk _ (fun h15 => ?_)
  refine z_putR hc (ci := 10) (k := 30) (by decide) (by decide) zly10 (zkd_lay h14) (zkd_ok h14) wFX10_72 rfl (Or.inr ⟨rfl, hin rfl, rfl⟩) h15 (fun _ _ => rfl) dX10_init_169 ?_
  refine zJ.letM (fun u6 e6 => ?_)
  refine z_aload_n hc dX10_init_172 0 rfl rfl ?_
  refine z_bipush (v := 7) hc dX10_init_173 rfl ?_
  refine zJ.cut _ (fun _ => zJ.nil) (fun h16 => ?_)
  refine zJ.chk _ (fun h17 => ?_)
  refine zJ.chk _ (fun h18 => ?_)
  refine z_newa_int hc h16 rfl h17 h18 hRm.2.2 wRint dX10_init_175 ?_
  refine zJ.letM (fun u7 e7 => ?_)
  refine zJ.chk _ (fun h19 => ?_)
  refine zJ.chk _ (fun h20 => ?_)
  refine z_putR hc (ci := 10) (k := 31) (by decide) (by decide) zly10 (zkd_lay h19) (zkd_ok h19) wFX10_75 rfl (Or.inr ⟨rfl, hin rfl, rfl⟩) h20 (fun _ _ => rfl) dX10_init_177 ?_
  refine zJ.letM (fun u8 e8 => ?_)
  refine z_aload_n hc dX10_init_180 0 rfl rfl ?_
  refine z_bipush (v := 7) hc dX10_init_181 rfl ?_
  refine zJ.cut _ (fun _ => zJ.nil) (fun h21 => ?_)
  refine zJ.chk _ (fun h22 => ?_)
  refine zJ.chk _ (fun h23 => ?_)
  refine z_newa_int hc h21 rfl h22 h23 hRm.2.2 wRint dX10_init_183 ?_
  refine zJ.letM (fun u9 e9 => ?_)
  refine zJ.chk _ (fun h24 => ?_)
  refine zJ.chk _ (fun h25 => ?_)
  refine z_putR hc (ci := 10) (k := 32) (by decide) (by decide) zly10 (zkd_lay h24) (zkd_ok h24) wFX10_78 rfl (Or.inr ⟨rfl, hin rfl, rfl⟩) h25 (fun _ _ => rfl) dX10_init_185 ?_
  refine zJ.letM (fun u10 e10 => ?_)
  refine z_aload_n hc dX10_init_188 0 rfl rfl ?_
  refine z_bipush (v := 7) hc dX10_init_189 rfl ?_
  refine zJ.cut _ (fun _ => zJ.nil) (fun h26 => ?_)
  refine zJ.chk _ (fun h27 => ?_)
  refine zJ.chk _ (fun h28 => ?_)
  refine z_newa_int hc h26 rfl h27 h28 hRm.2.2 wRint dX10_init_191 ?_
  refine zJ.letM (fun u11 e11 => ?_)
  refine zJ.chk _ (fun h29 => ?_)
  refine zJ.chk _ (fun h30 => ?_)
  refine z_putR hc (ci := 10) (k := 33) (by decide) (by decide) zly10 (zkd_lay h29) (zkd_ok h29) wFX10_81 rfl (Or.inr ⟨rfl, hin rfl, rfl⟩) h30 (fun _ _ => rfl) dX10_init_193 ?_
  refine zJ.letM (fun u12 e12 => ?_)
  exact sMo_initD_196 hc hRm hin r0 _
set_option maxRecDepth 100000 in
set_option maxHeartbeats 4000000 in
theorem sMo_initD_101 {fin : Unit × zM} (hc : zCx p s mi args meth c (wD D b layM) m0 RX10 cX10_init 1 none) (hRm : R.frames = 1 ∧ R.locals = 21 ∧ R.cells = zc (wD D b layM) m0 fin.2 ∧ R.slots = zs (wD D b layM) m0 fin.2) (hin : yX10_init.name = "<init>" → meth.name = "<init>") (r0 : Nat) (u : zM) : zJ eV p l e R s mi args below meth c (wD D b layM) m0 1 fin 101 [(0, .ref r0)] [] u (Mo_initD_101 r0 u) := by
  unfold Mo_initD_101
  refine z_aload_n hc dX10_init_101 0 rfl rfl ?_
  refine z_bipush (v := 12) hc dX10_init_102 rfl ?_
  refine zJ.cut _ (fun _ => zJ.nil) (fun h1 => ?_)
  refine zJ.chk _ (fun h2 => ?_)
  refine zJ.chk _ (fun h3 => ?_)
  refine z_newa_int hc h1 rfl h2 h3 hRm.2.2 wRint dX10_init_104 ?_
  refine zJ.letM (fun u1 e1 => ?_)
  refine zJ.chk _ (fun h4 => ?_)
  refine zJ.chk _ (fun h5 => ?_)
  refine z_putR hc (ci := 10) (k := 21) (by decide) (by decide) zly10 (zkd_lay h4) (zkd_ok h4) wFX10_47 rfl (Or.inr ⟨rfl, hin rfl, rfl⟩) h5 (fun _ _ => rfl) dX10_init_106 ?_
  refine zJ.letM (fun u2 e2 => ?_)
  refine z_aload_n hc dX10_init_109 0 rfl rfl ?_
  refine z_bipush (v := 12) hc dX10_init_110 rfl ?_
  refine zJ.cut _ (fun _ => zJ.nil) (fun h6 => ?_)
  refine zJ.chk _ (fun h7 => ?_)
  refine zJ.chk _ (fun h8 => ?_)
  refine z_newa_int hc h6 rfl h7 h8 hRm.2.2 wRint dX10_init_112 ?_
  refine zJ.letM (fun u3 e3 => ?_)
  refine zJ.chk _ (fun h9 => ?_)
  refine zJ.chk _ (fun h10 => ?_)
  refine z_putR hc (ci := 10) (k := 22) (by decide) (by decide) zly10 (zkd_lay h9) (zkd_ok h9) wFX10_50 rfl (Or.inr ⟨rfl, hin rfl, rfl⟩) h10 (fun _ _ => rfl) dX10_init_114 ?_
  refine zJ.letM (fun u4 e4 => ?_)
  refine z_aload_n hc dX10_init_117 0 rfl rfl ?_
  refine z_bipush (v := 24) hc dX10_init_118 rfl ?_
  refine zJ.cut _ (fun _ => zJ.nil) (fun h11 => ?_)
  refine zJ.chk _ (fun h12 => ?_)
  refine zJ.chk _ (fun h13 => ?_)
  refine z_newa_int hc h11 rfl h12 h13 hRm.2.2 wRint dX10_init_120 ?_
  refine zJ.letM (fun u5 e5 => ?_)
  refine zJ.chk _ (fun h14 => ?_)
  refine zJ.chk _ (fun h15 => ?_)
  refine z_putR hc (ci := 10) (k := 23) (by decide) (by decide) zly10 (zkd_lay h14) (zkd_ok h14) wFX10_53 rfl (Or.inr ⟨rfl, hin rfl, rfl⟩) h15 (fun _ _ => rfl) dX10_init_122 ?_
  refine zJ.letM (fun u6 e6 => ?_)
  refine z_aload_n hc dX10_init_125 0 rfl rfl ?_
  refine z_iconst (v := 2) hc dX10_init_126 rfl ?_
  refine zJ.cut _ (fun _ => zJ.nil) (fun h16 => ?_)
  refine zJ.chk _ (fun h17 => ?_)
  refine zJ.chk _ (fun h18 => ?_)
  refine z_newa_int hc h16 rfl h17 h18 hRm.2.2 wRint dX10_init_127 ?_
  refine zJ.letM (fun u7 e7 => ?_)
  refine zJ.chk _ (fun h19 => ?_)
  refine zJ.chk _ (fun h20 => ?_)
  refine z_putR hc (ci := 10) (k := 24) (by decide) (by decide) zly10 (zkd_lay h19) (zkd_ok h19) wFX10_56 rfl (Or.inr ⟨rfl, hin rfl, rfl⟩) h20 (fun _ _ => rfl) dX10_init_129 ?_
  refine zJ.letM (fun u8 e8 => ?_)
  refine z_aload_n hc dX10_init_132 0 rfl rfl ?_
  refine z_iconst (v := 2) hc dX10_init_133 rfl ?_
  refine zJ.cut _ (fun _ => zJ.nil) (fun h21 => ?_)
  refine zJ.chk _ (fun h22 => ?_)
  refine zJ.chk _ (fun h23 => ?_)
  refine z_newa_int hc h21 rfl h22 h23 hRm.2.2 wRint dX10_init_134 ?_
  refine zJ.letM (fun u9 e9 => ?_)
  refine zJ.chk _ (fun h24 => ?_)
  refine zJ.chk _ (fun h25 => ?_)
  refine z_putR hc (ci := 10) (k := 25) (by decide) (by decide) zly10 (zkd_lay h24) (zkd_ok h24) wFX10_59 rfl (Or.inr ⟨rfl, hin rfl, rfl⟩) h25 (fun _ _ => rfl) dX10_init_136 ?_
  refine zJ.letM (fun u10 e10 => ?_)
  refine z_aload_n hc dX10_init_139 0 rfl rfl ?_
  refine z_sipush (v := 2000) hc dX10_init_140 rfl ?_
  refine zJ.cut _ (fun _ => zJ.nil) (fun h26 => ?_)
  refine zJ.chk _ (fun h27 => ?_)
  refine zJ.chk _ (fun h28 => ?_)
  refine z_newa_int hc h26 rfl h27 h28 hRm.2.2 wRint dX10_init_143 ?_
  refine zJ.letM (fun u11 e11 => ?_)
  refine zJ.chk _ (fun h29 => ?_)
  refine zJ.chk _ (fun h30 => ?_)
  refine z_putR hc (ci := 10) (k := 26) (by decide) (by decide) zly10 (zkd_lay h29) (zkd_ok h29) wFX10_62 rfl (Or.inr ⟨rfl, hin rfl, rfl⟩) h30 (fun _ _ => rfl) dX10_init_145 ?_
  refine zJ.letM (fun u12 e12 => ?_)
  exact sMo_initD_148 hc hRm hin r0 _
set_option maxRecDepth 100000 in
set_option maxHeartbeats 4000000 in
theorem sMo_initD_53 {fin : Unit × zM} (hc : zCx p s mi args meth c (wD D b layM) m0 RX10 cX10_init 1 none) (hRm : R.frames = 1 ∧ R.locals = 21 ∧ R.cells = zc (wD D b layM) m0 fin.2 ∧ R.slots = zs (wD D b layM) m0 fin.2) (hin : yX10_init.name = "<init>" → meth.name = "<init>") (r0 : Nat) (u : zM) : zJ eV p l e R s mi args below meth c (wD D b layM) m0 1 fin 53 [(0, .ref r0)] [] u (Mo_initD_53 r0 u) := by
  unfold Mo_initD_53
  refine z_aload_n hc dX10_init_53 0 rfl rfl ?_
  refine z_bipush (v := 14) hc dX10_init_54 rfl ?_
  refine zJ.cut _ (fun _ => zJ.nil) (fun h1 => ?_)
  refine zJ.chk _ (fun h2 => ?_)
  refine zJ.chk _ (fun h3 => ?_)
  refine z_newa_int hc h1 rfl h2 h3 hRm.2.2 wRint dX10_init_56 ?_
  refine zJ.letM (fun u1 e1 => ?_)
  refine zJ.chk _ (fun h4 => ?_)
  refine zJ.chk _ (fun h5 => ?_)
  refine z_putR hc (ci := 10) (k := 15) (by decide) (by decide) zly10 (zkd_lay h4) (zkd_ok h4) wFX10_29 rfl (Or.inr ⟨rfl, hin rfl, rfl⟩) h5 (fun _ _ => rfl) dX10_init_58 ?_
  refine zJ.letM (fun u2 e2 => ?_)
  refine z_aload_n hc dX10_init_61 0 rfl rfl ?_
  refine z_bipush (v := 14) hc dX10_init_62 rfl ?_
  refine zJ.cut _ (fun _ => zJ.nil) (fun h6 => ?_)
  refine zJ.chk _ (fun h7 => ?_)
  refine zJ.chk _ (fun h8 => ?_)
  refine z_newa_int hc h6 rfl h7 h8 hRm.2.2 wRint dX10_init_64 ?_
  refine zJ.letM (fun u3 e3 => ?_)
  refine zJ.chk _ (fun h9 => ?_)
  refine zJ.chk _ (fun h10 => ?_)
  refine z_putR hc (ci := 10) (k := 16) (by decide) (by decide) zly10 (zkd_lay h9) (zkd_ok h9) wFX10_32 rfl (Or.inr ⟨rfl, hin rfl, rfl⟩) h10 (fun _ _ => rfl) dX10_init_66 ?_
  refine zJ.letM (fun u4 e4 => ?_)
  refine z_aload_n hc dX10_init_69 0 rfl rfl ?_
  refine z_bipush (v := 10) hc dX10_init_70 rfl ?_
  refine zJ.cut _ (fun _ => zJ.nil) (fun h11 => ?_)
  refine zJ.chk _ (fun h12 => ?_)
  refine zJ.chk _ (fun h13 => ?_)
  refine z_newa_int hc h11 rfl h12 h13 hRm.2.2 wRint dX10_init_72 ?_
  refine zJ.letM (fun u5 e5 => ?_)
  refine zJ.chk _ (fun h14 => ?_)
  refine zJ.chk _ (fun h15 => ?_)
  refine z_putR hc (ci := 10) (k := 17) (by decide) (by decide) zly10 (zkd_lay h14) (zkd_ok h14) wFX10_35 rfl (Or.inr ⟨rfl, hin rfl, rfl⟩) h15 (fun _ _ => rfl) dX10_init_74 ?_
  refine zJ.letM (fun u6 e6 => ?_)
  refine z_aload_n hc dX10_init_77 0 rfl rfl ?_
  refine z_bipush (v := 10) hc dX10_init_78 rfl ?_
  refine zJ.cut _ (fun _ => zJ.nil) (fun h16 => ?_)
  refine zJ.chk _ (fun h17 => ?_)
  refine zJ.chk _ (fun h18 => ?_)
  refine z_newa_int hc h16 rfl h17 h18 hRm.2.2 wRint dX10_init_80 ?_
  refine zJ.letM (fun u7 e7 => ?_)
  refine zJ.chk _ (fun h19 => ?_)
  refine zJ.chk _ (fun h20 => ?_)
  refine z_putR hc (ci := 10) (k := 18) (by decide) (by decide) zly10 (zkd_lay h19) (zkd_ok h19) wFX10_38 rfl (Or.inr ⟨rfl, hin rfl, rfl⟩) h20 (fun _ _ => rfl) dX10_init_82 ?_
  refine zJ.letM (fun u8 e8 => ?_)
  refine z_aload_n hc dX10_init_85 0 rfl rfl ?_
  refine z_bipush (v := 6) hc dX10_init_86 rfl ?_
  refine zJ.cut _ (fun _ => zJ.nil) (fun h21 => ?_)
  refine zJ.chk _ (fun h22 => ?_)
  refine zJ.chk _ (fun h23 => ?_)
  refine z_newa_int hc h21 rfl h22 h23 hRm.2.2 wRint dX10_init_88 ?_
  refine zJ.letM (fun u9 e9 => ?_)
  refine zJ.chk _ (fun h24 => ?_)
  refine zJ.chk _ (fun h25 => ?_)
  refine z_putR hc (ci := 10) (k := 19) (by decide) (by decide) zly10 (zkd_lay h24) (zkd_ok h24) wFX10_41 rfl (Or.inr ⟨rfl, hin rfl, rfl⟩) h25 (fun _ _ => rfl) dX10_init_90 ?_
  refine zJ.letM (fun u10 e10 => ?_)
  refine z_aload_n hc dX10_init_93 0 rfl rfl ?_
  refine z_bipush (v := 6) hc dX10_init_94 rfl ?_
  refine zJ.cut _ (fun _ => zJ.nil) (fun h26 => ?_)
  refine zJ.chk _ (fun h27 => ?_)
  refine zJ.chk _ (fun h28 => ?_)
  refine z_newa_int hc h26 rfl h27 h28 hRm.2.2 wRint dX10_init_96 ?_
  refine zJ.letM (fun u11 e11 => ?_)
  refine zJ.chk _ (fun h29 => ?_)
  refine zJ.chk _ (fun h30 => ?_)
  refine z_putR hc (ci := 10) (k := 20) (by decide) (by decide) zly10 (zkd_lay h29) (zkd_ok h29) wFX10_44 rfl (Or.inr ⟨rfl, hin rfl, rfl⟩) h30 (fun _ _ => rfl) dX10_init_98 ?_
  refine zJ.letM (fun u12 e12 => ?_)
  exact sMo_initD_101 hc hRm hin r0 _
set_option maxRecDepth 100000 in
set_option maxHeartbeats 4000000 in
theorem sMo_initD : ∀ (r0 : Nat) (u : zM) r m1, Mo_initD r0 u = some (r, m1) → zMet l (wD D b layM) 1 21 yX10_init cX10_init 1 none [.ref r0] u (eV r) m1 := by
  intro r0 u
  refine zMet.of (L := [(0, .ref r0)]) RX10 (by decide +kernel) rfl (Nat.le_of_ble_eq_true rfl) (fun _ r m1 h => (zmono_le h).1) rfl (fun p e s mi args below meth c R fin hc hin hRm => ?_)
  unfold Mo_initD
  refine zJ.mono ?_
  unfold Mo_initDx
  refine z_aload_n hc dX10_init_0 0 rfl rfl ?_
  refine z_objInit hc wBX10_1 wBin wBco (rm_ok hRm (Nat.le_of_ble_eq_true rfl) (Nat.le_of_ble_eq_true rfl)) (Nat.le_of_ble_eq_true rfl) dX10_init_1 ?_
  refine z_aload_n hc dX10_init_4 0 rfl rfl ?_
  refine z_sipush (v := 1000) hc dX10_init_5 rfl ?_
  refine zJ.cut _ (fun _ => zJ.nil) (fun h1 => ?_)
  refine zJ.chk _ (fun h2 => ?_)
  refine zJ.chk _ (fun h3 => ?_)
  refine z_newa_int hc h1 rfl h2 h3 hRm.2.2 wRint dX10_init_8 ?_
  refine zJ.letM (fun u1 e1 => ?_)
  refine zJ.chk _ (fun h4 => ?_)
  refine zJ.chk _ (fun h5 => ?_)
  refine z_putR hc (ci := 10) (k := 2) (by decide) (by decide) zly10 (zkd_lay h4) (zkd_ok h4) wFX10_7 rfl (Or.inr ⟨rfl, hin rfl, rfl⟩) h5 (fun _ _ => rfl) dX10_init_10 ?_
  refine zJ.letM (fun u2 e2 => ?_)
  refine z_aload_n hc dX10_init_13 0 rfl rfl ?_
  refine z_bipush (v := 12) hc dX10_init_14 rfl ?_
  refine zJ.cut _ (fun _ => zJ.nil) (fun h6 => ?_)
  refine zJ.chk _ (fun h7 => ?_)
  refine zJ.chk _ (fun h8 => ?_)
  refine z_newa_int hc h6 rfl h7 h8 hRm.2.2 wRint dX10_init_16 ?_
  refine zJ.letM (fun u3 e3 => ?_)
  refine zJ.chk _ (fun h9 => ?_)
  refine zJ.chk _ (fun h10 => ?_)
  refine z_putR hc (ci := 10) (k := 10) (by decide) (by decide) zly10 (zkd_lay h9) (zkd_ok h9) wFX10_13 rfl (Or.inr ⟨rfl, hin rfl, rfl⟩) h10 (fun _ _ => rfl) dX10_init_18 ?_
  refine zJ.letM (fun u4 e4 => ?_)
  refine z_aload_n hc dX10_init_21 0 rfl rfl ?_
  refine z_bipush (v := 14) hc dX10_init_22 rfl ?_
  refine zJ.cut _ (fun _ => zJ.nil) (fun h11 => ?_)
  refine zJ.chk _ (fun h12 => ?_)
  refine zJ.chk _ (fun h13 => ?_)
  refine z_newa_long hc h11 rfl h12 h13 hRm.2.2 wRlong dX10_init_24 ?_
  refine zJ.letM (fun u5 e5 => ?_)
  refine zJ.chk _ (fun h14 => ?_)
  refine zJ.chk _ (fun h15 => ?_)
  refine z_putR hc (ci := 10) (k := 11) (by decide) (by decide) zly10 (zkd_lay h14) (zkd_ok h14) wFX10_16 rfl (Or.inr ⟨rfl, hin rfl, rfl⟩) h15 (fun _ _ => rfl) dX10_init_26 ?_
  refine zJ.letM (fun u6 e6 => ?_)
  refine z_aload_n hc dX10_init_29 0 rfl rfl ?_
  refine z_bipush (v := 10) hc dX10_init_30 rfl ?_
  refine zJ.cut _ (fun _ => zJ.nil) (fun h16 => ?_)
  refine zJ.chk _ (fun h17 => ?_)
  refine zJ.chk _ (fun h18 => ?_)
  refine z_newa_long hc h16 rfl h17 h18 hRm.2.2 wRlong dX10_init_32 ?_
  refine zJ.letM (fun u7 e7 => ?_)
  refine zJ.chk _ (fun h19 => ?_)
  refine zJ.chk _ (fun h20 => ?_)
  refine z_putR hc (ci := 10) (k := 12) (by decide) (by decide) zly10 (zkd_lay h19) (zkd_ok h19) wFX10_20 rfl (Or.inr ⟨rfl, hin rfl, rfl⟩) h20 (fun _ _ => rfl) dX10_init_34 ?_
  refine zJ.letM (fun u8 e8 => ?_)
  refine z_aload_n hc dX10_init_37 0 rfl rfl ?_
  refine z_bipush (v := 6) hc dX10_init_38 rfl ?_
  refine zJ.cut _ (fun _ => zJ.nil) (fun h21 => ?_)
  refine zJ.chk _ (fun h22 => ?_)
  refine zJ.chk _ (fun h23 => ?_)
  refine z_newa_long hc h21 rfl h22 h23 hRm.2.2 wRlong dX10_init_40 ?_
  refine zJ.letM (fun u9 e9 => ?_)
  refine zJ.chk _ (fun h24 => ?_)
  refine zJ.chk _ (fun h25 => ?_)
  refine z_putR hc (ci := 10) (k := 13) (by decide) (by decide) zly10 (zkd_lay h24) (zkd_ok h24) wFX10_23 rfl (Or.inr ⟨rfl, hin rfl, rfl⟩) h25 (fun _ _ => rfl) dX10_init_42 ?_
  refine zJ.letM (fun u10 e10 => ?_)
  refine z_aload_n hc dX10_init_45 0 rfl rfl ?_
  refine z_bipush (v := 12) hc dX10_init_46 rfl ?_
  refine zJ.cut _ (fun _ => zJ.nil) (fun h26 => ?_)
  refine zJ.chk _ (fun h27 => ?_)
  refine zJ.chk _ (fun h28 => ?_)
  refine z_newa_long hc h26 rfl h27 h28 hRm.2.2 wRlong dX10_init_48 ?_
  refine zJ.letM (fun u11 e11 => ?_)
  refine zJ.chk _ (fun h29 => ?_)
  refine zJ.chk _ (fun h30 => ?_)
  refine z_putR hc (ci := 10) (k := 14) (by decide) (by decide) zly10 (zkd_lay h29) (zkd_ok h29) wFX10_26 rfl (Or.inr ⟨rfl, hin rfl, rfl⟩) h30 (fun _ _ => rfl) dX10_init_50 ?_
  refine zJ.letM (fun u12 e12 => ?_)
  exact sMo_initD_53 hc hRm hin r0 _
end ZS
