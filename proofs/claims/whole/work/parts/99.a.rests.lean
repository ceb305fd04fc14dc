/-! ===== OtterWrits.rests: it answers, or throws ===== -/
theorem nse_l : Cond.classLink RX9 369 nse ∈ zT := zT_mem (by decide +kernel) rfl
theorem nse_i : Cond.initialized nse ∈ zT := zT_mem (by decide +kernel) rfl
theorem nse_h : Cond.classLink RL 13 nse ∈ zT := zT_mem (by decide +kernel) rfl
def rsPc (D : zD) (b : Nat) (u : zM) (a1 a2 a3 a4 : Int32) : Array Value → State → Prop := fun args U => zPre (wC D b) [.ref 1, .int a1, .int a2, .int a3, .int a4] u args U ∧ zX b U U.heap ∧ b + 240 < U.heap.size
def rsQc (D : zD) (b : Nat) (u : zM) (a1 a2 a3 a4 : Int32) : Array Value → State → Outcome → State → Prop := fun a st o t => ∃ r, rsF a1 a2 a3 a4 = some r ∧ zPost (wC D b) u (some (.int r)) u a st o t
def rsXC (D : zD) (b : Nat) (u : zM) (a1 a2 a3 a4 : Int32) : String → State → State → Prop := fun E st t => E = nse ∧ rsF a1 a2 a3 a4 = none ∧ zRep D b layC rfC (240, false) u t.heap ∧ st.heap.size ≤ t.heap.size ∧ ∀ q, q < st.heap.size → ¬ (∃ a, q = b + a ∧ zok (240, false) u a) → t.heap[q]? = st.heap[q]?
section RS
variable {p : Program} {l : Launch} {e : Env} {R : Room} {s : State} {m : MethodId} {args : Array Value} {below : List Frame} {meth : Method} {c : Code} {D : zD} {b : Nat} {u : zM} {H : Heap} {locs : List Loc} {ls : Array Slot} {pc : Nat} {a1 a2 a3 a4 : Int32} {Q : State → Prop} {cells slots : Nat} {own : String} {cc : ByteArray} {nL : Nat} {ret : Option FieldType} {st : List Value} {mem m0 m1 : zM}
theorem zW_callS (hc : zCx p s m args meth c (wC D b) m0 own cc nL ret) {idx fr lo maxL : Nat} {y : MethodName} {cd : ByteArray} {rt : Option FieldType} {av stk : List Value} {r : Value} (hstk : stk = (av.map (zv D b)).reverse ++ st) (hM : zMet l (wC D b) fr lo y cd maxL rt av mem (some r) m1)
    (hws : ∀ x ∈ va_wsS own idx y [.code y cd maxL rt], x ∈ zT) (hpar : (parseMethodDescriptor y.desc).map (fun d => d.parameters.length) = some av.length) (hy : y.cls ≠ "java/lang/invoke/MethodHandle" ∧ y.cls ≠ "java/lang/invoke/VarHandle") (hR : fr + 1 ≤ R.frames ∧ 8 + (maxL + 11) + lo ≤ R.locals) (hW : (st.map fun v => v.category).sum ≤ 8) (hd : decode cc pc = .ok (.invokestatic idx, 3)) (hsz : ls.size = nL) (hcap : cells ≤ R.cells ∧ slots ≤ R.slots) (hI : zI (wC D b) s m0 mem H locs)
    (kk : ∀ H' locs', zI (wC D b) s m0 m1 H' locs' → W p l e R s m args below meth c H' locs' cells slots Q (F0 m (pc + 3) ls (zv D b r :: st))) : W p l e R s m args below meth c H locs cells slots Q (F0 m pc ls stk) := by
  subst hstk
  have hGI : GoodIn zT (va_wsS own idx y (.code y cd maxL rt :: zT)) := fun x hx => by
    have hx2 : x ∈ zT := by
      rcases List.mem_append.mp hx with h | h
      · exact hws x (List.mem_append_left _ h)
      · rcases List.mem_cons.mp h with rfl | h
        · exact hws _ (List.mem_append_right _ List.mem_cons_self)
        · exact h
    exact ⟨hx2, good_of_word (zT_good x hx2)⟩
  intro T hT X
  obtain ⟨v9, st0, t, T', Lc, h0, X', hLc, e1, e2, hq, stp⟩ := va_runS (As := av.map (zv D b)) (rest := st) (R := R) (g := F0 m pc ls ((av.map (zv D b)).reverse ++ st)) ⟨hc.1, hc.2.1, hc.2.2.2.1, hc.2.2.2.2.1, hc.2.2.2.2.2.1⟩ hM.2 (va_cwS av.length hc.2.2.2.2.2.1 hGI rfl rfl rfl ⟨hy.1, hy.2, hpar⟩ hR)
    ⟨zPre_blind _ _ _, fun U hU hWm => zPre.of hc hI av hU hWm⟩ rfl (by rw [List.length_map]) hsz rfl (by show 2 * 0 + _ ≤ 8; omega) hd hcap T hT X
  have X2 : Stand p l e R s m args below meth c T' (locs ++ Lc) cells slots := X'
  have hv : v9 = some (zv D b r) := Outcome.returned.inj hq.1
  have hI2 := hI.call hc (fun ht => by cases ht) h0 hq hLc
  rw [← e1] at hI2
  obtain ⟨t2, b1, b2⟩ := kk T'.heap (locs ++ Lc) hI2 T' rfl X2
  refine ⟨t2, stp t2 ?_, b2⟩
  rw [hv]
  exact b1
/-- the throw -/
theorem rs_throw (hc : zCx p s m args meth c (wC D b) u RX9 cX9_rests 7 (some .int)) (hzx : zX b s s.heap) (hbz : b + 240 < s.heap.size) (hfl : l.stackTraces = false) (htab : ∀ x ∈ c.exceptionTable.toList, False) (hRm : 6 ≤ R.frames ∧ 100 ≤ R.locals ∧ R.cells = 1 ∧ R.slots = 6) (hI : zI (wC D b) s u u H locs) (hsz : ls.size = 7) (hno : rsF a1 a2 a3 a4 = none) {is : Nat} {text : String} (hstr : ∃ sa, vk_R RX9 is text sa s)
    (d0 : decode cX9_rests pc = .ok (.new 369, 3)) (d3 : decode cX9_rests (pc + 3) = .ok (.dup, 1)) (d4 : decode cX9_rests (pc + 4) = .ok (.ldc_w is, 3)) (d7 : decode cX9_rests (pc + 7) = .ok (.invokespecial 373, 3)) (d10 : decode cX9_rests (pc + 10) = .ok (.athrow, 1)) :
    W p l e R s m args below meth c H locs 0 0 (vx_MQ below (rsQc D b u a1 a2 a3 a4) (rsXC D b u a1 a2 a3 a4) args s 1 6 (fun q => b < q)) (F0 m pc ls []) := by
  obtain ⟨hx, hb, hr, hml, hown, hts, hlk, hK, hst, htop⟩ := hc
  obtain ⟨i1, i2, i3, i4, i5⟩ := hI
  have i3 : H.size = s.heap.size := i3
  obtain ⟨sa, hsa⟩ := hstr
  refine nse_throw (A := fun q => b < q) hx hb hfl hown (hts _ nse_l) (hts _ nse_i) hsa (vx_hat (fun w hw => hts w (zT_mem (nsL_good w hw) (List.mem_filter.mp hw).2)) nsL_bad (vx_c (va_Nw.use rfl hzx.1.2.1) (vx_c (va_Nw.use rfl hzx.1.2.2.1) (vx_c (va_Nw.use rfl hzx.1.2.2.2) vx_n)))) hzx.2.2.1 hzx.2.2.2 ⟨by rw [i3]; exact Nat.le_refl _, fun q h1 h2 => i4 q h1 ?_, i5⟩ (hsz.trans hml.symm) d0 d3 d4 d7 d10 (fun x hx => absurd (htab x hx) (fun z => z)) ?_ ?_ ?_ ?_ hlk ?_ i5 (Nat.le_refl _) (Nat.le_refl _)
  · rintro ⟨a, q1, q2⟩
    have q1 : q = b + a := q1
    have := zok_le q2
    exact h2 (by omega)
  · omega
  · show 0 + (13 * 3 + 43) ≤ R.locals
    omega
  · rw [hRm.2.2.1]; exact Nat.le_refl _
  · rw [hRm.2.2.2]; exact Nat.le_refl _
  · intro t _ g1 g2
    refine ⟨rfl, hno, zRep.kept i1 (fun a ha => g2 _ (by have := zok_le ha; omega)), by rw [i3] at g1; exact g1, fun q h1 h2 => (g2 q (by rw [i3]; exact h1)).trans (i4 q h1 h2)⟩
set_option maxHeartbeats 4000000 in
theorem rs_loop (hc : zCx p s m args meth c (wC D b) u RX9 cX9_rests 7 (some .int)) (hzx : zX b s s.heap) (hbz : b + 240 < s.heap.size) (hfl : l.stackTraces = false) (htab : ∀ x ∈ c.exceptionTable.toList, False) (hRm : 6 ≤ R.frames ∧ 100 ≤ R.locals ∧ R.cells = 1 ∧ R.slots = 6) :
    ∀ n j f H locs ls, j + n = 4 → rsL a1 a2 a3 a4 n f (nI j) = rsF a1 a2 a3 a4 → zI (wC D b) s u u H locs → lv_has ls 7 [(6, .int (nI j)), (5, .int f), (1, .int a1), (2, .int a2), (3, .int a3), (4, .int a4)] →
    W p l e R s m args below meth c H locs 0 0 (vx_MQ below (rsQc D b u a1 a2 a3 a4) (rsXC D b u a1 a2 a3 a4) args s 1 6 (fun q => b < q)) (F0 m 53 ls []) := by
  obtain ⟨hx, hb, hr, hml, hown, hts, hlk, hK, hst, htop⟩ := id hc
  have hret : ∀ {r : Int32} {pc : Nat} {H : Heap} {locs : List Loc} {ls : Array Slot}, rsF a1 a2 a3 a4 = some r → zI (wC D b) s u u H locs → decode cX9_rests pc = .ok (.ireturn, 1) → W p l e R s m args below meth c H locs 0 0 (vx_MQ below (rsQc D b u a1 a2 a3 a4) (rsXC D b u a1 a2 a3 a4) args s 1 6 (fun q => b < q)) (F0 m pc ls [.int r]) := by
    intro r pc H locs ls h1 hI hd
    refine vx_ret ?_
    refine W.widen (k := 1) (n := 6) (by omega) (by omega) ?_
    exact W.iret hx hb hr (fun t ht hW => ⟨r, h1, rfl, by rw [ht]; exact hI.1, by rw [ht]; exact hI.2.2.1, fun q h1 h2 => by rw [ht]; exact hI.2.2.2.1 q h1 h2⟩) hI.2.2.2.2 hd (hlocks := hlk)
  intro n
  induction n with
  | zero =>
    intro j f H locs ls hj hrs hI hl
    obtain rfl : j = 4 := by omega
    rw [rsL_0] at hrs
    refine lv_iload hx hb dX9_rests_53 (lv_at hl 0 rfl) ?_
    refine lv_iconst (v := 4) hx hb dX9_rests_55 rfl ?_
    refine lv_icmp_ge (tgt := 89) hx hb dX9_rests_56 (by decide) (fun _ => ?_) (fun q => absurd (show (4 : Int32) ≤ nI 4 by decide) q)
    refine lv_iload hx hb dX9_rests_89 (lv_at hl 5 rfl) ?_
    refine lv_iconst (v := -1) hx hb dX9_rests_91 rfl ?_
    refine lv_icmp_eq (tgt := 106) hx hb dX9_rests_92 (by decide) (fun q => ?_) (fun q => ?_)
    · rw [if_pos q] at hrs
      refine lv_iload hx hb dX9_rests_106 (lv_at hl 1 rfl) ?_
      exact hret hrs.symm hI dX9_rests_108
    · rw [if_neg q] at hrs
      exact rs_throw hc hzx hbz hfl htab hRm hI hl.1 hrs.symm hzx.2.1.2 dX9_rests_95 dX9_rests_98 dX9_rests_99 dX9_rests_102 dX9_rests_105
  | succ n ih =>
    intro j f H locs ls hj hrs hI hl
    rw [rsL_s] at hrs
    refine lv_iload hx hb dX9_rests_53 (lv_at hl 0 rfl) ?_
    refine lv_iconst (v := 4) hx hb dX9_rests_55 rfl ?_
    refine lv_icmp_ge (tgt := 89) hx hb dX9_rests_56 (by decide) (fun q => absurd q (show ¬ (4 : Int32) ≤ nI j from @nI_ge j 4 (by omega) (by decide))) (fun _ => ?_)
    refine lv_iload_n hx hb dX9_rests_59 rfl (lv_at hl 2 rfl) ?_
    refine lv_iload_n hx hb dX9_rests_60 rfl (lv_at hl 3 rfl) ?_
    refine lv_iload_n hx hb dX9_rests_61 rfl (lv_at hl 4 rfl) ?_
    refine lv_iload hx hb dX9_rests_62 (lv_at hl 0 rfl) ?_
    refine zW_callS (st := []) (av := [.int a1, .int a2, .int a3, .int (nI j)]) hc rfl (sOW_isRest a1 a2 a3 (nI j) u _ _ (isRest_eq a1 a2 a3 (nI j) u)) wMX9_376 hpyX9_isRest hmyX9_isRest ⟨by omega, by omega⟩ (Nat.zero_le _) dX9_rests_64 hl.1 ⟨Nat.zero_le _, Nat.zero_le _⟩ hI (fun H locs hI => ?_)
    show W p l e R s m args below meth c H locs 0 0 _ (F0 m 67 ls [.int (if isRF a1 a2 a3 (nI j) = true then 1 else 0)])
    by_cases hR : isRF a1 a2 a3 (nI j) = true
    · rw [if_pos hR] at hrs ⊢
      refine lv_if_eq (tgt := 83) hx hb dX9_rests_67 (by decide) (fun q => absurd q (by decide)) (fun _ => ?_)
      refine lv_iload hx hb dX9_rests_70 (lv_at hl 1 rfl) ?_
      refine lv_iload hx hb dX9_rests_72 (lv_at hl 5 rfl) ?_
      refine lv_icmp_ne (tgt := 80) hx hb dX9_rests_74 (by decide) (fun q => ?_) (fun q => ?_)
      · rw [if_neg q] at hrs
        refine lv_iinc (v := f + 1) (lv' := [(5, .int (f + 1)), (6, .int (nI j)), (1, .int a1), (2, .int a2), (3, .int a3), (4, .int a4)]) hx hb dX9_rests_80 hl (k := 1) rfl rfl (by decide) rfl (fun ls hl => ?_)
        refine lv_iinc (v := nI (j + 1)) (lv' := [(6, .int (nI (j + 1))), (5, .int (f + 1)), (1, .int a1), (2, .int a2), (3, .int a3), (4, .int a4)]) hx hb dX9_rests_83 hl (k := 1) rfl (nI_1 j) (by decide) rfl (fun ls hl => ?_)
        refine lv_goto (tgt := 53) hx hb dX9_rests_86 (by decide) ?_
        exact ih (j + 1) (f + 1) H locs ls (by omega) (by rw [← nI_1]; exact hrs) hI hl
      · rw [if_pos q] at hrs
        refine lv_iload hx hb dX9_rests_77 (lv_at hl 0 rfl) ?_
        exact hret hrs.symm hI dX9_rests_79
    · rw [if_neg hR] at hrs ⊢
      refine lv_if_eq (tgt := 83) hx hb dX9_rests_67 (by decide) (fun _ => ?_) (fun q => absurd rfl q)
      refine lv_iinc (v := nI (j + 1)) (lv' := [(6, .int (nI (j + 1))), (5, .int f), (1, .int a1), (2, .int a2), (3, .int a3), (4, .int a4)]) hx hb dX9_rests_83 hl (k := 0) rfl (nI_1 j) (by decide) rfl (fun ls hl => ?_)
      refine lv_goto (tgt := 53) hx hb dX9_rests_86 (by decide) ?_
      exact ih (j + 1) f H locs ls (by omega) (by rw [← nI_1]; exact hrs) hI hl
end RS
set_option maxHeartbeats 4000000 in
theorem sOW_rests (l : Launch) (hfl : l.stackTraces = false) (D : zD) (b : Nat) (u : zM) (a1 a2 a3 a4 : Int32) : vx_Met l yX9_rests (.code yX9_rests cX9_rests 7 (some .int) :: zT) ({ frames := 6, cells := 1, slots := 6, locals := 100 }) (rsPc D b u a1 a2 a3 a4) (rsQc D b u a1 a2 a3 a4) (rsXC D b u a1 a2 a3 a4) 1 6 (fun q => b < q) := by
  refine vx_ofW (cc := cX9_rests) (maxL := 7) (ret := some .int) (by decide +kernel) rfl ?_
  intro p e s m args below meth c s₁ Bd hml htab hv
  obtain ⟨⟨rfl, hP, hK, hSt, htop⟩, hzx, hbz⟩ := hv
  have hts := atoms_spec (ws := .code yX9_rests cX9_rests 7 (some .int) :: zT) Bd.pre
  have hown : s.vm.findClass RX9 = some m.cls := findClass_of_methodNamed Bd.named
  have hc : zCx p s m ([.ref 1, .int a1, .int a2, .int a3, .int a4].map (zv D b)).toArray meth c (wC D b) u RX9 cX9_rests 7 (some .int) := ⟨Bd.exec, Bd.bytes, Bd.returns, hml, hown, fun x hx => hts x (List.mem_cons_of_mem _ hx), Bd.notSynchronized, hK, hSt, htop⟩
  have hI : zI (wC D b) s u u s.heap [] := ⟨hP, fun _ => Nat.le_refl _, rfl, fun _ _ _ => rfl, fun q hq => by cases hq⟩
  have hRm : 6 ≤ ((headSpec (.code yX9_rests cX9_rests 7 (some .int) :: zT) ({ frames := 6, cells := 1, slots := 6, locals := 100 })).room).frames ∧ 100 ≤ ((headSpec (.code yX9_rests cX9_rests 7 (some .int) :: zT) ({ frames := 6, cells := 1, slots := 6, locals := 100 })).room).locals ∧ ((headSpec (.code yX9_rests cX9_rests 7 (some .int) :: zT) ({ frames := 6, cells := 1, slots := 6, locals := 100 })).room).cells = 1 ∧ ((headSpec (.code yX9_rests cX9_rests 7 (some .int) :: zT) ({ frames := 6, cells := 1, slots := 6, locals := 100 })).room).slots = 6 := ⟨Nat.le_refl _, Nat.le_refl _, rfl, rfl⟩
  generalize (headSpec (.code yX9_rests cX9_rests 7 (some .int) :: zT) ({ frames := 6, cells := 1, slots := 6, locals := 100 })).room = R at hRm ⊢
  have hl := lv_entry ([.ref 1, .int a1, .int a2, .int a3, .int a4].map (zv D b)) (n := 7) (Nat.le_of_ble_eq_true rfl)
  rw [lg_entry_eq]
  generalize (lg_sl ([.ref 1, .int a1, .int a2, .int a3, .int a4].map (zv D b)) ++ List.replicate (7 - (lg_sl ([.ref 1, .int a1, .int a2, .int a3, .int a4].map (zv D b))).length) Slot.unset).toArray = ls at hl ⊢
  have hl : lv_has ls 7 [(0, .ref (b + 1)), (1, .int a1), (2, .int a2), (3, .int a3), (4, .int a4)] := hl
  generalize ([.ref 1, .int a1, .int a2, .int a3, .int a4].map (zv D b)).toArray = args at hc ⊢
  obtain ⟨hx, hb, hr, -, -, -, hlk, -, -, -⟩ := id hc
  have no : ∀ H locs, rsF a1 a2 a3 a4 = none → zI (wC D b) s u u H locs → W p l e R s m args below meth c H locs 0 0 (vx_MQ below (rsQc D b u a1 a2 a3 a4) (rsXC D b u a1 a2 a3 a4) args s 1 6 (fun q => b < q)) (F0 m 36 ls []) := fun H locs h hI => rs_throw hc hzx hbz hfl htab hRm hI hl.1 h hzx.2.1.1 dX9_rests_36 dX9_rests_39 dX9_rests_40 dX9_rests_43 dX9_rests_46
  refine lv_iload_n hx hb dX9_rests_0 rfl (lv_at hl 1 rfl) ?_
  refine lv_iconst (v := 0) hx hb dX9_rests_1 rfl ?_
  refine lv_bipush (v := 9) hx hb dX9_rests_2 (by decide) ?_
  refine zW_callS (st := []) (av := [.int a1, .int 0, .int 9]) hc rfl (sOW_within a1 0 9 u _ _ (within9 a1 u)) wMX9_229 hpyX9_within hmyX9_within ⟨by omega, by omega⟩ (Nat.zero_le _) dX9_rests_4 hl.1 ⟨Nat.zero_le _, Nat.zero_le _⟩ hI (fun H locs hI => ?_)
  show W p l e R s m args below meth c H locs 0 0 _ (F0 m 7 ls [.int (if wi9 a1 = true then 1 else 0)])
  by_cases h1 : wi9 a1 = true
  rotate_left
  · rw [if_neg h1]
    refine lv_if_eq (tgt := 36) hx hb dX9_rests_7 (by decide) (fun _ => ?_) (fun q => absurd rfl q)
    exact no H locs (if_neg (fun z => h1 z.1)) hI
  rw [if_pos h1]
  refine lv_if_eq (tgt := 36) hx hb dX9_rests_7 (by decide) (fun q => absurd q (by decide)) (fun _ => ?_)
  refine lv_iload_n hx hb dX9_rests_10 rfl (lv_at hl 2 rfl) ?_
  refine lv_iconst (v := 0) hx hb dX9_rests_11 rfl ?_
  refine lv_bipush (v := 9) hx hb dX9_rests_12 (by decide) ?_
  refine zW_callS (st := []) (av := [.int a2, .int 0, .int 9]) hc rfl (sOW_within a2 0 9 u _ _ (within9 a2 u)) wMX9_229 hpyX9_within hmyX9_within ⟨by omega, by omega⟩ (Nat.zero_le _) dX9_rests_14 hl.1 ⟨Nat.zero_le _, Nat.zero_le _⟩ hI (fun H locs hI => ?_)
  show W p l e R s m args below meth c H locs 0 0 _ (F0 m 17 ls [.int (if wi9 a2 = true then 1 else 0)])
  by_cases h2 : wi9 a2 = true
  rotate_left
  · rw [if_neg h2]
    refine lv_if_eq (tgt := 36) hx hb dX9_rests_17 (by decide) (fun _ => ?_) (fun q => absurd rfl q)
    exact no H locs (if_neg (fun z => h2 z.2.1)) hI
  rw [if_pos h2]
  refine lv_if_eq (tgt := 36) hx hb dX9_rests_17 (by decide) (fun q => absurd q (by decide)) (fun _ => ?_)
  refine lv_iload_n hx hb dX9_rests_20 rfl (lv_at hl 3 rfl) ?_
  refine lv_iconst (v := 0) hx hb dX9_rests_21 rfl ?_
  refine lv_bipush (v := 9) hx hb dX9_rests_22 (by decide) ?_
  refine zW_callS (st := []) (av := [.int a3, .int 0, .int 9]) hc rfl (sOW_within a3 0 9 u _ _ (within9 a3 u)) wMX9_229 hpyX9_within hmyX9_within ⟨by omega, by omega⟩ (Nat.zero_le _) dX9_rests_24 hl.1 ⟨Nat.zero_le _, Nat.zero_le _⟩ hI (fun H locs hI => ?_)
  show W p l e R s m args below meth c H locs 0 0 _ (F0 m 27 ls [.int (if wi9 a3 = true then 1 else 0)])
  by_cases h3 : wi9 a3 = true
  rotate_left
  · rw [if_neg h3]
    refine lv_if_eq (tgt := 36) hx hb dX9_rests_27 (by decide) (fun _ => ?_) (fun q => absurd rfl q)
    exact no H locs (if_neg (fun z => h3 z.2.2.1)) hI
  rw [if_pos h3]
  refine lv_if_eq (tgt := 36) hx hb dX9_rests_27 (by decide) (fun q => absurd q (by decide)) (fun _ => ?_)
  refine lv_iload hx hb dX9_rests_30 (lv_at hl 4 rfl) ?_
  refine lv_iconst (v := -1) hx hb dX9_rests_32 rfl ?_
  refine lv_icmp_ge (tgt := 47) hx hb dX9_rests_33 (by decide) (fun q => ?_) (fun q => ?_)
  · refine lv_iconst (v := 0) hx hb dX9_rests_47 rfl ?_
    refine lv_istore (lv' := [(5, .int 0), (0, .ref (b + 1)), (1, .int a1), (2, .int a2), (3, .int a3), (4, .int a4)]) hx hb dX9_rests_48 hl (by decide) rfl (fun ls hl => ?_)
    refine lv_iconst (v := 0) hx hb dX9_rests_50 rfl ?_
    refine lv_istore (lv' := [(6, .int 0), (5, .int 0), (0, .ref (b + 1)), (1, .int a1), (2, .int a2), (3, .int a3), (4, .int a4)]) hx hb dX9_rests_51 hl (by decide) rfl (fun ls hl => ?_)
    exact rs_loop hc hzx hbz hfl htab hRm 4 0 0 H locs ls rfl (if_pos ⟨h1, h2, h3, Int32.not_lt.mpr q⟩).symm hI (lv_sub hl [0, 1, 3, 4, 5, 6] rfl)
  · exact no H locs (if_neg (fun z => z.2.2.2 (Int32.not_le.mp q))) hI
