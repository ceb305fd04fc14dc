/-! ===== at the law: both memories, the row for an answer ===== -/
theorem zRep.kept {D : zD} {b : Nat} {lay : Nat → Nat × Nat} {rf : (Nat → Nat → Nat) → Nat → Nat → Nat} {mn : Nat × Bool} {mem : zM} {H H' : Heap} (h : zRep D b lay rf mn mem H) (hq : ∀ a, zok mn mem a → H'[b + a]? = H[b + a]?) : zRep D b lay rf mn mem H' :=
  ⟨fun a k n h1 h2 h3 => (hq a h1).trans (h.1 a k n h1 h2 h3), fun a n h1 h2 => (hq a h1).trans (h.2.1 a n h1 h2), fun a k n h1 h2 h3 => (hq a h1).trans (h.2.2.1 a k n h1 h2 h3), fun a c n h1 h2 => (h.2.2.2 a c n h1 h2).kept (hq a h1)⟩
theorem zSt.up {D : zD} {b b' : Nat} {U : State} {H : Heap} (h : zSt D b U H) (hb : b ≤ b') : zSt D b' U H := ⟨h.1.narrow (fun q hq => Nat.lt_of_le_of_lt hb hq), h.2.narrow (fun q hq => Nat.lt_of_le_of_lt hb hq)⟩
theorem zok_le {n : Nat} {mem : zM} {a : Nat} (h : zok (n, false) mem a) : 1 ≤ a ∧ a ≤ n := by
  rcases h with ⟨k1, k2 | ⟨k2, k3⟩⟩
  · exact ⟨k1, k2⟩
  · cases k2
/-- the class's cells from B + 1 on, the reference's behind them, then the row for an answer -/
def lzJ (D : zD) (B : Nat) (u v : zM) (x : Int64) (H : Heap) : Prop := zRep D B layC rfC (240, false) u H ∧ zRep D (B + 240) layM rfM (50, false) v H ∧ H[B + 291]? = some (arrV (D.2.2.1 2) 1 (fun _ => .long x)) ∧ B + 291 < H.size
def lzI (D : zD) (B : Nat) (s : State) (u v : zM) (x : Int64) (H : Heap) (locs : List Loc) : Prop := lzJ D B u v x H ∧ va_S (fun q => s.heap.size ≤ q) s.heap H locs
abbrev nse : String := "java/util/NoSuchElementException"
/-- what a throw needs -/
def zX (b : Nat) (U : State) (H : Heap) : Prop := (va_Nw (.castable nse nse) U ∧ va_Nw (.declares ⟨"java/lang/RuntimeException", "<init>", "(Ljava/lang/String;)V"⟩) U ∧ va_Nw (.declares ⟨"java/lang/Exception", "<init>", "(Ljava/lang/String;)V"⟩) U ∧ va_Nw (.declares ⟨"java/lang/Throwable", "<init>", "(Ljava/lang/String;)V"⟩) U) ∧ ((∃ sa, vk_R RX9 371 "others" sa U) ∧ ∃ sa, vk_R RX9 380 "none such" sa U) ∧ vx_Zq Bundle.tN "UNASSIGNED_STACK" Bundle.steD (fun q => b < q) U H ∧ vx_Zq Bundle.tN "SUPPRESSED_SENTINEL" Bundle.listD (fun q => b < q) U H
theorem zX.to {b : Nat} {s U : State} {H : Heap} (h : zX b s s.heap) (hW : s.WarmedH U.vm) (hq : ∀ a : Nat, a < s.heap.size → a ≤ b → H[a]? = s.heap[a]?) : zX b U H :=
  ⟨⟨va_Nw.warmC hW h.1.1, va_Nw.warmD hW h.1.2.1, va_Nw.warmD hW h.1.2.2.1, va_Nw.warmD hW h.1.2.2.2⟩, ⟨⟨h.2.1.1.choose, vk_R.warm hW h.2.1.1.choose_spec⟩, ⟨h.2.1.2.choose, vk_R.warm hW h.2.1.2.choose_spec⟩⟩, vx_Zq.moved hW.alike (h.2.2.1.kept (fun a h1 h2 => hq a h1 (Nat.not_lt.mp h2))), vx_Zq.moved hW.alike (h.2.2.2.kept (fun a h1 h2 => hq a h1 (Nat.not_lt.mp h2)))⟩
theorem zX.same {b : Nat} {s U : State} {H : Heap} (h : zX b s H) (hv : s.vm = U.vm) : zX b U H :=
  ⟨⟨va_Nw.same rfl hv h.1.1, va_Nw.same rfl hv h.1.2.1, va_Nw.same rfl hv h.1.2.2.1, va_Nw.same rfl hv h.1.2.2.2⟩, ⟨⟨h.2.1.1.choose, vk_R.same hv.symm h.2.1.1.choose_spec⟩, ⟨h.2.1.2.choose, vk_R.same hv.symm h.2.1.2.choose_spec⟩⟩, vx_Zq.moved (by rw [← hv]; exact Vm.Alike.refl _) h.2.2.1, vx_Zq.moved (by rw [← hv]; exact Vm.Alike.refl _) h.2.2.2⟩
def lzC (p : Program) (l : Launch) (s : State) (m : MethodId) (meth : Method) (c : Code) (D : zD) (B sc L : Nat) (xs : Nat → Int32) : Prop := lw_At p s m meth c sc L xs ∧ s.heap.size = B + 1 ∧ zK D s ∧ zSt D B s s.heap ∧ zX B s s.heap ∧ l.stackTraces = false ∧ L ≤ 3584
theorem lz_st {D : zD} {B : Nat} {s U : State} {H : Heap} {locs : List Loc} (h : zSt D B s s.heap) (hS : va_S (fun q => s.heap.size ≤ q) s.heap H locs) (hU : U.heap = H) (hW : s.WarmedH U.vm) : zSt D B U U.heap := by
  rw [hU]
  exact zSt.moved hW.alike (h.kept (fun a h1 _ => hS.2.1 a h1 (Nat.not_le.mpr h1)))
theorem lz_ws {own C : String} {idx maxL : Nat} {y : MethodName} {cd : ByteArray} {rt : Option FieldType} (hws : ∀ x ∈ wsV own idx C y [.code y cd maxL rt], x ∈ zT) : GoodIn zT (wsV own idx C y (.code y cd maxL rt :: zT)) := fun x hx => by
  have hx2 : x ∈ zT := by
    rcases List.mem_append.mp hx with h | h
    · exact hws x (List.mem_append_left _ h)
    · rcases List.mem_cons.mp h with rfl | h
      · exact hws _ (List.mem_append_right _ List.mem_cons_self)
      · exact h
  exact ⟨hx2, good_of_word (zT_good x hx2)⟩
section LZ
variable {p : Program} {l : Launch} {e : Env} {s : State} {m : MethodId} {below : List Frame} {meth : Method} {c : Code} {D : zD} {B sc L : Nat} {xs : Nat → Int32} {u v : zM} {x : Int64} {H : Heap} {locs : List Loc} {cells slots : Nat} {ls : Array Slot} {pc : Nat} {st : List Value} {Q : State → Prop}
/-- a call of the class -/
theorem lz_vC (hC : lzC p l s m meth c D B sc L xs) {y : MethodName} {idx fr lo maxL : Nat} {cd : ByteArray} {rt : Option FieldType} {av stk : List Value} {r : Value} {u' : zM} (hstk : stk = (av.map (zv D (B))).reverse ++ .ref (B + 1) :: st) (hM : zMet l (wC D (B)) fr lo y cd maxL rt (.ref 1 :: av) u (some r) u')
    (hcl : y.cls = RX9) (hws : ∀ x ∈ wsV RL idx RX9 y [.code y cd maxL rt], x ∈ zT) (hpar : (parseMethodDescriptor y.desc).map (fun d => d.parameters.length) = some av.length) (hy : y.cls ≠ "java/lang/invoke/MethodHandle" ∧ y.cls ≠ "java/lang/invoke/VarHandle") (hR : fr + 1 ≤ 2048 ∧ 8 + (maxL + 11) + lo ≤ 84000) (hW : (st.map fun v => v.category).sum ≤ 8) (hd : decode code pc = .ok (.invokevirtual idx, 3)) (hsz : ls.size = 7) (hcap : cells ≤ 601024 ∧ slots ≤ 7293034) (hI : lzI D B s u v x H locs)
    (kk : ∀ H' locs', lzI D B s u' v x H' locs' → W p l e room_1 s m #[Value.ref sc] below meth c H' locs' cells slots Q (F0 m (pc + 3) ls (zv D (B) r :: st))) : W p l e room_1 s m #[Value.ref sc] below meth c H locs cells slots Q (F0 m pc ls stk) := by
  obtain ⟨⟨hx, hb, hr, hml, hown, hts0, hX, hbl, hlocks, hgv⟩, hB, hK, hst, hzx, hfl, hL⟩ := hC
  have hts : ∀ w ∈ zT, w.before #[Value.ref sc] s = true := fun w h => hts0 w (List.mem_filter.mp h).1
  subst hstk
  obtain ⟨⟨i1, i2, i3, i5⟩, i4⟩ := hI
  obtain ⟨cell, q1, q2, q3, q4⟩ := i1.2.2.2 1 9 15 ⟨Nat.le_refl _, Or.inl (by decide)⟩ rfl
  obtain ⟨hS, hfc, kC, hkC, hkind⟩ := hK.1.1 9 _ (zcl (by decide))
  intro T hT X
  obtain ⟨v9, st0, t, T', Lc, h0, X', hLc, e1, e2, hq, stp⟩ := va_runV (As := av.map (zv D (B))) (rest := st) (R := room_1) (g := F0 m pc ls ((av.map (zv D (B))).reverse ++ .ref (B + 1) :: st)) ⟨hx, hb, hml, hown, hts⟩ hM.2 (cwV av.length hts (lz_ws hws) rfl rfl rfl ⟨hcl, hy.1, hy.2, hpar⟩ hR)
    ⟨zPre_blind _ _ _, ⟨cell, q1, by rw [q3]; rfl, by rw [q2]; exact hfc⟩, fun U hU hWm => ⟨rfl, by rw [hU]; exact i1, zK.moved hWm hK, lz_st hst i4 hU hWm, fun ht => by cases ht⟩⟩ rfl (by rw [List.length_map]) hsz rfl (by show 2 * 0 + _ ≤ 8; omega) hd hcap T hT X
  have X2 : Stand p l e room_1 s m #[Value.ref sc] below meth c T' (locs ++ Lc) cells slots := X'
  obtain ⟨hv9, g1, g2, g3⟩ := hq
  have hv : v9 = some (zv D (B) r) := Outcome.returned.inj hv9
  have hz : t.heap.size = H.size := by rw [← h0]; exact g2
  have hk : ∀ q, q < H.size → (q ≤ B ∨ B + 240 < q) → t.heap[q]? = H[q]? := fun q h1 h2 => by
    rw [g3 q (by rw [h0]; exact h1) ?_, h0]
    rintro ⟨a, e1, e2⟩
    have e1 : q = B + a := e1
    have := zok_le e2
    omega
  have hI2 : lzI D B s u' v x T'.heap (locs ++ Lc) := by
    rw [e1]
    refine ⟨⟨g1, i2.kept (fun a ha => hk _ (by have := zok_le ha; omega) (by have := zok_le ha; omega)), (hk _ i5 (by omega)).trans i3, by rw [hz]; exact i5⟩, ⟨by rw [hz]; exact i4.1, fun q h1 h2 => (hk q (Nat.lt_of_lt_of_le h1 i4.1) (Or.inl (by omega))).trans (i4.2.1 q h1 h2), fun q hq => ?_⟩⟩
    rcases List.mem_append.mp hq with g | g
    · exact i4.2.2 q g
    · have g : B < q.base := hLc q g
      show s.heap.size ≤ q.base
      omega
  obtain ⟨t2, a1, b1⟩ := kk T'.heap (locs ++ Lc) hI2 T' rfl X2
  refine ⟨t2, stp t2 ?_, b1⟩
  rw [hv]
  exact a1
/-- a call of the reference -/
theorem lz_vM (hC : lzC p l s m meth c D B sc L xs) {y : MethodName} {idx fr lo maxL : Nat} {cd : ByteArray} {rt : Option FieldType} {av stk : List Value} {r : Value} {v' : zM} (hstk : stk = (av.map (zv D (B + 240))).reverse ++ .ref (B + 240 + 1) :: st) (hM : zMet l (wM D (B + 240)) fr lo y cd maxL rt (.ref 1 :: av) v (some r) v')
    (hcl : y.cls = RX10) (hws : ∀ x ∈ wsV RL idx RX10 y [.code y cd maxL rt], x ∈ zT) (hpar : (parseMethodDescriptor y.desc).map (fun d => d.parameters.length) = some av.length) (hy : y.cls ≠ "java/lang/invoke/MethodHandle" ∧ y.cls ≠ "java/lang/invoke/VarHandle") (hR : fr + 1 ≤ 2048 ∧ 8 + (maxL + 11) + lo ≤ 84000) (hW : (st.map fun v => v.category).sum ≤ 8) (hd : decode code pc = .ok (.invokevirtual idx, 3)) (hsz : ls.size = 7) (hcap : cells ≤ 601024 ∧ slots ≤ 7293034) (hI : lzI D B s u v x H locs)
    (kk : ∀ H' locs', lzI D B s u v' x H' locs' → W p l e room_1 s m #[Value.ref sc] below meth c H' locs' cells slots Q (F0 m (pc + 3) ls (zv D (B + 240) r :: st))) : W p l e room_1 s m #[Value.ref sc] below meth c H locs cells slots Q (F0 m pc ls stk) := by
  obtain ⟨⟨hx, hb, hr, hml, hown, hts0, hX, hbl, hlocks, hgv⟩, hB, hK, hst, hzx, hfl, hL⟩ := hC
  have hts : ∀ w ∈ zT, w.before #[Value.ref sc] s = true := fun w h => hts0 w (List.mem_filter.mp h).1
  subst hstk
  obtain ⟨⟨i1, i2, i3, i5⟩, i4⟩ := hI
  obtain ⟨cell, q1, q2, q3, q4⟩ := i2.2.2.2 1 10 67 ⟨Nat.le_refl _, Or.inl (by decide)⟩ rfl
  obtain ⟨hS, hfc, kC, hkC, hkind⟩ := hK.1.1 10 _ (zcl (by decide))
  intro T hT X
  obtain ⟨v9, st0, t, T', Lc, h0, X', hLc, e1, e2, hq, stp⟩ := va_runV (As := av.map (zv D (B + 240))) (rest := st) (R := room_1) (g := F0 m pc ls ((av.map (zv D (B + 240))).reverse ++ .ref (B + 240 + 1) :: st)) ⟨hx, hb, hml, hown, hts⟩ hM.2 (cwV av.length hts (lz_ws hws) rfl rfl rfl ⟨hcl, hy.1, hy.2, hpar⟩ hR)
    ⟨zPre_blind _ _ _, ⟨cell, q1, by rw [q3]; rfl, by rw [q2]; exact hfc⟩, fun U hU hWm => ⟨rfl, by rw [hU]; exact i2, zK.moved hWm hK, (lz_st hst i4 hU hWm).up (Nat.le_add_right _ _), fun ht => by cases ht⟩⟩ rfl (by rw [List.length_map]) hsz rfl (by show 2 * 0 + _ ≤ 8; omega) hd hcap T hT X
  have X2 : Stand p l e room_1 s m #[Value.ref sc] below meth c T' (locs ++ Lc) cells slots := X'
  obtain ⟨hv9, g1, g2, g3⟩ := hq
  have hv : v9 = some (zv D (B + 240) r) := Outcome.returned.inj hv9
  have hz : t.heap.size = H.size := by rw [← h0]; exact g2
  have hk : ∀ q, q < H.size → (q ≤ B + 240 ∨ B + 240 + 50 < q) → t.heap[q]? = H[q]? := fun q h1 h2 => by
    rw [g3 q (by rw [h0]; exact h1) ?_, h0]
    rintro ⟨a, e1, e2⟩
    have e1 : q = B + 240 + a := e1
    have := zok_le e2
    omega
  have hI2 : lzI D B s u v' x T'.heap (locs ++ Lc) := by
    rw [e1]
    refine ⟨⟨i1.kept (fun a ha => hk _ (by have := zok_le ha; omega) (by have := zok_le ha; omega)), g1, (hk _ i5 (by omega)).trans i3, by rw [hz]; exact i5⟩, ⟨by rw [hz]; exact i4.1, fun q h1 h2 => (hk q (Nat.lt_of_lt_of_le h1 i4.1) (Or.inl (by omega))).trans (i4.2.1 q h1 h2), fun q hq => ?_⟩⟩
    rcases List.mem_append.mp hq with g | g
    · exact i4.2.2 q g
    · have g : B + 240 < q.base := hLc q g
      show s.heap.size ≤ q.base
      omega
  obtain ⟨t2, a1, b1⟩ := kk T'.heap (locs ++ Lc) hI2 T' rfl X2
  refine ⟨t2, stp t2 ?_, b1⟩
  rw [hv]
  exact a1
/-- an int of the script -/
theorem lz_arg (hC : lzC p l s m meth c D B sc L xs) {i k : Nat} {n : Int} (h0 : ls[0]? = some (.val (.ref sc))) (h4 : ls[4]? = some (.val (.int (nI (7 * i))))) (hi : 7 * i + 7 ≤ L) (hk : k < 7) (hI : lzI D B s u v x H locs) (d0 : decode code pc = .ok (.aload_n 0, 1)) (d1 : decode code (pc + 1) = .ok (.iload 4, 2)) (d3 : decode code (pc + 3) = .ok (.iconst n, 1)) (hn : Int32.ofInt n = nI k) (d4 : decode code (pc + 4) = .ok (.iadd, 1)) (d5 : decode code (pc + 5) = .ok (.iaload, 1))
    (kk : W p l e room_1 s m #[Value.ref sc] below meth c H locs cells slots Q (F0 m (pc + 6) ls (.int (xs (7 * i + k)) :: st))) : W p l e room_1 s m #[Value.ref sc] below meth c H locs cells slots Q (F0 m pc ls st) := by
  obtain ⟨⟨hx, hb, hr, hml, hown, hts0, hX, hbl, hlocks, hgv⟩, hB, hK, hst, hzx, hfl, hL⟩ := hC
  refine lv_aload_n hx hb d0 rfl h0 ?_
  refine lv_iload hx hb d1 h4 ?_
  refine lv_iconst hx hb d3 hn ?_
  refine lv_iadd hx hb d4 ?_
  rw [nI_add]
  refine va_sld hx hb hX hbl (Nat.not_le.mpr hbl) hI.2 (vp_in_nI (by omega) (by omega)) d5 ?_
  rw [nI_clamp (by omega)]
  exact kk
theorem lz_arg6 (hC : lzC p l s m meth c D B sc L xs) {i k : Nat} {n : Int} (h0 : ls[0]? = some (.val (.ref sc))) (h4 : ls[4]? = some (.val (.int (nI (7 * i))))) (hi : 7 * i + 7 ≤ L) (hk : k < 7) (hI : lzI D B s u v x H locs) (d0 : decode code pc = .ok (.aload_n 0, 1)) (d1 : decode code (pc + 1) = .ok (.iload 4, 2)) (d3 : decode code (pc + 3) = .ok (.bipush n, 2)) (hn : (Int8.ofInt n).toInt32 = nI k) (d4 : decode code (pc + 5) = .ok (.iadd, 1)) (d5 : decode code (pc + 6) = .ok (.iaload, 1))
    (kk : W p l e room_1 s m #[Value.ref sc] below meth c H locs cells slots Q (F0 m (pc + 7) ls (.int (xs (7 * i + k)) :: st))) : W p l e room_1 s m #[Value.ref sc] below meth c H locs cells slots Q (F0 m pc ls st) := by
  obtain ⟨⟨hx, hb, hr, hml, hown, hts0, hX, hbl, hlocks, hgv⟩, hB, hK, hst, hzx, hfl, hL⟩ := hC
  refine lv_aload_n hx hb d0 rfl h0 ?_
  refine lv_iload hx hb d1 h4 ?_
  refine lv_bipush hx hb d3 hn ?_
  refine lv_iadd hx hb d4 ?_
  rw [nI_add]
  refine va_sld hx hb hX hbl (Nat.not_le.mpr hbl) hI.2 (vp_in_nI (by omega) (by omega)) d5 ?_
  rw [nI_clamp (by omega)]
  exact kk
end LZ
