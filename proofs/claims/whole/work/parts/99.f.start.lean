/-! ===== the start ===== -/
theorem tx1 (l : Launch) (h : l.flags = flags0) : l.stackTraces = false := by
  unfold Launch.stackTraces
  rw [h]
  decide
theorem str_ex {args : Array Value} {s : State} {own : String} {k : Nat} (h : (Cond.exactly (.string own k) "java/lang/String").before args s = true) : ∃ a, (Term.string own k).eval args s none [] s = some (.ref a) := by
  obtain ⟨a, c, cA, kA, q1, -⟩ := Cond.exactly_spec (args := args) (first := s) (o := none) (s := s) (idx := []) (t := .string own k) (cls := "java/lang/String") h
  exact ⟨a, q1⟩
theorem ws_nest : ∀ q ∈ zNestM, Cond.methodLinkNest q.1 q.2.1 q.2.2.1 q.2.2.2 ∈ lw_tbl := by decide +kernel
theorem ws_zcl : ∀ ci, ci < 11 → ∀ k, k < zNf ci → u_lay (zRn ci) (zTb ci) k ∈ zT := fun ci h => match ci, h with
  | 0, _ => zly0
  | 1, _ => zly1
  | 2, _ => zly2
  | 3, _ => zly3
  | 4, _ => zly4
  | 5, _ => zly5
  | 6, _ => zly6
  | 7, _ => zly7
  | 8, _ => zly8
  | 9, _ => zly9
  | 10, _ => zly10
theorem ws_ins : ∀ ci, ci < 11 → Cond.instantiable (zRn ci) (zNf ci) ∈ zT := fun ci h => match ci, h with
  | 0, _ => wN0
  | 1, _ => wN1
  | 2, _ => wN2
  | 3, _ => wN3
  | 4, _ => wN4
  | 5, _ => wN5
  | 6, _ => wN6
  | 7, _ => wN7
  | 8, _ => wN8
  | 9, _ => wN9
  | 10, _ => wN10
theorem arr_of {args : Array Value} {s : State} {ty : FieldType} (h : (Cond.arrayClass ty).before args s = true) (ht : ∀ C, ty ≠ .object C) : ∃ cA, ArrOfT s cA ty ∧ va_RA s cA ty := by
  obtain ⟨c, k, comp, h1, h2, h3⟩ := Cond.arrayClass_spec h
  refine ⟨c, fun n z => ⟨fun k h => (by cases h), k, h2, comp, h3⟩, ?_⟩
  cases ty <;> first | exact h1 | exact absurd rfl (ht _)
theorem arr_ob {args : Array Value} {s : State} {C : String} (h : (Cond.arrayOver (.object C)).before args s = true) : ∃ cA, ArrOfT s cA (.object C) ∧ va_RA s cA (.object C) := by
  obtain ⟨comp, c, k, h1, h2, h3, h4, h5⟩ := Cond.arrayOver_spec h
  exact ⟨c, fun n z => ⟨fun k h => (by cases h), k, h3, comp, h4⟩, k, comp, h3, h4, h1, h5⟩
set_option maxHeartbeats 4000000 in
theorem lw_world {s : State} {sc B : Nat} (hts : ∀ w ∈ lw_tbl, w.before #[Value.ref sc] s = true) (hgv : (Jvm.Cond.and given_1 narrow_1).before #[Value.ref sc] s = true) (hB : s.heap.size = B + 1) : ∃ D, zK D s ∧ zSt D B s s.heap ∧ zX B s s.heap := by
  have hz : ∀ w ∈ zT, w.before #[Value.ref sc] s = true := fun w h => hts w (List.mem_filter.mp h).1
  have hs := flat_of_before _ hgv
  have hA : ∀ a : Nat, a < s.heap.size → ¬ (fun q => B < q) a := fun a h1 h2 => by have h2 : B < a := h2; omega
  have hcl : ∀ ci : Nat, ∃ q : ClassId × (Nat → Nat), ci < 11 → u_Kn s (zRn ci) (zTb ci) (zNf ci) q.1 q.2 := by
    intro ci
    by_cases h : ci < 11
    · obtain ⟨cC, iS, hq⟩ := u_known hz (zlay_of (ws_zcl ci h)) (hz _ (ws_ins ci h))
      exact ⟨(cC, iS), fun _ => hq⟩
    · obtain ⟨cC, iS, hq⟩ := u_known hz (zlay_of (ws_zcl 0 (by decide))) (hz _ (ws_ins 0 (by decide)))
      exact ⟨(cC, iS), fun z => absurd z h⟩
  obtain ⟨f, hf⟩ : ∃ f : Nat → ClassId × (Nat → Nat), ∀ ci, ci < 11 → u_Kn s (zRn ci) (zTb ci) (zNf ci) (f ci).1 (f ci).2 := ⟨fun ci => Classical.choose (hcl ci), fun ci => Classical.choose_spec (hcl ci)⟩
  obtain ⟨c1, hc1⟩ := arr_of (hz _ wRint) (fun C h => by cases h)
  obtain ⟨c2, hc2⟩ := arr_of (hz _ wRlong) (fun C h => by cases h)
  obtain ⟨c3, hc3⟩ := arr_of (hz _ wRboolean) (fun C h => by cases h)
  obtain ⟨c4, hc4⟩ := arr_of (hz _ wRbyte) (fun C h => by cases h)
  have ha5 : (Cond.arrayOver (.object RX7)).before #[Value.ref sc] s = true := hts _ (by decide +kernel)
  have ha6 : (Cond.arrayOver (.object RX2)).before #[Value.ref sc] s = true := hts _ (by decide +kernel)
  obtain ⟨c5, hc5⟩ := arr_ob ha5
  obtain ⟨c6, hc6⟩ := arr_ob ha6
  obtain ⟨t, ht, hT⟩ := va_Tof (args := #[Value.ref sc]) (s := s) (tm := .static RX9 "KEPT_WORDS" "[J") (ty := .long) (f := fun j => .long (zKept.getD j 0)) (A := fun q => B < q) (N := 23) (by decide) (hs _ (by decide +kernel)) (va_eqt (hs _ (by decide +kernel))) (fun j hj => by
    have hj : j = 0 ∨ j = 1 ∨ j = 2 ∨ j = 3 ∨ j = 4 ∨ j = 5 ∨ j = 6 ∨ j = 7 ∨ j = 8 ∨ j = 9 ∨ j = 10 ∨ j = 11 ∨ j = 12 ∨ j = 13 ∨ j = 14 ∨ j = 15 ∨ j = 16 ∨ j = 17 ∨ j = 18 ∨ j = 19 ∨ j = 20 ∨ j = 21 ∨ j = 22 := by omega
    rcases hj with rfl | rfl | rfl | rfl | rfl | rfl | rfl | rfl | rfl | rfl | rfl | rfl | rfl | rfl | rfl | rfl | rfl | rfl | rfl | rfl | rfl | rfl | rfl <;> exact va_eqtl (hs _ (by decide +kernel))) hA
  refine ⟨(fun ci => (f ci).1, fun ci => (f ci).2, fun k => if k = 1 then c1 else if k = 2 then c2 else if k = 3 then c3 else if k = 4 then c4 else if k = 5 then c5 else c6, t), ⟨⟨fun ci q hq => ?_, fun k q hq => ?_⟩, fun q hq => va_Nw.of rfl (hts _ (ws_nest q hq)), va_Nw.of rfl (hts _ (by decide +kernel)), va_AO.of ha5, va_AO.of ha6⟩, ⟨va_Zof (hts _ (by decide +kernel)) (hts _ (by decide +kernel)) ht hA, hT⟩, ⟨⟨va_Nw.of rfl (hts _ (by decide +kernel)), va_Nw.of rfl (hts _ (by decide +kernel)), va_Nw.of rfl (hts _ (by decide +kernel)), va_Nw.of rfl (hts _ (by decide +kernel))⟩, ⟨?_, ?_⟩, vx_Zqof (hts _ (by decide +kernel)) (hts _ (by decide +kernel)) (hs _ (by decide +kernel)) hA, vx_Zqof (hts _ (by decide +kernel)) (hts _ (by decide +kernel)) (hs _ (by decide +kernel)) hA⟩⟩
  · have h11 : ci < 11 := (List.getElem?_eq_some_iff.mp hq).1
    have hq2 := (zcl h11).symm.trans hq
    cases hq2
    exact hf ci h11
  · have h6 : k < 6 := (List.getElem?_eq_some_iff.mp hq).1
    have hk : k = 0 ∨ k = 1 ∨ k = 2 ∨ k = 3 ∨ k = 4 ∨ k = 5 := by omega
    rcases hk with rfl | rfl | rfl | rfl | rfl | rfl <;> cases hq
    · exact hc1
    · exact hc2
    · exact hc3
    · exact hc4
    · exact hc5
    · exact hc6
  · obtain ⟨a, ha⟩ := str_ex (own := RX9) (k := 371) (hs _ (by decide +kernel))
    exact ⟨a, vk_R.of (hts _ (by decide +kernel)) ha⟩
  · obtain ⟨a, ha⟩ := str_ex (own := RX9) (k := 380) (hs _ (by decide +kernel))
    exact ⟨a, vk_R.of (hts _ (by decide +kernel)) ha⟩
