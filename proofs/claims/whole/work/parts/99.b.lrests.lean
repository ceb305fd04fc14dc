/-! ===== the law's own rests: it catches ===== -/
def lrA (B : Nat) (a1 a2 a3 a4 : Int32) : List Value := [.ref (B + 1), .int a1, .int a2, .int a3, .int a4, .ref (B + 291)]
def lrP (D : zD) (B : Nat) (u v : zM) (x : Int64) (a1 a2 a3 a4 : Int32) : Array Value → State → Prop := fun args U => args = (lrA B a1 a2 a3 a4).toArray ∧ lzJ D B u v x U.heap ∧ zK D U ∧ zSt D B U U.heap ∧ zX B U U.heap
def lrV (q : Option Int32) (x : Int64) : Int64 := match q with
  | some r => r.toInt64
  | none => x
def lrK (q : Option Int32) : Int32 := match q with
  | some _ => 0
  | none => 1
def lrQ (D : zD) (B : Nat) (u v : zM) (x : Int64) (a1 a2 a3 a4 : Int32) : Array Value → State → Outcome → State → Prop := fun _ st o t => o = .returned (some (.int (lrK (rsF a1 a2 a3 a4)))) ∧ lzJ D B u v (lrV (rsF a1 a2 a3 a4) x) t.heap ∧ st.heap.size ≤ t.heap.size ∧ ∀ q, q < st.heap.size → q ≤ B → t.heap[q]? = st.heap[q]?
theorem lrP_blind (D : zD) (B : Nat) (u v : zM) (x : Int64) (a1 a2 a3 a4 : Int32) : FrameBlind (lrP D B u v x a1 a2 a3 a4) := by
  intro a U g mk h
  obtain ⟨h1, h2, h3, h4, h5⟩ := h
  exact ⟨h1, h2, zK.same (U := U.calling g mk a) rfl h3, zSt.moved (U := U.calling g mk a) (Vm.Alike.refl U.vm) h4, zX.same (U := U.calling g mk a) h5 rfl⟩
theorem rsPc_blind (D : zD) (b : Nat) (u : zM) (a1 a2 a3 a4 : Int32) : FrameBlind (rsPc D b u a1 a2 a3 a4) := by
  intro a U g mk h
  obtain ⟨h1, h2, h3⟩ := h
  exact ⟨zPre_blind _ _ _ a U g mk h1, zX.same (U := U.calling g mk a) h2 rfl, h3⟩
set_option maxHeartbeats 4000000 in
theorem sL_rests (l : Launch) (hfl : l.stackTraces = false) (D : zD) (B : Nat) (u v : zM) (x : Int64) (a1 a2 a3 a4 : Int32) : vx_Met l yL_rests (.codeWith yL_rests cL_rests 7 (some .int) [(0, 14, 17, 13)] :: zT) ({ frames := 7, cells := 1, slots := 6, locals := 200 }) (lrP D B u v x a1 a2 a3 a4) (lrQ D B u v x a1 a2 a3 a4) (fun _ _ _ => False) 1 6 (fun q => B < q) := by
  refine vx_ofWH (cc := cL_rests) (maxL := 7) (ret := some .int) (hh := [(0, 14, 17, 13)]) (by decide +kernel) rfl ?_
  intro p e s m args below meth c s₁ Bd hml hv
  obtain ⟨rfl, ⟨i1, i2, i3, i5⟩, hK, hSt, hzx⟩ := hv
  have hts0 := atoms_spec (ws := .codeWith yL_rests cL_rests 7 (some .int) [(0, 14, 17, 13)] :: zT) Bd.pre
  have hts : ∀ w ∈ zT, w.before (lrA B a1 a2 a3 a4).toArray s = true := fun w h => hts0 w (List.mem_cons_of_mem _ h)
  have htab := vx_table (x := yL_rests) Bd (hts0 _ List.mem_cons_self)
  have hown : s.vm.findClass RL = some m.cls := findClass_of_methodNamed Bd.named
  have hx := Bd.exec
  have hb := Bd.bytes
  have hr := Bd.returns
  have hlk := Bd.notSynchronized
  have hl := lv_entry (lrA B a1 a2 a3 a4) (n := 7) (Nat.le_of_ble_eq_true rfl)
  rw [lg_entry_eq]
  generalize (lg_sl (lrA B a1 a2 a3 a4) ++ List.replicate (7 - (lg_sl (lrA B a1 a2 a3 a4)).length) Slot.unset).toArray = ls at hl ⊢
  have hl : lv_has ls 7 [(0, .ref (B + 1)), (1, .int a1), (2, .int a2), (3, .int a3), (4, .int a4), (5, .ref (B + 291))] := hl
  refine lv_aload hx hb dL_rests_0 (lv_at hl 5 rfl) ?_
  refine lv_iconst (v := 0) hx hb dL_rests_2 rfl ?_
  refine lv_aload_n hx hb dL_rests_3 rfl (lv_at hl 0 rfl) ?_
  refine lv_iload_n hx hb dL_rests_4 rfl (lv_at hl 1 rfl) ?_
  refine lv_iload_n hx hb dL_rests_5 rfl (lv_at hl 2 rfl) ?_
  refine lv_iload_n hx hb dL_rests_6 rfl (lv_at hl 3 rfl) ?_
  refine lv_iload hx hb dL_rests_7 (lv_at hl 4 rfl) ?_
  obtain ⟨cell, q1, q2, q3, q4⟩ := i1.2.2.2 1 9 15 ⟨Nat.le_refl _, Or.inl (by decide)⟩ rfl
  obtain ⟨hS, hfc, kC, hkC, hkind⟩ := hK.1.1 9 _ (zcl (by decide))
  intro T hT X
  rcases vx_runV (As := [.int a1, .int a2, .int a3, .int a4]) (rest := [.int 0, .ref (B + 291)]) (g := F0 m 9 ls [.int a4, .int a3, .int a2, .int a1, .ref (B + 1), .int 0, .ref (B + 291)]) ⟨hx, hb, hml, hown, hts⟩ (sOW_rests l hfl D B u a1 a2 a3 a4) (cwV 4 hts (lz_ws wML_7) rfl rfl rfl ⟨rfl, hmyX9_rests.1, hmyX9_rests.2, hpyX9_rests⟩ ⟨Nat.le_of_ble_eq_true rfl, Nat.le_of_ble_eq_true rfl⟩)
    ⟨rsPc_blind _ _ _ _ _ _ _, ⟨cell, q1, by rw [q3]; rfl, by rw [q2]; exact hfc⟩, fun U hU hWm => ⟨⟨rfl, by rw [hU]; exact i1, zK.moved hWm hK, zSt.moved hWm.alike (by rw [hU]; exact hSt), fun ht => by cases ht⟩, zX.to hzx hWm (fun a _ _ => by rw [hU]), by rw [hU]; omega⟩⟩ rfl rfl hl.1 rfl (Nat.le_of_ble_eq_true rfl) dL_rests_9 ⟨Nat.le_of_ble_eq_true rfl, Nat.le_of_ble_eq_true rfl⟩ T hT X with ⟨v9, st0, t, T', Lc, h0, X', hLc, e1, e2, hq, stp⟩ | ⟨q, st0, t, T', Lc, E, ce, h0, X', hLc, e1, e2, hxc, hce, hcv, hcl, stp⟩
  · obtain ⟨r, hrs, hv9, g1, g2, g3⟩ := hq
    have hv : v9 = some (.int r) := Outcome.returned.inj hv9
    have g2 : t.heap.size = st0.heap.size := g2
    rw [h0] at g2 g3
    have hk : ∀ q, q < s.heap.size → (q ≤ B ∨ B + 240 < q) → t.heap[q]? = s.heap[q]? := fun q h1 h2 => by
      rw [g3 q h1 ?_]
      rintro ⟨a, e1, e2⟩
      have e1 : q = B + a := e1
      have := zok_le e2
      omega
    have hJ : lzJ D B u v x T'.heap := by
      rw [e1]
      exact ⟨g1, i2.kept (fun a ha => hk _ (by have := zok_le ha; omega) (by have := zok_le ha; omega)), (hk _ i5 (by omega)).trans i3, by rw [g2]; exact i5⟩
    have kk : W p l e (headSpec (.codeWith yL_rests cL_rests 7 (some .int) [(0, 14, 17, 13)] :: zT) ({ frames := 7, cells := 1, slots := 6, locals := 200 })).room s m (lrA B a1 a2 a3 a4).toArray below meth c T'.heap ([] ++ Lc) (0 + 1) (0 + 6) (vx_MQ below (lrQ D B u v x a1 a2 a3 a4) (fun _ _ _ => False) (lrA B a1 a2 a3 a4).toArray s 1 6 (fun q => B < q)) (F0 m 12 ls [.int r, .int 0, .ref (B + 291)]) := by
      obtain ⟨j1, j2, j3, j5⟩ := hJ
      refine lv_i2l (v := r.toInt64) hx hb dL_rests_12 rfl ?_
      refine W.last hx hb j3 ((hK.1.2 1 _ rfl).1 1 _) (fun q => by cases q) (by rw [arrV_size]; exact ib_in (show ib 0 1 = true by decide)) rfl rfl dL_rests_13 (fun H' w1 w2 w3 => ?_)
      rw [arrV_store] at w1
      show W p l e _ s m _ below meth c H' _ _ _ _ (F0 m 14 ls [])
      refine lv_goto (tgt := 21) hx hb dL_rests_14 (by decide) ?_
      refine lv_iconst (v := 0) hx hb dL_rests_21 rfl ?_
      refine vx_ret ?_
      have hk2 : ∀ q, q ≠ B + 291 → H'[q]? = T'.heap[q]? := fun q hq => w3 q hq
      have w1' : H'[B + 291]? = some (arrV (D.2.2.1 2) 1 (fun _ => .long r.toInt64)) := by
        rw [w1]
        congr 1
      have hfree : ∀ q ∈ [] ++ Lc ++ [(⟨B + 291, Int32.toNatClampNeg 0⟩ : Loc)], B < q.base := fun q hq => by
        rcases List.mem_append.mp hq with g | g
        · exact hLc q (by simpa using g)
        · rw [List.mem_singleton.mp g]
          show B < B + 291
          omega
      refine W.iret hx hb hr (fun t2 ht2 hW2 => ⟨?_, ?_, ?_, fun q h1 h2 => ?_⟩) hfree dL_rests_22 (hlocks := hlk)
      · rw [hrs]; rfl
      · rw [hrs, ht2]
        exact ⟨j1.kept (fun a ha => hk2 _ (by have := zok_le ha; omega)), j2.kept (fun a ha => hk2 _ (by have := zok_le ha; omega)), w1', by rw [w2]; exact j5⟩
      · rw [ht2, w2, e1, g2]; exact Nat.le_refl _
      · rw [ht2, hk2 q (by omega), e1, hk q h1 (Or.inl h2)]
    obtain ⟨t2, b1, b2⟩ := kk T' rfl X'
    refine ⟨t2, stp t2 ?_, b2⟩
    rw [hv]
    exact b1
  · obtain ⟨rfl, hrs, g1, g2, g3⟩ := hxc
    rw [h0] at g2 g3
    have hk : ∀ q, q < s.heap.size → (q ≤ B ∨ B + 240 < q) → t.heap[q]? = s.heap[q]? := fun q h1 h2 => by
      rw [g3 q h1 ?_]
      rintro ⟨a, e1, e2⟩
      have := zok_le e2
      omega
    have hJ : lzJ D B u v x T'.heap := by
      rw [e1]
      exact ⟨g1, i2.kept (fun a ha => hk _ (by have := zok_le ha; omega) (by have := zok_le ha; omega)), (hk _ i5 (by omega)).trans i3, by omega⟩
    have kx : vx_W p l e (headSpec (.codeWith yL_rests cL_rests 7 (some .int) [(0, 14, 17, 13)] :: zT) ({ frames := 7, cells := 1, slots := 6, locals := 200 })).room s m (lrA B a1 a2 a3 a4).toArray below meth c T'.heap ([] ++ Lc) (0 + 1) (0 + 6) (vx_MQ below (lrQ D B u v x a1 a2 a3 a4) (fun _ _ _ => False) (lrA B a1 a2 a3 a4).toArray s 1 6 (fun q => B < q)) (F0 m 9 ls [.int 0, .ref (B + 291)]) q := by
      refine vx_catch (E := nse) (name := nse) hown [] _ [] htab (fun z hz => nomatch hz) (by decide) (by decide) (hts _ nse_h) (va_Nw.use rfl hzx.1.1) (by rw [e1]; exact hce) hcv hcl ?_
      show W p l e _ s m _ below meth c T'.heap ([] ++ Lc) (0 + 1) (0 + 6) _ (F0 m 17 ls [.ref q])
      refine lv_astore (lv' := [(6, .ref q), (0, .ref (B + 1)), (1, .int a1), (2, .int a2), (3, .int a3), (4, .int a4), (5, .ref (B + 291))]) hx hb dL_rests_17 hl (by decide) rfl (fun ls hl => ?_)
      refine lv_iconst (v := 1) hx hb dL_rests_19 rfl ?_
      refine vx_ret ?_
      refine W.iret hx hb hr (fun t2 ht2 hW2 => ⟨?_, ?_, ?_, fun q h1 h2 => ?_⟩) (fun q hq => hLc q (by simpa using hq)) dL_rests_20 (hlocks := hlk)
      · rw [hrs]; rfl
      · rw [hrs, ht2]; exact hJ
      · rw [ht2, e1]; exact g2
      · rw [ht2, e1]; exact hk q h1 (Or.inl h2)
    obtain ⟨t2, b1, b2⟩ := kx T' rfl X'
    exact ⟨t2, stp.trans b1, b2⟩
