/-! ===== an object is made; the whole ===== -/
section MK
variable {p : Program} {l : Launch} {e : Env} {s : State} {m : MethodId} {below : List Frame} {meth : Method} {c : Code} {D : zD} {sc : Nat} {H : Heap} {locs : List Loc} {cells slots : Nat} {ls : Array Slot} {pc : Nat} {st : List Value} {Q : State → Prop}
set_option maxHeartbeats 4000000 in
theorem lz_make (hx : p.tables.exec = Jvm.exec) (hb : c.code = code) (hml : c.maxLocals = 7) (hown : s.vm.findClass RL = some m.cls) (hts : ∀ w ∈ zT, w.before #[Value.ref sc] s = true) (hK : zK D s) {b : Nat} {lay : Nat → Nat × Nat} {ci idx ip fr lo maxL n : Nat} {y : MethodName} {cd : ByteArray} {u : zM} (hci : ci < 11) (hlay : lay 1 = (10 + ci, zNf ci)) (hcl : Cond.classLink RL idx (zRn ci) ∈ zT) (hini : Cond.initialized (zRn ci) ∈ zT)
    (hM : zMet l (wD D b lay) fr lo y cd maxL none [.ref 1] (sN zz0) none u) (hok : okN lay u n = true) (h1n : 1 ≤ n) (hyn : y.name = "<init>") (hws : ∀ x ∈ ([.methodLink RL ip y, .instanceMethod y, .initialized y.cls, .code y cd maxL none] : List Cond), x ∈ zT) (hpar : (parseMethodDescriptor y.desc).map (fun d => d.parameters.length) = some 0) (hy : y.cls ≠ "java/lang/invoke/MethodHandle" ∧ y.cls ≠ "java/lang/invoke/VarHandle") (hR : fr + 1 ≤ 2048 ∧ 8 + (maxL + 11) + lo ≤ 84000)
    (hcap : cells + n ≤ 601024 ∧ slots + zsum lay n ≤ 7293034) (hW : (st.map fun v => v.category).sum ≤ 7) (d0 : decode code pc = .ok (.new idx, 3)) (d3 : decode code (pc + 3) = .ok (.dup, 1)) (d4 : decode code (pc + 4) = .ok (.invokespecial ip, 3)) (hsz : ls.size = 7) (hH : H.size = b + 1) (hst : zSt D b s H)
    (kk : ∀ H' locs', zRep D b lay (rfL lay) (n, false) u H' → H'.size = b + n + 1 → (∀ q, q ≤ b → H'[q]? = H[q]?) → (∀ q ∈ locs', q ∈ locs ∨ b < q.base) → W p l e room_1 s m #[Value.ref sc] below meth c H' locs' (cells + n) (slots + zsum lay n) Q (F0 m (pc + 7) ls (.ref (b + 1) :: st))) : W p l e room_1 s m #[Value.ref sc] below meth c H locs cells slots Q (F0 m pc ls st) := by
  have hKn := hK.1.1 ci _ (zcl hci)
  have hn := okN_n hok
  have hs1 : zsum lay 1 = zNf ci := by show 0 + (lay 1).2 = zNf ci; rw [hlay, Nat.zero_add]
  have hsm := zsum_mono lay h1n
  rw [hs1] at hsm
  refine W.newcK hx hb hown (hts _ hcl) (hts _ (ws_ins ci hci)) (hts _ hini) rfl d0 (show cells + 1 ≤ 601024 by omega) (show slots + zNf ci ≤ 7293034 by omega) hKn.2.1 rfl (fun H1 kC hkC e1 z1 o1 => ?_)
  have hbn := u_born (zty ci) hts (zlay_of (ws_zcl ci hci)) hKn hkC e1 (zty_ok hci)
  rw [hH] at hbn
  have hrep : zRep D b lay zid (0, true) (sN zz0) H1 := by
    have hrep0 : zRep D b lay zid (0, true) zz0 H := by
      have no : ∀ {a : Nat} {A : Prop}, zok (0, true) zz0 a → A := fun h => by
        obtain ⟨k1, k2 | ⟨k2, k3⟩⟩ := h
        · exact absurd k2 (by show ¬ _ ≤ 0; omega)
        · exact absurd k3 (by show ¬ _ ≤ 0; omega)
      exact ⟨fun a k n h => no h, fun a n h => no h, fun a k n h => no h, fun a c n h => no h⟩
    refine hrep0.new (by show b + 0 < H.size; omega) o1 (fun k n g1 g2 => ?_) (fun n g1 => ?_) (fun k n g1 g2 => ?_) (fun c' n g1 => ?_)
    · have g1 : lay 1 = (k, n) := g1
      rw [hlay] at g1; have := congrArg Prod.fst g1; simp at this; omega
    · have g1 : lay 1 = (2, n) := g1
      rw [hlay] at g1; have := congrArg Prod.fst g1; simp at this; omega
    · have g1 : lay 1 = (k, n) := g1
      rw [hlay] at g1; have := congrArg Prod.fst g1; simp at this; omega
    · have g1 : lay 1 = (10 + c', n) := g1
      rw [hlay] at g1
      have e : ci = c' := by have := congrArg Prod.fst g1; simp at this; exact this
      subst e
      refine hbn.to (fun k hk => ?_)
      unfold zfv zid
      simp only [(sN_new zz0).1, (sN_new zz0).2.1, (sN_new zz0).2.2, zrv]
      have hz := zsort hci
      have := hz k hk
      revert this
      cases zty ci k <;> intro h <;> first | rfl | (simp [zint, zref] at h)
  rw [hH]
  refine lv_dup hx hb d3 rfl ?_
  have z1 : H1.size = b + 2 := by omega
  have hGI : GoodIn zT (.code y cd maxL none :: zT) := fun x hx => by
    have hx2 : x ∈ zT := by
      rcases List.mem_cons.mp hx with rfl | h
      · exact hws _ (by simp)
      · exact h
    exact ⟨hx2, good_of_word (zT_good x hx2)⟩
  have ec : zc (wD D b lay) (sN zz0) u = n - 1 := by
    unfold zc
    rw [if_pos rfl, hn]
    rfl
  have es : zs (wD D b lay) (sN zz0) u = zsum lay n - zNf ci := by
    unfold zs
    rw [if_pos rfl, hn, ← hs1]
    rfl
  intro T hT X
  obtain ⟨v9, st0, t, T', Lc, h0, X', hLc, e1', e2, hq, stp⟩ := va_runI (As := []) (rest := .ref (b + 1) :: st) (R := room_1) (g := F0 m (pc + 4) ls (.ref (b + 1) :: .ref (b + 1) :: st)) ⟨hx, hb, hml, hown, hts⟩ hM.2 (cwI 0 hts hGI rfl rfl rfl (hts (.initialized y.cls) (hws _ (by simp))) (hts (.methodLink RL ip y) (hws _ (by simp))) (hts (.instanceMethod y) (hws _ (by simp))) hyn ⟨hy.1, hy.2, hpar⟩ hR)
    ⟨zPre_blind _ _ _, fun U hU hWm => ⟨rfl, by rw [hU]; exact hrep, zK.moved hWm hK, zSt.moved hWm.alike (by rw [hU]; exact hst.kept (fun a h1 _ => o1 a h1)), fun _ => by rw [hU]; exact z1⟩⟩ rfl rfl hsz rfl (by show 2 * 0 + (1 + (st.map fun v => v.category).sum) ≤ 8; omega) d4 ⟨by rw [ec]; show cells + 1 + (n - 1) ≤ 601024; omega, by rw [es]; show slots + zNf ci + (zsum lay n - zNf ci) ≤ 7293034; omega⟩ T hT X
  rw [ec, es, show cells + 1 + (n - 1) = cells + n by omega, show slots + zNf ci + (zsum lay n - zNf ci) = slots + zsum lay n by omega] at X'
  obtain ⟨hv9, g1, g2, g3⟩ := hq
  have hv : v9 = none := Outcome.returned.inj hv9
  rw [h0] at g2 g3
  have g2 : t.heap.size = H1.size + zc (wD D b lay) (sN zz0) u := g2
  rw [ec] at g2
  obtain ⟨t2, a1, b1⟩ := kk T'.heap (locs ++ Lc) (by rw [e1']; exact zRep.fix g1 hok) (by rw [e1', g2, z1]; omega) (fun q hq => by
    rw [e1', g3 q (by rw [z1]; omega) ?_, o1 q (by omega)]
    rintro ⟨a, q1, q2⟩
    have q1 : q = b + a := q1
    have := q2.1
    omega) (fun q hq => (List.mem_append.mp hq).elim Or.inl (fun h => Or.inr (hLc q h))) T' rfl X'
  refine ⟨t2, stp t2 ?_, b1⟩
  rw [hv]
  exact a1
end MK
theorem wCL_8 : Cond.classLink RL 8 (zRn 9) ∈ zT := zT_mem (by decide +kernel) rfl
theorem wCL_16 : Cond.classLink RL 16 (zRn 10) ∈ zT := zT_mem (by decide +kernel) rfl
theorem zsC : zsum layC 240 = 5733 := by decide +kernel
theorem zsM : zsum layM 50 = 4861 := by decide +kernel
set_option maxHeartbeats 4000000 in
theorem whole_start {p : Program} {e : Env} {s : State} {m : MethodId} {below : List Frame} {meth : Method} {c : Code} (l : Launch) (hflags : l.flags = flags0) {b L : Nat} {xs : Nat → Int32} (hL : L ≤ 3584) (C0 : lw_At p s m meth c b L xs) : W p l e room_1 s m #[Value.ref b] below meth c s.heap [] 0 0 (lw_Z below #[Value.ref b] s) (entryFrame m ([Value.ref b] : List Value).toArray 7) := by
  obtain ⟨hx, hb, hr, hml, hown, hts0, hX, hbl, hlocks, hgv⟩ := id C0
  obtain ⟨B, hB⟩ : ∃ B, s.heap.size = B + 1 := ⟨s.heap.size - 1, by omega⟩
  obtain ⟨D, hK, hSt, hzx⟩ := lw_world hts0 hgv hB
  have hts : ∀ w ∈ zT, w.before #[Value.ref b] s = true := fun w h => hts0 w (List.mem_filter.mp h).1
  have hC : lzC p l s m meth c D B b L xs := ⟨C0, hB, hK, hSt, hzx, tx1 l hflags, hL⟩
  obtain ⟨u, hu, ou, ru, iu⟩ := initC_ex
  obtain ⟨v, hv, ov, iv⟩ := initM_ex
  have hl := lv_entry ([.ref b]) (n := 7) (Nat.le_of_ble_eq_true rfl)
  rw [lg_entry_eq]
  generalize (lg_sl ([.ref b]) ++ List.replicate (7 - (lg_sl ([.ref b])).length) Slot.unset).toArray = ls at hl ⊢
  have hl : lv_has ls 7 [(0, .ref b)] := hl
  refine lz_make (b := B) (lay := layC) (ci := 9) (n := 240) hx hb hml hown hts hK (by decide) rfl wCL_8 wI9 (sOW_initD 1 (sN zz0) _ _ hu) ou (by decide) rfl wML_15 hpyX9_init hmyX9_init ⟨Nat.le_of_ble_eq_true rfl, Nat.le_of_ble_eq_true rfl⟩ ⟨by decide, by rw [zsC]; decide⟩ (Nat.zero_le _) dL_law_0 dL_law_3 dL_law_4 hl.1 hB hSt (fun H1 locs1 r1 z1 o1 l1 => ?_)
  rw [zsC]
  refine lv_astore_n (lv' := [(1, .ref (B + 1)), (0, .ref b)]) hx hb dL_law_7 rfl hl (by decide) rfl (fun ls hl => ?_)
  refine lz_make (b := B + 240) (lay := layM) (ci := 10) (n := 50) hx hb hml hown hts hK (by decide) rfl wCL_16 wI10 (sMo_initD 1 (sN zz0) _ _ hv) ov (by decide) rfl wML_18 hpyX10_init hmyX10_init ⟨Nat.le_of_ble_eq_true rfl, Nat.le_of_ble_eq_true rfl⟩ ⟨by decide, by rw [zsM]; decide⟩ (Nat.zero_le _) dL_law_8 dL_law_11 dL_law_12 hl.1 z1 ((hSt.kept (fun a h1 h2 => o1 a h2)).up (Nat.le_add_right _ _)) (fun H2 locs2 r2 z2 o2 l2 => ?_)
  rw [zsM]
  refine lv_astore_n (lv' := [(2, .ref (B + 240 + 1)), (1, .ref (B + 1)), (0, .ref b)]) hx hb dL_law_15 rfl hl (by decide) rfl (fun ls hl => ?_)
  refine lv_iconst (v := 1) hx hb dL_law_16 rfl ?_
  refine va_newaK (atype := .long) (N := 1) (h := B + 291) hx hb (hts _ wRlong) rfl dL_law_17 rfl (by decide) (by decide) (by decide) (by decide) (by decide) (by rw [z2]) (fun H3 cA w1 w2 w3 w4 w5 => ?_)
  have hcA : cA = D.2.2.1 2 := by
    have h9 : s.vm.findClass _ = some (D.2.2.1 2) := (hK.1.2 1 _ rfl).2
    exact Option.some.inj (w5.symm.trans h9)
  subst hcA
  show W p l e room_1 s m #[Value.ref b] below meth c H3 locs2 291 10595 (lw_Z below #[Value.ref b] s) (F0 m 19 ls [.ref (B + 291)])
  refine lv_astore_n (lv' := [(3, .ref (B + 291)), (2, .ref (B + 240 + 1)), (1, .ref (B + 1)), (0, .ref b)]) hx hb dL_law_19 rfl hl (by decide) rfl (fun ls hl => ?_)
  refine lv_iconst (v := 0) hx hb dL_law_20 rfl ?_
  refine lv_istore (lv' := [(4, .int 0), (3, .ref (B + 291)), (2, .ref (B + 240 + 1)), (1, .ref (B + 1)), (0, .ref b)]) hx hb dL_law_21 hl (by decide) rfl (fun ls hl => ?_)
  have k2 : ∀ q, q < B + 291 → H3[q]? = H2[q]? := fun q h => w3 q h
  have hI : lzI D B s u v 0 H3 locs2 := by
    refine ⟨⟨?_, ?_, w1, by rw [w2]; omega⟩, by omega, fun q h1 _ => ?_, fun q hq => ?_⟩
    · have r1 : zRep D B layC rfC (240, false) u H1 := r1
      exact r1.kept (fun a ha => (k2 _ (by have := zok_le ha; omega)).trans (o2 _ (by have := zok_le ha; omega)))
    · have r2 : zRep D (B + 240) layM rfM (50, false) v H2 := r2
      exact r2.kept (fun a ha => k2 _ (by have := zok_le ha; omega))
    · exact (k2 q (by omega)).trans ((o2 q (by omega)).trans (o1 q (by omega)))
    · rcases l2 q hq with h | h
      · rcases l1 q h with h | h
        · cases h
        · show s.heap.size ≤ q.base
          omega
      · show s.heap.size ≤ q.base
        omega
  exact lw_loop hC (L + 1) 0 u v 0 H3 locs2 ls (Nat.zero_le _) (by omega) (inv0 ru iu iv) hI (lv_sub hl [4, 3, 2, 1, 0] rfl)
