/-! ===== the law: rests; the loop ===== -/
section LX
variable {p : Program} {l : Launch} {e : Env} {s : State} {m : MethodId} {below : List Frame} {meth : Method} {c : Code} {D : zD} {B sc L : Nat} {xs : Nat → Int32} {u v : zM} {x : Int64} {H : Heap} {locs : List Loc} {cells slots : Nat} {ls : Array Slot} {Q : State → Prop} {i : Nat}
theorem wsLr1 : ∀ w ∈ va_wsS RL 182 yL_rests [.codeWith yL_rests cL_rests 7 (some .int) [(0, 14, 17, 13)]], w ∈ lw_tbl := by decide +kernel
theorem wsLr2 : ∀ w ∈ va_wsS RL 182 yL_rests [.codeWith yL_rests cL_rests 7 (some .int) [(0, 14, 17, 13)]], goodWord w = true := by decide +kernel
theorem hpyL_rests : (parseMethodDescriptor yL_rests.desc).map (fun d => d.parameters.length) = some 6 := by decide +kernel
theorem hmyL_rests : yL_rests.cls ≠ "java/lang/invoke/MethodHandle" ∧ yL_rests.cls ≠ "java/lang/invoke/VarHandle" := by decide +kernel
theorem wsLr : GoodIn zT (va_wsS RL 182 yL_rests (.codeWith yL_rests cL_rests 7 (some .int) [(0, 14, 17, 13)] :: zT)) := fun x hx => by
  have hx2 : x ∈ zT := by
    rcases List.mem_append.mp hx with h | h
    · exact zT_mem (wsLr1 x (List.mem_append_left _ h)) (wsLr2 x (List.mem_append_left _ h))
    · rcases List.mem_cons.mp h with rfl | h
      · exact zT_mem (wsLr1 _ (List.mem_append_right _ List.mem_cons_self)) (wsLr2 _ (List.mem_append_right _ List.mem_cons_self))
      · exact h
  exact ⟨hx2, good_of_word (zT_good x hx2)⟩
theorem lz_rests (hC : lzC p l s m meth c D B sc L xs) {a1 a2 a3 a4 : Int32} (hsz : ls.size = 7) (hcap : cells + 1 ≤ 601024 ∧ slots + 6 ≤ 7293034) (hI : lzI D B s u v x H locs)
    (kk : ∀ H' locs', lzI D B s u v (lrV (rsF a1 a2 a3 a4) x) H' locs' → W p l e room_1 s m #[Value.ref sc] below meth c H' locs' (cells + 1) (slots + 6) Q (F0 m 1389 ls [.int (lrK (rsF a1 a2 a3 a4))])) : W p l e room_1 s m #[Value.ref sc] below meth c H locs cells slots Q (F0 m 1386 ls [.ref (B + 291), .int a4, .int a3, .int a2, .int a1, .ref (B + 1)]) := by
  obtain ⟨⟨hx, hb, hr, hml, hown, hts0, hX, hbl, hlocks, hgv⟩, hB, hK, hst, hzx, hfl, hL⟩ := hC
  have hts : ∀ w ∈ zT, w.before #[Value.ref sc] s = true := fun w h => hts0 w (List.mem_filter.mp h).1
  intro T hT X
  rcases vx_runSX (As := lrA B a1 a2 a3 a4) (rest := []) (R := room_1) (g := F0 m 1386 ls [.ref (B + 291), .int a4, .int a3, .int a2, .int a1, .ref (B + 1)]) ⟨hx, hb, hml, hown, hts⟩ (sL_rests l hfl D B u v x a1 a2 a3 a4) (vx_cwSW 6 hts wsLr rfl rfl rfl ⟨hmyL_rests.1, hmyL_rests.2, hpyL_rests⟩ ⟨Nat.le_of_ble_eq_true rfl, Nat.le_of_ble_eq_true rfl⟩)
    ⟨lrP_blind _ _ _ _ _ _ _ _ _, fun U hU hWm => ⟨rfl, by rw [hU]; exact hI.1, zK.moved hWm hK, lz_st hst hI.2 hU hWm, zX.to hzx hWm (fun a h1 _ => by rw [hU]; exact hI.2.2.1 a h1 (Nat.not_le.mpr h1))⟩⟩ rfl rfl hsz rfl (Nat.le_of_ble_eq_true rfl) dL_law_1386 hcap T hT X with ⟨v9, st0, t, T', Lc, h0, X', hLc, e1, e2, hq, stp⟩ | ⟨q, st0, t, T', Lc, E, ce, h0, X', hLc, e1, e2, hxc, hce, hcv, hcl, stp⟩
  · obtain ⟨hv9, hJ, g2, g3⟩ := hq
    have hv : v9 = some (.int (lrK (rsF a1 a2 a3 a4))) := Outcome.returned.inj hv9
    rw [h0] at g2 g3
    obtain ⟨i1, i4⟩ := hI
    have hI2 : lzI D B s u v (lrV (rsF a1 a2 a3 a4) x) T'.heap (locs ++ Lc) := by
      rw [e1]
      refine ⟨hJ, Nat.le_trans i4.1 g2, fun q h1 h2 => (g3 q (Nat.lt_of_lt_of_le h1 i4.1) (by omega)).trans (i4.2.1 q h1 h2), fun q hq => ?_⟩
      rcases List.mem_append.mp hq with g | g
      · exact i4.2.2 q g
      · have g : B < q.base := hLc q g
        show s.heap.size ≤ q.base
        omega
    obtain ⟨t2, b1, b2⟩ := kk T'.heap (locs ++ Lc) hI2 T' rfl X'
    refine ⟨t2, stp t2 ?_, b2⟩
    rw [hv]
    exact b1
  · exact hxc.elim
set_option maxHeartbeats 2000000 in
theorem lw_c38 (hC : lzC p l s m meth c D B sc L xs) (hi : 7 * i + 7 ≤ L) (hcap : cells + 1 ≤ 601024 ∧ slots + 6 ≤ 7293034) (K : lwK p l e s m below meth c D B sc cells slots Q i) (hV : Inv i u v) (hI : lzI D B s u v x H locs) (hl : lv_has ls 7 (lvL sc B i)) : W p l e room_1 s m #[Value.ref sc] below meth c H locs cells slots Q (F0 m 1360 ls []) := by
  have hx := hC.1.1
  have hb := hC.1.2.1
  have hn : i < 600 := by have := hC.2.2.2.2.2.2; omega
  refine lv_aload_n hx hb dL_law_1360 rfl (lv_at hl 1 rfl) ?_
  refine lz_arg (k := 1) hC (lv_at hl 0 rfl) (lv_at hl 4 rfl) hi (by decide) hI dL_law_1361 dL_law_1362 dL_law_1364 (by decide) dL_law_1365 dL_law_1366 ?_
  refine lz_arg (k := 2) hC (lv_at hl 0 rfl) (lv_at hl 4 rfl) hi (by decide) hI dL_law_1367 dL_law_1368 dL_law_1370 (by decide) dL_law_1371 dL_law_1372 ?_
  refine lz_arg (k := 3) hC (lv_at hl 0 rfl) (lv_at hl 4 rfl) hi (by decide) hI dL_law_1373 dL_law_1374 dL_law_1376 (by decide) dL_law_1377 dL_law_1378 ?_
  refine lz_arg (k := 4) hC (lv_at hl 0 rfl) (lv_at hl 4 rfl) hi (by decide) hI dL_law_1379 dL_law_1380 dL_law_1382 (by decide) dL_law_1383 dL_law_1384 ?_
  refine lv_aload_n hx hb dL_law_1385 rfl (lv_at hl 3 rfl) ?_
  refine lz_rests hC hl.1 hcap hI (fun H locs hI => ?_)
  obtain ⟨v', e2, th, fr⟩ := Mo_rests_q (xs (7 * i + 1)) (xs (7 * i + 2)) (xs (7 * i + 3)) (xs (7 * i + 4)) v
  have hV' := hV.th hn fr
  generalize rsF (xs (7 * i + 1)) (xs (7 * i + 2)) (xs (7 * i + 3)) (xs (7 * i + 4)) = q at hI e2 th ⊢
  refine lv_istore (lv' := [(5, .int (lrK q)), (0, .ref sc), (1, .ref (B + 1)), (2, .ref (B + 240 + 1)), (3, .ref (B + 291)), (4, .int (nI (7 * i)))]) hx hb dL_law_1389 hl (by decide) rfl (fun ls hl => ?_)
  refine lv_aload_n hx hb dL_law_1391 rfl (lv_at hl 3 rfl) ?_
  refine lz_arg (k := 1) hC (lv_at hl 1 rfl) (lv_at hl 5 rfl) hi (by decide) hI dL_law_1392 dL_law_1393 dL_law_1395 (by decide) dL_law_1396 dL_law_1397 ?_
  refine lz_arg (k := 2) hC (lv_at hl 1 rfl) (lv_at hl 5 rfl) hi (by decide) hI dL_law_1398 dL_law_1399 dL_law_1401 (by decide) dL_law_1402 dL_law_1403 ?_
  refine lz_arg (k := 3) hC (lv_at hl 1 rfl) (lv_at hl 5 rfl) hi (by decide) hI dL_law_1404 dL_law_1405 dL_law_1407 (by decide) dL_law_1408 dL_law_1409 ?_
  refine lz_arg (k := 4) hC (lv_at hl 1 rfl) (lv_at hl 5 rfl) hi (by decide) hI dL_law_1410 dL_law_1411 dL_law_1413 (by decide) dL_law_1414 dL_law_1415 ?_
  refine lz_vM (av := [.int (xs (7 * i + 1)), .int (xs (7 * i + 2)), .int (xs (7 * i + 3)), .int (xs (7 * i + 4))]) (st := []) hC rfl (sMo_rests _ _ _ _ _ _ _ e2) rfl wML_187 hpyX10_rests hmyX10_rests ⟨Nat.le_of_ble_eq_true rfl, Nat.le_of_ble_eq_true rfl⟩ (Nat.le_of_ble_eq_true rfl) dL_law_1416 hl.1 hcap hI (fun H locs hI => ?_)
  show W p l e room_1 s m #[Value.ref sc] below meth c H locs (cells + 1) (slots + 6) Q (F0 m 1419 ls [.int (q.getD 0)])
  refine lv_istore (lv' := [(6, .int (q.getD 0)), (5, .int (lrK q)), (0, .ref sc), (1, .ref (B + 1)), (2, .ref (B + 240 + 1)), (3, .ref (B + 291)), (4, .int (nI (7 * i)))]) hx hb dL_law_1419 hl (by decide) rfl (fun ls hl => ?_)
  refine lv_aload_n hx hb dL_law_1421 rfl (lv_at hl 4 rfl) ?_
  refine lz_vM (av := []) (st := []) hC rfl (sMo_thrown v' _ _ rfl) rfl wML_188 hpyX10_thrown hmyX10_thrown ⟨Nat.le_of_ble_eq_true rfl, Nat.le_of_ble_eq_true rfl⟩ (Nat.le_of_ble_eq_true rfl) dL_law_1422 hl.1 hcap hI (fun H locs hI => ?_)
  show W p l e room_1 s m #[Value.ref sc] below meth c H locs (cells + 1) (slots + 6) Q (F0 m 1425 ls [(.int (gI v' 1 0))])
  rw [th]
  refine lv_iload hx hb dL_law_1425 (lv_at hl 1 rfl) ?_
  have hgo : W p l e room_1 s m #[Value.ref sc] below meth c H locs (cells + 1) (slots + 6) Q (F0 m 1449 ls []) := by
    refine lv_goto (tgt := 1579) hx hb dL_law_1449 (by decide) ?_
    exact K _ _ _ _ _ _ hV' hI (lv_sub hl [2, 3, 4, 5, 6] rfl)
  cases q with
  | none =>
    refine lv_icmp_eq (tgt := 1432) hx hb dL_law_1427 (by decide) (fun _ => ?_) (fun q => absurd rfl q)
    refine lv_iload hx hb dL_law_1432 (lv_at hl 1 rfl) ?_
    refine lv_if_ne (tgt := 1449) hx hb dL_law_1434 (by decide) (fun _ => ?_) (fun q => absurd q (by decide))
    exact hgo
  | some r =>
    refine lv_icmp_eq (tgt := 1432) hx hb dL_law_1427 (by decide) (fun _ => ?_) (fun q => absurd rfl q)
    refine lv_iload hx hb dL_law_1432 (lv_at hl 1 rfl) ?_
    refine lv_if_ne (tgt := 1449) hx hb dL_law_1434 (by decide) (fun q => absurd rfl q) (fun _ => ?_)
    refine lv_aload_n hx hb dL_law_1437 rfl (lv_at hl 5 rfl) ?_
    refine lv_iconst (v := 0) hx hb dL_law_1438 rfl ?_
    refine W.lald (v := .long r.toInt64) hx hb hI.1.2.2.1 ((hC.2.2.1.1.2 1 _ rfl).1 1 _) (fun q => by cases q) (by rw [arrV_size]; exact ib_in (show ib 0 1 = true by decide)) (by rw [arrV_read _ _ (by decide)]; rfl) rfl rfl dL_law_1439 ?_
    show W p l e room_1 s m #[Value.ref sc] below meth c H locs (cells + 1) (slots + 6) Q (F0 m 1440 ls [.long r.toInt64])
    refine lv_iload hx hb dL_law_1440 (lv_at hl 0 rfl) ?_
    refine lv_i2l (v := r.toInt64) hx hb dL_law_1442 rfl ?_
    refine W.lcmp hx hb dL_law_1443 ?_
    refine lv_if_eq (tgt := 1449) hx hb dL_law_1444 (by decide) (fun _ => ?_) (fun q => absurd (lg0.mpr rfl) q)
    exact hgo
theorem lt7 {L a : Nat} (hL : L ≤ 3584) (ha : a ≤ L) : (nI L - 7 < nI a) ↔ L < a + 7 := by
  by_cases h : 7 ≤ L
  · have e : nI L - 7 = nI (L - 7) := by
      have : nI L = nI (L - 7) + nI 7 := by rw [nI_add]; congr 1; omega
      rw [this]
      exact Int32.add_sub_cancel _ _
    rw [e, nI_ltI (by omega) (by omega)]
    omega
  · have h6 : L = 0 ∨ L = 1 ∨ L = 2 ∨ L = 3 ∨ L = 4 ∨ L = 5 ∨ L = 6 := by omega
    have h7 : a = 0 ∨ a = 1 ∨ a = 2 ∨ a = 3 ∨ a = 4 ∨ a = 5 ∨ a = 6 := by omega
    refine ⟨fun _ => by omega, fun _ => ?_⟩
    rcases h6 with rfl | rfl | rfl | rfl | rfl | rfl | rfl <;> rcases h7 with rfl | rfl | rfl | rfl | rfl | rfl | rfl <;> first | decide | omega
set_option maxHeartbeats 4000000 in
theorem lw_loop (hC : lzC p l s m meth c D B sc L xs) : ∀ n i u v x H locs ls, 7 * i ≤ L → L < 7 * (i + n) → Inv i u v → lzI D B s u v x H locs → lv_has ls 7 (lvL sc B i) → W p l e room_1 s m #[Value.ref sc] below meth c H locs (291 + i) (10595 + 6 * i) (lw_Z below #[Value.ref sc] s) (F0 m 23 ls []) := by
  obtain ⟨⟨hx, hb, hr, hml, hown, hts0, hX, hbl, hlocks, hgv⟩, hB, hK, hst, hzx, hfl, hL⟩ := id hC
  intro n
  induction n with
  | zero => intro i u v x H locs ls h1 h2; omega
  | succ n ih =>
    intro i u v x H locs ls h1 h2 hV hI hl
    refine lv_iload hx hb dL_law_23 (lv_at hl 4 rfl) ?_
    refine lv_aload_n hx hb dL_law_25 rfl (lv_at hl 0 rfl) ?_
    refine va_slen hx hb hX hbl (Nat.not_le.mpr hbl) hI.2 dL_law_26 ?_
    refine lv_bipush (v := 7) hx hb dL_law_27 (by decide) ?_
    refine lv_isub hx hb dL_law_29 ?_
    refine lv_icmp_gt (tgt := 1585) hx hb dL_law_30 (by decide) (fun q => ?_) (fun q => ?_)
    · have q : nI L - 7 < nI (7 * i) := q
      rw [lt7 hL h1] at q
      refine lv_iconst (v := 1) hx hb dL_law_1585 rfl ?_
      refine va_forget (fun z hz => hI.2.2.2 z hz) ?_
      refine W.widen (k := 601024) (n := 7293034) (by omega) (by omega) ?_
      exact lw_ret hx hb hr hlocks dL_law_1586
    · have q : ¬ nI L - 7 < nI (7 * i) := q
      rw [lt7 hL h1] at q
      have hi : 7 * i + 7 ≤ L := by omega
      have hn : i < 600 := by omega
      have hcap : 291 + i + 1 ≤ 601024 ∧ 10595 + 6 * i + 6 ≤ 7293034 := by omega
      have K : lwK p l e s m below meth c D B sc (291 + i) (10595 + 6 * i) (lw_Z below #[Value.ref sc] s) i := by
        intro u v x H locs ls hV hI hl
        refine lv_iinc (v := nI (7 * (i + 1))) (lv' := [(4, .int (nI (7 * (i + 1)))), (0, .ref sc), (1, .ref (B + 1)), (2, .ref (B + 240 + 1)), (3, .ref (B + 291))]) hx hb dL_law_1579 hl (k := 4) rfl (show nI (7 * i) + nI 7 = nI (7 * (i + 1)) from nI_add _ _) (by decide) rfl (fun ls hl => ?_)
        refine lv_goto (tgt := 23) hx hb dL_law_1582 (by decide) ?_
        have := ih (i + 1) u v x H locs ls (by omega) (by omega) hV hI (lv_sub hl [1, 2, 3, 4, 0] rfl)
        rw [show 291 + (i + 1) = 291 + i + 1 by omega, show 10595 + 6 * (i + 1) = 10595 + 6 * i + 6 by omega] at this
        exact this
      refine lv_aload_n hx hb dL_law_33 rfl (lv_at hl 0 rfl) ?_
      refine lv_iload hx hb dL_law_34 (lv_at hl 4 rfl) ?_
      refine va_sld hx hb hX hbl (Nat.not_le.mpr hbl) hI.2 (vp_in_nI (by omega) (by omega)) dL_law_36 ?_
      refine lv_bipush (v := 63) hx hb dL_law_37 (by decide) ?_
      refine lv_iand hx hb dL_law_39 ?_
      generalize xs (nI (7 * i)).toNatClampNeg &&& 63 = z
      by_cases h0 : z = 0
      · subst h0
        refine lv_tableIn (tgt := 224) hx hb dL_law_40 (by decide) (by decide) rfl (by decide) ?_
        exact lw_c0 hC hi hcap K hV hI hl
      by_cases h1 : z = 1
      · subst h1
        refine lv_tableIn (tgt := 371) hx hb dL_law_40 (by decide) (by decide) rfl (by decide) ?_
        exact lw_c1 hC hi hcap K hV hI hl
      by_cases h2 : z = 2
      · subst h2
        refine lv_tableIn (tgt := 384) hx hb dL_law_40 (by decide) (by decide) rfl (by decide) ?_
        exact lw_c2 hC hi hcap K hV hI hl
      by_cases h3 : z = 3
      · subst h3
        refine lv_tableIn (tgt := 397) hx hb dL_law_40 (by decide) (by decide) rfl (by decide) ?_
        exact lw_c3 hC hi hcap K hV hI hl
      by_cases h4 : z = 4
      · subst h4
        refine lv_tableIn (tgt := 434) hx hb dL_law_40 (by decide) (by decide) rfl (by decide) ?_
        exact lw_c4 hC hi hcap K hV hI hl
      by_cases h5 : z = 5
      · subst h5
        refine lv_tableIn (tgt := 471) hx hb dL_law_40 (by decide) (by decide) rfl (by decide) ?_
        exact lw_c5 hC hi hcap K hV hI hl
      by_cases h6 : z = 6
      · subst h6
        refine lv_tableIn (tgt := 508) hx hb dL_law_40 (by decide) (by decide) rfl (by decide) ?_
        exact lw_c6 hC hi hcap K hV hI hl
      by_cases h7 : z = 7
      · subst h7
        refine lv_tableIn (tgt := 545) hx hb dL_law_40 (by decide) (by decide) rfl (by decide) ?_
        exact lw_c7 hC hi hcap K hV hI hl
      by_cases h8 : z = 8
      · subst h8
        refine lv_tableIn (tgt := 582) hx hb dL_law_40 (by decide) (by decide) rfl (by decide) ?_
        exact lw_c8 hC hi hcap K hV hI hl
      by_cases h9 : z = 9
      · subst h9
        refine lv_tableIn (tgt := 619) hx hb dL_law_40 (by decide) (by decide) rfl (by decide) ?_
        exact lw_c9 hC hi hcap K hV hI hl
      by_cases h10 : z = 10
      · subst h10
        refine lv_tableIn (tgt := 644) hx hb dL_law_40 (by decide) (by decide) rfl (by decide) ?_
        exact lw_c10 hC hi hcap K hV hI hl
      by_cases h11 : z = 11
      · subst h11
        refine lv_tableIn (tgt := 657) hx hb dL_law_40 (by decide) (by decide) rfl (by decide) ?_
        exact lw_c11 hC hi hcap K hV hI hl
      by_cases h12 : z = 12
      · subst h12
        refine lv_tableIn (tgt := 670) hx hb dL_law_40 (by decide) (by decide) rfl (by decide) ?_
        exact lw_c12 hC hi hcap K hV hI hl
      by_cases h13 : z = 13
      · subst h13
        refine lv_tableIn (tgt := 695) hx hb dL_law_40 (by decide) (by decide) rfl (by decide) ?_
        exact lw_c13 hC hi hcap K hV hI hl
      by_cases h14 : z = 14
      · subst h14
        refine lv_tableIn (tgt := 732) hx hb dL_law_40 (by decide) (by decide) rfl (by decide) ?_
        exact lw_c14 hC hi hcap K hV hI hl
      by_cases h15 : z = 15
      · subst h15
        refine lv_tableIn (tgt := 769) hx hb dL_law_40 (by decide) (by decide) rfl (by decide) ?_
        exact lw_c15 hC hi hcap K hV hI hl
      by_cases h16 : z = 16
      · subst h16
        refine lv_tableIn (tgt := 794) hx hb dL_law_40 (by decide) (by decide) rfl (by decide) ?_
        exact lw_c16 hC hi hcap K hV hI hl
      by_cases h17 : z = 17
      · subst h17
        refine lv_tableIn (tgt := 819) hx hb dL_law_40 (by decide) (by decide) rfl (by decide) ?_
        exact lw_c17 hC hi hcap K hV hI hl
      by_cases h18 : z = 18
      · subst h18
        refine lv_tableIn (tgt := 832) hx hb dL_law_40 (by decide) (by decide) rfl (by decide) ?_
        exact lw_c18 hC hi hcap K hV hI hl
      by_cases h19 : z = 19
      · subst h19
        refine lv_tableIn (tgt := 857) hx hb dL_law_40 (by decide) (by decide) rfl (by decide) ?_
        exact lw_c19 hC hi hcap K hV hI hl
      by_cases h20 : z = 20
      · subst h20
        refine lv_tableIn (tgt := 894) hx hb dL_law_40 (by decide) (by decide) rfl (by decide) ?_
        exact lw_c20 hC hi hcap K hV hI hl
      by_cases h21 : z = 21
      · subst h21
        refine lv_tableIn (tgt := 931) hx hb dL_law_40 (by decide) (by decide) rfl (by decide) ?_
        exact lw_c21 hC hi hcap K hV hI hl
      by_cases h22 : z = 22
      · subst h22
        refine lv_tableIn (tgt := 968) hx hb dL_law_40 (by decide) (by decide) rfl (by decide) ?_
        exact lw_c22 hC hi hcap K hV hI hl
      by_cases h23 : z = 23
      · subst h23
        refine lv_tableIn (tgt := 993) hx hb dL_law_40 (by decide) (by decide) rfl (by decide) ?_
        exact lw_c23 hC hi hcap K hV hI hl
      by_cases h24 : z = 24
      · subst h24
        refine lv_tableIn (tgt := 1018) hx hb dL_law_40 (by decide) (by decide) rfl (by decide) ?_
        exact lw_c24 hC hi hcap K hV hI hl
      by_cases h25 : z = 25
      · subst h25
        refine lv_tableIn (tgt := 1031) hx hb dL_law_40 (by decide) (by decide) rfl (by decide) ?_
        exact lw_c25 hC hi hcap K hV hI hl
      by_cases h26 : z = 26
      · subst h26
        refine lv_tableIn (tgt := 1056) hx hb dL_law_40 (by decide) (by decide) rfl (by decide) ?_
        exact lw_c26 hC hi hcap K hV hI hl
      by_cases h27 : z = 27
      · subst h27
        refine lv_tableIn (tgt := 1081) hx hb dL_law_40 (by decide) (by decide) rfl (by decide) ?_
        exact lw_c27 hC hi hcap K hV hI hl
      by_cases h28 : z = 28
      · subst h28
        refine lv_tableIn (tgt := 1106) hx hb dL_law_40 (by decide) (by decide) rfl (by decide) ?_
        exact lw_c28 hC hi hcap K hV hI hl
      by_cases h29 : z = 29
      · subst h29
        refine lv_tableIn (tgt := 1131) hx hb dL_law_40 (by decide) (by decide) rfl (by decide) ?_
        exact lw_c29 hC hi hcap K hV hI hl
      by_cases h30 : z = 30
      · subst h30
        refine lv_tableIn (tgt := 1168) hx hb dL_law_40 (by decide) (by decide) rfl (by decide) ?_
        exact lw_c30 hC hi hcap K hV hI hl
      by_cases h31 : z = 31
      · subst h31
        refine lv_tableIn (tgt := 1181) hx hb dL_law_40 (by decide) (by decide) rfl (by decide) ?_
        exact lw_c31 hC hi hcap K hV hI hl
      by_cases h32 : z = 32
      · subst h32
        refine lv_tableIn (tgt := 1194) hx hb dL_law_40 (by decide) (by decide) rfl (by decide) ?_
        exact lw_c32 hC hi hcap K hV hI hl
      by_cases h33 : z = 33
      · subst h33
        refine lv_tableIn (tgt := 1207) hx hb dL_law_40 (by decide) (by decide) rfl (by decide) ?_
        exact lw_c33 hC hi hcap K hV hI hl
      by_cases h34 : z = 34
      · subst h34
        refine lv_tableIn (tgt := 1220) hx hb dL_law_40 (by decide) (by decide) rfl (by decide) ?_
        exact lw_c34 hC hi hcap K hV hI hl
      by_cases h35 : z = 35
      · subst h35
        refine lv_tableIn (tgt := 1285) hx hb dL_law_40 (by decide) (by decide) rfl (by decide) ?_
        exact lw_c35 hC hi hcap K hV hI hl
      by_cases h36 : z = 36
      · subst h36
        refine lv_tableIn (tgt := 1298) hx hb dL_law_40 (by decide) (by decide) rfl (by decide) ?_
        exact lw_c36 hC hi hcap K hV hI hl
      by_cases h37 : z = 37
      · subst h37
        refine lv_tableIn (tgt := 1311) hx hb dL_law_40 (by decide) (by decide) rfl (by decide) ?_
        exact lw_c37 hC hi hcap K hV hI hl
      by_cases h38 : z = 38
      · subst h38
        refine lv_tableIn (tgt := 1360) hx hb dL_law_40 (by decide) (by decide) rfl (by decide) ?_
        exact lw_c38 hC hi hcap K hV hI hl
      by_cases h39 : z = 39
      · subst h39
        refine lv_tableIn (tgt := 1452) hx hb dL_law_40 (by decide) (by decide) rfl (by decide) ?_
        exact lw_c39 hC hi hcap K hV hI hl
      by_cases h40 : z = 40
      · subst h40
        refine lv_tableIn (tgt := 1501) hx hb dL_law_40 (by decide) (by decide) rfl (by decide) ?_
        exact lw_c40 hC hi hcap K hV hI hl
      by_cases h41 : z = 41
      · subst h41
        refine lv_tableIn (tgt := 1554) hx hb dL_law_40 (by decide) (by decide) rfl (by decide) ?_
        exact lw_c41 hC hi hcap K hV hI hl
      refine lv_tableOut (tgt := 1579) hx hb dL_law_40 (tab_out 42 (by decide) (fun j hj => ?_)) (by decide) ?_
      · have hj : j = 0 ∨ j = 1 ∨ j = 2 ∨ j = 3 ∨ j = 4 ∨ j = 5 ∨ j = 6 ∨ j = 7 ∨ j = 8 ∨ j = 9 ∨ j = 10 ∨ j = 11 ∨ j = 12 ∨ j = 13 ∨ j = 14 ∨ j = 15 ∨ j = 16 ∨ j = 17 ∨ j = 18 ∨ j = 19 ∨ j = 20 ∨ j = 21 ∨ j = 22 ∨ j = 23 ∨ j = 24 ∨ j = 25 ∨ j = 26 ∨ j = 27 ∨ j = 28 ∨ j = 29 ∨ j = 30 ∨ j = 31 ∨ j = 32 ∨ j = 33 ∨ j = 34 ∨ j = 35 ∨ j = 36 ∨ j = 37 ∨ j = 38 ∨ j = 39 ∨ j = 40 ∨ j = 41 := by omega
        rcases hj with rfl | rfl | rfl | rfl | rfl | rfl | rfl | rfl | rfl | rfl | rfl | rfl | rfl | rfl | rfl | rfl | rfl | rfl | rfl | rfl | rfl | rfl | rfl | rfl | rfl | rfl | rfl | rfl | rfl | rfl | rfl | rfl | rfl | rfl | rfl | rfl | rfl | rfl | rfl | rfl | rfl | rfl
        · exact h0
        · exact h1
        · exact h2
        · exact h3
        · exact h4
        · exact h5
        · exact h6
        · exact h7
        · exact h8
        · exact h9
        · exact h10
        · exact h11
        · exact h12
        · exact h13
        · exact h14
        · exact h15
        · exact h16
        · exact h17
        · exact h18
        · exact h19
        · exact h20
        · exact h21
        · exact h22
        · exact h23
        · exact h24
        · exact h25
        · exact h26
        · exact h27
        · exact h28
        · exact h29
        · exact h30
        · exact h31
        · exact h32
        · exact h33
        · exact h34
        · exact h35
        · exact h36
        · exact h37
        · exact h38
        · exact h39
        · exact h40
        · exact h41
      · exact W.widen (k := 291 + i + 1) (n := 10595 + 6 * i + 6) (by omega) (by omega) (K _ _ _ _ _ _ (hV.th hn Fr.rf) hI hl)
end LX
