section ZS
variable {p : Program} {l : Launch} {e : Env} {R : Room} {s : State} {mi : MethodId} {args : Array Value} {below : List Frame} {meth : Method} {c : Code} {D : zD} {b : Nat} {m0 : zM}
set_option maxRecDepth 100000 in
set_option maxHeartbeats 4000000 in
theorem sCo_spreadAll_5b {fin : Int32 × zM} (hc : zCx p s mi args meth c (wC D b) m0 RX0 cX0_spreadAll 5 (some .int)) (hRm : R.frames = 1 ∧ R.locals = 24 ∧ R.cells = zc (wC D b) m0 fin.2 ∧ R.slots = zs (wC D b) m0 fin.2) {zr5 : Nat → Int32 → Int32 → Int32 → zM → Option (Int32 × zM)} (hr5 : ∀ (r0 : Nat) (v2 : Int32) (v3 : Int32) (v4 : Int32) (u : zM), zJ eI p l e R s mi args below meth c (wC D b) m0 5 fin 5 [(0, .ref r0), (2, .int v2), (3, .int v3), (4, .int v4)] [] u (zr5 r0 v2 v3 v4 u)) (r0 : Nat) (v2 : Int32) (v3 : Int32) (v4 : Int32) (u : zM) : zJ eI p l e R s mi args below meth c (wC D b) m0 5 fin 5 [(0, .ref r0), (2, .int v2), (3, .int v3), (4, .int v4)] [] u (Co_spreadAll_5b zr5 r0 v2 v3 v4 u) := by
  unfold Co_spreadAll_5b
  refine zJ.chk _ (fun h1 => ?_)
  refine z_iload hc dX0_spreadAll_5 3 rfl ?_
  refine z_bipush (v := 7) hc dX0_spreadAll_7 rfl ?_
  refine z_icmp_ge (tgt := 25) hc dX0_spreadAll_9 (by decide) _ (fun h2 => ?_) (fun h2 => ?_)
  · refine z_iload_n hc dX0_spreadAll_25 2 rfl rfl ?_
    exact z_iret hc dX0_spreadAll_26
  · refine z_aload_n hc dX0_spreadAll_12 0 rfl rfl ?_
    refine z_iload_n hc dX0_spreadAll_13 2 rfl rfl ?_
    refine z_iload_n hc dX0_spreadAll_14 1 rfl rfl ?_
    refine z_callV (av := [.int v3, .int v2]) (enc' := eI) hc rfl (sCo_spread r0 v3 v2 _) (ci := 0) (by decide) h1 (zkC h1) rfl wMX0_250 hpyX0_spread hmyX0_spread (rm_ok hRm (Nat.le_of_ble_eq_true rfl) (Nat.le_of_ble_eq_true rfl)) (Nat.le_of_ble_eq_true rfl) hRm.2.2 dX0_spreadAll_15 (fun c1 u1 f1 => ?_)
    refine z_istore_n (L' := [(3, .int c1), (0, .ref r0), (2, .int v2), (4, .int v4)]) hc dX0_spreadAll_18 rfl (by decide) rfl rfl ?_
    refine z_iinc (L' := [(4, .int (v4 + 1)), (3, .int c1), (0, .ref r0), (2, .int v2)]) hc dX0_spreadAll_19 3 rfl (v := (v4 + 1)) rfl (by decide) rfl rfl ?_
    refine z_goto (tgt := 5) hc dX0_spreadAll_22 (by decide) ?_
    refine zJ.sub (L' := [(0, .ref r0), (2, .int v2), (3, .int c1), (4, .int (v4 + 1))]) [2, 3, 1, 0] rfl ?_
    exact hr5 r0 v2 c1 (v4 + 1) _
set_option maxRecDepth 100000 in
set_option maxHeartbeats 4000000 in
theorem sCo_spreadAll_5 {fin : Int32 × zM} (hc : zCx p s mi args meth c (wC D b) m0 RX0 cX0_spreadAll 5 (some .int)) (hRm : R.frames = 1 ∧ R.locals = 24 ∧ R.cells = zc (wC D b) m0 fin.2 ∧ R.slots = zs (wC D b) m0 fin.2) : ∀ (zf : Nat) (r0 : Nat) (v2 : Int32) (v3 : Int32) (v4 : Int32) (u : zM), zJ eI p l e R s mi args below meth c (wC D b) m0 5 fin 5 [(0, .ref r0), (2, .int v2), (3, .int v3), (4, .int v4)] [] u (Co_spreadAll_5 zf r0 v2 v3 v4 u) := by
  intro zf
  induction zf with
  | zero => intro r0 v2 v3 v4 u; exact zJ.nil
  | succ zf ih => intro r0 v2 v3 v4 u; exact sCo_spreadAll_5b hc hRm ih r0 v2 v3 v4 u
set_option maxRecDepth 100000 in
set_option maxHeartbeats 4000000 in
theorem sCo_spreadAll : ∀ (r0 : Nat) (v1 : Int32) (v2 : Int32) (u : zM) r m1, Co_spreadAll r0 v1 v2 u = some (r, m1) → zMet l (wC D b) 1 24 yX0_spreadAll cX0_spreadAll 5 (some .int) [.ref r0, .int v1, .int v2] u (eI r) m1 := by
  intro r0 v1 v2 u
  refine zMet.of (L := [(0, .ref r0), (1, .int v1), (2, .int v2)]) RX0 (by decide +kernel) rfl (Nat.le_of_ble_eq_true rfl) (fun h => by cases h) rfl (fun p e s mi args below meth c R fin hc hin hRm => ?_)
  unfold Co_spreadAll
  refine zJ.chk _ (fun h1 => ?_)
  refine z_iload_n hc dX0_spreadAll_0 1 rfl rfl ?_
  refine z_istore_n (L' := [(3, .int v1), (0, .ref r0), (1, .int v1), (2, .int v2)]) hc dX0_spreadAll_1 rfl (by decide) rfl rfl ?_
  refine z_iconst (v := 0) hc dX0_spreadAll_2 rfl ?_
  refine z_istore (L' := [(4, .int 0), (3, .int v1), (0, .ref r0), (1, .int v1), (2, .int v2)]) hc dX0_spreadAll_3 (by decide) rfl rfl ?_
  refine zJ.sub (L' := [(0, .ref r0), (2, .int v2), (3, .int v1), (4, .int 0)]) [2, 4, 1, 0] rfl ?_
  exact sCo_spreadAll_5 hc hRm zF r0 v2 v1 0 _
set_option maxRecDepth 100000 in
set_option maxHeartbeats 4000000 in
theorem sSt_copy : ∀ (r0 : Nat) (r1 : Nat) (u : zM) r m1, St_copy r0 r1 u = some (r, m1) → zMet l (wC D b) 1 100 yX7_copy cX7_copy 2 none [.ref r0, .ref r1] u (eV r) m1 := by
  intro r0 r1 u
  refine zMet.of (L := [(0, .ref r0), (1, .ref r1)]) RX7 (by decide +kernel) rfl (Nat.le_of_ble_eq_true rfl) (fun h => by cases h) rfl (fun p e s mi args below meth c R fin hc hin hRm => ?_)
  unfold St_copy
  refine zJ.chk _ (fun h1 => ?_)
  refine zJ.chk _ (fun h2 => ?_)
  refine z_aload_n hc dX7_copy_0 1 rfl rfl ?_
  refine z_getR (x := (r1 + 1)) hc (ci := 7) (k := 0) (by decide) (by decide) zly7 h2 (zkC h2) wFX7_9 rfl dX7_copy_1 (rfC_off (off := 1) h2 rfl (by decide)) (Nat.le_add_left_of_le (by decide)) ?_
  refine z_iconst (v := 0) hc dX7_copy_4 rfl ?_
  refine z_aload_n hc dX7_copy_5 0 rfl rfl ?_
  refine z_getR (x := (r0 + 1)) hc (ci := 7) (k := 0) (by decide) (by decide) zly7 h1 (zkC h1) wFX7_9 rfl dX7_copy_6 (rfC_off (off := 1) h1 rfl (by decide)) (Nat.le_add_left_of_le (by decide)) ?_
  refine z_iconst (v := 0) hc dX7_copy_9 rfl ?_
  refine z_bipush (v := 7) hc dX7_copy_10 rfl ?_
  refine z_copy (i := 0) (j := 0) (k := 7) hc (lyC_17_1 h2) (lyC_17_1 h1) (zkC (lyC_17_1 h2)) (zkC (lyC_17_1 h1)) rfl rfl (by decide) rfl rfl rfl (by decide) (by decide) wAX7_30 wAnat wAst wAin (rm_ok hRm (Nat.le_of_ble_eq_true rfl) (Nat.le_of_ble_eq_true rfl)) (Nat.le_of_ble_eq_true rfl) dX7_copy_12 ?_
  refine zJ.letM (fun u1 e1 => ?_)
  refine z_aload_n hc dX7_copy_15 1 rfl rfl ?_
  refine z_getR (x := (r1 + 2)) hc (ci := 7) (k := 1) (by decide) (by decide) zly7 h2 (zkC h2) wFX7_15 rfl dX7_copy_16 (rfC_off (off := 2) h2 rfl (by decide)) (Nat.le_add_left_of_le (by decide)) ?_
  refine z_iconst (v := 0) hc dX7_copy_19 rfl ?_
  refine z_aload_n hc dX7_copy_20 0 rfl rfl ?_
  refine z_getR (x := (r0 + 2)) hc (ci := 7) (k := 1) (by decide) (by decide) zly7 h1 (zkC h1) wFX7_15 rfl dX7_copy_21 (rfC_off (off := 2) h1 rfl (by decide)) (Nat.le_add_left_of_le (by decide)) ?_
  refine z_iconst (v := 0) hc dX7_copy_24 rfl ?_
  refine z_iconst (v := 5) hc dX7_copy_25 rfl ?_
  refine z_copy (i := 0) (j := 0) (k := 5) hc (lyC_17_2 h2) (lyC_17_2 h1) (zkC (lyC_17_2 h2)) (zkC (lyC_17_2 h1)) rfl rfl (by decide) rfl rfl rfl (by decide) (by decide) wAX7_30 wAnat wAst wAin (rm_ok hRm (Nat.le_of_ble_eq_true rfl) (Nat.le_of_ble_eq_true rfl)) (Nat.le_of_ble_eq_true rfl) dX7_copy_26 ?_
  refine zJ.letM (fun u2 e2 => ?_)
  refine z_aload_n hc dX7_copy_29 1 rfl rfl ?_
  refine z_getR (x := (r1 + 3)) hc (ci := 7) (k := 2) (by decide) (by decide) zly7 h2 (zkC h2) wFX7_18 rfl dX7_copy_30 (rfC_off (off := 3) h2 rfl (by decide)) (Nat.le_add_left_of_le (by decide)) ?_
  refine z_iconst (v := 0) hc dX7_copy_33 rfl ?_
  refine z_aload_n hc dX7_copy_34 0 rfl rfl ?_
  refine z_getR (x := (r0 + 3)) hc (ci := 7) (k := 2) (by decide) (by decide) zly7 h1 (zkC h1) wFX7_18 rfl dX7_copy_35 (rfC_off (off := 3) h1 rfl (by decide)) (Nat.le_add_left_of_le (by decide)) ?_
  refine z_iconst (v := 0) hc dX7_copy_38 rfl ?_
  refine z_iconst (v := 3) hc dX7_copy_39 rfl ?_
  refine z_copy (i := 0) (j := 0) (k := 3) hc (lyC_17_3 h2) (lyC_17_3 h1) (zkC (lyC_17_3 h2)) (zkC (lyC_17_3 h1)) rfl rfl (by decide) rfl rfl rfl (by decide) (by decide) wAX7_30 wAnat wAst wAin (rm_ok hRm (Nat.le_of_ble_eq_true rfl) (Nat.le_of_ble_eq_true rfl)) (Nat.le_of_ble_eq_true rfl) dX7_copy_40 ?_
  refine zJ.letM (fun u3 e3 => ?_)
  refine z_aload_n hc dX7_copy_43 1 rfl rfl ?_
  refine z_getR (x := (r1 + 4)) hc (ci := 7) (k := 3) (by decide) (by decide) zly7 h2 (zkC h2) wFX7_21 rfl dX7_copy_44 (rfC_off (off := 4) h2 rfl (by decide)) (Nat.le_add_left_of_le (by decide)) ?_
  refine z_iconst (v := 0) hc dX7_copy_47 rfl ?_
  refine z_aload_n hc dX7_copy_48 0 rfl rfl ?_
  refine z_getR (x := (r0 + 4)) hc (ci := 7) (k := 3) (by decide) (by decide) zly7 h1 (zkC h1) wFX7_21 rfl dX7_copy_49 (rfC_off (off := 4) h1 rfl (by decide)) (Nat.le_add_left_of_le (by decide)) ?_
  refine z_iconst (v := 0) hc dX7_copy_52 rfl ?_
  refine z_iconst (v := 3) hc dX7_copy_53 rfl ?_
  refine z_copy (i := 0) (j := 0) (k := 3) hc (lyC_17_4 h2) (lyC_17_4 h1) (zkC (lyC_17_4 h2)) (zkC (lyC_17_4 h1)) rfl rfl (by decide) rfl rfl rfl (by decide) (by decide) wAX7_30 wAnat wAst wAin (rm_ok hRm (Nat.le_of_ble_eq_true rfl) (Nat.le_of_ble_eq_true rfl)) (Nat.le_of_ble_eq_true rfl) dX7_copy_54 ?_
  refine zJ.letM (fun u4 e4 => ?_)
  refine z_aload_n hc dX7_copy_57 1 rfl rfl ?_
  refine z_getR (x := (r1 + 5)) hc (ci := 7) (k := 4) (by decide) (by decide) zly7 h2 (zkC h2) wFX7_24 rfl dX7_copy_58 (rfC_off (off := 5) h2 rfl (by decide)) (Nat.le_add_left_of_le (by decide)) ?_
  refine z_iconst (v := 0) hc dX7_copy_61 rfl ?_
  refine z_aload_n hc dX7_copy_62 0 rfl rfl ?_
  refine z_getR (x := (r0 + 5)) hc (ci := 7) (k := 4) (by decide) (by decide) zly7 h1 (zkC h1) wFX7_24 rfl dX7_copy_63 (rfC_off (off := 5) h1 rfl (by decide)) (Nat.le_add_left_of_le (by decide)) ?_
  refine z_iconst (v := 0) hc dX7_copy_66 rfl ?_
  refine z_bipush (v := 6) hc dX7_copy_67 rfl ?_
  refine z_copy (i := 0) (j := 0) (k := 6) hc (lyC_17_5 h2) (lyC_17_5 h1) (zkC (lyC_17_5 h2)) (zkC (lyC_17_5 h1)) rfl rfl (by decide) rfl rfl rfl (by decide) (by decide) wAX7_30 wAnat wAst wAin (rm_ok hRm (Nat.le_of_ble_eq_true rfl) (Nat.le_of_ble_eq_true rfl)) (Nat.le_of_ble_eq_true rfl) dX7_copy_69 ?_
  refine zJ.letM (fun u5 e5 => ?_)
  refine z_aload_n hc dX7_copy_72 0 rfl rfl ?_
  refine z_aload_n hc dX7_copy_73 1 rfl rfl ?_
  refine z_getI hc (ci := 7) (k := 5) (by decide) (by decide) zly7 h2 (zkC h2) wFX7_45 rfl dX7_copy_74 ?_
  refine z_putI hc (ci := 7) (k := 5) (by decide) (by decide) zly7 h1 (zkC h1) wFX7_45 rfl rfl rfl rfl dX7_copy_77 ?_
  refine zJ.letM (fun u6 e6 => ?_)
  exact z_vret hc dX7_copy_80
set_option maxRecDepth 100000 in
set_option maxHeartbeats 4000000 in
theorem sSs_copy : ∀ (r0 : Nat) (r1 : Nat) (u : zM) r m1, Ss_copy r0 r1 u = some (r, m1) → zMet l (wC D b) 1 100 yX6_copy cX6_copy 2 none [.ref r0, .ref r1] u (eV r) m1 := by
  intro r0 r1 u
  refine zMet.of (L := [(0, .ref r0), (1, .ref r1)]) RX6 (by decide +kernel) rfl (Nat.le_of_ble_eq_true rfl) (fun h => by cases h) rfl (fun p e s mi args below meth c R fin hc hin hRm => ?_)
  unfold Ss_copy
  refine zJ.chk _ (fun h1 => ?_)
  refine zJ.chk _ (fun h2 => ?_)
  refine z_aload_n hc dX6_copy_0 1 rfl rfl ?_
  refine z_getR (x := (r1 + 1)) hc (ci := 6) (k := 0) (by decide) (by decide) zly6 h2 (zkC h2) wFX6_9 rfl dX6_copy_1 (rfC_off (off := 1) h2 rfl (by decide)) (Nat.le_add_left_of_le (by decide)) ?_
  refine z_iconst (v := 0) hc dX6_copy_4 rfl ?_
  refine z_aload_n hc dX6_copy_5 0 rfl rfl ?_
  refine z_getR (x := (r0 + 1)) hc (ci := 6) (k := 0) (by decide) (by decide) zly6 h1 (zkC h1) wFX6_9 rfl dX6_copy_6 (rfC_off (off := 1) h1 rfl (by decide)) (Nat.le_add_left_of_le (by decide)) ?_
  refine z_iconst (v := 0) hc dX6_copy_9 rfl ?_
  refine z_bipush (v := 40) hc dX6_copy_10 rfl ?_
  refine z_copy (i := 0) (j := 0) (k := 40) hc (lyC_16_1 h2) (lyC_16_1 h1) (zkC (lyC_16_1 h2)) (zkC (lyC_16_1 h1)) rfl rfl (by decide) rfl rfl rfl (by decide) (by decide) wAX6_21 wAnat wAst wAin (rm_ok hRm (Nat.le_of_ble_eq_true rfl) (Nat.le_of_ble_eq_true rfl)) (Nat.le_of_ble_eq_true rfl) dX6_copy_12 ?_
  refine zJ.letM (fun u1 e1 => ?_)
  refine z_aload_n hc dX6_copy_15 1 rfl rfl ?_
  refine z_getR (x := (r1 + 2)) hc (ci := 6) (k := 1) (by decide) (by decide) zly6 h2 (zkC h2) wFX6_15 rfl dX6_copy_16 (rfC_off (off := 2) h2 rfl (by decide)) (Nat.le_add_left_of_le (by decide)) ?_
  refine z_iconst (v := 0) hc dX6_copy_19 rfl ?_
  refine z_aload_n hc dX6_copy_20 0 rfl rfl ?_
  refine z_getR (x := (r0 + 2)) hc (ci := 6) (k := 1) (by decide) (by decide) zly6 h1 (zkC h1) wFX6_15 rfl dX6_copy_21 (rfC_off (off := 2) h1 rfl (by decide)) (Nat.le_add_left_of_le (by decide)) ?_
  refine z_iconst (v := 0) hc dX6_copy_24 rfl ?_
  refine z_bipush (v := 40) hc dX6_copy_25 rfl ?_
  refine z_copy (i := 0) (j := 0) (k := 40) hc (lyC_16_2 h2) (lyC_16_2 h1) (zkC (lyC_16_2 h2)) (zkC (lyC_16_2 h1)) rfl rfl (by decide) rfl rfl rfl (by decide) (by decide) wAX6_21 wAnat wAst wAin (rm_ok hRm (Nat.le_of_ble_eq_true rfl) (Nat.le_of_ble_eq_true rfl)) (Nat.le_of_ble_eq_true rfl) dX6_copy_27 ?_
  refine zJ.letM (fun u2 e2 => ?_)
  refine z_aload_n hc dX6_copy_30 1 rfl rfl ?_
  refine z_getR (x := (r1 + 3)) hc (ci := 6) (k := 2) (by decide) (by decide) zly6 h2 (zkC h2) wFX6_18 rfl dX6_copy_31 (rfC_off (off := 3) h2 rfl (by decide)) (Nat.le_add_left_of_le (by decide)) ?_
  refine z_iconst (v := 0) hc dX6_copy_34 rfl ?_
  refine z_aload_n hc dX6_copy_35 0 rfl rfl ?_
  refine z_getR (x := (r0 + 3)) hc (ci := 6) (k := 2) (by decide) (by decide) zly6 h1 (zkC h1) wFX6_18 rfl dX6_copy_36 (rfC_off (off := 3) h1 rfl (by decide)) (Nat.le_add_left_of_le (by decide)) ?_
  refine z_iconst (v := 0) hc dX6_copy_39 rfl ?_
  refine z_bipush (v := 40) hc dX6_copy_40 rfl ?_
  refine z_copy (i := 0) (j := 0) (k := 40) hc (lyC_16_3 h2) (lyC_16_3 h1) (zkC (lyC_16_3 h2)) (zkC (lyC_16_3 h1)) rfl rfl (by decide) rfl rfl rfl (by decide) (by decide) wAX6_21 wAnat wAst wAin (rm_ok hRm (Nat.le_of_ble_eq_true rfl) (Nat.le_of_ble_eq_true rfl)) (Nat.le_of_ble_eq_true rfl) dX6_copy_42 ?_
  refine zJ.letM (fun u3 e3 => ?_)
  refine z_aload_n hc dX6_copy_45 0 rfl rfl ?_
  refine z_aload_n hc dX6_copy_46 1 rfl rfl ?_
  refine z_getI hc (ci := 6) (k := 3) (by decide) (by decide) zly6 h2 (zkC h2) wFX6_27 rfl dX6_copy_47 ?_
  refine z_putI hc (ci := 6) (k := 3) (by decide) (by decide) zly6 h1 (zkC h1) wFX6_27 rfl rfl rfl rfl dX6_copy_50 ?_
  refine zJ.letM (fun u4 e4 => ?_)
  exact z_vret hc dX6_copy_53
set_option maxRecDepth 100000 in
set_option maxHeartbeats 4000000 in
theorem sSe_copy_2b {fin : Unit × zM} (hc : zCx p s mi args meth c (wC D b) m0 RX5 cX5_copy 3 none) (hRm : R.frames = 0 ∧ R.locals = 0 ∧ R.cells = zc (wC D b) m0 fin.2 ∧ R.slots = zs (wC D b) m0 fin.2) {zr2 : Nat → Nat → Int32 → zM → Option (Unit × zM)} (hr2 : ∀ (r0 : Nat) (r1 : Nat) (v2 : Int32) (u : zM), zJ eV p l e R s mi args below meth c (wC D b) m0 3 fin 2 [(0, .ref r0), (1, .ref r1), (2, .int v2)] [] u (zr2 r0 r1 v2 u)) (r0 : Nat) (r1 : Nat) (v2 : Int32) (u : zM) : zJ eV p l e R s mi args below meth c (wC D b) m0 3 fin 2 [(0, .ref r0), (1, .ref r1), (2, .int v2)] [] u (Se_copy_2b zr2 r0 r1 v2 u) := by
  unfold Se_copy_2b
  refine zJ.chk _ (fun h1 => ?_)
  refine zJ.chk _ (fun h2 => ?_)
  refine z_iload_n hc dX5_copy_2 2 rfl rfl ?_
  refine z_bipush (v := 8) hc dX5_copy_3 rfl ?_
  refine z_icmp_ge (tgt := 50) hc dX5_copy_5 (by decide) _ (fun h3 => ?_) (fun h3 => ?_)
  · refine z_aload_n hc dX5_copy_50 0 rfl rfl ?_
    refine z_aload_n hc dX5_copy_51 1 rfl rfl ?_
    refine z_getI hc (ci := 5) (k := 3) (by decide) (by decide) zly5 h2 (zkC h2) wFX5_22 rfl dX5_copy_52 ?_
    refine z_putI hc (ci := 5) (k := 3) (by decide) (by decide) zly5 h1 (zkC h1) wFX5_22 rfl rfl rfl rfl dX5_copy_55 ?_
    refine zJ.letM (fun u1 e1 => ?_)
    exact z_vret hc dX5_copy_58
  · refine z_aload_n hc dX5_copy_8 0 rfl rfl ?_
    refine z_getR (x := (r0 + 1)) hc (ci := 5) (k := 0) (by decide) (by decide) zly5 h1 (zkC h1) wFX5_9 rfl dX5_copy_9 (rfC_off (off := 1) h1 rfl (by decide)) (Nat.le_add_left_of_le (by decide)) ?_
    refine z_iload_n hc dX5_copy_12 2 rfl rfl ?_
    refine z_aload_n hc dX5_copy_13 1 rfl rfl ?_
    refine z_getR (x := (r1 + 1)) hc (ci := 5) (k := 0) (by decide) (by decide) zly5 h2 (zkC h2) wFX5_9 rfl dX5_copy_14 (rfC_off (off := 1) h2 rfl (by decide)) (Nat.le_add_left_of_le (by decide)) ?_
    refine z_iload_n hc dX5_copy_17 2 rfl rfl ?_
    refine zJ.chk _ (fun h4 => ?_)
    refine z_iald (k := (ix v2)) hc (lyC_15_1 h2) (zkC (lyC_15_1 h2)) h4 rfl dX5_copy_18 ?_
    refine zJ.chk _ (fun h5 => ?_)
    refine z_iast (k := (ix v2)) hc (lyC_15_1 h1) (zkC (lyC_15_1 h1)) h5 rfl dX5_copy_19 ?_
    refine zJ.letM (fun u2 e2 => ?_)
    refine z_aload_n hc dX5_copy_20 0 rfl rfl ?_
    refine z_getR (x := (r0 + 2)) hc (ci := 5) (k := 1) (by decide) (by decide) zly5 h1 (zkC h1) wFX5_15 rfl dX5_copy_21 (rfC_off (off := 2) h1 rfl (by decide)) (Nat.le_add_left_of_le (by decide)) ?_
    refine z_iload_n hc dX5_copy_24 2 rfl rfl ?_
    refine z_aload_n hc dX5_copy_25 1 rfl rfl ?_
    refine z_getR (x := (r1 + 2)) hc (ci := 5) (k := 1) (by decide) (by decide) zly5 h2 (zkC h2) wFX5_15 rfl dX5_copy_26 (rfC_off (off := 2) h2 rfl (by decide)) (Nat.le_add_left_of_le (by decide)) ?_
    refine z_iload_n hc dX5_copy_29 2 rfl rfl ?_
    refine zJ.chk _ (fun h6 => ?_)
    refine z_iald (k := (ix v2)) hc (lyC_15_2 h2) (zkC (lyC_15_2 h2)) h6 rfl dX5_copy_30 ?_
    refine zJ.chk _ (fun h7 => ?_)
    refine z_iast (k := (ix v2)) hc (lyC_15_2 h1) (zkC (lyC_15_2 h1)) h7 rfl dX5_copy_31 ?_
    refine zJ.letM (fun u3 e3 => ?_)
    refine z_aload_n hc dX5_copy_32 0 rfl rfl ?_
    refine z_getR (x := (r0 + 3)) hc (ci := 5) (k := 2) (by decide) (by decide) zly5 h1 (zkC h1) wFX5_18 rfl dX5_copy_33 (rfC_off (off := 3) h1 rfl (by decide)) (Nat.le_add_left_of_le (by decide)) ?_
    refine z_iload_n hc dX5_copy_36 2 rfl rfl ?_
    refine z_aload_n hc dX5_copy_37 1 rfl rfl ?_
    refine z_getR (x := (r1 + 3)) hc (ci := 5) (k := 2) (by decide) (by decide) zly5 h2 (zkC h2) wFX5_18 rfl dX5_copy_38 (rfC_off (off := 3) h2 rfl (by decide)) (Nat.le_add_left_of_le (by decide)) ?_
    refine z_iload_n hc dX5_copy_41 2 rfl rfl ?_
    refine zJ.chk _ (fun h8 => ?_)
    refine z_zald (k := (ix v2)) hc (lyC_15_3 h2) (zkC (lyC_15_3 h2)) h8 rfl dX5_copy_42 ?_
    refine zJ.chk _ (fun h9 => ?_)
    refine z_zast (k := (ix v2)) hc (lyC_15_3 h1) (zkC (lyC_15_3 h1)) h9 rfl dX5_copy_43 ?_
    refine zJ.letM (fun u4 e4 => ?_)
    refine z_iinc (L' := [(2, .int (v2 + 1)), (0, .ref r0), (1, .ref r1)]) hc dX5_copy_44 2 rfl (v := (v2 + 1)) rfl (by decide) rfl rfl ?_
    refine z_goto (tgt := 2) hc dX5_copy_47 (by decide) ?_
    refine zJ.sub (L' := [(0, .ref r0), (1, .ref r1), (2, .int (v2 + 1))]) [1, 2, 0] rfl ?_
    exact hr2 r0 r1 (v2 + 1) _
set_option maxRecDepth 100000 in
set_option maxHeartbeats 4000000 in
theorem sSe_copy_2 {fin : Unit × zM} (hc : zCx p s mi args meth c (wC D b) m0 RX5 cX5_copy 3 none) (hRm : R.frames = 0 ∧ R.locals = 0 ∧ R.cells = zc (wC D b) m0 fin.2 ∧ R.slots = zs (wC D b) m0 fin.2) : ∀ (zf : Nat) (r0 : Nat) (r1 : Nat) (v2 : Int32) (u : zM), zJ eV p l e R s mi args below meth c (wC D b) m0 3 fin 2 [(0, .ref r0), (1, .ref r1), (2, .int v2)] [] u (Se_copy_2 zf r0 r1 v2 u) := by
  intro zf
  induction zf with
  | zero => intro r0 r1 v2 u; exact zJ.nil
  | succ zf ih => intro r0 r1 v2 u; exact sSe_copy_2b hc hRm ih r0 r1 v2 u
set_option maxRecDepth 100000 in
set_option maxHeartbeats 4000000 in
theorem sSe_copy : ∀ (r0 : Nat) (r1 : Nat) (u : zM) r m1, Se_copy r0 r1 u = some (r, m1) → zMet l (wC D b) 0 0 yX5_copy cX5_copy 3 none [.ref r0, .ref r1] u (eV r) m1 := by
  intro r0 r1 u
  refine zMet.of (L := [(0, .ref r0), (1, .ref r1)]) RX5 (by decide +kernel) rfl (Nat.le_of_ble_eq_true rfl) (fun h => by cases h) rfl (fun p e s mi args below meth c R fin hc hin hRm => ?_)
  unfold Se_copy
  refine zJ.chk _ (fun h1 => ?_)
  refine zJ.chk _ (fun h2 => ?_)
  refine z_iconst (v := 0) hc dX5_copy_0 rfl ?_
  refine z_istore_n (L' := [(2, .int 0), (0, .ref r0), (1, .ref r1)]) hc dX5_copy_1 rfl (by decide) rfl rfl ?_
  refine zJ.sub (L' := [(0, .ref r0), (1, .ref r1), (2, .int 0)]) [1, 2, 0] rfl ?_
  exact sSe_copy_2 hc hRm zF r0 r1 0 _
set_option maxRecDepth 100000 in
set_option maxHeartbeats 4000000 in
theorem sMk_lay : ∀ (r0 : Nat) (r1 : Nat) (r2 : Nat) (r3 : Nat) (u : zM) r m1, Mk_lay r0 r1 r2 r3 u = some (r, m1) → zMet l (wC D b) 2 121 yX2_lay cX2_lay 4 none [.ref r0, .ref r1, .ref r2, .ref r3] u (eV r) m1 := by
  intro r0 r1 r2 r3 u
  refine zMet.of (L := [(0, .ref r0), (1, .ref r1), (2, .ref r2), (3, .ref r3)]) RX2 (by decide +kernel) rfl (Nat.le_of_ble_eq_true rfl) (fun h => by cases h) rfl (fun p e s mi args below meth c R fin hc hin hRm => ?_)
  unfold Mk_lay
  refine zJ.chk _ (fun h1 => ?_)
  refine zJ.chk _ (fun h2 => ?_)
  refine zJ.chk _ (fun h3 => ?_)
  refine zJ.chk _ (fun h4 => ?_)
  refine z_aload_n hc dX2_lay_0 0 rfl rfl ?_
  refine z_getR (x := (r0 + 1)) hc (ci := 2) (k := 0) (by decide) (by decide) zly2 h1 (zkC h1) wFX2_10 rfl dX2_lay_1 (rfC_off (off := 1) h1 rfl (by decide)) (Nat.le_add_left_of_le (by decide)) ?_
  refine z_aload_n hc dX2_lay_4 1 rfl rfl ?_
  refine z_callV (av := [.ref r1]) (enc' := eV) hc rfl (sSt_copy (r0 + 1) r1 _) (ci := 7) (by decide) (lyC_12_1 h1) (zkC (lyC_12_1 h1)) rfl wMX2_30 hpyX7_copy hmyX7_copy (rm_ok hRm (Nat.le_of_ble_eq_true rfl) (Nat.le_of_ble_eq_true rfl)) (Nat.le_of_ble_eq_true rfl) hRm.2.2 dX2_lay_5 (fun c1 u1 f1 => ?_)
  refine z_aload_n hc dX2_lay_8 0 rfl rfl ?_
  refine z_getR (x := (r0 + 7)) hc (ci := 2) (k := 1) (by decide) (by decide) zly2 h1 (zkC h1) wFX2_19 rfl dX2_lay_9 (rfC_off (off := 7) h1 rfl (by decide)) (Nat.le_add_left_of_le (by decide)) ?_
  refine z_aload_n hc dX2_lay_12 2 rfl rfl ?_
  refine z_callV (av := [.ref r2]) (enc' := eV) hc rfl (sSs_copy (r0 + 7) r2 _) (ci := 6) (by decide) (lyC_12_7 h1) (zkC (lyC_12_7 h1)) rfl wMX2_34 hpyX6_copy hmyX6_copy (rm_ok hRm (Nat.le_of_ble_eq_true rfl) (Nat.le_of_ble_eq_true rfl)) (Nat.le_of_ble_eq_true rfl) hRm.2.2 dX2_lay_13 (fun c2 u2 f2 => ?_)
  refine z_aload_n hc dX2_lay_16 0 rfl rfl ?_
  refine z_getR (x := (r0 + 11)) hc (ci := 2) (k := 2) (by decide) (by decide) zly2 h1 (zkC h1) wFX2_26 rfl dX2_lay_17 (rfC_off (off := 11) h1 rfl (by decide)) (Nat.le_add_left_of_le (by decide)) ?_
  refine z_aload_n hc dX2_lay_20 3 rfl rfl ?_
  refine z_callV (av := [.ref r3]) (enc' := eV) hc rfl (sSe_copy (r0 + 11) r3 _) (ci := 5) (by decide) (lyC_12_11 h1) (zkC (lyC_12_11 h1)) rfl wMX2_37 hpyX5_copy hmyX5_copy (rm_ok hRm (Nat.le_of_ble_eq_true rfl) (Nat.le_of_ble_eq_true rfl)) (Nat.le_of_ble_eq_true rfl) hRm.2.2 dX2_lay_21 (fun c3 u3 f3 => ?_)
  refine z_aload_n hc dX2_lay_24 0 rfl rfl ?_
  refine z_iconst (v := 1) hc dX2_lay_25 rfl ?_
  refine z_putI hc (ci := 2) (k := 3) (by decide) (by decide) zly2 h1 (zkC h1) wFX2_40 rfl rfl rfl rfl dX2_lay_26 ?_
  refine zJ.letM (fun u4 e1 => ?_)
  exact z_vret hc dX2_lay_29
set_option maxRecDepth 100000 in
set_option maxHeartbeats 4000000 in
theorem sOu_forget : ∀ (u : zM) r m1, Ou_forget u = some (r, m1) → zMet l (wC D b) 0 0 yX4_forget cX4_forget 1 none [.ref 70] u (eV r) m1 := by
  intro u
  refine zMet.of (L := [(0, .ref 70)]) RX4 (by decide +kernel) rfl (Nat.le_of_ble_eq_true rfl) (fun h => by cases h) rfl (fun p e s mi args below meth c R fin hc hin hRm => ?_)
  unfold Ou_forget
  refine z_aload_n hc dX4_forget_0 0 rfl rfl ?_
  refine z_iconst (v := 0) hc dX4_forget_1 rfl ?_
  refine z_putI hc (ci := 4) (k := 6) (by decide) (by decide) zly4 lC70 (zkC lC70) wFX4_34 rfl rfl rfl rfl dX4_forget_2 ?_
  refine zJ.letM (fun u1 e1 => ?_)
  exact z_vret hc dX4_forget_5
set_option maxRecDepth 100000 in
set_option maxHeartbeats 4000000 in
theorem sSt_bestPlace_6b {fin : Int32 × zM} (hc : zCx p s mi args meth c (wC D b) m0 RX7 cX7_bestPlace 6 (some .int)) (hRm : R.frames = 1 ∧ R.locals = 22 ∧ R.cells = zc (wC D b) m0 fin.2 ∧ R.slots = zs (wC D b) m0 fin.2) {zr6 : Nat → Nat → Int32 → Int32 → Int32 → Int32 → zM → Option (Int32 × zM)} (hr6 : ∀ (r0 : Nat) (r1 : Nat) (v2 : Int32) (v3 : Int32) (v4 : Int32) (v5 : Int32) (u : zM), zJ eI p l e R s mi args below meth c (wC D b) m0 6 fin 6 [(0, .ref r0), (1, .ref r1), (2, .int v2), (3, .int v3), (4, .int v4), (5, .int v5)] [] u (zr6 r0 r1 v2 v3 v4 v5 u)) (r0 : Nat) (r1 : Nat) (v2 : Int32) (v3 : Int32) (v4 : Int32) (v5 : Int32) (u : zM) : zJ eI p l e R s mi args below meth c (wC D b) m0 6 fin 6 [(0, .ref r0), (1, .ref r1), (2, .int v2), (3, .int v3), (4, .int v4), (5, .int v5)] [] u (St_bestPlace_6b zr6 r0 r1 v2 v3 v4 v5 u) := by
  unfold St_bestPlace_6b
  refine zJ.chk _ (fun h1 => ?_)
  refine zJ.chk _ (fun h2 => ?_)
  refine z_iload hc dX7_bestPlace_6 5 rfl ?_
  refine z_aload_n hc dX7_bestPlace_8 1 rfl rfl ?_
  refine z_getR (x := (r1 + 1)) hc (ci := 0) (k := 0) (by decide) (by decide) zly0 h2 (zkC h2) wFX7_75 rfl dX7_bestPlace_9 (rfC_off (off := 1) h2 rfl (by decide)) (Nat.le_add_left_of_le (by decide)) ?_
  refine z_getI hc (ci := 3) (k := 1) (by decide) (by decide) zly3 (lyC_10_1 h2) (zkC (lyC_10_1 h2)) wFX7_53 rfl dX7_bestPlace_12 ?_
  refine z_icmp_ge (tgt := 59) hc dX7_bestPlace_15 (by decide) _ (fun h3 => ?_) (fun h3 => ?_)
  · refine z_iload hc dX7_bestPlace_59 4 rfl ?_
    exact z_iret hc dX7_bestPlace_61
  · refine z_aload_n hc dX7_bestPlace_18 1 rfl rfl ?_
    refine z_iload_n hc dX7_bestPlace_19 2 rfl rfl ?_
    refine z_iload hc dX7_bestPlace_20 5 rfl ?_
    refine z_callV (av := [.int v2, .int v5]) (enc' := eI) hc rfl (sCo_isLinked r1 v2 v5 _) (ci := 0) (by decide) h2 (zkC h2) rfl wMX7_78 hpyX0_isLinked hmyX0_isLinked (rm_ok hRm (Nat.le_of_ble_eq_true rfl) (Nat.le_of_ble_eq_true rfl)) (Nat.le_of_ble_eq_true rfl) hRm.2.2 dX7_bestPlace_22 (fun c1 u1 f1 => ?_)
    refine z_if_eq (tgt := 53) hc dX7_bestPlace_25 (by decide) _ (fun h4 => ?_) (fun h4 => ?_)
    · refine z_iinc (L' := [(5, .int (v5 + 1)), (0, .ref r0), (1, .ref r1), (2, .int v2), (3, .int v3), (4, .int v4)]) hc dX7_bestPlace_53 5 rfl (v := (v5 + 1)) rfl (by decide) rfl rfl ?_
      refine z_goto (tgt := 6) hc dX7_bestPlace_56 (by decide) ?_
      refine zJ.sub (L' := [(0, .ref r0), (1, .ref r1), (2, .int v2), (3, .int v3), (4, .int v4), (5, .int (v5 + 1))]) [1, 2, 3, 4, 5, 0] rfl ?_
      exact hr6 r0 r1 v2 v3 v4 (v5 + 1) _
    · refine z_iload_n hc dX7_bestPlace_28 3 rfl rfl ?_
      refine z_aload_n hc dX7_bestPlace_29 0 rfl rfl ?_
      refine z_getR (x := (r0 + 1)) hc (ci := 7) (k := 0) (by decide) (by decide) zly7 h1 (zkC h1) wFX7_9 rfl dX7_bestPlace_30 (rfC_off (off := 1) h1 rfl (by decide)) (Nat.le_add_left_of_le (by decide)) ?_
      refine z_iload hc dX7_bestPlace_33 5 rfl ?_
      refine zJ.chk _ (fun h5 => ?_)
      refine z_iald (k := (ix v5)) hc (lyC_17_1 h1) (zkC (lyC_17_1 h1)) h5 rfl dX7_bestPlace_35 ?_
      refine z_imul hc dX7_bestPlace_36 ?_
      refine z_iload_n hc dX7_bestPlace_37 3 rfl rfl ?_
      refine z_aload_n hc dX7_bestPlace_38 0 rfl rfl ?_
      refine z_getR (x := (r0 + 1)) hc (ci := 7) (k := 0) (by decide) (by decide) zly7 h1 (zkC h1) wFX7_9 rfl dX7_bestPlace_39 (rfC_off (off := 1) h1 rfl (by decide)) (Nat.le_add_left_of_le (by decide)) ?_
      refine z_iload hc dX7_bestPlace_42 4 rfl ?_
      refine zJ.chk _ (fun h6 => ?_)
      refine z_iald (k := (ix v4)) hc (lyC_17_1 h1) (zkC (lyC_17_1 h1)) h6 rfl dX7_bestPlace_44 ?_
      refine z_imul hc dX7_bestPlace_45 ?_
      refine z_icmp_le (tgt := 53) hc dX7_bestPlace_46 (by decide) _ (fun h7 => ?_) (fun h7 => ?_)
      · refine z_iinc (L' := [(5, .int (v5 + 1)), (0, .ref r0), (1, .ref r1), (2, .int v2), (3, .int v3), (4, .int v4)]) hc dX7_bestPlace_53 5 rfl (v := (v5 + 1)) rfl (by decide) rfl rfl ?_
        refine z_goto (tgt := 6) hc dX7_bestPlace_56 (by decide) ?_
        refine zJ.sub (L' := [(0, .ref r0), (1, .ref r1), (2, .int v2), (3, .int v3), (4, .int v4), (5, .int (v5 + 1))]) [1, 2, 3, 4, 5, 0] rfl ?_
        exact hr6 r0 r1 v2 v3 v4 (v5 + 1) _
      · refine z_iload hc dX7_bestPlace_49 5 rfl ?_
        refine z_istore (L' := [(4, .int v5), (0, .ref r0), (1, .ref r1), (2, .int v2), (3, .int v3), (5, .int v5)]) hc dX7_bestPlace_51 (by decide) rfl rfl ?_
        refine z_iinc (L' := [(5, .int (v5 + 1)), (4, .int v5), (0, .ref r0), (1, .ref r1), (2, .int v2), (3, .int v3)]) hc dX7_bestPlace_53 5 rfl (v := (v5 + 1)) rfl (by decide) rfl rfl ?_
        refine z_goto (tgt := 6) hc dX7_bestPlace_56 (by decide) ?_
        refine zJ.sub (L' := [(0, .ref r0), (1, .ref r1), (2, .int v2), (3, .int v3), (4, .int v5), (5, .int (v5 + 1))]) [2, 3, 4, 5, 1, 0] rfl ?_
        exact hr6 r0 r1 v2 v3 v5 (v5 + 1) _
set_option maxRecDepth 100000 in
set_option maxHeartbeats 4000000 in
theorem sSt_bestPlace_6 {fin : Int32 × zM} (hc : zCx p s mi args meth c (wC D b) m0 RX7 cX7_bestPlace 6 (some .int)) (hRm : R.frames = 1 ∧ R.locals = 22 ∧ R.cells = zc (wC D b) m0 fin.2 ∧ R.slots = zs (wC D b) m0 fin.2) : ∀ (zf : Nat) (r0 : Nat) (r1 : Nat) (v2 : Int32) (v3 : Int32) (v4 : Int32) (v5 : Int32) (u : zM), zJ eI p l e R s mi args below meth c (wC D b) m0 6 fin 6 [(0, .ref r0), (1, .ref r1), (2, .int v2), (3, .int v3), (4, .int v4), (5, .int v5)] [] u (St_bestPlace_6 zf r0 r1 v2 v3 v4 v5 u) := by
  intro zf
  induction zf with
  | zero => intro r0 r1 v2 v3 v4 v5 u; exact zJ.nil
  | succ zf ih => intro r0 r1 v2 v3 v4 v5 u; exact sSt_bestPlace_6b hc hRm ih r0 r1 v2 v3 v4 v5 u
set_option maxRecDepth 100000 in
set_option maxHeartbeats 4000000 in
theorem sSt_bestPlace : ∀ (r0 : Nat) (r1 : Nat) (v2 : Int32) (v3 : Int32) (u : zM) r m1, St_bestPlace r0 r1 v2 v3 u = some (r, m1) → zMet l (wC D b) 1 22 yX7_bestPlace cX7_bestPlace 6 (some .int) [.ref r0, .ref r1, .int v2, .int v3] u (eI r) m1 := by
  intro r0 r1 v2 v3 u
  refine zMet.of (L := [(0, .ref r0), (1, .ref r1), (2, .int v2), (3, .int v3)]) RX7 (by decide +kernel) rfl (Nat.le_of_ble_eq_true rfl) (fun h => by cases h) rfl (fun p e s mi args below meth c R fin hc hin hRm => ?_)
  unfold St_bestPlace
  refine zJ.chk _ (fun h1 => ?_)
  refine zJ.chk _ (fun h2 => ?_)
  refine z_iload_n hc dX7_bestPlace_0 2 rfl rfl ?_
  refine z_istore (L' := [(4, .int v2), (0, .ref r0), (1, .ref r1), (2, .int v2), (3, .int v3)]) hc dX7_bestPlace_1 (by decide) rfl rfl ?_
  refine z_iconst (v := 0) hc dX7_bestPlace_3 rfl ?_
  refine z_istore (L' := [(5, .int 0), (4, .int v2), (0, .ref r0), (1, .ref r1), (2, .int v2), (3, .int v3)]) hc dX7_bestPlace_4 (by decide) rfl rfl ?_
  refine zJ.sub (L' := [(0, .ref r0), (1, .ref r1), (2, .int v2), (3, .int v3), (4, .int v2), (5, .int 0)]) [2, 3, 4, 5, 1, 0] rfl ?_
  exact sSt_bestPlace_6 hc hRm zF r0 r1 v2 v3 v2 0 _
set_option maxRecDepth 100000 in
set_option maxHeartbeats 4000000 in
theorem sSt_rest_2b {fin : Unit × zM} (hc : zCx p s mi args meth c (wC D b) m0 RX7 cX7_rest 2 none) (hRm : R.frames = 0 ∧ R.locals = 0 ∧ R.cells = zc (wC D b) m0 fin.2 ∧ R.slots = zs (wC D b) m0 fin.2) {zr2 : Nat → Int32 → zM → Option (Unit × zM)} (hr2 : ∀ (r0 : Nat) (v1 : Int32) (u : zM), zJ eV p l e R s mi args below meth c (wC D b) m0 2 fin 2 [(0, .ref r0), (1, .int v1)] [] u (zr2 r0 v1 u)) (r0 : Nat) (v1 : Int32) (u : zM) : zJ eV p l e R s mi args below meth c (wC D b) m0 2 fin 2 [(0, .ref r0), (1, .int v1)] [] u (St_rest_2b zr2 r0 v1 u) := by
  unfold St_rest_2b
  refine zJ.chk _ (fun h1 => ?_)
  refine z_iload_n hc dX7_rest_2 1 rfl rfl ?_
  refine z_iconst (v := 3) hc dX7_rest_3 rfl ?_
  refine z_icmp_ge (tgt := 20) hc dX7_rest_4 (by decide) _ (fun h2 => ?_) (fun h2 => ?_)
  · exact z_vret hc dX7_rest_20
  · refine z_aload_n hc dX7_rest_7 0 rfl rfl ?_
    refine z_getR (x := (r0 + 4)) hc (ci := 7) (k := 3) (by decide) (by decide) zly7 h1 (zkC h1) wFX7_21 rfl dX7_rest_8 (rfC_off (off := 4) h1 rfl (by decide)) (Nat.le_add_left_of_le (by decide)) ?_
    refine z_iload_n hc dX7_rest_11 1 rfl rfl ?_
    refine z_iconst (v := 0) hc dX7_rest_12 rfl ?_
    refine zJ.chk _ (fun h3 => ?_)
    refine z_iast (k := (ix v1)) hc (lyC_17_4 h1) (zkC (lyC_17_4 h1)) h3 rfl dX7_rest_13 ?_
    refine zJ.letM (fun u1 e1 => ?_)
    refine z_iinc (L' := [(1, .int (v1 + 1)), (0, .ref r0)]) hc dX7_rest_14 1 rfl (v := (v1 + 1)) rfl (by decide) rfl rfl ?_
    refine z_goto (tgt := 2) hc dX7_rest_17 (by decide) ?_
    refine zJ.sub (L' := [(0, .ref r0), (1, .int (v1 + 1))]) [1, 0] rfl ?_
    exact hr2 r0 (v1 + 1) _
set_option maxRecDepth 100000 in
set_option maxHeartbeats 4000000 in
theorem sSt_rest_2 {fin : Unit × zM} (hc : zCx p s mi args meth c (wC D b) m0 RX7 cX7_rest 2 none) (hRm : R.frames = 0 ∧ R.locals = 0 ∧ R.cells = zc (wC D b) m0 fin.2 ∧ R.slots = zs (wC D b) m0 fin.2) : ∀ (zf : Nat) (r0 : Nat) (v1 : Int32) (u : zM), zJ eV p l e R s mi args below meth c (wC D b) m0 2 fin 2 [(0, .ref r0), (1, .int v1)] [] u (St_rest_2 zf r0 v1 u) := by
  intro zf
  induction zf with
  | zero => intro r0 v1 u; exact zJ.nil
  | succ zf ih => intro r0 v1 u; exact sSt_rest_2b hc hRm ih r0 v1 u
set_option maxRecDepth 100000 in
set_option maxHeartbeats 4000000 in
theorem sSt_rest : ∀ (r0 : Nat) (u : zM) r m1, St_rest r0 u = some (r, m1) → zMet l (wC D b) 0 0 yX7_rest cX7_rest 2 none [.ref r0] u (eV r) m1 := by
  intro r0 u
  refine zMet.of (L := [(0, .ref r0)]) RX7 (by decide +kernel) rfl (Nat.le_of_ble_eq_true rfl) (fun h => by cases h) rfl (fun p e s mi args below meth c R fin hc hin hRm => ?_)
  unfold St_rest
  refine zJ.chk _ (fun h1 => ?_)
  refine z_iconst (v := 0) hc dX7_rest_0 rfl ?_
  refine z_istore_n (L' := [(1, .int 0), (0, .ref r0)]) hc dX7_rest_1 rfl (by decide) rfl rfl ?_
  refine zJ.sub (L' := [(0, .ref r0), (1, .int 0)]) [1, 0] rfl ?_
  exact sSt_rest_2 hc hRm zF r0 0 _
set_option maxRecDepth 100000 in
set_option maxHeartbeats 4000000 in
theorem sSt_nextDay_52b {fin : Unit × zM} (hc : zCx p s mi args meth c (wC D b) m0 RX7 cX7_nextDay 4 none) (hRm : R.frames = 3 ∧ R.locals = 76 ∧ R.cells = zc (wC D b) m0 fin.2 ∧ R.slots = zs (wC D b) m0 fin.2) {zr52 : Nat → Nat → Int32 → zM → Option (Unit × zM)} (hr52 : ∀ (r0 : Nat) (r1 : Nat) (v3 : Int32) (u : zM), zJ eV p l e R s mi args below meth c (wC D b) m0 4 fin 52 [(0, .ref r0), (1, .ref r1), (3, .int v3)] [] u (zr52 r0 r1 v3 u)) (r0 : Nat) (r1 : Nat) (v3 : Int32) (u : zM) : zJ eV p l e R s mi args below meth c (wC D b) m0 4 fin 52 [(0, .ref r0), (1, .ref r1), (3, .int v3)] [] u (St_nextDay_52b zr52 r0 r1 v3 u) := by
  unfold St_nextDay_52b
  refine zJ.chk _ (fun h1 => ?_)
  refine zJ.chk _ (fun h2 => ?_)
  refine z_iload_n hc dX7_nextDay_52 2 rfl rfl ?_
  refine z_aload_n hc dX7_nextDay_53 1 rfl rfl ?_
  refine z_getR (x := (r1 + 3)) hc (ci := 0) (k := 1) (by decide) (by decide) zly0 h2 (zkC h2) wFX7_120 rfl dX7_nextDay_54 (rfC_off (off := 3) h2 rfl (by decide)) (Nat.le_add_left_of_le (by decide)) ?_
  refine z_getI hc (ci := 3) (k := 1) (by decide) (by decide) zly3 (lyC_10_3 h2) (zkC (lyC_10_3 h2)) wFX7_53 rfl dX7_nextDay_57 ?_
  refine z_icmp_ge (tgt := 128) hc dX7_nextDay_60 (by decide) _ (fun h3 => ?_) (fun h3 => ?_)
  · refine z_aload_n hc dX7_nextDay_128 0 rfl rfl ?_
    refine z_callV (av := []) (enc' := eV) hc rfl (sSt_rest r0 _) (ci := 7) (by decide) h1 (zkC h1) rfl wMX7_42 hpyX7_rest hmyX7_rest (rm_ok hRm (Nat.le_of_ble_eq_true rfl) (Nat.le_of_ble_eq_true rfl)) (Nat.le_of_ble_eq_true rfl) hRm.2.2 dX7_nextDay_129 (fun c1 u1 f1 => ?_)
    refine z_aload_n hc dX7_nextDay_132 0 rfl rfl ?_
    refine z_dup hc dX7_nextDay_133 rfl ?_
    refine z_getI hc (ci := 7) (k := 5) (by decide) (by decide) zly7 h1 (zkC h1) wFX7_45 rfl dX7_nextDay_134 ?_
    refine z_iconst (v := 1) hc dX7_nextDay_137 rfl ?_
    refine z_iadd hc dX7_nextDay_138 ?_
    refine z_putI hc (ci := 7) (k := 5) (by decide) (by decide) zly7 h1 (zkC h1) wFX7_45 rfl rfl rfl rfl dX7_nextDay_139 ?_
    refine zJ.letM (fun u2 e1 => ?_)
    exact z_vret hc dX7_nextDay_142
  · refine z_aload_n hc dX7_nextDay_63 1 rfl rfl ?_
    refine z_getR (x := (r1 + 11)) hc (ci := 0) (k := 6) (by decide) (by decide) zly0 h2 (zkC h2) wFX7_88 rfl dX7_nextDay_64 (rfC_off (off := 11) h2 rfl (by decide)) (Nat.le_add_left_of_le (by decide)) ?_
    refine z_iload_n hc dX7_nextDay_67 2 rfl rfl ?_
    refine zJ.chk _ (fun h4 => ?_)
    refine z_iald (k := (ix v3)) hc (lyC_10_11 h2) (zkC (lyC_10_11 h2)) h4 rfl dX7_nextDay_68 ?_
    refine z_iconst (v := 1) hc dX7_nextDay_69 rfl ?_
    refine z_icmp_ne (tgt := 94) hc dX7_nextDay_70 (by decide) _ (fun h5 => ?_) (fun h5 => ?_)
    · refine z_aload_n hc dX7_nextDay_94 1 rfl rfl ?_
      refine z_getR (x := (r1 + 11)) hc (ci := 0) (k := 6) (by decide) (by decide) zly0 h2 (zkC h2) wFX7_88 rfl dX7_nextDay_95 (rfC_off (off := 11) h2 rfl (by decide)) (Nat.le_add_left_of_le (by decide)) ?_
      refine z_iload_n hc dX7_nextDay_98 2 rfl rfl ?_
      refine zJ.chk _ (fun h6 => ?_)
      refine z_iald (k := (ix v3)) hc (lyC_10_11 h2) (zkC (lyC_10_11 h2)) h6 rfl dX7_nextDay_99 ?_
      refine z_iconst (v := 2) hc dX7_nextDay_100 rfl ?_
      refine z_icmp_ne (tgt := 122) hc dX7_nextDay_101 (by decide) _ (fun h7 => ?_) (fun h7 => ?_)
      · refine z_iinc (L' := [(3, .int (v3 + 1)), (0, .ref r0), (1, .ref r1)]) hc dX7_nextDay_122 2 rfl (v := (v3 + 1)) rfl (by decide) rfl rfl ?_
        refine z_goto (tgt := 52) hc dX7_nextDay_125 (by decide) ?_
        refine zJ.sub (L' := [(0, .ref r0), (1, .ref r1), (3, .int (v3 + 1))]) [1, 2, 0] rfl ?_
        exact hr52 r0 r1 (v3 + 1) _
      · refine z_aload_n hc dX7_nextDay_104 0 rfl rfl ?_
        refine z_getR (x := (r0 + 2)) hc (ci := 7) (k := 1) (by decide) (by decide) zly7 h1 (zkC h1) wFX7_15 rfl dX7_nextDay_105 (rfC_off (off := 2) h1 rfl (by decide)) (Nat.le_add_left_of_le (by decide)) ?_
        refine z_iload_n hc dX7_nextDay_108 2 rfl rfl ?_
        refine z_aload_n hc dX7_nextDay_109 0 rfl rfl ?_
        refine z_aload_n hc dX7_nextDay_110 1 rfl rfl ?_
        refine z_aload_n hc dX7_nextDay_111 0 rfl rfl ?_
        refine z_getR (x := (r0 + 2)) hc (ci := 7) (k := 1) (by decide) (by decide) zly7 h1 (zkC h1) wFX7_15 rfl dX7_nextDay_112 (rfC_off (off := 2) h1 rfl (by decide)) (Nat.le_add_left_of_le (by decide)) ?_
        refine z_iload_n hc dX7_nextDay_115 2 rfl rfl ?_
        refine zJ.chk _ (fun h8 => ?_)
        refine z_iald (k := (ix v3)) hc (lyC_17_2 h1) (zkC (lyC_17_2 h1)) h8 rfl dX7_nextDay_116 ?_
        refine z_iconst (v := 1) hc dX7_nextDay_117 rfl ?_
        refine z_callV (av := [.ref r1, .int (gI u (r0 + 2) (ix v3)), .int 1]) (enc' := eI) hc rfl (sSt_bestPlace r0 r1 (gI u (r0 + 2) (ix v3)) 1 _) (ci := 7) (by decide) h1 (zkC h1) rfl wMX7_123 hpyX7_bestPlace hmyX7_bestPlace (rm_ok hRm (Nat.le_of_ble_eq_true rfl) (Nat.le_of_ble_eq_true rfl)) (Nat.le_of_ble_eq_true rfl) hRm.2.2 dX7_nextDay_118 (fun c2 u3 f2 => ?_)
        refine zJ.chk _ (fun h9 => ?_)
        refine z_iast (k := (ix v3)) hc (lyC_17_2 h1) (zkC (lyC_17_2 h1)) h9 rfl dX7_nextDay_121 ?_
        refine zJ.letM (fun u4 e2 => ?_)
        refine z_iinc (L' := [(3, .int (v3 + 1)), (0, .ref r0), (1, .ref r1)]) hc dX7_nextDay_122 2 rfl (v := (v3 + 1)) rfl (by decide) rfl rfl ?_
        refine z_goto (tgt := 52) hc dX7_nextDay_125 (by decide) ?_
        refine zJ.sub (L' := [(0, .ref r0), (1, .ref r1), (3, .int (v3 + 1))]) [1, 2, 0] rfl ?_
        exact hr52 r0 r1 (v3 + 1) _
    · refine z_aload_n hc dX7_nextDay_73 0 rfl rfl ?_
      refine z_getR (x := (r0 + 2)) hc (ci := 7) (k := 1) (by decide) (by decide) zly7 h1 (zkC h1) wFX7_15 rfl dX7_nextDay_74 (rfC_off (off := 2) h1 rfl (by decide)) (Nat.le_add_left_of_le (by decide)) ?_
      refine z_iload_n hc dX7_nextDay_77 2 rfl rfl ?_
      refine z_aload_n hc dX7_nextDay_78 0 rfl rfl ?_
      refine z_aload_n hc dX7_nextDay_79 1 rfl rfl ?_
      refine z_aload_n hc dX7_nextDay_80 0 rfl rfl ?_
      refine z_getR (x := (r0 + 2)) hc (ci := 7) (k := 1) (by decide) (by decide) zly7 h1 (zkC h1) wFX7_15 rfl dX7_nextDay_81 (rfC_off (off := 2) h1 rfl (by decide)) (Nat.le_add_left_of_le (by decide)) ?_
      refine z_iload_n hc dX7_nextDay_84 2 rfl rfl ?_
      refine zJ.chk _ (fun h10 => ?_)
      refine z_iald (k := (ix v3)) hc (lyC_17_2 h1) (zkC (lyC_17_2 h1)) h10 rfl dX7_nextDay_85 ?_
      refine z_iconst (v := (-1)) hc dX7_nextDay_86 rfl ?_
      refine z_callV (av := [.ref r1, .int (gI u (r0 + 2) (ix v3)), .int (-1)]) (enc' := eI) hc rfl (sSt_bestPlace r0 r1 (gI u (r0 + 2) (ix v3)) (-1) _) (ci := 7) (by decide) h1 (zkC h1) rfl wMX7_123 hpyX7_bestPlace hmyX7_bestPlace (rm_ok hRm (Nat.le_of_ble_eq_true rfl) (Nat.le_of_ble_eq_true rfl)) (Nat.le_of_ble_eq_true rfl) hRm.2.2 dX7_nextDay_87 (fun c3 u5 f3 => ?_)
      refine zJ.chk _ (fun h11 => ?_)
      refine z_iast (k := (ix v3)) hc (lyC_17_2 h1) (zkC (lyC_17_2 h1)) h11 rfl dX7_nextDay_90 ?_
      refine zJ.letM (fun u6 e3 => ?_)
      refine z_goto (tgt := 122) hc dX7_nextDay_91 (by decide) ?_
      refine z_iinc (L' := [(3, .int (v3 + 1)), (0, .ref r0), (1, .ref r1)]) hc dX7_nextDay_122 2 rfl (v := (v3 + 1)) rfl (by decide) rfl rfl ?_
      refine z_goto (tgt := 52) hc dX7_nextDay_125 (by decide) ?_
      refine zJ.sub (L' := [(0, .ref r0), (1, .ref r1), (3, .int (v3 + 1))]) [1, 2, 0] rfl ?_
      exact hr52 r0 r1 (v3 + 1) _
set_option maxRecDepth 100000 in
set_option maxHeartbeats 4000000 in
theorem sSt_nextDay_52 {fin : Unit × zM} (hc : zCx p s mi args meth c (wC D b) m0 RX7 cX7_nextDay 4 none) (hRm : R.frames = 3 ∧ R.locals = 76 ∧ R.cells = zc (wC D b) m0 fin.2 ∧ R.slots = zs (wC D b) m0 fin.2) : ∀ (zf : Nat) (r0 : Nat) (r1 : Nat) (v3 : Int32) (u : zM), zJ eV p l e R s mi args below meth c (wC D b) m0 4 fin 52 [(0, .ref r0), (1, .ref r1), (3, .int v3)] [] u (St_nextDay_52 zf r0 r1 v3 u) := by
  intro zf
  induction zf with
  | zero => intro r0 r1 v3 u; exact zJ.nil
  | succ zf ih => intro r0 r1 v3 u; exact sSt_nextDay_52b hc hRm ih r0 r1 v3 u
set_option maxRecDepth 100000 in
set_option maxHeartbeats 4000000 in
theorem sSt_nextDay_11b {fin : Unit × zM} (hc : zCx p s mi args meth c (wC D b) m0 RX7 cX7_nextDay 4 none) (hRm : R.frames = 3 ∧ R.locals = 76 ∧ R.cells = zc (wC D b) m0 fin.2 ∧ R.slots = zs (wC D b) m0 fin.2) {zr11 : Nat → Nat → Int32 → Int32 → zM → Option (Unit × zM)} (hr11 : ∀ (r0 : Nat) (r1 : Nat) (v2 : Int32) (v3 : Int32) (u : zM), zJ eV p l e R s mi args below meth c (wC D b) m0 4 fin 11 [(0, .ref r0), (1, .ref r1), (2, .int v2), (3, .int v3)] [] u (zr11 r0 r1 v2 v3 u)) (r0 : Nat) (r1 : Nat) (v2 : Int32) (v3 : Int32) (u : zM) : zJ eV p l e R s mi args below meth c (wC D b) m0 4 fin 11 [(0, .ref r0), (1, .ref r1), (2, .int v2), (3, .int v3)] [] u (St_nextDay_11b zr11 r0 r1 v2 v3 u) := by
  unfold St_nextDay_11b
  refine zJ.chk _ (fun h1 => ?_)
  refine zJ.chk _ (fun h2 => ?_)
  refine z_iload_n hc dX7_nextDay_11 3 rfl rfl ?_
  refine z_aload_n hc dX7_nextDay_12 1 rfl rfl ?_
  refine z_getR (x := (r1 + 1)) hc (ci := 0) (k := 0) (by decide) (by decide) zly0 h2 (zkC h2) wFX7_75 rfl dX7_nextDay_13 (rfC_off (off := 1) h2 rfl (by decide)) (Nat.le_add_left_of_le (by decide)) ?_
  refine z_getI hc (ci := 3) (k := 1) (by decide) (by decide) zly3 (lyC_10_1 h2) (zkC (lyC_10_1 h2)) wFX7_53 rfl dX7_nextDay_16 ?_
  refine z_icmp_ge (tgt := 50) hc dX7_nextDay_19 (by decide) _ (fun h3 => ?_) (fun h3 => ?_)
  · refine z_iconst (v := 0) hc dX7_nextDay_50 rfl ?_
    refine z_istore_n (L' := [(3, .int 0), (0, .ref r0), (1, .ref r1), (2, .int v2)]) hc dX7_nextDay_51 rfl (by decide) rfl rfl ?_
    refine zJ.sub (L' := [(0, .ref r0), (1, .ref r1), (3, .int 0)]) [1, 2, 0] rfl ?_
    exact sSt_nextDay_52 hc hRm zF r0 r1 0 _
  · refine z_aload_n hc dX7_nextDay_22 0 rfl rfl ?_
    refine z_getR (x := (r0 + 1)) hc (ci := 7) (k := 0) (by decide) (by decide) zly7 h1 (zkC h1) wFX7_9 rfl dX7_nextDay_23 (rfC_off (off := 1) h1 rfl (by decide)) (Nat.le_add_left_of_le (by decide)) ?_
    refine z_iload_n hc dX7_nextDay_26 3 rfl rfl ?_
    refine z_aload_n hc dX7_nextDay_27 1 rfl rfl ?_
    refine z_iload_n hc dX7_nextDay_28 3 rfl rfl ?_
    refine z_aload_n hc dX7_nextDay_29 0 rfl rfl ?_
    refine z_getR (x := (r0 + 1)) hc (ci := 7) (k := 0) (by decide) (by decide) zly7 h1 (zkC h1) wFX7_9 rfl dX7_nextDay_30 (rfC_off (off := 1) h1 rfl (by decide)) (Nat.le_add_left_of_le (by decide)) ?_
    refine z_iload_n hc dX7_nextDay_33 3 rfl rfl ?_
    refine zJ.chk _ (fun h4 => ?_)
    refine z_iald (k := (ix v3)) hc (lyC_17_1 h1) (zkC (lyC_17_1 h1)) h4 rfl dX7_nextDay_34 ?_
    refine z_iload_n hc dX7_nextDay_35 2 rfl rfl ?_
    refine z_aload_n hc dX7_nextDay_36 0 rfl rfl ?_
    refine z_getI hc (ci := 7) (k := 5) (by decide) (by decide) zly7 h1 (zkC h1) wFX7_45 rfl dX7_nextDay_37 ?_
    refine z_callV (av := [.int v3, .int (gI u (r0 + 1) (ix v3)), .int v2, .int (gI u r0 5)]) (enc' := eI) hc rfl (sCo_waterBehind r1 v3 (gI u (r0 + 1) (ix v3)) v2 (gI u r0 5) _) (ci := 0) (by decide) h2 (zkC h2) rfl wMX7_116 hpyX0_waterBehind hmyX0_waterBehind (rm_ok hRm (Nat.le_of_ble_eq_true rfl) (Nat.le_of_ble_eq_true rfl)) (Nat.le_of_ble_eq_true rfl) hRm.2.2 dX7_nextDay_40 (fun c1 u1 f1 => ?_)
    refine zJ.chk _ (fun h5 => ?_)
    refine z_iast (k := (ix v3)) hc (lyC_17_1 h1) (zkC (lyC_17_1 h1)) h5 rfl dX7_nextDay_43 ?_
    refine zJ.letM (fun u2 e1 => ?_)
    refine z_iinc (L' := [(3, .int (v3 + 1)), (0, .ref r0), (1, .ref r1), (2, .int v2)]) hc dX7_nextDay_44 3 rfl (v := (v3 + 1)) rfl (by decide) rfl rfl ?_
    refine z_goto (tgt := 11) hc dX7_nextDay_47 (by decide) ?_
    refine zJ.sub (L' := [(0, .ref r0), (1, .ref r1), (2, .int v2), (3, .int (v3 + 1))]) [1, 2, 3, 0] rfl ?_
    exact hr11 r0 r1 v2 (v3 + 1) _
set_option maxRecDepth 100000 in
set_option maxHeartbeats 4000000 in
theorem sSt_nextDay_11 {fin : Unit × zM} (hc : zCx p s mi args meth c (wC D b) m0 RX7 cX7_nextDay 4 none) (hRm : R.frames = 3 ∧ R.locals = 76 ∧ R.cells = zc (wC D b) m0 fin.2 ∧ R.slots = zs (wC D b) m0 fin.2) : ∀ (zf : Nat) (r0 : Nat) (r1 : Nat) (v2 : Int32) (v3 : Int32) (u : zM), zJ eV p l e R s mi args below meth c (wC D b) m0 4 fin 11 [(0, .ref r0), (1, .ref r1), (2, .int v2), (3, .int v3)] [] u (St_nextDay_11 zf r0 r1 v2 v3 u) := by
  intro zf
  induction zf with
  | zero => intro r0 r1 v2 v3 u; exact zJ.nil
  | succ zf ih => intro r0 r1 v2 v3 u; exact sSt_nextDay_11b hc hRm ih r0 r1 v2 v3 u
set_option maxRecDepth 100000 in
set_option maxHeartbeats 4000000 in
theorem sSt_nextDay : ∀ (r0 : Nat) (r1 : Nat) (u : zM) r m1, St_nextDay r0 r1 u = some (r, m1) → zMet l (wC D b) 3 76 yX7_nextDay cX7_nextDay 4 none [.ref r0, .ref r1] u (eV r) m1 := by
  intro r0 r1 u
  refine zMet.of (L := [(0, .ref r0), (1, .ref r1)]) RX7 (by decide +kernel) rfl (Nat.le_of_ble_eq_true rfl) (fun h => by cases h) rfl (fun p e s mi args below meth c R fin hc hin hRm => ?_)
  unfold St_nextDay
  refine zJ.chk _ (fun h1 => ?_)
  refine zJ.chk _ (fun h2 => ?_)
  refine z_aload_n hc dX7_nextDay_0 1 rfl rfl ?_
  refine z_aload_n hc dX7_nextDay_1 0 rfl rfl ?_
  refine z_getI hc (ci := 7) (k := 5) (by decide) (by decide) zly7 h1 (zkC h1) wFX7_45 rfl dX7_nextDay_2 ?_
  refine z_callV (av := [.int (gI u r0 5)]) (enc' := eI) hc rfl (sCo_rainOf r1 (gI u r0 5) _) (ci := 0) (by decide) h2 (zkC h2) rfl wMX7_113 hpyX0_rainOf hmyX0_rainOf (rm_ok hRm (Nat.le_of_ble_eq_true rfl) (Nat.le_of_ble_eq_true rfl)) (Nat.le_of_ble_eq_true rfl) hRm.2.2 dX7_nextDay_5 (fun c1 u1 f1 => ?_)
  refine z_istore_n (L' := [(2, .int c1), (0, .ref r0), (1, .ref r1)]) hc dX7_nextDay_8 rfl (by decide) rfl rfl ?_
  refine z_iconst (v := 0) hc dX7_nextDay_9 rfl ?_
  refine z_istore_n (L' := [(3, .int 0), (2, .int c1), (0, .ref r0), (1, .ref r1)]) hc dX7_nextDay_10 rfl (by decide) rfl rfl ?_
  refine zJ.sub (L' := [(0, .ref r0), (1, .ref r1), (2, .int c1), (3, .int 0)]) [2, 3, 1, 0] rfl ?_
  exact sSt_nextDay_11 hc hRm zF r0 r1 c1 0 _
set_option maxRecDepth 100000 in
set_option maxHeartbeats 4000000 in
theorem sSt_wetBits_4b {fin : Int32 × zM} (hc : zCx p s mi args meth c (wC D b) m0 RX7 cX7_wetBits 4 (some .int)) (hRm : R.frames = 0 ∧ R.locals = 0 ∧ R.cells = zc (wC D b) m0 fin.2 ∧ R.slots = zs (wC D b) m0 fin.2) {zr4 : Nat → Nat → Int32 → Int32 → zM → Option (Int32 × zM)} (hr4 : ∀ (r0 : Nat) (r1 : Nat) (v2 : Int32) (v3 : Int32) (u : zM), zJ eI p l e R s mi args below meth c (wC D b) m0 4 fin 4 [(0, .ref r0), (1, .ref r1), (2, .int v2), (3, .int v3)] [] u (zr4 r0 r1 v2 v3 u)) (r0 : Nat) (r1 : Nat) (v2 : Int32) (v3 : Int32) (u : zM) : zJ eI p l e R s mi args below meth c (wC D b) m0 4 fin 4 [(0, .ref r0), (1, .ref r1), (2, .int v2), (3, .int v3)] [] u (St_wetBits_4b zr4 r0 r1 v2 v3 u) := by
  unfold St_wetBits_4b
  refine zJ.chk _ (fun h1 => ?_)
  refine zJ.chk _ (fun h2 => ?_)
  refine z_iload_n hc dX7_wetBits_4 3 rfl rfl ?_
  refine z_aload_n hc dX7_wetBits_5 1 rfl rfl ?_
  refine z_getR (x := (r1 + 1)) hc (ci := 0) (k := 0) (by decide) (by decide) zly0 h2 (zkC h2) wFX7_75 rfl dX7_wetBits_6 (rfC_off (off := 1) h2 rfl (by decide)) (Nat.le_add_left_of_le (by decide)) ?_
  refine z_getI hc (ci := 3) (k := 1) (by decide) (by decide) zly3 (lyC_10_1 h2) (zkC (lyC_10_1 h2)) wFX7_53 rfl dX7_wetBits_9 ?_
  refine z_icmp_ge (tgt := 37) hc dX7_wetBits_12 (by decide) _ (fun h3 => ?_) (fun h3 => ?_)
  · refine z_iload_n hc dX7_wetBits_37 2 rfl rfl ?_
    exact z_iret hc dX7_wetBits_38
  · refine z_aload_n hc dX7_wetBits_15 0 rfl rfl ?_
    refine z_getR (x := (r0 + 1)) hc (ci := 7) (k := 0) (by decide) (by decide) zly7 h1 (zkC h1) wFX7_9 rfl dX7_wetBits_16 (rfC_off (off := 1) h1 rfl (by decide)) (Nat.le_add_left_of_le (by decide)) ?_
    refine z_iload_n hc dX7_wetBits_19 3 rfl rfl ?_
    refine zJ.chk _ (fun h4 => ?_)
    refine z_iald (k := (ix v3)) hc (lyC_17_1 h1) (zkC (lyC_17_1 h1)) h4 rfl dX7_wetBits_20 ?_
    refine z_iconst (v := 1) hc dX7_wetBits_21 rfl ?_
    refine z_icmp_lt (tgt := 31) hc dX7_wetBits_22 (by decide) _ (fun h5 => ?_) (fun h5 => ?_)
    · refine z_iinc (L' := [(3, .int (v3 + 1)), (0, .ref r0), (1, .ref r1), (2, .int v2)]) hc dX7_wetBits_31 3 rfl (v := (v3 + 1)) rfl (by decide) rfl rfl ?_
      refine z_goto (tgt := 4) hc dX7_wetBits_34 (by decide) ?_
      refine zJ.sub (L' := [(0, .ref r0), (1, .ref r1), (2, .int v2), (3, .int (v3 + 1))]) [1, 2, 3, 0] rfl ?_
      exact hr4 r0 r1 v2 (v3 + 1) _
    · refine z_iload_n hc dX7_wetBits_25 2 rfl rfl ?_
      refine z_iconst (v := 1) hc dX7_wetBits_26 rfl ?_
      refine z_iload_n hc dX7_wetBits_27 3 rfl rfl ?_
      refine z_ishl hc dX7_wetBits_28 ?_
      refine z_ior hc dX7_wetBits_29 ?_
      refine zJ.letI (fun x1 e1 => ?_)
      refine z_istore_n (L' := [(2, .int x1), (0, .ref r0), (1, .ref r1), (3, .int v3)]) hc dX7_wetBits_30 rfl (by decide) rfl rfl ?_
      refine z_iinc (L' := [(3, .int (v3 + 1)), (2, .int x1), (0, .ref r0), (1, .ref r1)]) hc dX7_wetBits_31 3 rfl (v := (v3 + 1)) rfl (by decide) rfl rfl ?_
      refine z_goto (tgt := 4) hc dX7_wetBits_34 (by decide) ?_
      refine zJ.sub (L' := [(0, .ref r0), (1, .ref r1), (2, .int x1), (3, .int (v3 + 1))]) [2, 3, 1, 0] rfl ?_
      exact hr4 r0 r1 x1 (v3 + 1) _
set_option maxRecDepth 100000 in
set_option maxHeartbeats 4000000 in
theorem sSt_wetBits_4 {fin : Int32 × zM} (hc : zCx p s mi args meth c (wC D b) m0 RX7 cX7_wetBits 4 (some .int)) (hRm : R.frames = 0 ∧ R.locals = 0 ∧ R.cells = zc (wC D b) m0 fin.2 ∧ R.slots = zs (wC D b) m0 fin.2) : ∀ (zf : Nat) (r0 : Nat) (r1 : Nat) (v2 : Int32) (v3 : Int32) (u : zM), zJ eI p l e R s mi args below meth c (wC D b) m0 4 fin 4 [(0, .ref r0), (1, .ref r1), (2, .int v2), (3, .int v3)] [] u (St_wetBits_4 zf r0 r1 v2 v3 u) := by
  intro zf
  induction zf with
  | zero => intro r0 r1 v2 v3 u; exact zJ.nil
  | succ zf ih => intro r0 r1 v2 v3 u; exact sSt_wetBits_4b hc hRm ih r0 r1 v2 v3 u
set_option maxRecDepth 100000 in
set_option maxHeartbeats 4000000 in
theorem sSt_wetBits : ∀ (r0 : Nat) (r1 : Nat) (u : zM) r m1, St_wetBits r0 r1 u = some (r, m1) → zMet l (wC D b) 0 0 yX7_wetBits cX7_wetBits 4 (some .int) [.ref r0, .ref r1] u (eI r) m1 := by
  intro r0 r1 u
  refine zMet.of (L := [(0, .ref r0), (1, .ref r1)]) RX7 (by decide +kernel) rfl (Nat.le_of_ble_eq_true rfl) (fun h => by cases h) rfl (fun p e s mi args below meth c R fin hc hin hRm => ?_)
  unfold St_wetBits
  refine zJ.chk _ (fun h1 => ?_)
  refine zJ.chk _ (fun h2 => ?_)
  refine z_iconst (v := 0) hc dX7_wetBits_0 rfl ?_
  refine z_istore_n (L' := [(2, .int 0), (0, .ref r0), (1, .ref r1)]) hc dX7_wetBits_1 rfl (by decide) rfl rfl ?_
  refine z_iconst (v := 0) hc dX7_wetBits_2 rfl ?_
  refine z_istore_n (L' := [(3, .int 0), (2, .int 0), (0, .ref r0), (1, .ref r1)]) hc dX7_wetBits_3 rfl (by decide) rfl rfl ?_
  refine zJ.sub (L' := [(0, .ref r0), (1, .ref r1), (2, .int 0), (3, .int 0)]) [2, 3, 1, 0] rfl ?_
  exact sSt_wetBits_4 hc hRm zF r0 r1 0 0 _
set_option maxRecDepth 100000 in
set_option maxHeartbeats 4000000 in
theorem sOu_foretell_43 {fin : Unit × zM} (hc : zCx p s mi args meth c (wC D b) m0 RX4 cX4_foretell 5 none) (hRm : R.frames = 4 ∧ R.locals = 121 ∧ R.cells = zc (wC D b) m0 fin.2 ∧ R.slots = zs (wC D b) m0 fin.2) {zr6 : Nat → Nat → Int32 → Int32 → zM → Option (Unit × zM)} (hr6 : ∀ (r1 : Nat) (r2 : Nat) (v3 : Int32) (v4 : Int32) (u : zM), zJ eV p l e R s mi args below meth c (wC D b) m0 5 fin 6 [(0, .ref 70), (1, .ref r1), (2, .ref r2), (3, .int v3), (4, .int v4)] [] u (zr6 r1 r2 v3 v4 u)) (r1 : Nat) (r2 : Nat) (v3 : Int32) (v4 : Int32) (u : zM) : zJ eV p l e R s mi args below meth c (wC D b) m0 5 fin 43 [(0, .ref 70), (1, .ref r1), (2, .ref r2), (3, .int v3), (4, .int v4)] [] u (Ou_foretell_43 zr6 r1 r2 v3 v4 u) := by
  unfold Ou_foretell_43
  refine zJ.chk _ (fun h1 => ?_)
  refine zJ.chk _ (fun h2 => ?_)
  refine z_aload_n hc dX4_foretell_43 0 rfl rfl ?_
  refine z_getR (x := 71) hc (ci := 4) (k := 0) (by decide) (by decide) zly4 lC70 (zkC lC70) wFX4_12 rfl dX4_foretell_44 rfl (by decide) ?_
  refine z_getR (x := 72) hc (ci := 7) (k := 0) (by decide) (by decide) zly7 lC71 (zkC lC71) wFX4_46 rfl dX4_foretell_47 rfl (by decide) ?_
  refine z_iconst (v := 0) hc dX4_foretell_50 rfl ?_
  refine z_aload_n hc dX4_foretell_51 0 rfl rfl ?_
  refine z_getR (x := 77) hc (ci := 4) (k := 1) (by decide) (by decide) zly4 lC70 (zkC lC70) wFX4_18 rfl dX4_foretell_52 rfl (by decide) ?_
  refine z_iload hc dX4_foretell_55 4 rfl ?_
  refine z_bipush (v := 7) hc dX4_foretell_57 rfl ?_
  refine z_imul hc dX4_foretell_59 ?_
  refine z_bipush (v := 7) hc dX4_foretell_60 rfl ?_
  refine zJ.chk _ (fun h3 => ?_)
  refine zJ.chk _ (fun h4 => ?_)
  refine z_copy (i := 0) (j := (ix (v4 * 7))) (k := 7) hc lC72 lC77 (zkC lC72) (zkC lC77) rfl h3 (by decide) rfl rfl rfl (by decide) h4 wAX4_47 wAnat wAst wAin (rm_ok hRm (Nat.le_of_ble_eq_true rfl) (Nat.le_of_ble_eq_true rfl)) (Nat.le_of_ble_eq_true rfl) dX4_foretell_62 ?_
  refine zJ.letM (fun u1 e1 => ?_)
  refine z_aload_n hc dX4_foretell_65 0 rfl rfl ?_
  refine z_getR (x := 71) hc (ci := 4) (k := 0) (by decide) (by decide) zly4 lC70 (zkC lC70) wFX4_12 rfl dX4_foretell_66 rfl (by decide) ?_
  refine z_getR (x := 73) hc (ci := 7) (k := 1) (by decide) (by decide) zly7 lC71 (zkC lC71) wFX4_53 rfl dX4_foretell_69 rfl (by decide) ?_
  refine z_iconst (v := 0) hc dX4_foretell_72 rfl ?_
  refine z_aload_n hc dX4_foretell_73 0 rfl rfl ?_
  refine z_getR (x := 78) hc (ci := 4) (k := 2) (by decide) (by decide) zly4 lC70 (zkC lC70) wFX4_22 rfl dX4_foretell_74 rfl (by decide) ?_
  refine z_iload hc dX4_foretell_77 4 rfl ?_
  refine z_iconst (v := 5) hc dX4_foretell_79 rfl ?_
  refine z_imul hc dX4_foretell_80 ?_
  refine z_iconst (v := 5) hc dX4_foretell_81 rfl ?_
  refine zJ.chk _ (fun h5 => ?_)
  refine zJ.chk _ (fun h6 => ?_)
  refine z_copy (i := 0) (j := (ix (v4 * 5))) (k := 5) hc lC73 lC78 (zkC lC73) (zkC lC78) rfl h5 (by decide) rfl rfl rfl (by decide) h6 wAX4_47 wAnat wAst wAin (rm_ok hRm (Nat.le_of_ble_eq_true rfl) (Nat.le_of_ble_eq_true rfl)) (Nat.le_of_ble_eq_true rfl) dX4_foretell_82 ?_
  refine zJ.letM (fun u2 e2 => ?_)
  refine z_aload_n hc dX4_foretell_85 0 rfl rfl ?_
  refine z_getR (x := 79) hc (ci := 4) (k := 3) (by decide) (by decide) zly4 lC70 (zkC lC70) wFX4_25 rfl dX4_foretell_86 rfl (by decide) ?_
  refine z_iload hc dX4_foretell_89 4 rfl ?_
  refine z_aload_n hc dX4_foretell_91 0 rfl rfl ?_
  refine z_getR (x := 71) hc (ci := 4) (k := 0) (by decide) (by decide) zly4 lC70 (zkC lC70) wFX4_12 rfl dX4_foretell_92 rfl (by decide) ?_
  refine z_aload_n hc dX4_foretell_95 1 rfl rfl ?_
  refine z_callV (av := [.ref r1]) (enc' := eI) hc rfl (sSt_wetBits 71 r1 _) (ci := 7) (by decide) lC71 (zkC lC71) rfl wMX4_56 hpyX7_wetBits hmyX7_wetBits (rm_ok hRm (Nat.le_of_ble_eq_true rfl) (Nat.le_of_ble_eq_true rfl)) (Nat.le_of_ble_eq_true rfl) hRm.2.2 dX4_foretell_96 (fun c1 u3 f1 => ?_)
  refine zJ.chk _ (fun h7 => ?_)
  refine z_iast (k := (ix v4)) hc lC79 (zkC lC79) h7 rfl dX4_foretell_99 ?_
  refine zJ.letM (fun u4 e3 => ?_)
  refine z_aload_n hc dX4_foretell_100 0 rfl rfl ?_
  refine z_iload hc dX4_foretell_101 4 rfl ?_
  refine z_iconst (v := 1) hc dX4_foretell_103 rfl ?_
  refine z_iadd hc dX4_foretell_104 ?_
  refine z_putI hc (ci := 4) (k := 6) (by decide) (by decide) zly4 lC70 (zkC lC70) wFX4_34 rfl rfl rfl rfl dX4_foretell_105 ?_
  refine zJ.letM (fun u5 e4 => ?_)
  refine z_iinc (L' := [(4, .int (v4 + 1)), (0, .ref 70), (1, .ref r1), (2, .ref r2), (3, .int v3)]) hc dX4_foretell_108 4 rfl (v := (v4 + 1)) rfl (by decide) rfl rfl ?_
  refine z_goto (tgt := 6) hc dX4_foretell_111 (by decide) ?_
  refine zJ.sub (L' := [(0, .ref 70), (1, .ref r1), (2, .ref r2), (3, .int v3), (4, .int (v4 + 1))]) [1, 2, 3, 4, 0] rfl ?_
  exact hr6 r1 r2 v3 (v4 + 1) _
set_option maxRecDepth 100000 in
set_option maxHeartbeats 4000000 in
theorem sOu_foretell_6b {fin : Unit × zM} (hc : zCx p s mi args meth c (wC D b) m0 RX4 cX4_foretell 5 none) (hRm : R.frames = 4 ∧ R.locals = 121 ∧ R.cells = zc (wC D b) m0 fin.2 ∧ R.slots = zs (wC D b) m0 fin.2) {zr6 : Nat → Nat → Int32 → Int32 → zM → Option (Unit × zM)} (hr6 : ∀ (r1 : Nat) (r2 : Nat) (v3 : Int32) (v4 : Int32) (u : zM), zJ eV p l e R s mi args below meth c (wC D b) m0 5 fin 6 [(0, .ref 70), (1, .ref r1), (2, .ref r2), (3, .int v3), (4, .int v4)] [] u (zr6 r1 r2 v3 v4 u)) (r1 : Nat) (r2 : Nat) (v3 : Int32) (v4 : Int32) (u : zM) : zJ eV p l e R s mi args below meth c (wC D b) m0 5 fin 6 [(0, .ref 70), (1, .ref r1), (2, .ref r2), (3, .int v3), (4, .int v4)] [] u (Ou_foretell_6b zr6 r1 r2 v3 v4 u) := by
  unfold Ou_foretell_6b
  refine zJ.chk _ (fun h1 => ?_)
  refine zJ.chk _ (fun h2 => ?_)
  refine z_iload hc dX4_foretell_6 4 rfl ?_
  refine z_iload_n hc dX4_foretell_8 3 rfl rfl ?_
  refine z_icmp_gt (tgt := 114) hc dX4_foretell_9 (by decide) _ (fun h3 => ?_) (fun h3 => ?_)
  · exact z_vret hc dX4_foretell_114
  · refine z_iload hc dX4_foretell_12 4 rfl ?_
    refine z_bipush (v := 60) hc dX4_foretell_14 rfl ?_
    refine z_icmp_gt (tgt := 114) hc dX4_foretell_16 (by decide) _ (fun h4 => ?_) (fun h4 => ?_)
    · exact z_vret hc dX4_foretell_114
    · refine z_iload hc dX4_foretell_19 4 rfl ?_
      refine z_if_ne (tgt := 35) hc dX4_foretell_21 (by decide) _ (fun h5 => ?_) (fun h5 => ?_)
      · refine z_aload_n hc dX4_foretell_35 0 rfl rfl ?_
        refine z_getR (x := 71) hc (ci := 4) (k := 0) (by decide) (by decide) zly4 lC70 (zkC lC70) wFX4_12 rfl dX4_foretell_36 rfl (by decide) ?_
        refine z_aload_n hc dX4_foretell_39 1 rfl rfl ?_
        refine z_callV (av := [.ref r1]) (enc' := eV) hc rfl (sSt_nextDay 71 r1 _) (ci := 7) (by decide) lC71 (zkC lC71) rfl wMX4_42 hpyX7_nextDay hmyX7_nextDay (rm_ok hRm (Nat.le_of_ble_eq_true rfl) (Nat.le_of_ble_eq_true rfl)) (Nat.le_of_ble_eq_true rfl) hRm.2.2 dX4_foretell_40 (fun c1 u1 f1 => ?_)
        exact sOu_foretell_43 hc hRm hr6 r1 r2 v3 v4 _
      · refine z_aload_n hc dX4_foretell_24 0 rfl rfl ?_
        refine z_getR (x := 71) hc (ci := 4) (k := 0) (by decide) (by decide) zly4 lC70 (zkC lC70) wFX4_12 rfl dX4_foretell_25 rfl (by decide) ?_
        refine z_aload_n hc dX4_foretell_28 2 rfl rfl ?_
        refine z_callV (av := [.ref r2]) (enc' := eV) hc rfl (sSt_copy 71 r2 _) (ci := 7) (by decide) lC71 (zkC lC71) rfl wMX4_38 hpyX7_copy hmyX7_copy (rm_ok hRm (Nat.le_of_ble_eq_true rfl) (Nat.le_of_ble_eq_true rfl)) (Nat.le_of_ble_eq_true rfl) hRm.2.2 dX4_foretell_29 (fun c2 u2 f2 => ?_)
        refine z_goto (tgt := 43) hc dX4_foretell_32 (by decide) ?_
        exact sOu_foretell_43 hc hRm hr6 r1 r2 v3 v4 _
set_option maxRecDepth 100000 in
set_option maxHeartbeats 4000000 in
theorem sOu_foretell_6 {fin : Unit × zM} (hc : zCx p s mi args meth c (wC D b) m0 RX4 cX4_foretell 5 none) (hRm : R.frames = 4 ∧ R.locals = 121 ∧ R.cells = zc (wC D b) m0 fin.2 ∧ R.slots = zs (wC D b) m0 fin.2) : ∀ (zf : Nat) (r1 : Nat) (r2 : Nat) (v3 : Int32) (v4 : Int32) (u : zM), zJ eV p l e R s mi args below meth c (wC D b) m0 5 fin 6 [(0, .ref 70), (1, .ref r1), (2, .ref r2), (3, .int v3), (4, .int v4)] [] u (Ou_foretell_6 zf r1 r2 v3 v4 u) := by
  intro zf
  induction zf with
  | zero => intro r1 r2 v3 v4 u; exact zJ.nil
  | succ zf ih => intro r1 r2 v3 v4 u; exact sOu_foretell_6b hc hRm ih r1 r2 v3 v4 u
set_option maxRecDepth 100000 in
set_option maxHeartbeats 4000000 in
theorem sOu_foretell : ∀ (r1 : Nat) (r2 : Nat) (v3 : Int32) (u : zM) r m1, Ou_foretell r1 r2 v3 u = some (r, m1) → zMet l (wC D b) 4 121 yX4_foretell cX4_foretell 5 none [.ref 70, .ref r1, .ref r2, .int v3] u (eV r) m1 := by
  intro r1 r2 v3 u
  refine zMet.of (L := [(0, .ref 70), (1, .ref r1), (2, .ref r2), (3, .int v3)]) RX4 (by decide +kernel) rfl (Nat.le_of_ble_eq_true rfl) (fun h => by cases h) rfl (fun p e s mi args below meth c R fin hc hin hRm => ?_)
  unfold Ou_foretell
  refine zJ.chk _ (fun h1 => ?_)
  refine zJ.chk _ (fun h2 => ?_)
  refine z_aload_n hc dX4_foretell_0 0 rfl rfl ?_
  refine z_getI hc (ci := 4) (k := 6) (by decide) (by decide) zly4 lC70 (zkC lC70) wFX4_34 rfl dX4_foretell_1 ?_
  refine zJ.letI (fun x1 e1 => ?_)
  refine z_istore (L' := [(4, .int x1), (0, .ref 70), (1, .ref r1), (2, .ref r2), (3, .int v3)]) hc dX4_foretell_4 (by decide) rfl rfl ?_
  refine zJ.sub (L' := [(0, .ref 70), (1, .ref r1), (2, .ref r2), (3, .int v3), (4, .int x1)]) [1, 2, 3, 4, 0] rfl ?_
  exact sOu_foretell_6 hc hRm zF r1 r2 v3 x1 _
set_option maxRecDepth 100000 in
set_option maxHeartbeats 4000000 in
theorem sOu_waterOn : ∀ (v1 : Int32) (v2 : Int32) (u : zM) r m1, Ou_waterOn v1 v2 u = some (r, m1) → zMet l (wC D b) 0 0 yX4_waterOn cX4_waterOn 3 (some .int) [.ref 70, .int v1, .int v2] u (eI r) m1 := by
  intro v1 v2 u
  refine zMet.of (L := [(0, .ref 70), (1, .int v1), (2, .int v2)]) RX4 (by decide +kernel) rfl (Nat.le_of_ble_eq_true rfl) (fun h => by cases h) rfl (fun p e s mi args below meth c R fin hc hin hRm => ?_)
  unfold Ou_waterOn
  refine z_aload_n hc dX4_waterOn_0 0 rfl rfl ?_
  refine z_getR (x := 77) hc (ci := 4) (k := 1) (by decide) (by decide) zly4 lC70 (zkC lC70) wFX4_18 rfl dX4_waterOn_1 rfl (by decide) ?_
  refine z_iload_n hc dX4_waterOn_4 1 rfl rfl ?_
  refine z_bipush (v := 7) hc dX4_waterOn_5 rfl ?_
  refine z_imul hc dX4_waterOn_7 ?_
  refine z_iload_n hc dX4_waterOn_8 2 rfl rfl ?_
  refine z_iadd hc dX4_waterOn_9 ?_
  refine zJ.chk _ (fun h1 => ?_)
  refine z_iald (k := (ix ((v1 * 7) + v2))) hc lC77 (zkC lC77) h1 rfl dX4_waterOn_10 ?_
  exact z_iret hc dX4_waterOn_11
set_option maxRecDepth 100000 in
set_option maxHeartbeats 4000000 in
theorem sOu_placeOn : ∀ (v1 : Int32) (v2 : Int32) (u : zM) r m1, Ou_placeOn v1 v2 u = some (r, m1) → zMet l (wC D b) 0 0 yX4_placeOn cX4_placeOn 3 (some .int) [.ref 70, .int v1, .int v2] u (eI r) m1 := by
  intro v1 v2 u
  refine zMet.of (L := [(0, .ref 70), (1, .int v1), (2, .int v2)]) RX4 (by decide +kernel) rfl (Nat.le_of_ble_eq_true rfl) (fun h => by cases h) rfl (fun p e s mi args below meth c R fin hc hin hRm => ?_)
  unfold Ou_placeOn
  refine z_aload_n hc dX4_placeOn_0 0 rfl rfl ?_
  refine z_getR (x := 78) hc (ci := 4) (k := 2) (by decide) (by decide) zly4 lC70 (zkC lC70) wFX4_22 rfl dX4_placeOn_1 rfl (by decide) ?_
  refine z_iload_n hc dX4_placeOn_4 1 rfl rfl ?_
  refine z_iconst (v := 5) hc dX4_placeOn_5 rfl ?_
  refine z_imul hc dX4_placeOn_6 ?_
  refine z_iload_n hc dX4_placeOn_7 2 rfl rfl ?_
  refine z_iadd hc dX4_placeOn_8 ?_
  refine zJ.chk _ (fun h1 => ?_)
  refine z_iald (k := (ix ((v1 * 5) + v2))) hc lC78 (zkC lC78) h1 rfl dX4_placeOn_9 ?_
  exact z_iret hc dX4_placeOn_10
set_option maxRecDepth 100000 in
set_option maxHeartbeats 4000000 in
theorem sOu_wetOn : ∀ (v1 : Int32) (u : zM) r m1, Ou_wetOn v1 u = some (r, m1) → zMet l (wC D b) 0 0 yX4_wetOn cX4_wetOn 2 (some .int) [.ref 70, .int v1] u (eI r) m1 := by
  intro v1 u
  refine zMet.of (L := [(0, .ref 70), (1, .int v1)]) RX4 (by decide +kernel) rfl (Nat.le_of_ble_eq_true rfl) (fun h => by cases h) rfl (fun p e s mi args below meth c R fin hc hin hRm => ?_)
  unfold Ou_wetOn
  refine z_aload_n hc dX4_wetOn_0 0 rfl rfl ?_
  refine z_getR (x := 79) hc (ci := 4) (k := 3) (by decide) (by decide) zly4 lC70 (zkC lC70) wFX4_25 rfl dX4_wetOn_1 rfl (by decide) ?_
  refine z_iload_n hc dX4_wetOn_4 1 rfl rfl ?_
  refine zJ.chk _ (fun h1 => ?_)
  refine z_iald (k := (ix v1)) hc lC79 (zkC lC79) h1 rfl dX4_wetOn_5 ?_
  exact z_iret hc dX4_wetOn_6
set_option maxRecDepth 100000 in
set_option maxHeartbeats 4000000 in
theorem sOu_swimsOn : ∀ (v0 : Int32) (r1 : Nat) (r2 : Nat) (v3 : Int32) (u : zM) r m1, Ou_swimsOn v0 r1 r2 v3 u = some (r, m1) → zMet l (wC D b) 0 0 yX4_swimsOn cX4_swimsOn 4 (some .int) [.int v0, .ref r1, .ref r2, .int v3] u (eI r) m1 := by
  intro v0 r1 r2 v3 u
  refine zMet.of (L := [(0, .int v0), (1, .ref r1), (2, .ref r2), (3, .int v3)]) RX4 (by decide +kernel) rfl (Nat.le_of_ble_eq_true rfl) (fun h => by cases h) rfl (fun p e s mi args below meth c R fin hc hin hRm => ?_)
  unfold Ou_swimsOn
  refine zJ.chk _ (fun h1 => ?_)
  refine zJ.chk _ (fun h2 => ?_)
  refine z_aload_n hc dX4_swimsOn_0 1 rfl rfl ?_
  refine z_getR (x := (r1 + 14)) hc (ci := 0) (k := 9) (by decide) (by decide) zly0 h1 (zkC h1) wFX4_60 rfl dX4_swimsOn_1 (rfC_off (off := 14) h1 rfl (by decide)) (Nat.le_add_left_of_le (by decide)) ?_
  refine z_iload_n hc dX4_swimsOn_4 3 rfl rfl ?_
  refine zJ.chk _ (fun h3 => ?_)
  refine z_iald (k := (ix v3)) hc (lyC_10_14 h1) (zkC (lyC_10_14 h1)) h3 rfl dX4_swimsOn_5 ?_
  refine z_iload_n hc dX4_swimsOn_6 0 rfl rfl ?_
  refine z_if_ne (tgt := 19) hc dX4_swimsOn_7 (by decide) _ (fun h4 => ?_) (fun h4 => ?_)
  · refine z_iconst (v := 0) hc dX4_swimsOn_19 rfl ?_
    refine z_isub hc dX4_swimsOn_20 ?_
    exact z_iret hc dX4_swimsOn_21
  · refine z_aload_n hc dX4_swimsOn_10 2 rfl rfl ?_
    refine z_getR (x := (r2 + 4)) hc (ci := 7) (k := 3) (by decide) (by decide) zly7 h2 (zkC h2) wFX4_65 rfl dX4_swimsOn_11 (rfC_off (off := 4) h2 rfl (by decide)) (Nat.le_add_left_of_le (by decide)) ?_
    refine z_iload_n hc dX4_swimsOn_14 3 rfl rfl ?_
    refine zJ.chk _ (fun h5 => ?_)
    refine z_iald (k := (ix v3)) hc (lyC_17_4 h2) (zkC (lyC_17_4 h2)) h5 rfl dX4_swimsOn_15 ?_
    refine z_goto (tgt := 20) hc dX4_swimsOn_16 (by decide) ?_
    refine z_isub hc dX4_swimsOn_20 ?_
    exact z_iret hc dX4_swimsOn_21
set_option maxRecDepth 100000 in
set_option maxHeartbeats 4000000 in
theorem sOu_daysToPlace_33b {fin : Int32 × zM} (hc : zCx p s mi args meth c (wC D b) m0 RX4 cX4_daysToPlace 9 (some .int)) (hRm : R.frames = 1 ∧ R.locals = 24 ∧ R.cells = zc (wC D b) m0 fin.2 ∧ R.slots = zs (wC D b) m0 fin.2) {zr13 : Nat → Nat → Int32 → Int32 → Int32 → Int32 → zM → Option (Int32 × zM)} (hr13 : ∀ (r1 : Nat) (r2 : Nat) (v3 : Int32) (v4 : Int32) (v5 : Int32) (v6 : Int32) (u : zM), zJ eI p l e R s mi args below meth c (wC D b) m0 9 fin 13 [(0, .ref 70), (1, .ref r1), (2, .ref r2), (3, .int v3), (4, .int v4), (5, .int v5), (6, .int v6)] [] u (zr13 r1 r2 v3 v4 v5 v6 u)) {zr33 : Nat → Nat → Int32 → Int32 → Int32 → Int32 → Int32 → Int32 → zM → Option (Int32 × zM)} (hr33 : ∀ (r1 : Nat) (r2 : Nat) (v3 : Int32) (v4 : Int32) (v5 : Int32) (v6 : Int32) (v7 : Int32) (v8 : Int32) (u : zM), zJ eI p l e R s mi args below meth c (wC D b) m0 9 fin 33 [(0, .ref 70), (1, .ref r1), (2, .ref r2), (3, .int v3), (4, .int v4), (5, .int v5), (6, .int v6), (7, .int v7), (8, .int v8)] [] u (zr33 r1 r2 v3 v4 v5 v6 v7 v8 u)) (r1 : Nat) (r2 : Nat) (v3 : Int32) (v4 : Int32) (v5 : Int32) (v6 : Int32) (v7 : Int32) (v8 : Int32) (u : zM) : zJ eI p l e R s mi args below meth c (wC D b) m0 9 fin 33 [(0, .ref 70), (1, .ref r1), (2, .ref r2), (3, .int v3), (4, .int v4), (5, .int v5), (6, .int v6), (7, .int v7), (8, .int v8)] [] u (Ou_daysToPlace_33b zr13 zr33 r1 r2 v3 v4 v5 v6 v7 v8 u) := by
  unfold Ou_daysToPlace_33b
  refine zJ.chk _ (fun h1 => ?_)
  refine zJ.chk _ (fun h2 => ?_)
  refine z_iload hc dX4_daysToPlace_33 8 rfl ?_
  refine z_iload hc dX4_daysToPlace_35 7 rfl ?_
  refine z_icmp_ge (tgt := 61) hc dX4_daysToPlace_37 (by decide) _ (fun h3 => ?_) (fun h3 => ?_)
  · refine z_iload hc dX4_daysToPlace_61 5 rfl ?_
    refine z_iload hc dX4_daysToPlace_63 4 rfl ?_
    refine z_ishr hc dX4_daysToPlace_65 ?_
    refine z_iconst (v := 1) hc dX4_daysToPlace_66 rfl ?_
    refine z_iand hc dX4_daysToPlace_67 ?_
    refine z_if_eq (tgt := 74) hc dX4_daysToPlace_68 (by decide) _ (fun h4 => ?_) (fun h4 => ?_)
    · refine z_iinc (L' := [(6, .int (v6 + 1)), (0, .ref 70), (1, .ref r1), (2, .ref r2), (3, .int v3), (4, .int v4), (5, .int v5), (7, .int v7), (8, .int v8)]) hc dX4_daysToPlace_74 6 rfl (v := (v6 + 1)) rfl (by decide) rfl rfl ?_
      refine z_goto (tgt := 13) hc dX4_daysToPlace_77 (by decide) ?_
      refine zJ.sub (L' := [(0, .ref 70), (1, .ref r1), (2, .ref r2), (3, .int v3), (4, .int v4), (5, .int v5), (6, .int (v6 + 1))]) [1, 2, 3, 4, 5, 6, 0] rfl ?_
      exact hr13 r1 r2 v3 v4 v5 (v6 + 1) _
    · refine z_iload hc dX4_daysToPlace_71 6 rfl ?_
      exact z_iret hc dX4_daysToPlace_73
  · refine z_aload_n hc dX4_daysToPlace_40 1 rfl rfl ?_
    refine z_iload hc dX4_daysToPlace_41 5 rfl ?_
    refine z_aload_n hc dX4_daysToPlace_43 0 rfl rfl ?_
    refine z_getR (x := 79) hc (ci := 4) (k := 3) (by decide) (by decide) zly4 lC70 (zkC lC70) wFX4_25 rfl dX4_daysToPlace_44 rfl (by decide) ?_
    refine z_iload hc dX4_daysToPlace_47 6 rfl ?_
    refine zJ.chk _ (fun h5 => ?_)
    refine z_iald (k := (ix v6)) hc lC79 (zkC lC79) h5 rfl dX4_daysToPlace_49 ?_
    refine z_callV (av := [.int v5, .int (gI u 79 (ix v6))]) (enc' := eI) hc rfl (sCo_spread r1 v5 (gI u 79 (ix v6)) _) (ci := 0) (by decide) h1 (zkC h1) rfl wMX4_75 hpyX0_spread hmyX0_spread (rm_ok hRm (Nat.le_of_ble_eq_true rfl) (Nat.le_of_ble_eq_true rfl)) (Nat.le_of_ble_eq_true rfl) hRm.2.2 dX4_daysToPlace_50 (fun c1 u1 f1 => ?_)
    refine z_istore (L' := [(5, .int c1), (0, .ref 70), (1, .ref r1), (2, .ref r2), (3, .int v3), (4, .int v4), (6, .int v6), (7, .int v7), (8, .int v8)]) hc dX4_daysToPlace_53 (by decide) rfl rfl ?_
    refine z_iinc (L' := [(8, .int (v8 + 1)), (5, .int c1), (0, .ref 70), (1, .ref r1), (2, .ref r2), (3, .int v3), (4, .int v4), (6, .int v6), (7, .int v7)]) hc dX4_daysToPlace_55 8 rfl (v := (v8 + 1)) rfl (by decide) rfl rfl ?_
    refine z_goto (tgt := 33) hc dX4_daysToPlace_58 (by decide) ?_
    refine zJ.sub (L' := [(0, .ref 70), (1, .ref r1), (2, .ref r2), (3, .int v3), (4, .int v4), (5, .int c1), (6, .int v6), (7, .int v7), (8, .int (v8 + 1))]) [2, 3, 4, 5, 6, 1, 7, 8, 0] rfl ?_
    exact hr33 r1 r2 v3 v4 c1 v6 v7 (v8 + 1) _
set_option maxRecDepth 100000 in
set_option maxHeartbeats 4000000 in
theorem sOu_daysToPlace_33 {fin : Int32 × zM} (hc : zCx p s mi args meth c (wC D b) m0 RX4 cX4_daysToPlace 9 (some .int)) (hRm : R.frames = 1 ∧ R.locals = 24 ∧ R.cells = zc (wC D b) m0 fin.2 ∧ R.slots = zs (wC D b) m0 fin.2) {zr13 : Nat → Nat → Int32 → Int32 → Int32 → Int32 → zM → Option (Int32 × zM)} (hr13 : ∀ (r1 : Nat) (r2 : Nat) (v3 : Int32) (v4 : Int32) (v5 : Int32) (v6 : Int32) (u : zM), zJ eI p l e R s mi args below meth c (wC D b) m0 9 fin 13 [(0, .ref 70), (1, .ref r1), (2, .ref r2), (3, .int v3), (4, .int v4), (5, .int v5), (6, .int v6)] [] u (zr13 r1 r2 v3 v4 v5 v6 u)) : ∀ (zf : Nat) (r1 : Nat) (r2 : Nat) (v3 : Int32) (v4 : Int32) (v5 : Int32) (v6 : Int32) (v7 : Int32) (v8 : Int32) (u : zM), zJ eI p l e R s mi args below meth c (wC D b) m0 9 fin 33 [(0, .ref 70), (1, .ref r1), (2, .ref r2), (3, .int v3), (4, .int v4), (5, .int v5), (6, .int v6), (7, .int v7), (8, .int v8)] [] u (Ou_daysToPlace_33 zf zr13 r1 r2 v3 v4 v5 v6 v7 v8 u) := by
  intro zf
  induction zf with
  | zero => intro r1 r2 v3 v4 v5 v6 v7 v8 u; exact zJ.nil
  | succ zf ih => intro r1 r2 v3 v4 v5 v6 v7 v8 u; exact sOu_daysToPlace_33b hc hRm hr13 ih r1 r2 v3 v4 v5 v6 v7 v8 u
set_option maxRecDepth 100000 in
set_option maxHeartbeats 4000000 in
theorem sOu_daysToPlace_13b {fin : Int32 × zM} (hc : zCx p s mi args meth c (wC D b) m0 RX4 cX4_daysToPlace 9 (some .int)) (hRm : R.frames = 1 ∧ R.locals = 24 ∧ R.cells = zc (wC D b) m0 fin.2 ∧ R.slots = zs (wC D b) m0 fin.2) {zr13 : Nat → Nat → Int32 → Int32 → Int32 → Int32 → zM → Option (Int32 × zM)} (hr13 : ∀ (r1 : Nat) (r2 : Nat) (v3 : Int32) (v4 : Int32) (v5 : Int32) (v6 : Int32) (u : zM), zJ eI p l e R s mi args below meth c (wC D b) m0 9 fin 13 [(0, .ref 70), (1, .ref r1), (2, .ref r2), (3, .int v3), (4, .int v4), (5, .int v5), (6, .int v6)] [] u (zr13 r1 r2 v3 v4 v5 v6 u)) (r1 : Nat) (r2 : Nat) (v3 : Int32) (v4 : Int32) (v5 : Int32) (v6 : Int32) (u : zM) : zJ eI p l e R s mi args below meth c (wC D b) m0 9 fin 13 [(0, .ref 70), (1, .ref r1), (2, .ref r2), (3, .int v3), (4, .int v4), (5, .int v5), (6, .int v6)] [] u (Ou_daysToPlace_13b zr13 r1 r2 v3 v4 v5 v6 u) := by
  unfold Ou_daysToPlace_13b
  refine zJ.chk _ (fun h1 => ?_)
  refine zJ.chk _ (fun h2 => ?_)
  refine z_iload hc dX4_daysToPlace_13 6 rfl ?_
  refine z_bipush (v := 60) hc dX4_daysToPlace_15 rfl ?_
  refine z_icmp_gt (tgt := 80) hc dX4_daysToPlace_17 (by decide) _ (fun h3 => ?_) (fun h3 => ?_)
  · refine z_iconst (v := (-1)) hc dX4_daysToPlace_80 rfl ?_
    exact z_iret hc dX4_daysToPlace_81
  · refine z_iload hc dX4_daysToPlace_20 6 rfl ?_
    refine z_aload_n hc dX4_daysToPlace_22 1 rfl rfl ?_
    refine z_aload_n hc dX4_daysToPlace_23 2 rfl rfl ?_
    refine z_iload_n hc dX4_daysToPlace_24 3 rfl rfl ?_
    refine z_callS (av := [.int v6, .ref r1, .ref r2, .int v3]) (enc' := eI) hc rfl (sOu_swimsOn v6 r1 r2 v3 _) wMX4_71 hpyX4_swimsOn hmyX4_swimsOn (rm_ok hRm (Nat.le_of_ble_eq_true rfl) (Nat.le_of_ble_eq_true rfl)) (Nat.le_of_ble_eq_true rfl) hRm.2.2 dX4_daysToPlace_25 (fun c1 u1 f1 => ?_)
    refine z_istore (L' := [(7, .int c1), (0, .ref 70), (1, .ref r1), (2, .ref r2), (3, .int v3), (4, .int v4), (5, .int v5), (6, .int v6)]) hc dX4_daysToPlace_28 (by decide) rfl rfl ?_
    refine z_iconst (v := 0) hc dX4_daysToPlace_30 rfl ?_
    refine z_istore (L' := [(8, .int 0), (7, .int c1), (0, .ref 70), (1, .ref r1), (2, .ref r2), (3, .int v3), (4, .int v4), (5, .int v5), (6, .int v6)]) hc dX4_daysToPlace_31 (by decide) rfl rfl ?_
    refine zJ.sub (L' := [(0, .ref 70), (1, .ref r1), (2, .ref r2), (3, .int v3), (4, .int v4), (5, .int v5), (6, .int v6), (7, .int c1), (8, .int 0)]) [2, 3, 4, 5, 6, 7, 8, 1, 0] rfl ?_
    exact sOu_daysToPlace_33 hc hRm hr13 zF r1 r2 v3 v4 v5 v6 c1 0 _
set_option maxRecDepth 100000 in
set_option maxHeartbeats 4000000 in
theorem sOu_daysToPlace_13 {fin : Int32 × zM} (hc : zCx p s mi args meth c (wC D b) m0 RX4 cX4_daysToPlace 9 (some .int)) (hRm : R.frames = 1 ∧ R.locals = 24 ∧ R.cells = zc (wC D b) m0 fin.2 ∧ R.slots = zs (wC D b) m0 fin.2) : ∀ (zf : Nat) (r1 : Nat) (r2 : Nat) (v3 : Int32) (v4 : Int32) (v5 : Int32) (v6 : Int32) (u : zM), zJ eI p l e R s mi args below meth c (wC D b) m0 9 fin 13 [(0, .ref 70), (1, .ref r1), (2, .ref r2), (3, .int v3), (4, .int v4), (5, .int v5), (6, .int v6)] [] u (Ou_daysToPlace_13 zf r1 r2 v3 v4 v5 v6 u) := by
  intro zf
  induction zf with
  | zero => intro r1 r2 v3 v4 v5 v6 u; exact zJ.nil
  | succ zf ih => intro r1 r2 v3 v4 v5 v6 u; exact sOu_daysToPlace_13b hc hRm ih r1 r2 v3 v4 v5 v6 u
set_option maxRecDepth 100000 in
set_option maxHeartbeats 4000000 in
theorem sOu_daysToPlace : ∀ (r1 : Nat) (r2 : Nat) (v3 : Int32) (v4 : Int32) (u : zM) r m1, Ou_daysToPlace r1 r2 v3 v4 u = some (r, m1) → zMet l (wC D b) 1 24 yX4_daysToPlace cX4_daysToPlace 9 (some .int) [.ref 70, .ref r1, .ref r2, .int v3, .int v4] u (eI r) m1 := by
  intro r1 r2 v3 v4 u
  refine zMet.of (L := [(0, .ref 70), (1, .ref r1), (2, .ref r2), (3, .int v3), (4, .int v4)]) RX4 (by decide +kernel) rfl (Nat.le_of_ble_eq_true rfl) (fun h => by cases h) rfl (fun p e s mi args below meth c R fin hc hin hRm => ?_)
  unfold Ou_daysToPlace
  refine zJ.chk _ (fun h1 => ?_)
  refine zJ.chk _ (fun h2 => ?_)
  refine z_iconst (v := 1) hc dX4_daysToPlace_0 rfl ?_
  refine z_aload_n hc dX4_daysToPlace_1 2 rfl rfl ?_
  refine z_getR (x := (r2 + 3)) hc (ci := 7) (k := 2) (by decide) (by decide) zly7 h2 (zkC h2) wFX4_68 rfl dX4_daysToPlace_2 (rfC_off (off := 3) h2 rfl (by decide)) (Nat.le_add_left_of_le (by decide)) ?_
  refine z_iload_n hc dX4_daysToPlace_5 3 rfl rfl ?_
  refine zJ.chk _ (fun h3 => ?_)
  refine z_iald (k := (ix v3)) hc (lyC_17_3 h2) (zkC (lyC_17_3 h2)) h3 rfl dX4_daysToPlace_6 ?_
  refine z_ishl hc dX4_daysToPlace_7 ?_
  refine zJ.letI (fun x1 e1 => ?_)
  refine z_istore (L' := [(5, .int x1), (0, .ref 70), (1, .ref r1), (2, .ref r2), (3, .int v3), (4, .int v4)]) hc dX4_daysToPlace_8 (by decide) rfl rfl ?_
  refine z_iconst (v := 0) hc dX4_daysToPlace_10 rfl ?_
  refine z_istore (L' := [(6, .int 0), (5, .int x1), (0, .ref 70), (1, .ref r1), (2, .ref r2), (3, .int v3), (4, .int v4)]) hc dX4_daysToPlace_11 (by decide) rfl rfl ?_
  refine zJ.sub (L' := [(0, .ref 70), (1, .ref r1), (2, .ref r2), (3, .int v3), (4, .int v4), (5, .int x1), (6, .int 0)]) [2, 3, 4, 5, 6, 1, 0] rfl ?_
  exact sOu_daysToPlace_13 hc hRm zF r1 r2 v3 v4 x1 0 _
set_option maxRecDepth 100000 in
set_option maxHeartbeats 4000000 in
theorem sSt_isServable : ∀ (v0 : Int32) (v1 : Int32) (u : zM) r m1, St_isServable v0 v1 u = some (r, m1) → zMet l (wC D b) 0 0 yX7_isServable cX7_isServable 2 (some .boolean) [.int v0, .int v1] u (eI r) m1 := by
  intro v0 v1 u
  refine zMet.of (L := [(0, .int v0), (1, .int v1)]) RX7 (by decide +kernel) rfl (Nat.le_of_ble_eq_true rfl) (fun h => by cases h) rfl (fun p e s mi args below meth c R fin hc hin hRm => ?_)
  unfold St_isServable
  refine z_iload_n hc dX7_isServable_0 0 rfl rfl ?_
  refine z_iconst (v := 3) hc dX7_isServable_1 rfl ?_
  refine z_icmp_eq (tgt := 19) hc dX7_isServable_2 (by decide) _ (fun h1 => ?_) (fun h1 => ?_)
  · refine z_iconst (v := 1) hc dX7_isServable_19 rfl ?_
    refine z_goto (tgt := 24) hc dX7_isServable_20 (by decide) ?_
    exact z_zret hc rfl dX7_isServable_24
  · refine z_iload_n hc dX7_isServable_5 1 rfl rfl ?_
    refine z_iload_n hc dX7_isServable_6 0 rfl rfl ?_
    refine z_iconst (v := 1) hc dX7_isServable_7 rfl ?_
    refine z_icmp_ne (tgt := 15) hc dX7_isServable_8 (by decide) _ (fun h2 => ?_) (fun h2 => ?_)
    · refine z_iconst (v := 1) hc dX7_isServable_15 rfl ?_
      refine z_icmp_lt (tgt := 23) hc dX7_isServable_16 (by decide) _ (fun h3 => ?_) (fun h3 => ?_)
      · refine z_iconst (v := 0) hc dX7_isServable_23 rfl ?_
        exact z_zret hc rfl dX7_isServable_24
      · refine z_iconst (v := 1) hc dX7_isServable_19 rfl ?_
        refine z_goto (tgt := 24) hc dX7_isServable_20 (by decide) ?_
        exact z_zret hc rfl dX7_isServable_24
    · refine z_iconst (v := 3) hc dX7_isServable_11 rfl ?_
      refine z_goto (tgt := 16) hc dX7_isServable_12 (by decide) ?_
      refine z_icmp_lt (tgt := 23) hc dX7_isServable_16 (by decide) _ (fun h4 => ?_) (fun h4 => ?_)
      · refine z_iconst (v := 0) hc dX7_isServable_23 rfl ?_
        exact z_zret hc rfl dX7_isServable_24
      · refine z_iconst (v := 1) hc dX7_isServable_19 rfl ?_
        refine z_goto (tgt := 24) hc dX7_isServable_20 (by decide) ?_
        exact z_zret hc rfl dX7_isServable_24
set_option maxRecDepth 100000 in
set_option maxHeartbeats 4000000 in
theorem sOu_daysToServe_99b {fin : Int32 × zM} (hc : zCx p s mi args meth c (wC D b) m0 RX4 cX4_daysToServe 12 (some .int)) (hRm : R.frames = 1 ∧ R.locals = 24 ∧ R.cells = zc (wC D b) m0 fin.2 ∧ R.slots = zs (wC D b) m0 fin.2) {zr69 : Nat → Nat → Int32 → Int32 → Int32 → Int32 → Int32 → zM → Option (Int32 × zM)} (hr69 : ∀ (r1 : Nat) (r2 : Nat) (v4 : Int32) (v6 : Int32) (v7 : Int32) (v8 : Int32) (v9 : Int32) (u : zM), zJ eI p l e R s mi args below meth c (wC D b) m0 12 fin 69 [(0, .ref 70), (1, .ref r1), (2, .ref r2), (4, .int v4), (6, .int v6), (7, .int v7), (8, .int v8), (9, .int v9)] [] u (zr69 r1 r2 v4 v6 v7 v8 v9 u)) {zr99 : Nat → Nat → Int32 → Int32 → Int32 → Int32 → Int32 → Int32 → Int32 → zM → Option (Int32 × zM)} (hr99 : ∀ (r1 : Nat) (r2 : Nat) (v4 : Int32) (v6 : Int32) (v7 : Int32) (v8 : Int32) (v9 : Int32) (v10 : Int32) (v11 : Int32) (u : zM), zJ eI p l e R s mi args below meth c (wC D b) m0 12 fin 99 [(0, .ref 70), (1, .ref r1), (2, .ref r2), (4, .int v4), (6, .int v6), (7, .int v7), (8, .int v8), (9, .int v9), (10, .int v10), (11, .int v11)] [] u (zr99 r1 r2 v4 v6 v7 v8 v9 v10 v11 u)) (r1 : Nat) (r2 : Nat) (v4 : Int32) (v6 : Int32) (v7 : Int32) (v8 : Int32) (v9 : Int32) (v10 : Int32) (v11 : Int32) (u : zM) : zJ eI p l e R s mi args below meth c (wC D b) m0 12 fin 99 [(0, .ref 70), (1, .ref r1), (2, .ref r2), (4, .int v4), (6, .int v6), (7, .int v7), (8, .int v8), (9, .int v9), (10, .int v10), (11, .int v11)] [] u (Ou_daysToServe_99b zr69 zr99 r1 r2 v4 v6 v7 v8 v9 v10 v11 u) := by
  unfold Ou_daysToServe_99b
  refine zJ.chk _ (fun h1 => ?_)
  refine zJ.chk _ (fun h2 => ?_)
  refine z_iload hc dX4_daysToServe_99 9 rfl ?_
  refine z_iload hc dX4_daysToServe_101 8 rfl ?_
  refine z_icmp_ge (tgt := 147) hc dX4_daysToServe_103 (by decide) _ (fun h3 => ?_) (fun h3 => ?_)
  · refine z_aload_n hc dX4_daysToServe_147 0 rfl rfl ?_
    refine z_iload hc dX4_daysToServe_148 7 rfl ?_
    refine z_iload hc dX4_daysToServe_150 6 rfl ?_
    refine z_callV (av := [.int v9, .int v8]) (enc' := eI) hc rfl (sOu_placeOn v9 v8 _) (ci := 4) (by decide) lC70 (zkC lC70) rfl wMX4_85 hpyX4_placeOn hmyX4_placeOn (rm_ok hRm (Nat.le_of_ble_eq_true rfl) (Nat.le_of_ble_eq_true rfl)) (Nat.le_of_ble_eq_true rfl) hRm.2.2 dX4_daysToServe_152 (fun c1 u1 f1 => ?_)
    refine z_istore (L' := [(11, .int c1), (0, .ref 70), (1, .ref r1), (2, .ref r2), (4, .int v4), (6, .int v6), (7, .int v7), (8, .int v8), (9, .int v9), (10, .int v10)]) hc dX4_daysToServe_155 (by decide) rfl rfl ?_
    refine z_iload hc dX4_daysToServe_157 6 rfl ?_
    refine z_iload hc dX4_daysToServe_159 0 rfl ?_
    refine z_ishr hc dX4_daysToServe_161 ?_
    refine z_iconst (v := 1) hc dX4_daysToServe_162 rfl ?_
    refine z_iand hc dX4_daysToServe_163 ?_
    refine z_if_eq (tgt := 191) hc dX4_daysToServe_164 (by decide) _ (fun h4 => ?_) (fun h4 => ?_)
    · refine z_iinc (L' := [(9, .int (v9 + 1)), (11, .int c1), (0, .ref 70), (1, .ref r1), (2, .ref r2), (4, .int v4), (6, .int v6), (7, .int v7), (8, .int v8), (10, .int v10)]) hc dX4_daysToServe_191 8 rfl (v := (v9 + 1)) rfl (by decide) rfl rfl ?_
      refine z_goto (tgt := 69) hc dX4_daysToServe_194 (by decide) ?_
      refine zJ.sub (L' := [(0, .ref 70), (1, .ref r1), (2, .ref r2), (4, .int v4), (6, .int v6), (7, .int v7), (8, .int v8), (9, .int (v9 + 1))]) [2, 3, 4, 5, 6, 7, 8, 0] rfl ?_
      exact hr69 r1 r2 v4 v6 v7 v8 (v9 + 1) _
    · refine z_aload_n hc dX4_daysToServe_167 2 rfl rfl ?_
      refine z_getR (x := (r1 + 11)) hc (ci := 0) (k := 6) (by decide) (by decide) zly0 h1 (zkC h1) wFX4_88 rfl dX4_daysToServe_168 (rfC_off (off := 11) h1 rfl (by decide)) (Nat.le_add_left_of_le (by decide)) ?_
      refine z_iload hc dX4_daysToServe_171 7 rfl ?_
      refine zJ.chk _ (fun h5 => ?_)
      refine z_iald (k := (ix v8)) hc (lyC_10_11 h1) (zkC (lyC_10_11 h1)) h5 rfl dX4_daysToServe_173 ?_
      refine z_aload_n hc dX4_daysToServe_174 1 rfl rfl ?_
      refine z_iload hc dX4_daysToServe_175 8 rfl ?_
      refine z_iload hc dX4_daysToServe_177 0 rfl ?_
      refine z_callV (av := [.int v9, .int c1]) (enc' := eI) hc rfl (sOu_waterOn v9 c1 _) (ci := 4) (by decide) lC70 (zkC lC70) rfl wMX4_91 hpyX4_waterOn hmyX4_waterOn (rm_ok hRm (Nat.le_of_ble_eq_true rfl) (Nat.le_of_ble_eq_true rfl)) (Nat.le_of_ble_eq_true rfl) hRm.2.2 dX4_daysToServe_179 (fun c2 u2 f2 => ?_)
      refine z_callS (av := [.int (gI u1 (r1 + 11) (ix v8)), .int c2]) (enc' := eI) hc rfl (sSt_isServable (gI u1 (r1 + 11) (ix v8)) c2 _) wMX4_94 hpyX7_isServable hmyX7_isServable (rm_ok hRm (Nat.le_of_ble_eq_true rfl) (Nat.le_of_ble_eq_true rfl)) (Nat.le_of_ble_eq_true rfl) hRm.2.2 dX4_daysToServe_182 (fun c3 u3 f3 => ?_)
      refine z_if_eq (tgt := 191) hc dX4_daysToServe_185 (by decide) _ (fun h6 => ?_) (fun h6 => ?_)
      · refine z_iinc (L' := [(9, .int (v9 + 1)), (11, .int c1), (0, .ref 70), (1, .ref r1), (2, .ref r2), (4, .int v4), (6, .int v6), (7, .int v7), (8, .int v8), (10, .int v10)]) hc dX4_daysToServe_191 8 rfl (v := (v9 + 1)) rfl (by decide) rfl rfl ?_
        refine z_goto (tgt := 69) hc dX4_daysToServe_194 (by decide) ?_
        refine zJ.sub (L' := [(0, .ref 70), (1, .ref r1), (2, .ref r2), (4, .int v4), (6, .int v6), (7, .int v7), (8, .int v8), (9, .int (v9 + 1))]) [2, 3, 4, 5, 6, 7, 8, 0] rfl ?_
        exact hr69 r1 r2 v4 v6 v7 v8 (v9 + 1) _
      · refine z_iload hc dX4_daysToServe_188 8 rfl ?_
        exact z_iret hc dX4_daysToServe_190
  · refine z_aload_n hc dX4_daysToServe_106 1 rfl rfl ?_
    refine z_iload hc dX4_daysToServe_107 4 rfl ?_
    refine z_aload_n hc dX4_daysToServe_109 0 rfl rfl ?_
    refine z_getR (x := 79) hc (ci := 4) (k := 3) (by decide) (by decide) zly4 lC70 (zkC lC70) wFX4_25 rfl dX4_daysToServe_110 rfl (by decide) ?_
    refine z_iload hc dX4_daysToServe_113 7 rfl ?_
    refine zJ.chk _ (fun h7 => ?_)
    refine z_iald (k := (ix v9)) hc lC79 (zkC lC79) h7 rfl dX4_daysToServe_115 ?_
    refine z_callV (av := [.int v6, .int (gI u 79 (ix v9))]) (enc' := eI) hc rfl (sCo_spread r1 v6 (gI u 79 (ix v9)) _) (ci := 0) (by decide) h1 (zkC h1) rfl wMX4_75 hpyX0_spread hmyX0_spread (rm_ok hRm (Nat.le_of_ble_eq_true rfl) (Nat.le_of_ble_eq_true rfl)) (Nat.le_of_ble_eq_true rfl) hRm.2.2 dX4_daysToServe_116 (fun c4 u4 f4 => ?_)
    refine z_istore (L' := [(6, .int c4), (0, .ref 70), (1, .ref r1), (2, .ref r2), (4, .int v4), (7, .int v7), (8, .int v8), (9, .int v9), (10, .int v10), (11, .int v11)]) hc dX4_daysToServe_119 (by decide) rfl rfl ?_
    refine z_aload_n hc dX4_daysToServe_121 2 rfl rfl ?_
    refine z_iload hc dX4_daysToServe_122 5 rfl ?_
    refine z_aload_n hc dX4_daysToServe_124 1 rfl rfl ?_
    refine z_getR (x := 79) hc (ci := 4) (k := 3) (by decide) (by decide) zly4 lC70 (zkC lC70) wFX4_25 rfl dX4_daysToServe_125 rfl (by decide) ?_
    refine z_iload hc dX4_daysToServe_128 7 rfl ?_
    refine zJ.chk _ (fun h8 => ?_)
    refine z_iald (k := (ix v9)) hc lC79 (zkC lC79) h8 rfl dX4_daysToServe_130 ?_
    refine z_callV (av := [.int v7, .int (gI u4 79 (ix v9))]) (enc' := eI) hc rfl (sCo_spread r1 v7 (gI u4 79 (ix v9)) _) (ci := 0) (by decide) h1 (zkC h1) rfl wMX4_75 hpyX0_spread hmyX0_spread (rm_ok hRm (Nat.le_of_ble_eq_true rfl) (Nat.le_of_ble_eq_true rfl)) (Nat.le_of_ble_eq_true rfl) hRm.2.2 dX4_daysToServe_131 (fun c5 u5 f5 => ?_)
    refine z_iload hc dX4_daysToServe_134 0 rfl ?_
    refine z_iconst (v := 1) hc dX4_daysToServe_136 rfl ?_
    refine z_iand hc dX4_daysToServe_137 ?_
    refine z_ior hc dX4_daysToServe_138 ?_
    refine zJ.letI (fun x1 e1 => ?_)
    refine z_istore (L' := [(7, .int x1), (6, .int c4), (0, .ref 70), (1, .ref r1), (2, .ref r2), (4, .int v4), (8, .int v8), (9, .int v9), (10, .int v10), (11, .int v11)]) hc dX4_daysToServe_139 (by decide) rfl rfl ?_
    refine z_iinc (L' := [(11, .int (v11 + 1)), (7, .int x1), (6, .int c4), (0, .ref 70), (1, .ref r1), (2, .ref r2), (4, .int v4), (8, .int v8), (9, .int v9), (10, .int v10)]) hc dX4_daysToServe_141 9 rfl (v := (v11 + 1)) rfl (by decide) rfl rfl ?_
    refine z_goto (tgt := 99) hc dX4_daysToServe_144 (by decide) ?_
    refine zJ.sub (L' := [(0, .ref 70), (1, .ref r1), (2, .ref r2), (4, .int v4), (6, .int c4), (7, .int x1), (8, .int v8), (9, .int v9), (10, .int v10), (11, .int (v11 + 1))]) [3, 4, 5, 6, 2, 1, 7, 8, 9, 0] rfl ?_
    exact hr99 r1 r2 v4 c4 x1 v8 v9 v10 (v11 + 1) _
set_option maxRecDepth 100000 in
set_option maxHeartbeats 4000000 in
theorem sOu_daysToServe_99 {fin : Int32 × zM} (hc : zCx p s mi args meth c (wC D b) m0 RX4 cX4_daysToServe 12 (some .int)) (hRm : R.frames = 1 ∧ R.locals = 24 ∧ R.cells = zc (wC D b) m0 fin.2 ∧ R.slots = zs (wC D b) m0 fin.2) {zr69 : Nat → Nat → Int32 → Int32 → Int32 → Int32 → Int32 → zM → Option (Int32 × zM)} (hr69 : ∀ (r1 : Nat) (r2 : Nat) (v4 : Int32) (v6 : Int32) (v7 : Int32) (v8 : Int32) (v9 : Int32) (u : zM), zJ eI p l e R s mi args below meth c (wC D b) m0 12 fin 69 [(0, .ref 70), (1, .ref r1), (2, .ref r2), (4, .int v4), (6, .int v6), (7, .int v7), (8, .int v8), (9, .int v9)] [] u (zr69 r1 r2 v4 v6 v7 v8 v9 u)) : ∀ (zf : Nat) (r1 : Nat) (r2 : Nat) (v4 : Int32) (v6 : Int32) (v7 : Int32) (v8 : Int32) (v9 : Int32) (v10 : Int32) (v11 : Int32) (u : zM), zJ eI p l e R s mi args below meth c (wC D b) m0 12 fin 99 [(0, .ref 70), (1, .ref r1), (2, .ref r2), (4, .int v4), (6, .int v6), (7, .int v7), (8, .int v8), (9, .int v9), (10, .int v10), (11, .int v11)] [] u (Ou_daysToServe_99 zf zr69 r1 r2 v4 v6 v7 v8 v9 v10 v11 u) := by
  intro zf
  induction zf with
  | zero => intro r1 r2 v4 v6 v7 v8 v9 v10 v11 u; exact zJ.nil
  | succ zf ih => intro r1 r2 v4 v6 v7 v8 v9 v10 v11 u; exact sOu_daysToServe_99b hc hRm hr69 ih r1 r2 v4 v6 v7 v8 v9 v10 v11 u
set_option maxRecDepth 100000 in
set_option maxHeartbeats 4000000 in
theorem sOu_daysToServe_69b {fin : Int32 × zM} (hc : zCx p s mi args meth c (wC D b) m0 RX4 cX4_daysToServe 12 (some .int)) (hRm : R.frames = 1 ∧ R.locals = 24 ∧ R.cells = zc (wC D b) m0 fin.2 ∧ R.slots = zs (wC D b) m0 fin.2) {zr69 : Nat → Nat → Int32 → Int32 → Int32 → Int32 → Int32 → zM → Option (Int32 × zM)} (hr69 : ∀ (r1 : Nat) (r2 : Nat) (v4 : Int32) (v6 : Int32) (v7 : Int32) (v8 : Int32) (v9 : Int32) (u : zM), zJ eI p l e R s mi args below meth c (wC D b) m0 12 fin 69 [(0, .ref 70), (1, .ref r1), (2, .ref r2), (4, .int v4), (6, .int v6), (7, .int v7), (8, .int v8), (9, .int v9)] [] u (zr69 r1 r2 v4 v6 v7 v8 v9 u)) (r1 : Nat) (r2 : Nat) (v4 : Int32) (v6 : Int32) (v7 : Int32) (v8 : Int32) (v9 : Int32) (u : zM) : zJ eI p l e R s mi args below meth c (wC D b) m0 12 fin 69 [(0, .ref 70), (1, .ref r1), (2, .ref r2), (4, .int v4), (6, .int v6), (7, .int v7), (8, .int v8), (9, .int v9)] [] u (Ou_daysToServe_69b zr69 r1 r2 v4 v6 v7 v8 v9 u) := by
  unfold Ou_daysToServe_69b
  refine zJ.chk _ (fun h1 => ?_)
  refine zJ.chk _ (fun h2 => ?_)
  refine z_iload hc dX4_daysToServe_69 7 rfl ?_
  refine z_bipush (v := 60) hc dX4_daysToServe_71 rfl ?_
  refine z_icmp_gt (tgt := 197) hc dX4_daysToServe_73 (by decide) _ (fun h3 => ?_) (fun h3 => ?_)
  · refine z_iconst (v := (-1)) hc dX4_daysToServe_197 rfl ?_
    exact z_iret hc dX4_daysToServe_198
  · refine z_iload hc dX4_daysToServe_76 7 rfl ?_
    refine z_aload_n hc dX4_daysToServe_78 1 rfl rfl ?_
    refine z_aload_n hc dX4_daysToServe_79 2 rfl rfl ?_
    refine z_iload hc dX4_daysToServe_80 3 rfl ?_
    refine z_callS (av := [.int v9, .ref r1, .ref r2, .int v4]) (enc' := eI) hc rfl (sOu_swimsOn v9 r1 r2 v4 _) wMX4_71 hpyX4_swimsOn hmyX4_swimsOn (rm_ok hRm (Nat.le_of_ble_eq_true rfl) (Nat.le_of_ble_eq_true rfl)) (Nat.le_of_ble_eq_true rfl) hRm.2.2 dX4_daysToServe_82 (fun c1 u1 f1 => ?_)
    refine z_istore (L' := [(10, .int c1), (0, .ref 70), (1, .ref r1), (2, .ref r2), (4, .int v4), (6, .int v6), (7, .int v7), (8, .int v8), (9, .int v9)]) hc dX4_daysToServe_85 (by decide) rfl rfl ?_
    refine z_iload hc dX4_daysToServe_87 6 rfl ?_
    refine z_iload hc dX4_daysToServe_89 5 rfl ?_
    refine z_iconst (v := 1) hc dX4_daysToServe_91 rfl ?_
    refine z_iand hc dX4_daysToServe_92 ?_
    refine z_ior hc dX4_daysToServe_93 ?_
    refine zJ.letI (fun x1 e1 => ?_)
    refine z_istore (L' := [(7, .int x1), (10, .int c1), (0, .ref 70), (1, .ref r1), (2, .ref r2), (4, .int v4), (6, .int v6), (8, .int v8), (9, .int v9)]) hc dX4_daysToServe_94 (by decide) rfl rfl ?_
    refine z_iconst (v := 0) hc dX4_daysToServe_96 rfl ?_
    refine z_istore (L' := [(11, .int 0), (7, .int x1), (10, .int c1), (0, .ref 70), (1, .ref r1), (2, .ref r2), (4, .int v4), (6, .int v6), (8, .int v8), (9, .int v9)]) hc dX4_daysToServe_97 (by decide) rfl rfl ?_
    refine zJ.sub (L' := [(0, .ref 70), (1, .ref r1), (2, .ref r2), (4, .int v4), (6, .int v6), (7, .int x1), (8, .int v8), (9, .int v9), (10, .int c1), (11, .int 0)]) [3, 4, 5, 6, 7, 1, 8, 9, 2, 0] rfl ?_
    exact sOu_daysToServe_99 hc hRm hr69 zF r1 r2 v4 v6 x1 v8 v9 c1 0 _
set_option maxRecDepth 100000 in
set_option maxHeartbeats 4000000 in
theorem sOu_daysToServe_69 {fin : Int32 × zM} (hc : zCx p s mi args meth c (wC D b) m0 RX4 cX4_daysToServe 12 (some .int)) (hRm : R.frames = 1 ∧ R.locals = 24 ∧ R.cells = zc (wC D b) m0 fin.2 ∧ R.slots = zs (wC D b) m0 fin.2) : ∀ (zf : Nat) (r1 : Nat) (r2 : Nat) (v4 : Int32) (v6 : Int32) (v7 : Int32) (v8 : Int32) (v9 : Int32) (u : zM), zJ eI p l e R s mi args below meth c (wC D b) m0 12 fin 69 [(0, .ref 70), (1, .ref r1), (2, .ref r2), (4, .int v4), (6, .int v6), (7, .int v7), (8, .int v8), (9, .int v9)] [] u (Ou_daysToServe_69 zf r1 r2 v4 v6 v7 v8 v9 u) := by
  intro zf
  induction zf with
  | zero => intro r1 r2 v4 v6 v7 v8 v9 u; exact zJ.nil
  | succ zf ih => intro r1 r2 v4 v6 v7 v8 v9 u; exact sOu_daysToServe_69b hc hRm ih r1 r2 v4 v6 v7 v8 v9 u
set_option maxRecDepth 100000 in
set_option maxHeartbeats 4000000 in
theorem sOu_daysToServe_46 {fin : Int32 × zM} (hc : zCx p s mi args meth c (wC D b) m0 RX4 cX4_daysToServe 12 (some .int)) (hRm : R.frames = 1 ∧ R.locals = 24 ∧ R.cells = zc (wC D b) m0 fin.2 ∧ R.slots = zs (wC D b) m0 fin.2) (r1 : Nat) (r2 : Nat) (v3 : Int32) (v4 : Int32) (v6 : Int32) (s0 : Int32) (u : zM) : zJ eI p l e R s mi args below meth c (wC D b) m0 12 fin 46 [(0, .ref 70), (1, .ref r1), (2, .ref r2), (3, .int v3), (4, .int v4), (6, .int v6)] [.int s0] u (Ou_daysToServe_46 r1 r2 v3 v4 v6 s0 u) := by
  unfold Ou_daysToServe_46
  refine zJ.chk _ (fun h1 => ?_)
  refine zJ.chk _ (fun h2 => ?_)
  refine z_istore (L' := [(7, .int s0), (0, .ref 70), (1, .ref r1), (2, .ref r2), (3, .int v3), (4, .int v4), (6, .int v6)]) hc dX4_daysToServe_46 (by decide) rfl rfl ?_
  refine z_aload_n hc dX4_daysToServe_48 2 rfl rfl ?_
  refine z_getR (x := (r1 + 15)) hc (ci := 0) (k := 10) (by decide) (by decide) zly0 h1 (zkC h1) wFX4_82 rfl dX4_daysToServe_49 (rfC_off (off := 15) h1 rfl (by decide)) (Nat.le_add_left_of_le (by decide)) ?_
  refine z_iload_n hc dX4_daysToServe_52 4 rfl rfl ?_
  refine zJ.chk _ (fun h3 => ?_)
  refine z_iald (k := (ix v3)) hc (lyC_10_15 h1) (zkC (lyC_10_15 h1)) h3 rfl dX4_daysToServe_53 ?_
  refine zJ.letI (fun x1 e1 => ?_)
  refine z_istore (L' := [(8, .int x1), (7, .int s0), (0, .ref 70), (1, .ref r1), (2, .ref r2), (3, .int v3), (4, .int v4), (6, .int v6)]) hc dX4_daysToServe_54 (by decide) rfl rfl ?_
  refine z_iload hc dX4_daysToServe_56 7 rfl ?_
  refine z_iload hc dX4_daysToServe_58 1 rfl ?_
  refine z_ior hc dX4_daysToServe_60 ?_
  refine z_if_ne (tgt := 66) hc dX4_daysToServe_61 (by decide) _ (fun h4 => ?_) (fun h4 => ?_)
  · refine z_iconst (v := 0) hc dX4_daysToServe_66 rfl ?_
    refine z_istore (L' := [(9, .int 0), (8, .int x1), (7, .int s0), (0, .ref 70), (1, .ref r1), (2, .ref r2), (3, .int v3), (4, .int v4), (6, .int v6)]) hc dX4_daysToServe_67 (by decide) rfl rfl ?_
    refine zJ.sub (L' := [(0, .ref 70), (1, .ref r1), (2, .ref r2), (4, .int v4), (6, .int v6), (7, .int s0), (8, .int x1), (9, .int 0)]) [3, 4, 5, 7, 8, 2, 1, 0] rfl ?_
    exact sOu_daysToServe_69 hc hRm zF r1 r2 v4 v6 s0 x1 0 _
  · refine z_iconst (v := (-1)) hc dX4_daysToServe_64 rfl ?_
    exact z_iret hc dX4_daysToServe_65
set_option maxRecDepth 100000 in
set_option maxHeartbeats 4000000 in
theorem sOu_daysToServe_27 {fin : Int32 × zM} (hc : zCx p s mi args meth c (wC D b) m0 RX4 cX4_daysToServe 12 (some .int)) (hRm : R.frames = 1 ∧ R.locals = 24 ∧ R.cells = zc (wC D b) m0 fin.2 ∧ R.slots = zs (wC D b) m0 fin.2) (r1 : Nat) (r2 : Nat) (v3 : Int32) (v4 : Int32) (v5 : Int32) (s0 : Int32) (u : zM) : zJ eI p l e R s mi args below meth c (wC D b) m0 12 fin 27 [(0, .ref 70), (1, .ref r1), (2, .ref r2), (3, .int v3), (4, .int v4), (5, .int v5)] [.int s0] u (Ou_daysToServe_27 r1 r2 v3 v4 v5 s0 u) := by
  unfold Ou_daysToServe_27
  refine zJ.chk _ (fun h1 => ?_)
  refine zJ.chk _ (fun h2 => ?_)
  refine z_istore (L' := [(6, .int s0), (0, .ref 70), (1, .ref r1), (2, .ref r2), (3, .int v3), (4, .int v4), (5, .int v5)]) hc dX4_daysToServe_27 (by decide) rfl rfl ?_
  refine z_aload_n hc dX4_daysToServe_29 3 rfl rfl ?_
  refine z_getR (x := (r2 + 5)) hc (ci := 7) (k := 4) (by decide) (by decide) zly7 h2 (zkC h2) wFX4_79 rfl dX4_daysToServe_30 (rfC_off (off := 5) h2 rfl (by decide)) (Nat.le_add_left_of_le (by decide)) ?_
  refine z_iload_n hc dX4_daysToServe_33 4 rfl rfl ?_
  refine zJ.chk _ (fun h3 => ?_)
  refine z_iald (k := (ix v3)) hc (lyC_17_5 h2) (zkC (lyC_17_5 h2)) h3 rfl dX4_daysToServe_34 ?_
  refine z_iload hc dX4_daysToServe_35 5 rfl ?_
  refine z_icmp_ne (tgt := 45) hc dX4_daysToServe_37 (by decide) _ (fun h4 => ?_) (fun h4 => ?_)
  · refine z_iconst (v := 0) hc dX4_daysToServe_45 rfl ?_
    refine zJ.sub (L' := [(0, .ref 70), (1, .ref r1), (2, .ref r2), (3, .int v3), (4, .int v4), (6, .int s0)]) [1, 2, 3, 4, 5, 0] rfl ?_
    exact sOu_daysToServe_46 hc hRm r1 r2 v3 v4 s0 0 _
  · refine z_iload hc dX4_daysToServe_40 6 rfl ?_
    refine z_goto (tgt := 46) hc dX4_daysToServe_42 (by decide) ?_
    refine zJ.sub (L' := [(0, .ref 70), (1, .ref r1), (2, .ref r2), (3, .int v3), (4, .int v4), (6, .int s0)]) [1, 2, 3, 4, 5, 0] rfl ?_
    exact sOu_daysToServe_46 hc hRm r1 r2 v3 v4 s0 v5 _
set_option maxRecDepth 100000 in
set_option maxHeartbeats 4000000 in
theorem sOu_daysToServe : ∀ (r1 : Nat) (r2 : Nat) (v3 : Int32) (v4 : Int32) (u : zM) r m1, Ou_daysToServe r1 r2 v3 v4 u = some (r, m1) → zMet l (wC D b) 1 24 yX4_daysToServe cX4_daysToServe 12 (some .int) [.ref 70, .ref r1, .ref r2, .int v3, .int v4] u (eI r) m1 := by
  intro r1 r2 v3 v4 u
  refine zMet.of (L := [(0, .ref 70), (1, .ref r1), (2, .ref r2), (3, .int v3), (4, .int v4)]) RX4 (by decide +kernel) rfl (Nat.le_of_ble_eq_true rfl) (fun h => by cases h) rfl (fun p e s mi args below meth c R fin hc hin hRm => ?_)
  unfold Ou_daysToServe
  refine zJ.chk _ (fun h1 => ?_)
  refine zJ.chk _ (fun h2 => ?_)
  refine z_iconst (v := 1) hc dX4_daysToServe_0 rfl ?_
  refine z_aload_n hc dX4_daysToServe_1 2 rfl rfl ?_
  refine z_getR (x := (r2 + 3)) hc (ci := 7) (k := 2) (by decide) (by decide) zly7 h2 (zkC h2) wFX4_68 rfl dX4_daysToServe_2 (rfC_off (off := 3) h2 rfl (by decide)) (Nat.le_add_left_of_le (by decide)) ?_
  refine z_iload hc dX4_daysToServe_5 4 rfl ?_
  refine zJ.chk _ (fun h3 => ?_)
  refine z_iald (k := (ix v4)) hc (lyC_17_3 h2) (zkC (lyC_17_3 h2)) h3 rfl dX4_daysToServe_7 ?_
  refine z_ishl hc dX4_daysToServe_8 ?_
  refine zJ.letI (fun x1 e1 => ?_)
  refine z_istore (L' := [(5, .int x1), (0, .ref 70), (1, .ref r1), (2, .ref r2), (3, .int v3), (4, .int v4)]) hc dX4_daysToServe_9 (by decide) rfl rfl ?_
  refine z_aload_n hc dX4_daysToServe_11 3 rfl rfl ?_
  refine z_getR (x := (r2 + 5)) hc (ci := 7) (k := 4) (by decide) (by decide) zly7 h2 (zkC h2) wFX4_79 rfl dX4_daysToServe_12 (rfC_off (off := 5) h2 rfl (by decide)) (Nat.le_add_left_of_le (by decide)) ?_
  refine z_iload_n hc dX4_daysToServe_15 4 rfl rfl ?_
  refine zJ.chk _ (fun h4 => ?_)
  refine z_iald (k := (ix v3)) hc (lyC_17_5 h2) (zkC (lyC_17_5 h2)) h4 rfl dX4_daysToServe_16 ?_
  refine z_iconst (v := (-1)) hc dX4_daysToServe_17 rfl ?_
  refine z_icmp_ne (tgt := 26) hc dX4_daysToServe_18 (by decide) _ (fun h5 => ?_) (fun h5 => ?_)
  · refine z_iconst (v := 0) hc dX4_daysToServe_26 rfl ?_
    refine zJ.sub (L' := [(0, .ref 70), (1, .ref r1), (2, .ref r2), (3, .int v3), (4, .int v4), (5, .int x1)]) [1, 2, 3, 4, 5, 0] rfl ?_
    exact sOu_daysToServe_27 hc hRm r1 r2 v3 v4 x1 0 _
  · refine z_iload hc dX4_daysToServe_21 0 rfl ?_
    refine z_goto (tgt := 27) hc dX4_daysToServe_23 (by decide) ?_
    refine zJ.sub (L' := [(0, .ref 70), (1, .ref r1), (2, .ref r2), (3, .int v3), (4, .int v4), (5, .int x1)]) [1, 2, 3, 4, 5, 0] rfl ?_
    exact sOu_daysToServe_27 hc hRm r1 r2 v3 v4 x1 x1 _
set_option maxRecDepth 100000 in
set_option maxHeartbeats 4000000 in
theorem sOu_keepRow_8b {fin : Unit × zM} (hc : zCx p s mi args meth c (wC D b) m0 RX4 cX4_keepRow 7 none) (hRm : R.frames = 0 ∧ R.locals = 0 ∧ R.cells = zc (wC D b) m0 fin.2 ∧ R.slots = zs (wC D b) m0 fin.2) {zr8 : Int32 → Int32 → Int32 → zM → Option (Unit × zM)} (hr8 : ∀ (v3 : Int32) (v4 : Int32) (v5 : Int32) (u : zM), zJ eV p l e R s mi args below meth c (wC D b) m0 7 fin 8 [(0, .ref 70), (3, .int v3), (4, .int v4), (5, .int v5)] [] u (zr8 v3 v4 v5 u)) (v3 : Int32) (v4 : Int32) (v5 : Int32) (u : zM) : zJ eV p l e R s mi args below meth c (wC D b) m0 7 fin 8 [(0, .ref 70), (3, .int v3), (4, .int v4), (5, .int v5)] [] u (Ou_keepRow_8b zr8 v3 v4 v5 u) := by
  unfold Ou_keepRow_8b
  refine z_iload hc dX4_keepRow_8 3 rfl ?_
  refine z_if_lt (tgt := 54) hc dX4_keepRow_10 (by decide) _ (fun h1 => ?_) (fun h1 => ?_)
  · exact z_vret hc dX4_keepRow_54
  · refine z_iload hc dX4_keepRow_13 2 rfl ?_
    refine z_iload_n hc dX4_keepRow_15 1 rfl rfl ?_
    refine z_iconst (v := 1) hc dX4_keepRow_16 rfl ?_
    refine z_iadd hc dX4_keepRow_17 ?_
    refine zJ.cut _ (fun _ => zJ.nil) (fun h2 => ?_)
    refine z_irem hc h2 dX4_keepRow_18 ?_
    refine zJ.letI (fun x1 e1 => ?_)
    refine z_istore (L' := [(6, .int x1), (0, .ref 70), (3, .int v3), (4, .int v4), (5, .int v5)]) hc dX4_keepRow_19 (by decide) rfl rfl ?_
    refine z_iload hc dX4_keepRow_21 3 rfl ?_
    refine z_iload_n hc dX4_keepRow_23 2 rfl rfl ?_
    refine z_iconst (v := 1) hc dX4_keepRow_24 rfl ?_
    refine z_iadd hc dX4_keepRow_25 ?_
    refine zJ.cut _ (fun _ => zJ.nil) (fun h3 => ?_)
    refine z_idiv hc h3 dX4_keepRow_26 ?_
    refine zJ.letI (fun x2 e2 => ?_)
    refine z_istore (L' := [(4, .int x2), (6, .int x1), (0, .ref 70), (3, .int v3), (5, .int v5)]) hc dX4_keepRow_27 (by decide) rfl rfl ?_
    refine z_aload_n hc dX4_keepRow_29 2 rfl rfl ?_
    refine z_getR (x := 81) hc (ci := 4) (k := 5) (by decide) (by decide) zly4 lC70 (zkC lC70) wFX4_31 rfl dX4_keepRow_30 rfl (by decide) ?_
    refine z_iload hc dX4_keepRow_33 4 rfl ?_
    refine z_iload hc dX4_keepRow_35 1 rfl ?_
    refine z_iload_n hc dX4_keepRow_37 3 rfl rfl ?_
    refine z_icmp_ge (tgt := 46) hc dX4_keepRow_38 (by decide) _ (fun h4 => ?_) (fun h4 => ?_)
    · refine z_iconst (v := (-1)) hc dX4_keepRow_46 rfl ?_
      refine zJ.chk _ (fun h5 => ?_)
      refine z_iast (k := (ix v5)) hc lC81 (zkC lC81) h5 rfl dX4_keepRow_47 ?_
      refine zJ.letM (fun u1 e3 => ?_)
      refine z_iinc (L' := [(5, .int (v5 + (-1))), (4, .int x2), (6, .int x1), (0, .ref 70), (3, .int v3)]) hc dX4_keepRow_48 4 rfl (v := (v5 + (-1))) rfl (by decide) rfl rfl ?_
      refine z_goto (tgt := 8) hc dX4_keepRow_51 (by decide) ?_
      refine zJ.sub (L' := [(0, .ref 70), (3, .int v3), (4, .int x2), (5, .int (v5 + (-1)))]) [3, 4, 1, 0] rfl ?_
      exact hr8 v3 x2 (v5 + (-1)) _
    · refine z_iload hc dX4_keepRow_41 1 rfl ?_
      refine z_goto (tgt := 47) hc dX4_keepRow_43 (by decide) ?_
      refine zJ.chk _ (fun h6 => ?_)
      refine z_iast (k := (ix v5)) hc lC81 (zkC lC81) h6 rfl dX4_keepRow_47 ?_
      refine zJ.letM (fun u2 e4 => ?_)
      refine z_iinc (L' := [(5, .int (v5 + (-1))), (4, .int x2), (6, .int x1), (0, .ref 70), (3, .int v3)]) hc dX4_keepRow_48 4 rfl (v := (v5 + (-1))) rfl (by decide) rfl rfl ?_
      refine z_goto (tgt := 8) hc dX4_keepRow_51 (by decide) ?_
      refine zJ.sub (L' := [(0, .ref 70), (3, .int v3), (4, .int x2), (5, .int (v5 + (-1)))]) [3, 4, 1, 0] rfl ?_
      exact hr8 v3 x2 (v5 + (-1)) _
set_option maxRecDepth 100000 in
set_option maxHeartbeats 4000000 in
theorem sOu_keepRow_8 {fin : Unit × zM} (hc : zCx p s mi args meth c (wC D b) m0 RX4 cX4_keepRow 7 none) (hRm : R.frames = 0 ∧ R.locals = 0 ∧ R.cells = zc (wC D b) m0 fin.2 ∧ R.slots = zs (wC D b) m0 fin.2) : ∀ (zf : Nat) (v3 : Int32) (v4 : Int32) (v5 : Int32) (u : zM), zJ eV p l e R s mi args below meth c (wC D b) m0 7 fin 8 [(0, .ref 70), (3, .int v3), (4, .int v4), (5, .int v5)] [] u (Ou_keepRow_8 zf v3 v4 v5 u) := by
  intro zf
  induction zf with
  | zero => intro v3 v4 v5 u; exact zJ.nil
  | succ zf ih => intro v3 v4 v5 u; exact sOu_keepRow_8b hc hRm ih v3 v4 v5 u
set_option maxRecDepth 100000 in
set_option maxHeartbeats 4000000 in
theorem sOu_keepRow : ∀ (v1 : Int32) (v2 : Int32) (v3 : Int32) (u : zM) r m1, Ou_keepRow v1 v2 v3 u = some (r, m1) → zMet l (wC D b) 0 0 yX4_keepRow cX4_keepRow 7 none [.ref 70, .int v1, .int v2, .int v3] u (eV r) m1 := by
  intro v1 v2 v3 u
  refine zMet.of (L := [(0, .ref 70), (1, .int v1), (2, .int v2), (3, .int v3)]) RX4 (by decide +kernel) rfl (Nat.le_of_ble_eq_true rfl) (fun h => by cases h) rfl (fun p e s mi args below meth c R fin hc hin hRm => ?_)
  unfold Ou_keepRow
  refine z_iload_n hc dX4_keepRow_0 1 rfl rfl ?_
  refine z_istore (L' := [(4, .int v1), (0, .ref 70), (1, .int v1), (2, .int v2), (3, .int v3)]) hc dX4_keepRow_1 (by decide) rfl rfl ?_
  refine z_iload_n hc dX4_keepRow_3 3 rfl rfl ?_
  refine z_iconst (v := 1) hc dX4_keepRow_4 rfl ?_
  refine z_isub hc dX4_keepRow_5 ?_
  refine zJ.letI (fun x1 e1 => ?_)
  refine z_istore (L' := [(5, .int x1), (4, .int v1), (0, .ref 70), (1, .int v1), (2, .int v2), (3, .int v3)]) hc dX4_keepRow_6 (by decide) rfl rfl ?_
  refine zJ.sub (L' := [(0, .ref 70), (3, .int v3), (4, .int v1), (5, .int x1)]) [2, 5, 1, 0] rfl ?_
  exact sOu_keepRow_8 hc hRm zF v3 v1 x1 _
set_option maxRecDepth 100000 in
set_option maxHeartbeats 4000000 in
theorem sOu_weighRow_129 {fin : Unit × zM} (hc : zCx p s mi args meth c (wC D b) m0 RX4 cX4_weighRow 10 none) (hRm : R.frames = 1 ∧ R.locals = 26 ∧ R.cells = zc (wC D b) m0 fin.2 ∧ R.slots = zs (wC D b) m0 fin.2) (v1 : Int32) (v2 : Int32) (v3 : Int32) (v5 : Int32) (v7 : Int32) (u : zM) : zJ eV p l e R s mi args below meth c (wC D b) m0 10 fin 129 [(0, .ref 70), (1, .int v1), (2, .int v2), (3, .int v3), (5, .int v5), (7, .int v7)] [] u (Ou_weighRow_129 v1 v2 v3 v5 v7 u) := by
  unfold Ou_weighRow_129
  refine z_aload_n hc dX4_weighRow_129 0 rfl rfl ?_
  refine z_iload hc dX4_weighRow_130 5 rfl ?_
  refine z_putI hc (ci := 4) (k := 7) (by decide) (by decide) zly4 lC70 (zkC lC70) wFX4_114 rfl rfl rfl rfl dX4_weighRow_132 ?_
  refine zJ.letM (fun u1 e1 => ?_)
  refine z_aload_n hc dX4_weighRow_135 0 rfl rfl ?_
  refine z_iload hc dX4_weighRow_136 4 rfl ?_
  refine z_putI hc (ci := 4) (k := 8) (by decide) (by decide) zly4 lC70 (zkC lC70) wFX4_127 rfl rfl rfl rfl dX4_weighRow_138 ?_
  refine zJ.letM (fun u2 e2 => ?_)
  refine z_aload_n hc dX4_weighRow_141 0 rfl rfl ?_
  refine z_iload_n hc dX4_weighRow_142 1 rfl rfl ?_
  refine z_iload_n hc dX4_weighRow_143 2 rfl rfl ?_
  refine z_iload_n hc dX4_weighRow_144 3 rfl rfl ?_
  refine z_callV (av := [.int v1, .int v2, .int v3]) (enc' := eV) hc rfl (sOu_keepRow v1 v2 v3 _) (ci := 4) (by decide) lC70 (zkC lC70) rfl wMX4_130 hpyX4_keepRow hmyX4_keepRow (rm_ok hRm (Nat.le_of_ble_eq_true rfl) (Nat.le_of_ble_eq_true rfl)) (Nat.le_of_ble_eq_true rfl) hRm.2.2 dX4_weighRow_145 (fun c1 u3 f1 => ?_)
  exact z_vret hc dX4_weighRow_148
set_option maxRecDepth 100000 in
set_option maxHeartbeats 4000000 in
theorem sOu_weighRow_14b {fin : Unit × zM} (hc : zCx p s mi args meth c (wC D b) m0 RX4 cX4_weighRow 10 none) (hRm : R.frames = 1 ∧ R.locals = 26 ∧ R.cells = zc (wC D b) m0 fin.2 ∧ R.slots = zs (wC D b) m0 fin.2) {zr14 : Int32 → Int32 → Int32 → Int32 → Int32 → Int32 → Int32 → zM → Option (Unit × zM)} (hr14 : ∀ (v1 : Int32) (v2 : Int32) (v3 : Int32) (v4 : Int32) (v5 : Int32) (v6 : Int32) (v7 : Int32) (u : zM), zJ eV p l e R s mi args below meth c (wC D b) m0 10 fin 14 [(0, .ref 70), (1, .int v1), (2, .int v2), (3, .int v3), (4, .int v4), (5, .int v5), (6, .int v6), (7, .int v7)] [] u (zr14 v1 v2 v3 v4 v5 v6 v7 u)) (v1 : Int32) (v2 : Int32) (v3 : Int32) (v4 : Int32) (v5 : Int32) (v6 : Int32) (v7 : Int32) (u : zM) : zJ eV p l e R s mi args below meth c (wC D b) m0 10 fin 14 [(0, .ref 70), (1, .int v1), (2, .int v2), (3, .int v3), (4, .int v4), (5, .int v5), (6, .int v6), (7, .int v7)] [] u (Ou_weighRow_14b zr14 v1 v2 v3 v4 v5 v6 v7 u) := by
  unfold Ou_weighRow_14b
  refine z_iload hc dX4_weighRow_14 7 rfl ?_
  refine z_if_lt (tgt := 95) hc dX4_weighRow_16 (by decide) _ (fun h1 => ?_) (fun h1 => ?_)
  · refine z_iload hc dX4_weighRow_95 4 rfl ?_
    refine z_callS (av := [.int v4]) (enc' := eI) hc rfl (sJi_bitCount (w := wC D b) rfl v4 _) wMX4_121 hpyJ6_bitCount_0f7a4 hmyJ6_bitCount_0f7a4 (rm_ok hRm (Nat.le_of_ble_eq_true rfl) (Nat.le_of_ble_eq_true rfl)) (Nat.le_of_ble_eq_true rfl) hRm.2.2 dX4_weighRow_97 (fun c1 u1 f1 => ?_)
    refine z_istore (L' := [(7, .int c1), (0, .ref 70), (1, .int v1), (2, .int v2), (3, .int v3), (4, .int v4), (5, .int v5), (6, .int v6)]) hc dX4_weighRow_100 (by decide) rfl rfl ?_
    refine z_iload hc dX4_weighRow_102 0 rfl ?_
    refine z_aload_n hc dX4_weighRow_104 1 rfl rfl ?_
    refine z_getI hc (ci := 4) (k := 7) (by decide) (by decide) zly4 lC70 (zkC lC70) wFX4_114 rfl dX4_weighRow_105 ?_
    refine z_icmp_gt (tgt := 129) hc dX4_weighRow_108 (by decide) _ (fun h2 => ?_) (fun h2 => ?_)
    · refine zJ.sub (L' := [(0, .ref 70), (1, .int v1), (2, .int v2), (3, .int v3), (5, .int v5), (7, .int c1)]) [1, 2, 3, 4, 6, 0] rfl ?_
      exact sOu_weighRow_129 hc hRm v1 v2 v3 v5 c1 _
    · refine z_iload hc dX4_weighRow_111 0 rfl ?_
      refine z_aload_n hc dX4_weighRow_113 1 rfl rfl ?_
      refine z_getI hc (ci := 4) (k := 7) (by decide) (by decide) zly4 lC70 (zkC lC70) wFX4_114 rfl dX4_weighRow_114 ?_
      refine z_icmp_ne (tgt := 148) hc dX4_weighRow_117 (by decide) _ (fun h3 => ?_) (fun h3 => ?_)
      · exact z_vret hc dX4_weighRow_148
      · refine z_iload hc dX4_weighRow_120 6 rfl ?_
        refine z_aload_n hc dX4_weighRow_122 1 rfl rfl ?_
        refine z_getI hc (ci := 4) (k := 8) (by decide) (by decide) zly4 lC70 (zkC lC70) wFX4_127 rfl dX4_weighRow_123 ?_
        refine z_icmp_ge (tgt := 148) hc dX4_weighRow_126 (by decide) _ (fun h4 => ?_) (fun h4 => ?_)
        · exact z_vret hc dX4_weighRow_148
        · refine zJ.sub (L' := [(0, .ref 70), (1, .int v1), (2, .int v2), (3, .int v3), (5, .int v5), (7, .int c1)]) [1, 2, 3, 4, 6, 0] rfl ?_
          exact sOu_weighRow_129 hc hRm v1 v2 v3 v5 c1 _
  · refine z_iload hc dX4_weighRow_19 6 rfl ?_
    refine z_iload_n hc dX4_weighRow_21 3 rfl rfl ?_
    refine z_iconst (v := 1) hc dX4_weighRow_22 rfl ?_
    refine z_iadd hc dX4_weighRow_23 ?_
    refine zJ.cut _ (fun _ => zJ.nil) (fun h5 => ?_)
    refine z_irem hc h5 dX4_weighRow_24 ?_
    refine zJ.letI (fun x1 e1 => ?_)
    refine z_istore (L' := [(8, .int x1), (0, .ref 70), (1, .int v1), (2, .int v2), (3, .int v3), (4, .int v4), (5, .int v5), (6, .int v6), (7, .int v7)]) hc dX4_weighRow_25 (by decide) rfl rfl ?_
    refine z_iload hc dX4_weighRow_27 7 rfl ?_
    refine z_iload_n hc dX4_weighRow_29 4 rfl rfl ?_
    refine z_iconst (v := 1) hc dX4_weighRow_30 rfl ?_
    refine z_iadd hc dX4_weighRow_31 ?_
    refine zJ.cut _ (fun _ => zJ.nil) (fun h6 => ?_)
    refine z_idiv hc h6 dX4_weighRow_32 ?_
    refine zJ.letI (fun x2 e2 => ?_)
    refine z_istore (L' := [(6, .int x2), (8, .int x1), (0, .ref 70), (1, .int v1), (2, .int v2), (3, .int v3), (4, .int v4), (5, .int v5), (7, .int v7)]) hc dX4_weighRow_33 (by decide) rfl rfl ?_
    refine z_iload hc dX4_weighRow_35 1 rfl ?_
    refine z_iload_n hc dX4_weighRow_37 5 rfl rfl ?_
    refine z_icmp_ge (tgt := 89) hc dX4_weighRow_38 (by decide) _ (fun h7 => ?_) (fun h7 => ?_)
    · refine z_iinc (L' := [(7, .int (v7 + (-1))), (6, .int x2), (8, .int x1), (0, .ref 70), (1, .int v1), (2, .int v2), (3, .int v3), (4, .int v4), (5, .int v5)]) hc dX4_weighRow_89 8 rfl (v := (v7 + (-1))) rfl (by decide) rfl rfl ?_
      refine z_goto (tgt := 14) hc dX4_weighRow_92 (by decide) ?_
      refine zJ.sub (L' := [(0, .ref 70), (1, .int v1), (2, .int v2), (3, .int v3), (4, .int v4), (5, .int v5), (6, .int x2), (7, .int (v7 + (-1)))]) [3, 4, 5, 6, 7, 8, 1, 0] rfl ?_
      exact hr14 v1 v2 v3 v4 v5 x2 (v7 + (-1)) _
    · refine z_aload_n hc dX4_weighRow_41 2 rfl rfl ?_
      refine z_getR (x := 80) hc (ci := 4) (k := 4) (by decide) (by decide) zly4 lC70 (zkC lC70) wFX4_28 rfl dX4_weighRow_42 rfl (by decide) ?_
      refine z_iload hc dX4_weighRow_45 8 rfl ?_
      refine z_bipush (v := 6) hc dX4_weighRow_47 rfl ?_
      refine z_imul hc dX4_weighRow_49 ?_
      refine z_iload hc dX4_weighRow_50 1 rfl ?_
      refine z_iadd hc dX4_weighRow_52 ?_
      refine zJ.chk _ (fun h8 => ?_)
      refine z_iald (k := (ix ((v7 * 6) + x1))) hc lC80 (zkC lC80) h8 rfl dX4_weighRow_53 ?_
      refine zJ.letI (fun x3 e3 => ?_)
      refine z_istore (L' := [(9, .int x3), (6, .int x2), (8, .int x1), (0, .ref 70), (1, .int v1), (2, .int v2), (3, .int v3), (4, .int v4), (5, .int v5), (7, .int v7)]) hc dX4_weighRow_54 (by decide) rfl rfl ?_
      refine z_iload hc dX4_weighRow_56 0 rfl ?_
      refine z_iconst (v := (-1)) hc dX4_weighRow_58 rfl ?_
      refine z_icmp_eq (tgt := 72) hc dX4_weighRow_59 (by decide) _ (fun h9 => ?_) (fun h9 => ?_)
      · exact z_vret hc dX4_weighRow_72
      · refine z_iload hc dX4_weighRow_62 7 rfl ?_
        refine z_iload hc dX4_weighRow_64 2 rfl ?_
        refine z_ishr hc dX4_weighRow_66 ?_
        refine z_iconst (v := 1) hc dX4_weighRow_67 rfl ?_
        refine z_iand hc dX4_weighRow_68 ?_
        refine z_if_eq (tgt := 73) hc dX4_weighRow_69 (by decide) _ (fun h10 => ?_) (fun h10 => ?_)
        · refine z_iload hc dX4_weighRow_73 7 rfl ?_
          refine z_iconst (v := 1) hc dX4_weighRow_75 rfl ?_
          refine z_iload hc dX4_weighRow_76 2 rfl ?_
          refine z_ishl hc dX4_weighRow_78 ?_
          refine z_ior hc dX4_weighRow_79 ?_
          refine zJ.letI (fun x4 e4 => ?_)
          refine z_istore (L' := [(4, .int x4), (9, .int x3), (6, .int x2), (8, .int x1), (0, .ref 70), (1, .int v1), (2, .int v2), (3, .int v3), (5, .int v5), (7, .int v7)]) hc dX4_weighRow_80 (by decide) rfl rfl ?_
          refine z_iload hc dX4_weighRow_82 8 rfl ?_
          refine z_iload hc dX4_weighRow_84 1 rfl ?_
          refine z_iadd hc dX4_weighRow_86 ?_
          refine zJ.letI (fun x5 e5 => ?_)
          refine z_istore (L' := [(5, .int x5), (4, .int x4), (9, .int x3), (6, .int x2), (8, .int x1), (0, .ref 70), (1, .int v1), (2, .int v2), (3, .int v3), (7, .int v7)]) hc dX4_weighRow_87 (by decide) rfl rfl ?_
          refine z_iinc (L' := [(7, .int (v7 + (-1))), (5, .int x5), (4, .int x4), (9, .int x3), (6, .int x2), (8, .int x1), (0, .ref 70), (1, .int v1), (2, .int v2), (3, .int v3)]) hc dX4_weighRow_89 9 rfl (v := (v7 + (-1))) rfl (by decide) rfl rfl ?_
          refine z_goto (tgt := 14) hc dX4_weighRow_92 (by decide) ?_
          refine zJ.sub (L' := [(0, .ref 70), (1, .int v1), (2, .int v2), (3, .int v3), (4, .int x4), (5, .int x5), (6, .int x2), (7, .int (v7 + (-1)))]) [6, 7, 8, 9, 2, 1, 4, 0] rfl ?_
          exact hr14 v1 v2 v3 x4 x5 x2 (v7 + (-1)) _
        · exact z_vret hc dX4_weighRow_72
set_option maxRecDepth 100000 in
set_option maxHeartbeats 4000000 in
theorem sOu_weighRow_14 {fin : Unit × zM} (hc : zCx p s mi args meth c (wC D b) m0 RX4 cX4_weighRow 10 none) (hRm : R.frames = 1 ∧ R.locals = 26 ∧ R.cells = zc (wC D b) m0 fin.2 ∧ R.slots = zs (wC D b) m0 fin.2) : ∀ (zf : Nat) (v1 : Int32) (v2 : Int32) (v3 : Int32) (v4 : Int32) (v5 : Int32) (v6 : Int32) (v7 : Int32) (u : zM), zJ eV p l e R s mi args below meth c (wC D b) m0 10 fin 14 [(0, .ref 70), (1, .int v1), (2, .int v2), (3, .int v3), (4, .int v4), (5, .int v5), (6, .int v6), (7, .int v7)] [] u (Ou_weighRow_14 zf v1 v2 v3 v4 v5 v6 v7 u) := by
  intro zf
  induction zf with
  | zero => intro v1 v2 v3 v4 v5 v6 v7 u; exact zJ.nil
  | succ zf ih => intro v1 v2 v3 v4 v5 v6 v7 u; exact sOu_weighRow_14b hc hRm ih v1 v2 v3 v4 v5 v6 v7 u
set_option maxRecDepth 100000 in
set_option maxHeartbeats 4000000 in
theorem sOu_weighRow : ∀ (v1 : Int32) (v2 : Int32) (v3 : Int32) (u : zM) r m1, Ou_weighRow v1 v2 v3 u = some (r, m1) → zMet l (wC D b) 1 26 yX4_weighRow cX4_weighRow 10 none [.ref 70, .int v1, .int v2, .int v3] u (eV r) m1 := by
  intro v1 v2 v3 u
  refine zMet.of (L := [(0, .ref 70), (1, .int v1), (2, .int v2), (3, .int v3)]) RX4 (by decide +kernel) rfl (Nat.le_of_ble_eq_true rfl) (fun h => by cases h) rfl (fun p e s mi args below meth c R fin hc hin hRm => ?_)
  unfold Ou_weighRow
  refine z_iconst (v := 0) hc dX4_weighRow_0 rfl ?_
  refine z_istore (L' := [(4, .int 0), (0, .ref 70), (1, .int v1), (2, .int v2), (3, .int v3)]) hc dX4_weighRow_1 (by decide) rfl rfl ?_
  refine z_iconst (v := 0) hc dX4_weighRow_3 rfl ?_
  refine z_istore (L' := [(5, .int 0), (4, .int 0), (0, .ref 70), (1, .int v1), (2, .int v2), (3, .int v3)]) hc dX4_weighRow_4 (by decide) rfl rfl ?_
  refine z_iload_n hc dX4_weighRow_6 3 rfl rfl ?_
  refine z_istore (L' := [(6, .int v1), (5, .int 0), (4, .int 0), (0, .ref 70), (1, .int v1), (2, .int v2), (3, .int v3)]) hc dX4_weighRow_7 (by decide) rfl rfl ?_
  refine z_iload_n hc dX4_weighRow_9 5 rfl rfl ?_
  refine z_iconst (v := 1) hc dX4_weighRow_10 rfl ?_
  refine z_isub hc dX4_weighRow_11 ?_
  refine zJ.letI (fun x1 e1 => ?_)
  refine z_istore (L' := [(7, .int x1), (6, .int v1), (5, .int 0), (4, .int 0), (0, .ref 70), (1, .int v1), (2, .int v2), (3, .int v3)]) hc dX4_weighRow_12 (by decide) rfl rfl ?_
  refine zJ.sub (L' := [(0, .ref 70), (1, .int v1), (2, .int v2), (3, .int v3), (4, .int 0), (5, .int 0), (6, .int v1), (7, .int x1)]) [4, 5, 6, 7, 3, 2, 1, 0] rfl ?_
  exact sOu_weighRow_14 hc hRm zF v1 v2 v3 0 0 v1 x1 _
set_option maxRecDepth 100000 in
set_option maxHeartbeats 4000000 in
theorem sOu_allot_41b {fin : Unit × zM} (hc : zCx p s mi args meth c (wC D b) m0 RX4 cX4_allot 8 none) (hRm : R.frames = 2 ∧ R.locals = 55 ∧ R.cells = zc (wC D b) m0 fin.2 ∧ R.slots = zs (wC D b) m0 fin.2) {zr23 : Nat → Nat → Int32 → Int32 → Int32 → Int32 → zM → Option (Unit × zM)} (hr23 : ∀ (r1 : Nat) (r2 : Nat) (v3 : Int32) (v4 : Int32) (v5 : Int32) (v6 : Int32) (u : zM), zJ eV p l e R s mi args below meth c (wC D b) m0 8 fin 23 [(0, .ref 70), (1, .ref r1), (2, .ref r2), (3, .int v3), (4, .int v4), (5, .int v5), (6, .int v6)] [] u (zr23 r1 r2 v3 v4 v5 v6 u)) {zr41 : Nat → Nat → Int32 → Int32 → Int32 → Int32 → Int32 → zM → Option (Unit × zM)} (hr41 : ∀ (r1 : Nat) (r2 : Nat) (v3 : Int32) (v4 : Int32) (v5 : Int32) (v6 : Int32) (v7 : Int32) (u : zM), zJ eV p l e R s mi args below meth c (wC D b) m0 8 fin 41 [(0, .ref 70), (1, .ref r1), (2, .ref r2), (3, .int v3), (4, .int v4), (5, .int v5), (6, .int v6), (7, .int v7)] [] u (zr41 r1 r2 v3 v4 v5 v6 v7 u)) (r1 : Nat) (r2 : Nat) (v3 : Int32) (v4 : Int32) (v5 : Int32) (v6 : Int32) (v7 : Int32) (u : zM) : zJ eV p l e R s mi args below meth c (wC D b) m0 8 fin 41 [(0, .ref 70), (1, .ref r1), (2, .ref r2), (3, .int v3), (4, .int v4), (5, .int v5), (6, .int v6), (7, .int v7)] [] u (Ou_allot_41b zr23 zr41 r1 r2 v3 v4 v5 v6 v7 u) := by
  unfold Ou_allot_41b
  refine zJ.chk _ (fun h1 => ?_)
  refine zJ.chk _ (fun h2 => ?_)
  refine z_iload hc dX4_allot_41 7 rfl ?_
  refine z_iload hc dX4_allot_43 4 rfl ?_
  refine z_icmp_ge (tgt := 77) hc dX4_allot_45 (by decide) _ (fun h3 => ?_) (fun h3 => ?_)
  · refine z_iinc (L' := [(6, .int (v6 + 1)), (0, .ref 70), (1, .ref r1), (2, .ref r2), (3, .int v3), (4, .int v4), (5, .int v5), (7, .int v7)]) hc dX4_allot_77 6 rfl (v := (v6 + 1)) rfl (by decide) rfl rfl ?_
    refine z_goto (tgt := 23) hc dX4_allot_80 (by decide) ?_
    refine zJ.sub (L' := [(0, .ref 70), (1, .ref r1), (2, .ref r2), (3, .int v3), (4, .int v4), (5, .int v5), (6, .int (v6 + 1))]) [1, 2, 3, 4, 5, 6, 0] rfl ?_
    exact hr23 r1 r2 v3 v4 v5 (v6 + 1) _
  · refine z_aload_n hc dX4_allot_48 0 rfl rfl ?_
    refine z_getR (x := 80) hc (ci := 4) (k := 4) (by decide) (by decide) zly4 lC70 (zkC lC70) wFX4_28 rfl dX4_allot_49 rfl (by decide) ?_
    refine z_iload hc dX4_allot_52 6 rfl ?_
    refine z_bipush (v := 6) hc dX4_allot_54 rfl ?_
    refine z_imul hc dX4_allot_56 ?_
    refine z_iload hc dX4_allot_57 7 rfl ?_
    refine z_iadd hc dX4_allot_59 ?_
    refine z_aload_n hc dX4_allot_60 0 rfl rfl ?_
    refine z_aload_n hc dX4_allot_61 1 rfl rfl ?_
    refine z_aload_n hc dX4_allot_62 2 rfl rfl ?_
    refine z_iload hc dX4_allot_63 7 rfl ?_
    refine z_iload hc dX4_allot_65 6 rfl ?_
    refine z_callV (av := [.ref r1, .ref r2, .int v7, .int v6]) (enc' := eI) hc rfl (sOu_daysToServe r1 r2 v7 v6 _) (ci := 4) (by decide) lC70 (zkC lC70) rfl wMX4_110 hpyX4_daysToServe hmyX4_daysToServe (rm_ok hRm (Nat.le_of_ble_eq_true rfl) (Nat.le_of_ble_eq_true rfl)) (Nat.le_of_ble_eq_true rfl) hRm.2.2 dX4_allot_67 (fun c1 u1 f1 => ?_)
    refine zJ.chk _ (fun h4 => ?_)
    refine z_iast (k := (ix ((v6 * 6) + v7))) hc lC80 (zkC lC80) h4 rfl dX4_allot_70 ?_
    refine zJ.letM (fun u2 e1 => ?_)
    refine z_iinc (L' := [(7, .int (v7 + 1)), (0, .ref 70), (1, .ref r1), (2, .ref r2), (3, .int v3), (4, .int v4), (5, .int v5), (6, .int v6)]) hc dX4_allot_71 7 rfl (v := (v7 + 1)) rfl (by decide) rfl rfl ?_
    refine z_goto (tgt := 41) hc dX4_allot_74 (by decide) ?_
    refine zJ.sub (L' := [(0, .ref 70), (1, .ref r1), (2, .ref r2), (3, .int v3), (4, .int v4), (5, .int v5), (6, .int v6), (7, .int (v7 + 1))]) [1, 2, 3, 4, 5, 6, 7, 0] rfl ?_
    exact hr41 r1 r2 v3 v4 v5 v6 (v7 + 1) _
set_option maxRecDepth 100000 in
set_option maxHeartbeats 4000000 in
theorem sOu_allot_41 {fin : Unit × zM} (hc : zCx p s mi args meth c (wC D b) m0 RX4 cX4_allot 8 none) (hRm : R.frames = 2 ∧ R.locals = 55 ∧ R.cells = zc (wC D b) m0 fin.2 ∧ R.slots = zs (wC D b) m0 fin.2) {zr23 : Nat → Nat → Int32 → Int32 → Int32 → Int32 → zM → Option (Unit × zM)} (hr23 : ∀ (r1 : Nat) (r2 : Nat) (v3 : Int32) (v4 : Int32) (v5 : Int32) (v6 : Int32) (u : zM), zJ eV p l e R s mi args below meth c (wC D b) m0 8 fin 23 [(0, .ref 70), (1, .ref r1), (2, .ref r2), (3, .int v3), (4, .int v4), (5, .int v5), (6, .int v6)] [] u (zr23 r1 r2 v3 v4 v5 v6 u)) : ∀ (zf : Nat) (r1 : Nat) (r2 : Nat) (v3 : Int32) (v4 : Int32) (v5 : Int32) (v6 : Int32) (v7 : Int32) (u : zM), zJ eV p l e R s mi args below meth c (wC D b) m0 8 fin 41 [(0, .ref 70), (1, .ref r1), (2, .ref r2), (3, .int v3), (4, .int v4), (5, .int v5), (6, .int v6), (7, .int v7)] [] u (Ou_allot_41 zf zr23 r1 r2 v3 v4 v5 v6 v7 u) := by
  intro zf
  induction zf with
  | zero => intro r1 r2 v3 v4 v5 v6 v7 u; exact zJ.nil
  | succ zf ih => intro r1 r2 v3 v4 v5 v6 v7 u; exact sOu_allot_41b hc hRm hr23 ih r1 r2 v3 v4 v5 v6 v7 u
set_option maxRecDepth 100000 in
set_option maxHeartbeats 4000000 in
theorem sOu_allot_91b {fin : Unit × zM} (hc : zCx p s mi args meth c (wC D b) m0 RX4 cX4_allot 8 none) (hRm : R.frames = 2 ∧ R.locals = 55 ∧ R.cells = zc (wC D b) m0 fin.2 ∧ R.slots = zs (wC D b) m0 fin.2) {zr91 : Int32 → Int32 → Int32 → Int32 → zM → Option (Unit × zM)} (hr91 : ∀ (v3 : Int32) (v4 : Int32) (v5 : Int32) (v6 : Int32) (u : zM), zJ eV p l e R s mi args below meth c (wC D b) m0 8 fin 91 [(0, .ref 70), (3, .int v3), (4, .int v4), (5, .int v5), (6, .int v6)] [] u (zr91 v3 v4 v5 v6 u)) (v3 : Int32) (v4 : Int32) (v5 : Int32) (v6 : Int32) (u : zM) : zJ eV p l e R s mi args below meth c (wC D b) m0 8 fin 91 [(0, .ref 70), (3, .int v3), (4, .int v4), (5, .int v5), (6, .int v6)] [] u (Ou_allot_91b zr91 v3 v4 v5 v6 u) := by
  unfold Ou_allot_91b
  refine z_iload hc dX4_allot_91 4 rfl ?_
  refine z_iload hc dX4_allot_93 3 rfl ?_
  refine z_icmp_ge (tgt := 113) hc dX4_allot_95 (by decide) _ (fun h1 => ?_) (fun h1 => ?_)
  · exact z_vret hc dX4_allot_113
  · refine z_aload_n hc dX4_allot_98 0 rfl rfl ?_
    refine z_iload hc dX4_allot_99 4 rfl ?_
    refine z_iload_n hc dX4_allot_101 1 rfl rfl ?_
    refine z_iload hc dX4_allot_102 2 rfl ?_
    refine z_callV (av := [.int v6, .int v3, .int v4]) (enc' := eV) hc rfl (sOu_weighRow v6 v3 v4 _) (ci := 4) (by decide) lC70 (zkC lC70) rfl wMX4_117 hpyX4_weighRow hmyX4_weighRow (rm_ok hRm (Nat.le_of_ble_eq_true rfl) (Nat.le_of_ble_eq_true rfl)) (Nat.le_of_ble_eq_true rfl) hRm.2.2 dX4_allot_104 (fun c1 u1 f1 => ?_)
    refine z_iinc (L' := [(6, .int (v6 + 1)), (0, .ref 70), (3, .int v3), (4, .int v4), (5, .int v5)]) hc dX4_allot_107 4 rfl (v := (v6 + 1)) rfl (by decide) rfl rfl ?_
    refine z_goto (tgt := 91) hc dX4_allot_110 (by decide) ?_
    refine zJ.sub (L' := [(0, .ref 70), (3, .int v3), (4, .int v4), (5, .int v5), (6, .int (v6 + 1))]) [1, 2, 3, 4, 0] rfl ?_
    exact hr91 v3 v4 v5 (v6 + 1) _
set_option maxRecDepth 100000 in
set_option maxHeartbeats 4000000 in
theorem sOu_allot_91 {fin : Unit × zM} (hc : zCx p s mi args meth c (wC D b) m0 RX4 cX4_allot 8 none) (hRm : R.frames = 2 ∧ R.locals = 55 ∧ R.cells = zc (wC D b) m0 fin.2 ∧ R.slots = zs (wC D b) m0 fin.2) : ∀ (zf : Nat) (v3 : Int32) (v4 : Int32) (v5 : Int32) (v6 : Int32) (u : zM), zJ eV p l e R s mi args below meth c (wC D b) m0 8 fin 91 [(0, .ref 70), (3, .int v3), (4, .int v4), (5, .int v5), (6, .int v6)] [] u (Ou_allot_91 zf v3 v4 v5 v6 u) := by
  intro zf
  induction zf with
  | zero => intro v3 v4 v5 v6 u; exact zJ.nil
  | succ zf ih => intro v3 v4 v5 v6 u; exact sOu_allot_91b hc hRm ih v3 v4 v5 v6 u
set_option maxRecDepth 100000 in
set_option maxHeartbeats 4000000 in
theorem sOu_allot_23b {fin : Unit × zM} (hc : zCx p s mi args meth c (wC D b) m0 RX4 cX4_allot 8 none) (hRm : R.frames = 2 ∧ R.locals = 55 ∧ R.cells = zc (wC D b) m0 fin.2 ∧ R.slots = zs (wC D b) m0 fin.2) {zr23 : Nat → Nat → Int32 → Int32 → Int32 → Int32 → zM → Option (Unit × zM)} (hr23 : ∀ (r1 : Nat) (r2 : Nat) (v3 : Int32) (v4 : Int32) (v5 : Int32) (v6 : Int32) (u : zM), zJ eV p l e R s mi args below meth c (wC D b) m0 8 fin 23 [(0, .ref 70), (1, .ref r1), (2, .ref r2), (3, .int v3), (4, .int v4), (5, .int v5), (6, .int v6)] [] u (zr23 r1 r2 v3 v4 v5 v6 u)) (r1 : Nat) (r2 : Nat) (v3 : Int32) (v4 : Int32) (v5 : Int32) (v6 : Int32) (u : zM) : zJ eV p l e R s mi args below meth c (wC D b) m0 8 fin 23 [(0, .ref 70), (1, .ref r1), (2, .ref r2), (3, .int v3), (4, .int v4), (5, .int v5), (6, .int v6)] [] u (Ou_allot_23b zr23 r1 r2 v3 v4 v5 v6 u) := by
  unfold Ou_allot_23b
  refine zJ.chk _ (fun h1 => ?_)
  refine zJ.chk _ (fun h2 => ?_)
  refine z_iload hc dX4_allot_23 6 rfl ?_
  refine z_iload_n hc dX4_allot_25 3 rfl rfl ?_
  refine z_icmp_ge (tgt := 83) hc dX4_allot_26 (by decide) _ (fun h3 => ?_) (fun h3 => ?_)
  · refine z_aload_n hc dX4_allot_83 0 rfl rfl ?_
    refine z_iconst (v := (-1)) hc dX4_allot_84 rfl ?_
    refine z_putI hc (ci := 4) (k := 7) (by decide) (by decide) zly4 lC70 (zkC lC70) wFX4_114 rfl rfl rfl rfl dX4_allot_85 ?_
    refine zJ.letM (fun u1 e1 => ?_)
    refine z_iconst (v := 0) hc dX4_allot_88 rfl ?_
    refine z_istore (L' := [(6, .int 0), (0, .ref 70), (1, .ref r1), (2, .ref r2), (3, .int v3), (4, .int v4), (5, .int v5)]) hc dX4_allot_89 (by decide) rfl rfl ?_
    refine zJ.sub (L' := [(0, .ref 70), (3, .int v3), (4, .int v4), (5, .int v5), (6, .int 0)]) [1, 4, 5, 6, 0] rfl ?_
    exact sOu_allot_91 hc hRm zF v3 v4 v5 0 _
  · refine z_iload hc dX4_allot_29 5 rfl ?_
    refine z_iload hc dX4_allot_31 4 rfl ?_
    refine z_iconst (v := 1) hc dX4_allot_33 rfl ?_
    refine z_iadd hc dX4_allot_34 ?_
    refine z_imul hc dX4_allot_35 ?_
    refine zJ.letI (fun x1 e2 => ?_)
    refine z_istore (L' := [(5, .int x1), (0, .ref 70), (1, .ref r1), (2, .ref r2), (3, .int v3), (4, .int v4), (6, .int v6)]) hc dX4_allot_36 (by decide) rfl rfl ?_
    refine z_iconst (v := 0) hc dX4_allot_38 rfl ?_
    refine z_istore (L' := [(7, .int 0), (5, .int x1), (0, .ref 70), (1, .ref r1), (2, .ref r2), (3, .int v3), (4, .int v4), (6, .int v6)]) hc dX4_allot_39 (by decide) rfl rfl ?_
    refine zJ.sub (L' := [(0, .ref 70), (1, .ref r1), (2, .ref r2), (3, .int v3), (4, .int v4), (5, .int x1), (6, .int v6), (7, .int 0)]) [2, 3, 4, 5, 6, 1, 7, 0] rfl ?_
    exact sOu_allot_41 hc hRm hr23 zF r1 r2 v3 v4 x1 v6 0 _
set_option maxRecDepth 100000 in
set_option maxHeartbeats 4000000 in
theorem sOu_allot_23 {fin : Unit × zM} (hc : zCx p s mi args meth c (wC D b) m0 RX4 cX4_allot 8 none) (hRm : R.frames = 2 ∧ R.locals = 55 ∧ R.cells = zc (wC D b) m0 fin.2 ∧ R.slots = zs (wC D b) m0 fin.2) : ∀ (zf : Nat) (r1 : Nat) (r2 : Nat) (v3 : Int32) (v4 : Int32) (v5 : Int32) (v6 : Int32) (u : zM), zJ eV p l e R s mi args below meth c (wC D b) m0 8 fin 23 [(0, .ref 70), (1, .ref r1), (2, .ref r2), (3, .int v3), (4, .int v4), (5, .int v5), (6, .int v6)] [] u (Ou_allot_23 zf r1 r2 v3 v4 v5 v6 u) := by
  intro zf
  induction zf with
  | zero => intro r1 r2 v3 v4 v5 v6 u; exact zJ.nil
  | succ zf ih => intro r1 r2 v3 v4 v5 v6 u; exact sOu_allot_23b hc hRm ih r1 r2 v3 v4 v5 v6 u
set_option maxRecDepth 100000 in
set_option maxHeartbeats 4000000 in
theorem sOu_allot : ∀ (r1 : Nat) (r2 : Nat) (u : zM) r m1, Ou_allot r1 r2 u = some (r, m1) → zMet l (wC D b) 2 55 yX4_allot cX4_allot 8 none [.ref 70, .ref r1, .ref r2] u (eV r) m1 := by
  intro r1 r2 u
  refine zMet.of (L := [(0, .ref 70), (1, .ref r1), (2, .ref r2)]) RX4 (by decide +kernel) rfl (Nat.le_of_ble_eq_true rfl) (fun h => by cases h) rfl (fun p e s mi args below meth c R fin hc hin hRm => ?_)
  unfold Ou_allot
  refine zJ.chk _ (fun h1 => ?_)
  refine zJ.chk _ (fun h2 => ?_)
  refine z_aload_n hc dX4_allot_0 1 rfl rfl ?_
  refine z_getR (x := (r1 + 5)) hc (ci := 0) (k := 2) (by decide) (by decide) zly0 h1 (zkC h1) wFX4_98 rfl dX4_allot_1 (rfC_off (off := 5) h1 rfl (by decide)) (Nat.le_add_left_of_le (by decide)) ?_
  refine z_getI hc (ci := 3) (k := 1) (by decide) (by decide) zly3 (lyC_10_5 h1) (zkC (lyC_10_5 h1)) wFX4_102 rfl dX4_allot_4 ?_
  refine zJ.letI (fun x1 e1 => ?_)
  refine z_istore_n (L' := [(3, .int x1), (0, .ref 70), (1, .ref r1), (2, .ref r2)]) hc dX4_allot_7 rfl (by decide) rfl rfl ?_
  refine z_aload_n hc dX4_allot_8 2 rfl rfl ?_
  refine z_getR (x := (r1 + 7)) hc (ci := 0) (k := 3) (by decide) (by decide) zly0 h1 (zkC h1) wFX4_107 rfl dX4_allot_9 (rfC_off (off := 7) h1 rfl (by decide)) (Nat.le_add_left_of_le (by decide)) ?_
  refine z_getI hc (ci := 3) (k := 1) (by decide) (by decide) zly3 (lyC_10_7 h1) (zkC (lyC_10_7 h1)) wFX4_102 rfl dX4_allot_12 ?_
  refine zJ.letI (fun x2 e2 => ?_)
  refine z_istore (L' := [(4, .int x2), (3, .int x1), (0, .ref 70), (1, .ref r1), (2, .ref r2)]) hc dX4_allot_15 (by decide) rfl rfl ?_
  refine z_iconst (v := 1) hc dX4_allot_17 rfl ?_
  refine z_istore (L' := [(5, .int 1), (4, .int x2), (3, .int x1), (0, .ref 70), (1, .ref r1), (2, .ref r2)]) hc dX4_allot_18 (by decide) rfl rfl ?_
  refine z_iconst (v := 0) hc dX4_allot_20 rfl ?_
  refine z_istore (L' := [(6, .int 0), (5, .int 1), (4, .int x2), (3, .int x1), (0, .ref 70), (1, .ref r1), (2, .ref r2)]) hc dX4_allot_21 (by decide) rfl rfl ?_
  refine zJ.sub (L' := [(0, .ref 70), (1, .ref r1), (2, .ref r2), (3, .int x1), (4, .int x2), (5, .int 1), (6, .int 0)]) [4, 5, 6, 3, 2, 1, 0] rfl ?_
  exact sOu_allot_23 hc hRm zF r1 r2 x1 x2 1 0 _
set_option maxRecDepth 100000 in
set_option maxHeartbeats 4000000 in
theorem sSe_put : ∀ (r0 : Nat) (v1 : Int32) (v2 : Int32) (v3 : Int32) (u : zM) r m1, Se_put r0 v1 v2 v3 u = some (r, m1) → zMet l (wC D b) 0 0 yX5_put cX5_put 4 (some .boolean) [.ref r0, .int v1, .int v2, .int v3] u (eI r) m1 := by
  intro r0 v1 v2 v3 u
  refine zMet.of (L := [(0, .ref r0), (1, .int v1), (2, .int v2), (3, .int v3)]) RX5 (by decide +kernel) rfl (Nat.le_of_ble_eq_true rfl) (fun h => by cases h) rfl (fun p e s mi args below meth c R fin hc hin hRm => ?_)
  unfold Se_put
  refine zJ.chk _ (fun h1 => ?_)
  refine z_aload_n hc dX5_put_0 0 rfl rfl ?_
  refine z_getI hc (ci := 5) (k := 3) (by decide) (by decide) zly5 h1 (zkC h1) wFX5_22 rfl dX5_put_1 ?_
  refine z_bipush (v := 8) hc dX5_put_4 rfl ?_
  refine z_icmp_lt (tgt := 11) hc dX5_put_6 (by decide) _ (fun h2 => ?_) (fun h2 => ?_)
  · refine z_aload_n hc dX5_put_11 0 rfl rfl ?_
    refine z_getR (x := (r0 + 1)) hc (ci := 5) (k := 0) (by decide) (by decide) zly5 h1 (zkC h1) wFX5_9 rfl dX5_put_12 (rfC_off (off := 1) h1 rfl (by decide)) (Nat.le_add_left_of_le (by decide)) ?_
    refine z_aload_n hc dX5_put_15 0 rfl rfl ?_
    refine z_getI hc (ci := 5) (k := 3) (by decide) (by decide) zly5 h1 (zkC h1) wFX5_22 rfl dX5_put_16 ?_
    refine z_iload_n hc dX5_put_19 1 rfl rfl ?_
    refine zJ.chk _ (fun h3 => ?_)
    refine z_iast (k := (ix (gI u r0 3))) hc (lyC_15_1 h1) (zkC (lyC_15_1 h1)) h3 rfl dX5_put_20 ?_
    refine zJ.letM (fun u1 e1 => ?_)
    refine z_aload_n hc dX5_put_21 0 rfl rfl ?_
    refine z_getR (x := (r0 + 2)) hc (ci := 5) (k := 1) (by decide) (by decide) zly5 h1 (zkC h1) wFX5_15 rfl dX5_put_22 (rfC_off (off := 2) h1 rfl (by decide)) (Nat.le_add_left_of_le (by decide)) ?_
    refine z_aload_n hc dX5_put_25 0 rfl rfl ?_
    refine z_getI hc (ci := 5) (k := 3) (by decide) (by decide) zly5 h1 (zkC h1) wFX5_22 rfl dX5_put_26 ?_
    refine z_iload_n hc dX5_put_29 2 rfl rfl ?_
    refine zJ.chk _ (fun h4 => ?_)
    refine z_iast (k := (ix (gI u1 r0 3))) hc (lyC_15_2 h1) (zkC (lyC_15_2 h1)) h4 rfl dX5_put_30 ?_
    refine zJ.letM (fun u2 e2 => ?_)
    refine z_aload_n hc dX5_put_31 0 rfl rfl ?_
    refine z_getR (x := (r0 + 3)) hc (ci := 5) (k := 2) (by decide) (by decide) zly5 h1 (zkC h1) wFX5_18 rfl dX5_put_32 (rfC_off (off := 3) h1 rfl (by decide)) (Nat.le_add_left_of_le (by decide)) ?_
    refine z_aload_n hc dX5_put_35 0 rfl rfl ?_
    refine z_getI hc (ci := 5) (k := 3) (by decide) (by decide) zly5 h1 (zkC h1) wFX5_22 rfl dX5_put_36 ?_
    refine z_iload_n hc dX5_put_39 3 rfl rfl ?_
    refine zJ.chk _ (fun h5 => ?_)
    refine z_zast (k := (ix (gI u2 r0 3))) hc (lyC_15_3 h1) (zkC (lyC_15_3 h1)) h5 rfl dX5_put_40 ?_
    refine zJ.letM (fun u3 e3 => ?_)
    refine z_aload_n hc dX5_put_41 0 rfl rfl ?_
    refine z_dup hc dX5_put_42 rfl ?_
    refine z_getI hc (ci := 5) (k := 3) (by decide) (by decide) zly5 h1 (zkC h1) wFX5_22 rfl dX5_put_43 ?_
    refine z_iconst (v := 1) hc dX5_put_46 rfl ?_
    refine z_iadd hc dX5_put_47 ?_
    refine z_putI hc (ci := 5) (k := 3) (by decide) (by decide) zly5 h1 (zkC h1) wFX5_22 rfl rfl rfl rfl dX5_put_48 ?_
    refine zJ.letM (fun u4 e4 => ?_)
    refine z_iconst (v := 1) hc dX5_put_51 rfl ?_
    exact z_zret hc rfl dX5_put_52
  · refine z_iconst (v := 0) hc dX5_put_9 rfl ?_
    exact z_zret hc rfl dX5_put_10
set_option maxRecDepth 100000 in
set_option maxHeartbeats 4000000 in
theorem sSs_sortOf : ∀ (u : zM) r m1, Ss_sortOf u = some (r, m1) → zMet l (wC D b) 1 22 yX6_sortOf cX6_sortOf 1 (some .int) [.ref 2] u (eI r) m1 := by
  intro u
  refine zMet.of (L := [(0, .ref 2)]) RX6 (by decide +kernel) rfl (Nat.le_of_ble_eq_true rfl) (fun h => by cases h) rfl (fun p e s mi args below meth c R fin hc hin hRm => ?_)
  unfold Ss_sortOf
  refine z_aload_n hc dX6_sortOf_0 0 rfl rfl ?_
  refine z_ldc2 (v := 6578553) hc wKX6_78 dX6_sortOf_1 ?_
  refine z_callV (av := [.long 6578553]) (enc' := eI) hc rfl (sTa_atWord 6578553 _) (ci := 8) (by decide) lC2 (zkC lC2) rfl wMX6_80 hpyX8_atWord hmyX8_atWord (rm_ok hRm (Nat.le_of_ble_eq_true rfl) (Nat.le_of_ble_eq_true rfl)) (Nat.le_of_ble_eq_true rfl) hRm.2.2 dX6_sortOf_4 (fun c1 u1 f1 => ?_)
  refine z_if_eq (tgt := 12) hc dX6_sortOf_7 (by decide) _ (fun h1 => ?_) (fun h1 => ?_)
  · refine z_aload_n hc dX6_sortOf_12 0 rfl rfl ?_
    refine z_ldc2 (v := 1952541541) hc wKX6_84 dX6_sortOf_13 ?_
    refine z_callV (av := [.long 1952541541]) (enc' := eI) hc rfl (sTa_atWord 1952541541 _) (ci := 8) (by decide) lC2 (zkC lC2) rfl wMX6_80 hpyX8_atWord hmyX8_atWord (rm_ok hRm (Nat.le_of_ble_eq_true rfl) (Nat.le_of_ble_eq_true rfl)) (Nat.le_of_ble_eq_true rfl) hRm.2.2 dX6_sortOf_16 (fun c2 u2 f2 => ?_)
    refine z_if_eq (tgt := 24) hc dX6_sortOf_19 (by decide) _ (fun h2 => ?_) (fun h2 => ?_)
    · refine z_aload_n hc dX6_sortOf_24 0 rfl rfl ?_
      refine z_ldc2 (v := 1937205613) hc wKX6_86 dX6_sortOf_25 ?_
      refine z_callV (av := [.long 1937205613]) (enc' := eI) hc rfl (sTa_atWord 1937205613 _) (ci := 8) (by decide) lC2 (zkC lC2) rfl wMX6_80 hpyX8_atWord hmyX8_atWord (rm_ok hRm (Nat.le_of_ble_eq_true rfl) (Nat.le_of_ble_eq_true rfl)) (Nat.le_of_ble_eq_true rfl) hRm.2.2 dX6_sortOf_28 (fun c3 u3 f3 => ?_)
      refine z_if_eq (tgt := 36) hc dX6_sortOf_31 (by decide) _ (fun h3 => ?_) (fun h3 => ?_)
      · refine z_aload_n hc dX6_sortOf_36 0 rfl rfl ?_
        refine z_ldc2 (v := 495623239269) hc wKX6_88 dX6_sortOf_37 ?_
        refine z_callV (av := [.long 495623239269]) (enc' := eI) hc rfl (sTa_atWord 495623239269 _) (ci := 8) (by decide) lC2 (zkC lC2) rfl wMX6_80 hpyX8_atWord hmyX8_atWord (rm_ok hRm (Nat.le_of_ble_eq_true rfl) (Nat.le_of_ble_eq_true rfl)) (Nat.le_of_ble_eq_true rfl) hRm.2.2 dX6_sortOf_40 (fun c4 u4 f4 => ?_)
        refine z_if_eq (tgt := 50) hc dX6_sortOf_43 (by decide) _ (fun h4 => ?_) (fun h4 => ?_)
        · refine z_iconst (v := (-1)) hc dX6_sortOf_50 rfl ?_
          exact z_iret hc dX6_sortOf_51
        · refine z_iconst (v := 3) hc dX6_sortOf_46 rfl ?_
          refine z_goto (tgt := 51) hc dX6_sortOf_47 (by decide) ?_
          exact z_iret hc dX6_sortOf_51
      · refine z_iconst (v := 2) hc dX6_sortOf_34 rfl ?_
        exact z_iret hc dX6_sortOf_35
    · refine z_iconst (v := 1) hc dX6_sortOf_22 rfl ?_
      exact z_iret hc dX6_sortOf_23
  · refine z_iconst (v := 0) hc dX6_sortOf_10 rfl ?_
    exact z_iret hc dX6_sortOf_11
set_option maxRecDepth 100000 in
set_option maxHeartbeats 4000000 in
theorem sSs_readLine_136 {fin : Unit × zM} (hc : zCx p s mi args meth c (wC D b) m0 RX6 cX6_readLine 4 none) (hRm : R.frames = 4 ∧ R.locals = 85 ∧ R.cells = zc (wC D b) m0 fin.2 ∧ R.slots = zs (wC D b) m0 fin.2) (r0 : Nat) (s0 : Nat) (s1 : Int32) (s3 : Nat) (u : zM) : zJ eV p l e R s mi args below meth c (wC D b) m0 4 fin 136 [(0, .ref r0), (1, .ref 2)] [.ref s3, .ref 2, .int s1, .ref s0] u (Ss_readLine_136 r0 s0 s1 s3 u) := by
  unfold Ss_readLine_136
  refine zJ.chk _ (fun h1 => ?_)
  refine zJ.chk _ (fun h2 => ?_)
  refine zJ.chk _ (fun h3 => ?_)
  refine z_callV (av := [.ref s3]) (enc' := eI) hc rfl (sTa_passTold s3 _) (ci := 8) (by decide) lC2 (zkC lC2) rfl wMX6_64 hpyX8_passTold hmyX8_passTold (rm_ok hRm (Nat.le_of_ble_eq_true rfl) (Nat.le_of_ble_eq_true rfl)) (Nat.le_of_ble_eq_true rfl) hRm.2.2 dX6_readLine_136 (fun c1 u1 f1 => ?_)
  refine zJ.chk _ (fun h4 => ?_)
  refine z_iast (k := (ix s1)) hc (lyC h2) (zkC (lyC h2)) h4 rfl dX6_readLine_139 ?_
  refine zJ.letM (fun u2 e1 => ?_)
  refine z_aload_n hc dX6_readLine_140 1 rfl rfl ?_
  refine z_bipush (v := 59) hc dX6_readLine_141 rfl ?_
  refine z_callV (av := [.int 59]) (enc' := eV) hc rfl (sTa_passSign 59 _) (ci := 8) (by decide) lC2 (zkC lC2) rfl wMX6_74 hpyX8_passSign hmyX8_passSign (rm_ok hRm (Nat.le_of_ble_eq_true rfl) (Nat.le_of_ble_eq_true rfl)) (Nat.le_of_ble_eq_true rfl) hRm.2.2 dX6_readLine_143 (fun c2 u3 f2 => ?_)
  refine z_aload_n hc dX6_readLine_146 0 rfl rfl ?_
  refine z_dup hc dX6_readLine_147 rfl ?_
  refine z_getI hc (ci := 6) (k := 3) (by decide) (by decide) zly6 h1 (zkC h1) wFX6_27 rfl dX6_readLine_148 ?_
  refine z_iconst (v := 1) hc dX6_readLine_151 rfl ?_
  refine z_iadd hc dX6_readLine_152 ?_
  refine z_putI hc (ci := 6) (k := 3) (by decide) (by decide) zly6 h1 (zkC h1) wFX6_27 rfl rfl rfl rfl dX6_readLine_153 ?_
  refine zJ.letM (fun u4 e2 => ?_)
  exact z_vret hc dX6_readLine_156
set_option maxRecDepth 100000 in
set_option maxHeartbeats 4000000 in
theorem sSs_readLine : ∀ (r0 : Nat) (r2 : Nat) (u : zM) r m1, Ss_readLine r0 r2 u = some (r, m1) → zMet l (wC D b) 4 85 yX6_readLine cX6_readLine 4 none [.ref r0, .ref 2, .ref r2] u (eV r) m1 := by
  intro r0 r2 u
  refine zMet.of (L := [(0, .ref r0), (1, .ref 2), (2, .ref r2)]) RX6 (by decide +kernel) rfl (Nat.le_of_ble_eq_true rfl) (fun h => by cases h) rfl (fun p e s mi args below meth c R fin hc hin hRm => ?_)
  unfold Ss_readLine
  refine zJ.chk _ (fun h1 => ?_)
  refine zJ.chk _ (fun h2 => ?_)
  refine z_aload_n hc dX6_readLine_0 1 rfl rfl ?_
  refine z_callS (av := [.ref 2]) (enc' := eI) hc rfl (sSs_sortOf _) wMX6_47 hpyX6_sortOf hmyX6_sortOf (rm_ok hRm (Nat.le_of_ble_eq_true rfl) (Nat.le_of_ble_eq_true rfl)) (Nat.le_of_ble_eq_true rfl) hRm.2.2 dX6_readLine_1 (fun c1 u1 f1 => ?_)
  refine z_istore_n (L' := [(3, .int c1), (0, .ref r0), (1, .ref 2), (2, .ref r2)]) hc dX6_readLine_4 rfl (by decide) rfl rfl ?_
  refine z_iload_n hc dX6_readLine_5 0 rfl rfl ?_
  refine z_iconst (v := (-1)) hc dX6_readLine_6 rfl ?_
  refine z_icmp_ne (tgt := 16) hc dX6_readLine_7 (by decide) _ (fun h3 => ?_) (fun h3 => ?_)
  · refine z_aload_n hc dX6_readLine_16 1 rfl rfl ?_
    refine z_getI hc (ci := 6) (k := 3) (by decide) (by decide) zly6 h1 (zkC h1) wFX6_27 rfl dX6_readLine_17 ?_
    refine z_bipush (v := 40) hc dX6_readLine_20 rfl ?_
    refine z_icmp_lt (tgt := 31) hc dX6_readLine_22 (by decide) _ (fun h4 => ?_) (fun h4 => ?_)
    · refine z_aload_n hc dX6_readLine_31 2 rfl rfl ?_
      refine z_callV (av := []) (enc' := eV) hc rfl (sTa_step _) (ci := 8) (by decide) lC2 (zkC lC2) rfl wMX6_55 hpyX8_step hmyX8_step (rm_ok hRm (Nat.le_of_ble_eq_true rfl) (Nat.le_of_ble_eq_true rfl)) (Nat.le_of_ble_eq_true rfl) hRm.2.2 dX6_readLine_32 (fun c2 u2 f2 => ?_)
      refine z_aload_n hc dX6_readLine_35 1 rfl rfl ?_
      refine z_getR (x := (r0 + 1)) hc (ci := 6) (k := 0) (by decide) (by decide) zly6 h1 (zkC h1) wFX6_9 rfl dX6_readLine_36 (rfC_off (off := 1) h1 rfl (by decide)) (Nat.le_add_left_of_le (by decide)) ?_
      refine z_aload_n hc dX6_readLine_39 1 rfl rfl ?_
      refine z_getI hc (ci := 6) (k := 3) (by decide) (by decide) zly6 h1 (zkC h1) wFX6_27 rfl dX6_readLine_40 ?_
      refine z_iload_n hc dX6_readLine_43 0 rfl rfl ?_
      refine zJ.chk _ (fun h5 => ?_)
      refine z_iast (k := (ix (gI u2 r0 3))) hc (lyC_16_1 h1) (zkC (lyC_16_1 h1)) h5 rfl dX6_readLine_44 ?_
      refine zJ.letM (fun u3 e1 => ?_)
      refine z_aload_n hc dX6_readLine_45 1 rfl rfl ?_
      refine z_getR (x := (r0 + 2)) hc (ci := 6) (k := 1) (by decide) (by decide) zly6 h1 (zkC h1) wFX6_15 rfl dX6_readLine_46 (rfC_off (off := 2) h1 rfl (by decide)) (Nat.le_add_left_of_le (by decide)) ?_
      refine z_aload_n hc dX6_readLine_49 1 rfl rfl ?_
      refine z_getI hc (ci := 6) (k := 3) (by decide) (by decide) zly6 h1 (zkC h1) wFX6_27 rfl dX6_readLine_50 ?_
      refine z_iconst (v := (-1)) hc dX6_readLine_53 rfl ?_
      refine zJ.chk _ (fun h6 => ?_)
      refine z_iast (k := (ix (gI u3 r0 3))) hc (lyC_16_2 h1) (zkC (lyC_16_2 h1)) h6 rfl dX6_readLine_54 ?_
      refine zJ.letM (fun u4 e2 => ?_)
      refine z_aload_n hc dX6_readLine_55 1 rfl rfl ?_
      refine z_getR (x := (r0 + 3)) hc (ci := 6) (k := 2) (by decide) (by decide) zly6 h1 (zkC h1) wFX6_18 rfl dX6_readLine_56 (rfC_off (off := 3) h1 rfl (by decide)) (Nat.le_add_left_of_le (by decide)) ?_
      refine z_aload_n hc dX6_readLine_59 1 rfl rfl ?_
      refine z_getI hc (ci := 6) (k := 3) (by decide) (by decide) zly6 h1 (zkC h1) wFX6_27 rfl dX6_readLine_60 ?_
      refine z_iconst (v := (-1)) hc dX6_readLine_63 rfl ?_
      refine zJ.chk _ (fun h7 => ?_)
      refine z_iast (k := (ix (gI u4 r0 3))) hc (lyC_16_3 h1) (zkC (lyC_16_3 h1)) h7 rfl dX6_readLine_64 ?_
      refine zJ.letM (fun u5 e3 => ?_)
      refine z_iload_n hc dX6_readLine_65 0 rfl rfl ?_
      refine z_iconst (v := 3) hc dX6_readLine_66 rfl ?_
      refine z_icmp_ne (tgt := 90) hc dX6_readLine_67 (by decide) _ (fun h8 => ?_) (fun h8 => ?_)
      · refine z_iload_n hc dX6_readLine_90 0 rfl rfl ?_
        refine z_if_eq (tgt := 140) hc dX6_readLine_91 (by decide) _ (fun h9 => ?_) (fun h9 => ?_)
        · refine z_aload_n hc dX6_readLine_140 2 rfl rfl ?_
          refine z_bipush (v := 59) hc dX6_readLine_141 rfl ?_
          refine z_callV (av := [.int 59]) (enc' := eV) hc rfl (sTa_passSign 59 _) (ci := 8) (by decide) lC2 (zkC lC2) rfl wMX6_74 hpyX8_passSign hmyX8_passSign (rm_ok hRm (Nat.le_of_ble_eq_true rfl) (Nat.le_of_ble_eq_true rfl)) (Nat.le_of_ble_eq_true rfl) hRm.2.2 dX6_readLine_143 (fun c3 u6 f3 => ?_)
          refine z_aload_n hc dX6_readLine_146 1 rfl rfl ?_
          refine z_dup hc dX6_readLine_147 rfl ?_
          refine z_getI hc (ci := 6) (k := 3) (by decide) (by decide) zly6 h1 (zkC h1) wFX6_27 rfl dX6_readLine_148 ?_
          refine z_iconst (v := 1) hc dX6_readLine_151 rfl ?_
          refine z_iadd hc dX6_readLine_152 ?_
          refine z_putI hc (ci := 6) (k := 3) (by decide) (by decide) zly6 h1 (zkC h1) wFX6_27 rfl rfl rfl rfl dX6_readLine_153 ?_
          refine zJ.letM (fun u7 e4 => ?_)
          exact z_vret hc dX6_readLine_156
        · refine z_aload_n hc dX6_readLine_94 1 rfl rfl ?_
          refine z_getR (x := (r0 + 2)) hc (ci := 6) (k := 1) (by decide) (by decide) zly6 h1 (zkC h1) wFX6_15 rfl dX6_readLine_95 (rfC_off (off := 2) h1 rfl (by decide)) (Nat.le_add_left_of_le (by decide)) ?_
          refine z_aload_n hc dX6_readLine_98 1 rfl rfl ?_
          refine z_getI hc (ci := 6) (k := 3) (by decide) (by decide) zly6 h1 (zkC h1) wFX6_27 rfl dX6_readLine_99 ?_
          refine z_aload_n hc dX6_readLine_102 2 rfl rfl ?_
          refine z_aload_n hc dX6_readLine_103 3 rfl rfl ?_
          refine z_getR (x := (r2 + 5)) hc (ci := 0) (k := 2) (by decide) (by decide) zly0 h2 (zkC h2) wFX6_68 rfl dX6_readLine_104 (rfC_off (off := 5) h2 rfl (by decide)) (Nat.le_add_left_of_le (by decide)) ?_
          refine z_callV (av := [.ref (r2 + 5)]) (enc' := eI) hc rfl (sTa_passTold (r2 + 5) _) (ci := 8) (by decide) lC2 (zkC lC2) rfl wMX6_64 hpyX8_passTold hmyX8_passTold (rm_ok hRm (Nat.le_of_ble_eq_true rfl) (Nat.le_of_ble_eq_true rfl)) (Nat.le_of_ble_eq_true rfl) hRm.2.2 dX6_readLine_107 (fun c4 u8 f4 => ?_)
          refine zJ.chk _ (fun h10 => ?_)
          refine z_iast (k := (ix (gI u5 r0 3))) hc (lyC_16_2 h1) (zkC (lyC_16_2 h1)) h10 rfl dX6_readLine_110 ?_
          refine zJ.letM (fun u9 e5 => ?_)
          refine z_aload_n hc dX6_readLine_111 1 rfl rfl ?_
          refine z_getR (x := (r0 + 3)) hc (ci := 6) (k := 2) (by decide) (by decide) zly6 h1 (zkC h1) wFX6_18 rfl dX6_readLine_112 (rfC_off (off := 3) h1 rfl (by decide)) (Nat.le_add_left_of_le (by decide)) ?_
          refine z_aload_n hc dX6_readLine_115 1 rfl rfl ?_
          refine z_getI hc (ci := 6) (k := 3) (by decide) (by decide) zly6 h1 (zkC h1) wFX6_27 rfl dX6_readLine_116 ?_
          refine z_aload_n hc dX6_readLine_119 2 rfl rfl ?_
          refine z_iload_n hc dX6_readLine_120 0 rfl rfl ?_
          refine z_iconst (v := 1) hc dX6_readLine_121 rfl ?_
          refine z_icmp_ne (tgt := 132) hc dX6_readLine_122 (by decide) _ (fun h11 => ?_) (fun h11 => ?_)
          · refine z_aload_n hc dX6_readLine_132 3 rfl rfl ?_
            refine z_getR (x := (r2 + 1)) hc (ci := 0) (k := 0) (by decide) (by decide) zly0 h2 (zkC h2) wFX6_71 rfl dX6_readLine_133 (rfC_off (off := 1) h2 rfl (by decide)) (Nat.le_add_left_of_le (by decide)) ?_
            refine zJ.sub (L' := [(0, .ref r0), (1, .ref 2)]) [1, 2] rfl ?_
            exact sSs_readLine_136 hc hRm r0 (r0 + 3) (gI u9 r0 3) (r2 + 1) _
          · refine z_aload_n hc dX6_readLine_125 3 rfl rfl ?_
            refine z_getR (x := (r2 + 7)) hc (ci := 0) (k := 3) (by decide) (by decide) zly0 h2 (zkC h2) wFX6_58 rfl dX6_readLine_126 (rfC_off (off := 7) h2 rfl (by decide)) (Nat.le_add_left_of_le (by decide)) ?_
            refine z_goto (tgt := 136) hc dX6_readLine_129 (by decide) ?_
            refine zJ.sub (L' := [(0, .ref r0), (1, .ref 2)]) [1, 2] rfl ?_
            exact sSs_readLine_136 hc hRm r0 (r0 + 3) (gI u9 r0 3) (r2 + 7) _
      · refine z_aload_n hc dX6_readLine_70 1 rfl rfl ?_
        refine z_getR (x := (r0 + 2)) hc (ci := 6) (k := 1) (by decide) (by decide) zly6 h1 (zkC h1) wFX6_15 rfl dX6_readLine_71 (rfC_off (off := 2) h1 rfl (by decide)) (Nat.le_add_left_of_le (by decide)) ?_
        refine z_aload_n hc dX6_readLine_74 1 rfl rfl ?_
        refine z_getI hc (ci := 6) (k := 3) (by decide) (by decide) zly6 h1 (zkC h1) wFX6_27 rfl dX6_readLine_75 ?_
        refine z_aload_n hc dX6_readLine_78 2 rfl rfl ?_
        refine z_aload_n hc dX6_readLine_79 3 rfl rfl ?_
        refine z_getR (x := (r2 + 7)) hc (ci := 0) (k := 3) (by decide) (by decide) zly0 h2 (zkC h2) wFX6_58 rfl dX6_readLine_80 (rfC_off (off := 7) h2 rfl (by decide)) (Nat.le_add_left_of_le (by decide)) ?_
        refine z_callV (av := [.ref (r2 + 7)]) (enc' := eI) hc rfl (sTa_passTold (r2 + 7) _) (ci := 8) (by decide) lC2 (zkC lC2) rfl wMX6_64 hpyX8_passTold hmyX8_passTold (rm_ok hRm (Nat.le_of_ble_eq_true rfl) (Nat.le_of_ble_eq_true rfl)) (Nat.le_of_ble_eq_true rfl) hRm.2.2 dX6_readLine_83 (fun c5 u10 f5 => ?_)
        refine zJ.chk _ (fun h12 => ?_)
        refine z_iast (k := (ix (gI u5 r0 3))) hc (lyC_16_2 h1) (zkC (lyC_16_2 h1)) h12 rfl dX6_readLine_86 ?_
        refine zJ.letM (fun u11 e6 => ?_)
        refine z_goto (tgt := 140) hc dX6_readLine_87 (by decide) ?_
        refine z_aload_n hc dX6_readLine_140 2 rfl rfl ?_
        refine z_bipush (v := 59) hc dX6_readLine_141 rfl ?_
        refine z_callV (av := [.int 59]) (enc' := eV) hc rfl (sTa_passSign 59 _) (ci := 8) (by decide) lC2 (zkC lC2) rfl wMX6_74 hpyX8_passSign hmyX8_passSign (rm_ok hRm (Nat.le_of_ble_eq_true rfl) (Nat.le_of_ble_eq_true rfl)) (Nat.le_of_ble_eq_true rfl) hRm.2.2 dX6_readLine_143 (fun c6 u12 f6 => ?_)
        refine z_aload_n hc dX6_readLine_146 1 rfl rfl ?_
        refine z_dup hc dX6_readLine_147 rfl ?_
        refine z_getI hc (ci := 6) (k := 3) (by decide) (by decide) zly6 h1 (zkC h1) wFX6_27 rfl dX6_readLine_148 ?_
        refine z_iconst (v := 1) hc dX6_readLine_151 rfl ?_
        refine z_iadd hc dX6_readLine_152 ?_
        refine z_putI hc (ci := 6) (k := 3) (by decide) (by decide) zly6 h1 (zkC h1) wFX6_27 rfl rfl rfl rfl dX6_readLine_153 ?_
        refine zJ.letM (fun u13 e7 => ?_)
        exact z_vret hc dX6_readLine_156
    · refine z_aload_n hc dX6_readLine_25 2 rfl rfl ?_
      refine z_iconst (v := 5) hc dX6_readLine_26 rfl ?_
      refine z_callV (av := [.int 5]) (enc' := eV) hc rfl (sTa_fail 5 _) (ci := 8) (by decide) lC2 (zkC lC2) rfl wMX6_51 hpyX8_fail hmyX8_fail (rm_ok hRm (Nat.le_of_ble_eq_true rfl) (Nat.le_of_ble_eq_true rfl)) (Nat.le_of_ble_eq_true rfl) hRm.2.2 dX6_readLine_27 (fun c7 u14 f7 => ?_)
      exact z_vret hc dX6_readLine_30
  · refine z_aload_n hc dX6_readLine_10 2 rfl rfl ?_
    refine z_iconst (v := 1) hc dX6_readLine_11 rfl ?_
    refine z_callV (av := [.int 1]) (enc' := eV) hc rfl (sTa_fail 1 _) (ci := 8) (by decide) lC2 (zkC lC2) rfl wMX6_51 hpyX8_fail hmyX8_fail (rm_ok hRm (Nat.le_of_ble_eq_true rfl) (Nat.le_of_ble_eq_true rfl)) (Nat.le_of_ble_eq_true rfl) hRm.2.2 dX6_readLine_12 (fun c8 u15 f8 => ?_)
    exact z_vret hc dX6_readLine_15
set_option maxRecDepth 100000 in
set_option maxHeartbeats 4000000 in
theorem sSs_read_11b {fin : Unit × zM} (hc : zCx p s mi args meth c (wC D b) m0 RX6 cX6_read 4 none) (hRm : R.frames = 5 ∧ R.locals = 108 ∧ R.cells = zc (wC D b) m0 fin.2 ∧ R.slots = zs (wC D b) m0 fin.2) {zr11 : Nat → Nat → Int32 → zM → Option (Unit × zM)} (hr11 : ∀ (r0 : Nat) (r2 : Nat) (v3 : Int32) (u : zM), zJ eV p l e R s mi args below meth c (wC D b) m0 4 fin 11 [(0, .ref r0), (1, .ref 2), (2, .ref r2), (3, .int v3)] [] u (zr11 r0 r2 v3 u)) (r0 : Nat) (r2 : Nat) (v3 : Int32) (u : zM) : zJ eV p l e R s mi args below meth c (wC D b) m0 4 fin 11 [(0, .ref r0), (1, .ref 2), (2, .ref r2), (3, .int v3)] [] u (Ss_read_11b zr11 r0 r2 v3 u) := by
  unfold Ss_read_11b
  refine zJ.chk _ (fun h1 => ?_)
  refine zJ.chk _ (fun h2 => ?_)
  refine z_iload_n hc dX6_read_11 3 rfl rfl ?_
  refine z_sipush (v := 1000) hc dX6_read_12 rfl ?_
  refine z_icmp_ge (tgt := 44) hc dX6_read_15 (by decide) _ (fun h3 => ?_) (fun h3 => ?_)
  · exact z_vret hc dX6_read_44
  · refine z_aload_n hc dX6_read_18 1 rfl rfl ?_
    refine z_callV (av := []) (enc' := eI) hc rfl (sTa_isFine _) (ci := 8) (by decide) lC2 (zkC lC2) rfl wMX6_36 hpyX8_isFine hmyX8_isFine (rm_ok hRm (Nat.le_of_ble_eq_true rfl) (Nat.le_of_ble_eq_true rfl)) (Nat.le_of_ble_eq_true rfl) hRm.2.2 dX6_read_19 (fun c1 u1 f1 => ?_)
    refine z_if_eq (tgt := 44) hc dX6_read_22 (by decide) _ (fun h4 => ?_) (fun h4 => ?_)
    · exact z_vret hc dX6_read_44
    · refine z_aload_n hc dX6_read_25 1 rfl rfl ?_
      refine z_getI hc (ci := 8) (k := 4) (by decide) (by decide) zly8 lC2 (zkC lC2) wFX6_40 rfl dX6_read_26 ?_
      refine z_if_eq (tgt := 44) hc dX6_read_29 (by decide) _ (fun h5 => ?_) (fun h5 => ?_)
      · exact z_vret hc dX6_read_44
      · refine z_aload_n hc dX6_read_32 0 rfl rfl ?_
        refine z_aload_n hc dX6_read_33 1 rfl rfl ?_
        refine z_aload_n hc dX6_read_34 2 rfl rfl ?_
        refine z_callV (av := [.ref 2, .ref r2]) (enc' := eV) hc rfl (sSs_readLine r0 r2 _) (ci := 6) (by decide) h1 (zkC h1) rfl wMX6_43 hpyX6_readLine hmyX6_readLine (rm_ok hRm (Nat.le_of_ble_eq_true rfl) (Nat.le_of_ble_eq_true rfl)) (Nat.le_of_ble_eq_true rfl) hRm.2.2 dX6_read_35 (fun c2 u2 f2 => ?_)
        refine z_iinc (L' := [(3, .int (v3 + 1)), (0, .ref r0), (1, .ref 2), (2, .ref r2)]) hc dX6_read_38 3 rfl (v := (v3 + 1)) rfl (by decide) rfl rfl ?_
        refine z_goto (tgt := 11) hc dX6_read_41 (by decide) ?_
        refine zJ.sub (L' := [(0, .ref r0), (1, .ref 2), (2, .ref r2), (3, .int (v3 + 1))]) [1, 2, 3, 0] rfl ?_
        exact hr11 r0 r2 (v3 + 1) _
set_option maxRecDepth 100000 in
set_option maxHeartbeats 4000000 in
theorem sSs_read_11 {fin : Unit × zM} (hc : zCx p s mi args meth c (wC D b) m0 RX6 cX6_read 4 none) (hRm : R.frames = 5 ∧ R.locals = 108 ∧ R.cells = zc (wC D b) m0 fin.2 ∧ R.slots = zs (wC D b) m0 fin.2) : ∀ (zf : Nat) (r0 : Nat) (r2 : Nat) (v3 : Int32) (u : zM), zJ eV p l e R s mi args below meth c (wC D b) m0 4 fin 11 [(0, .ref r0), (1, .ref 2), (2, .ref r2), (3, .int v3)] [] u (Ss_read_11 zf r0 r2 v3 u) := by
  intro zf
  induction zf with
  | zero => intro r0 r2 v3 u; exact zJ.nil
  | succ zf ih => intro r0 r2 v3 u; exact sSs_read_11b hc hRm ih r0 r2 v3 u
set_option maxRecDepth 100000 in
set_option maxHeartbeats 4000000 in
theorem sSs_read : ∀ (r0 : Nat) (r2 : Nat) (u : zM) r m1, Ss_read r0 r2 u = some (r, m1) → zMet l (wC D b) 5 108 yX6_read cX6_read 4 none [.ref r0, .ref 2, .ref r2] u (eV r) m1 := by
  intro r0 r2 u
  refine zMet.of (L := [(0, .ref r0), (1, .ref 2), (2, .ref r2)]) RX6 (by decide +kernel) rfl (Nat.le_of_ble_eq_true rfl) (fun h => by cases h) rfl (fun p e s mi args below meth c R fin hc hin hRm => ?_)
  unfold Ss_read
  refine zJ.chk _ (fun h1 => ?_)
  refine zJ.chk _ (fun h2 => ?_)
  refine z_aload_n hc dX6_read_0 0 rfl rfl ?_
  refine z_iconst (v := 0) hc dX6_read_1 rfl ?_
  refine z_putI hc (ci := 6) (k := 3) (by decide) (by decide) zly6 h1 (zkC h1) wFX6_27 rfl rfl rfl rfl dX6_read_2 ?_
  refine zJ.letM (fun u1 e1 => ?_)
  refine z_aload_n hc dX6_read_5 1 rfl rfl ?_
  refine z_callV (av := []) (enc' := eV) hc rfl (sTa_begin _) (ci := 8) (by decide) lC2 (zkC lC2) rfl wMX6_31 hpyX8_begin hmyX8_begin (rm_ok hRm (Nat.le_of_ble_eq_true rfl) (Nat.le_of_ble_eq_true rfl)) (Nat.le_of_ble_eq_true rfl) hRm.2.2 dX6_read_6 (fun c1 u2 f1 => ?_)
  refine z_iconst (v := 0) hc dX6_read_9 rfl ?_
  refine z_istore_n (L' := [(3, .int 0), (0, .ref r0), (1, .ref 2), (2, .ref r2)]) hc dX6_read_10 rfl (by decide) rfl rfl ?_
  refine zJ.sub (L' := [(0, .ref r0), (1, .ref 2), (2, .ref r2), (3, .int 0)]) [1, 2, 3, 0] rfl ?_
  exact sSs_read_11 hc hRm zF r0 r2 0 _
set_option maxRecDepth 100000 in
set_option maxHeartbeats 4000000 in
theorem sSt_begin_49b {fin : Unit × zM} (hc : zCx p s mi args meth c (wC D b) m0 RX7 cX7_begin 3 none) (hRm : R.frames = 1 ∧ R.locals = 100 ∧ R.cells = zc (wC D b) m0 fin.2 ∧ R.slots = zs (wC D b) m0 fin.2) {zr49 : Nat → Int32 → zM → Option (Unit × zM)} (hr49 : ∀ (r0 : Nat) (v2 : Int32) (u : zM), zJ eV p l e R s mi args below meth c (wC D b) m0 3 fin 49 [(0, .ref r0), (2, .int v2)] [] u (zr49 r0 v2 u)) (r0 : Nat) (v2 : Int32) (u : zM) : zJ eV p l e R s mi args below meth c (wC D b) m0 3 fin 49 [(0, .ref r0), (2, .int v2)] [] u (St_begin_49b zr49 r0 v2 u) := by
  unfold St_begin_49b
  refine zJ.chk _ (fun h1 => ?_)
  refine z_iload_n hc dX7_begin_49 1 rfl rfl ?_
  refine z_bipush (v := 6) hc dX7_begin_50 rfl ?_
  refine z_icmp_ge (tgt := 68) hc dX7_begin_52 (by decide) _ (fun h2 => ?_) (fun h2 => ?_)
  · refine z_aload_n hc dX7_begin_68 0 rfl rfl ?_
    refine z_iconst (v := 0) hc dX7_begin_69 rfl ?_
    refine z_putI hc (ci := 7) (k := 5) (by decide) (by decide) zly7 h1 (zkC h1) wFX7_45 rfl rfl rfl rfl dX7_begin_70 ?_
    refine zJ.letM (fun u1 e1 => ?_)
    exact z_vret hc dX7_begin_73
  · refine z_aload_n hc dX7_begin_55 0 rfl rfl ?_
    refine z_getR (x := (r0 + 5)) hc (ci := 7) (k := 4) (by decide) (by decide) zly7 h1 (zkC h1) wFX7_24 rfl dX7_begin_56 (rfC_off (off := 5) h1 rfl (by decide)) (Nat.le_add_left_of_le (by decide)) ?_
    refine z_iload_n hc dX7_begin_59 1 rfl rfl ?_
    refine z_iconst (v := (-1)) hc dX7_begin_60 rfl ?_
    refine zJ.chk _ (fun h3 => ?_)
    refine z_iast (k := (ix v2)) hc (lyC_17_5 h1) (zkC (lyC_17_5 h1)) h3 rfl dX7_begin_61 ?_
    refine zJ.letM (fun u2 e2 => ?_)
    refine z_iinc (L' := [(2, .int (v2 + 1)), (0, .ref r0)]) hc dX7_begin_62 1 rfl (v := (v2 + 1)) rfl (by decide) rfl rfl ?_
    refine z_goto (tgt := 49) hc dX7_begin_65 (by decide) ?_
    refine zJ.sub (L' := [(0, .ref r0), (2, .int (v2 + 1))]) [1, 0] rfl ?_
    exact hr49 r0 (v2 + 1) _
set_option maxRecDepth 100000 in
set_option maxHeartbeats 4000000 in
theorem sSt_begin_49 {fin : Unit × zM} (hc : zCx p s mi args meth c (wC D b) m0 RX7 cX7_begin 3 none) (hRm : R.frames = 1 ∧ R.locals = 100 ∧ R.cells = zc (wC D b) m0 fin.2 ∧ R.slots = zs (wC D b) m0 fin.2) : ∀ (zf : Nat) (r0 : Nat) (v2 : Int32) (u : zM), zJ eV p l e R s mi args below meth c (wC D b) m0 3 fin 49 [(0, .ref r0), (2, .int v2)] [] u (St_begin_49 zf r0 v2 u) := by
  intro zf
  induction zf with
  | zero => intro r0 v2 u; exact zJ.nil
  | succ zf ih => intro r0 v2 u; exact sSt_begin_49b hc hRm ih r0 v2 u
set_option maxRecDepth 100000 in
set_option maxHeartbeats 4000000 in
theorem sSt_begin : ∀ (r0 : Nat) (r1 : Nat) (u : zM) r m1, St_begin r0 r1 u = some (r, m1) → zMet l (wC D b) 1 100 yX7_begin cX7_begin 3 none [.ref r0, .ref r1] u (eV r) m1 := by
  intro r0 r1 u
  refine zMet.of (L := [(0, .ref r0), (1, .ref r1)]) RX7 (by decide +kernel) rfl (Nat.le_of_ble_eq_true rfl) (fun h => by cases h) rfl (fun p e s mi args below meth c R fin hc hin hRm => ?_)
  unfold St_begin
  refine zJ.chk _ (fun h1 => ?_)
  refine zJ.chk _ (fun h2 => ?_)
  refine z_aload_n hc dX7_begin_0 1 rfl rfl ?_
  refine z_getR (x := (r1 + 9)) hc (ci := 0) (k := 4) (by decide) (by decide) zly0 h2 (zkC h2) wFX7_27 rfl dX7_begin_1 (rfC_off (off := 9) h2 rfl (by decide)) (Nat.le_add_left_of_le (by decide)) ?_
  refine z_iconst (v := 0) hc dX7_begin_4 rfl ?_
  refine z_aload_n hc dX7_begin_5 0 rfl rfl ?_
  refine z_getR (x := (r0 + 1)) hc (ci := 7) (k := 0) (by decide) (by decide) zly7 h1 (zkC h1) wFX7_9 rfl dX7_begin_6 (rfC_off (off := 1) h1 rfl (by decide)) (Nat.le_add_left_of_le (by decide)) ?_
  refine z_iconst (v := 0) hc dX7_begin_9 rfl ?_
  refine z_bipush (v := 7) hc dX7_begin_10 rfl ?_
  refine z_copy (i := 0) (j := 0) (k := 7) hc (lyC_10_9 h2) (lyC_17_1 h1) (zkC (lyC_10_9 h2)) (zkC (lyC_17_1 h1)) rfl rfl (by decide) rfl rfl rfl (by decide) (by decide) wAX7_30 wAnat wAst wAin (rm_ok hRm (Nat.le_of_ble_eq_true rfl) (Nat.le_of_ble_eq_true rfl)) (Nat.le_of_ble_eq_true rfl) dX7_begin_12 ?_
  refine zJ.letM (fun u1 e1 => ?_)
  refine z_aload_n hc dX7_begin_15 1 rfl rfl ?_
  refine z_getR (x := (r1 + 12)) hc (ci := 0) (k := 7) (by decide) (by decide) zly0 h2 (zkC h2) wFX7_36 rfl dX7_begin_16 (rfC_off (off := 12) h2 rfl (by decide)) (Nat.le_add_left_of_le (by decide)) ?_
  refine z_iconst (v := 0) hc dX7_begin_19 rfl ?_
  refine z_aload_n hc dX7_begin_20 0 rfl rfl ?_
  refine z_getR (x := (r0 + 2)) hc (ci := 7) (k := 1) (by decide) (by decide) zly7 h1 (zkC h1) wFX7_15 rfl dX7_begin_21 (rfC_off (off := 2) h1 rfl (by decide)) (Nat.le_add_left_of_le (by decide)) ?_
  refine z_iconst (v := 0) hc dX7_begin_24 rfl ?_
  refine z_iconst (v := 5) hc dX7_begin_25 rfl ?_
  refine z_copy (i := 0) (j := 0) (k := 5) hc (lyC_10_12 h2) (lyC_17_2 h1) (zkC (lyC_10_12 h2)) (zkC (lyC_17_2 h1)) rfl rfl (by decide) rfl rfl rfl (by decide) (by decide) wAX7_30 wAnat wAst wAin (rm_ok hRm (Nat.le_of_ble_eq_true rfl) (Nat.le_of_ble_eq_true rfl)) (Nat.le_of_ble_eq_true rfl) dX7_begin_26 ?_
  refine zJ.letM (fun u2 e2 => ?_)
  refine z_aload_n hc dX7_begin_29 1 rfl rfl ?_
  refine z_getR (x := (r1 + 13)) hc (ci := 0) (k := 8) (by decide) (by decide) zly0 h2 (zkC h2) wFX7_39 rfl dX7_begin_30 (rfC_off (off := 13) h2 rfl (by decide)) (Nat.le_add_left_of_le (by decide)) ?_
  refine z_iconst (v := 0) hc dX7_begin_33 rfl ?_
  refine z_aload_n hc dX7_begin_34 0 rfl rfl ?_
  refine z_getR (x := (r0 + 3)) hc (ci := 7) (k := 2) (by decide) (by decide) zly7 h1 (zkC h1) wFX7_18 rfl dX7_begin_35 (rfC_off (off := 3) h1 rfl (by decide)) (Nat.le_add_left_of_le (by decide)) ?_
  refine z_iconst (v := 0) hc dX7_begin_38 rfl ?_
  refine z_iconst (v := 3) hc dX7_begin_39 rfl ?_
  refine z_copy (i := 0) (j := 0) (k := 3) hc (lyC_10_13 h2) (lyC_17_3 h1) (zkC (lyC_10_13 h2)) (zkC (lyC_17_3 h1)) rfl rfl (by decide) rfl rfl rfl (by decide) (by decide) wAX7_30 wAnat wAst wAin (rm_ok hRm (Nat.le_of_ble_eq_true rfl) (Nat.le_of_ble_eq_true rfl)) (Nat.le_of_ble_eq_true rfl) dX7_begin_40 ?_
  refine zJ.letM (fun u3 e3 => ?_)
  refine z_aload_n hc dX7_begin_43 0 rfl rfl ?_
  refine z_callV (av := []) (enc' := eV) hc rfl (sSt_rest r0 _) (ci := 7) (by decide) h1 (zkC h1) rfl wMX7_42 hpyX7_rest hmyX7_rest (rm_ok hRm (Nat.le_of_ble_eq_true rfl) (Nat.le_of_ble_eq_true rfl)) (Nat.le_of_ble_eq_true rfl) hRm.2.2 dX7_begin_44 (fun c1 u4 f1 => ?_)
  refine z_iconst (v := 0) hc dX7_begin_47 rfl ?_
  refine z_istore_n (L' := [(2, .int 0), (0, .ref r0), (1, .ref r1)]) hc dX7_begin_48 rfl (by decide) rfl rfl ?_
  refine zJ.sub (L' := [(0, .ref r0), (2, .int 0)]) [1, 0] rfl ?_
  exact sSt_begin_49 hc hRm zF r0 0 _
set_option maxRecDepth 100000 in
set_option maxHeartbeats 4000000 in
theorem sOW_within : ∀ (v0 : Int32) (v1 : Int32) (v2 : Int32) (u : zM) r m1, OW_within v0 v1 v2 u = some (r, m1) → zMet l (wC D b) 0 0 yX9_within cX9_within 3 (some .boolean) [.int v0, .int v1, .int v2] u (eI r) m1 := by
  intro v0 v1 v2 u
  refine zMet.of (L := [(0, .int v0), (1, .int v1), (2, .int v2)]) RX9 (by decide +kernel) rfl (Nat.le_of_ble_eq_true rfl) (fun h => by cases h) rfl (fun p e s mi args below meth c R fin hc hin hRm => ?_)
  unfold OW_within
  refine z_iload_n hc dX9_within_0 0 rfl rfl ?_
  refine z_iload_n hc dX9_within_1 1 rfl rfl ?_
  refine z_icmp_lt (tgt := 14) hc dX9_within_2 (by decide) _ (fun h1 => ?_) (fun h1 => ?_)
  · refine z_iconst (v := 0) hc dX9_within_14 rfl ?_
    exact z_zret hc rfl dX9_within_15
  · refine z_iload_n hc dX9_within_5 0 rfl rfl ?_
    refine z_iload_n hc dX9_within_6 2 rfl rfl ?_
    refine z_icmp_gt (tgt := 14) hc dX9_within_7 (by decide) _ (fun h2 => ?_) (fun h2 => ?_)
    · refine z_iconst (v := 0) hc dX9_within_14 rfl ?_
      exact z_zret hc rfl dX9_within_15
    · refine z_iconst (v := 1) hc dX9_within_10 rfl ?_
      refine z_goto (tgt := 15) hc dX9_within_11 (by decide) ?_
      exact z_zret hc rfl dX9_within_15
set_option maxRecDepth 100000 in
set_option maxHeartbeats 4000000 in
theorem sOW_bitsOf_5b {fin : Int32 × zM} (hc : zCx p s mi args meth c (wC D b) m0 RX9 cX9_bitsOf 5 (some .int)) (hRm : R.frames = 0 ∧ R.locals = 0 ∧ R.cells = zc (wC D b) m0 fin.2 ∧ R.slots = zs (wC D b) m0 fin.2) {zr5 : Nat → Int32 → Int32 → Int32 → Int32 → zM → Option (Int32 × zM)} (hr5 : ∀ (r0 : Nat) (v1 : Int32) (v2 : Int32) (v3 : Int32) (v4 : Int32) (u : zM), zJ eI p l e R s mi args below meth c (wC D b) m0 5 fin 5 [(0, .ref r0), (1, .int v1), (2, .int v2), (3, .int v3), (4, .int v4)] [] u (zr5 r0 v1 v2 v3 v4 u)) (r0 : Nat) (v1 : Int32) (v2 : Int32) (v3 : Int32) (v4 : Int32) (u : zM) : zJ eI p l e R s mi args below meth c (wC D b) m0 5 fin 5 [(0, .ref r0), (1, .int v1), (2, .int v2), (3, .int v3), (4, .int v4)] [] u (OW_bitsOf_5b zr5 r0 v1 v2 v3 v4 u) := by
  unfold OW_bitsOf_5b
  refine zJ.chk _ (fun h1 => ?_)
  refine z_iload hc dX9_bitsOf_5 4 rfl ?_
  refine z_iload_n hc dX9_bitsOf_7 1 rfl rfl ?_
  refine z_icmp_ge (tgt := 39) hc dX9_bitsOf_8 (by decide) _ (fun h2 => ?_) (fun h2 => ?_)
  · refine z_iload_n hc dX9_bitsOf_39 3 rfl rfl ?_
    exact z_iret hc dX9_bitsOf_40
  · refine z_iload hc dX9_bitsOf_11 4 rfl ?_
    refine z_aload_n hc dX9_bitsOf_13 0 rfl rfl ?_
    refine z_alen (v := (Nat.toInt32 ((layC r0).2))) hc (lyC h1) (by decide) (zkC (lyC h1)) rfl dX9_bitsOf_14 ?_
    refine z_icmp_ge (tgt := 39) hc dX9_bitsOf_15 (by decide) _ (fun h3 => ?_) (fun h3 => ?_)
    · refine z_iload_n hc dX9_bitsOf_39 3 rfl rfl ?_
      exact z_iret hc dX9_bitsOf_40
    · refine z_aload_n hc dX9_bitsOf_18 0 rfl rfl ?_
      refine z_iload hc dX9_bitsOf_19 4 rfl ?_
      refine zJ.chk _ (fun h4 => ?_)
      refine z_iald (k := (ix v4)) hc (lyC h1) (zkC (lyC h1)) h4 rfl dX9_bitsOf_21 ?_
      refine z_iload_n hc dX9_bitsOf_22 2 rfl rfl ?_
      refine z_icmp_ne (tgt := 33) hc dX9_bitsOf_23 (by decide) _ (fun h5 => ?_) (fun h5 => ?_)
      · refine z_iinc (L' := [(4, .int (v4 + 1)), (0, .ref r0), (1, .int v1), (2, .int v2), (3, .int v3)]) hc dX9_bitsOf_33 4 rfl (v := (v4 + 1)) rfl (by decide) rfl rfl ?_
        refine z_goto (tgt := 5) hc dX9_bitsOf_36 (by decide) ?_
        refine zJ.sub (L' := [(0, .ref r0), (1, .int v1), (2, .int v2), (3, .int v3), (4, .int (v4 + 1))]) [1, 2, 3, 4, 0] rfl ?_
        exact hr5 r0 v1 v2 v3 (v4 + 1) _
      · refine z_iload_n hc dX9_bitsOf_26 3 rfl rfl ?_
        refine z_iconst (v := 1) hc dX9_bitsOf_27 rfl ?_
        refine z_iload hc dX9_bitsOf_28 4 rfl ?_
        refine z_ishl hc dX9_bitsOf_30 ?_
        refine z_ior hc dX9_bitsOf_31 ?_
        refine zJ.letI (fun x1 e1 => ?_)
        refine z_istore_n (L' := [(3, .int x1), (0, .ref r0), (1, .int v1), (2, .int v2), (4, .int v4)]) hc dX9_bitsOf_32 rfl (by decide) rfl rfl ?_
        refine z_iinc (L' := [(4, .int (v4 + 1)), (3, .int x1), (0, .ref r0), (1, .int v1), (2, .int v2)]) hc dX9_bitsOf_33 4 rfl (v := (v4 + 1)) rfl (by decide) rfl rfl ?_
        refine z_goto (tgt := 5) hc dX9_bitsOf_36 (by decide) ?_
        refine zJ.sub (L' := [(0, .ref r0), (1, .int v1), (2, .int v2), (3, .int x1), (4, .int (v4 + 1))]) [2, 3, 4, 1, 0] rfl ?_
        exact hr5 r0 v1 v2 x1 (v4 + 1) _
set_option maxRecDepth 100000 in
set_option maxHeartbeats 4000000 in
theorem sOW_bitsOf_5 {fin : Int32 × zM} (hc : zCx p s mi args meth c (wC D b) m0 RX9 cX9_bitsOf 5 (some .int)) (hRm : R.frames = 0 ∧ R.locals = 0 ∧ R.cells = zc (wC D b) m0 fin.2 ∧ R.slots = zs (wC D b) m0 fin.2) : ∀ (zf : Nat) (r0 : Nat) (v1 : Int32) (v2 : Int32) (v3 : Int32) (v4 : Int32) (u : zM), zJ eI p l e R s mi args below meth c (wC D b) m0 5 fin 5 [(0, .ref r0), (1, .int v1), (2, .int v2), (3, .int v3), (4, .int v4)] [] u (OW_bitsOf_5 zf r0 v1 v2 v3 v4 u) := by
  intro zf
  induction zf with
  | zero => intro r0 v1 v2 v3 v4 u; exact zJ.nil
  | succ zf ih => intro r0 v1 v2 v3 v4 u; exact sOW_bitsOf_5b hc hRm ih r0 v1 v2 v3 v4 u
set_option maxRecDepth 100000 in
set_option maxHeartbeats 4000000 in
theorem sOW_bitsOf : ∀ (r0 : Nat) (v1 : Int32) (v2 : Int32) (u : zM) r m1, OW_bitsOf r0 v1 v2 u = some (r, m1) → zMet l (wC D b) 0 0 yX9_bitsOf cX9_bitsOf 5 (some .int) [.ref r0, .int v1, .int v2] u (eI r) m1 := by
  intro r0 v1 v2 u
  refine zMet.of (L := [(0, .ref r0), (1, .int v1), (2, .int v2)]) RX9 (by decide +kernel) rfl (Nat.le_of_ble_eq_true rfl) (fun h => by cases h) rfl (fun p e s mi args below meth c R fin hc hin hRm => ?_)
  unfold OW_bitsOf
  refine zJ.chk _ (fun h1 => ?_)
  refine z_iconst (v := 0) hc dX9_bitsOf_0 rfl ?_
  refine z_istore_n (L' := [(3, .int 0), (0, .ref r0), (1, .int v1), (2, .int v2)]) hc dX9_bitsOf_1 rfl (by decide) rfl rfl ?_
  refine z_iconst (v := 0) hc dX9_bitsOf_2 rfl ?_
  refine z_istore (L' := [(4, .int 0), (3, .int 0), (0, .ref r0), (1, .int v1), (2, .int v2)]) hc dX9_bitsOf_3 (by decide) rfl rfl ?_
  refine zJ.sub (L' := [(0, .ref r0), (1, .int v1), (2, .int v2), (3, .int 0), (4, .int 0)]) [2, 3, 4, 1, 0] rfl ?_
  exact sOW_bitsOf_5 hc hRm zF r0 v1 v2 0 0 _
set_option maxRecDepth 100000 in
set_option maxHeartbeats 4000000 in
theorem sSt_mayTake : ∀ (r0 : Nat) (r1 : Nat) (v2 : Int32) (v3 : Int32) (u : zM) r m1, St_mayTake r0 r1 v2 v3 u = some (r, m1) → zMet l (wC D b) 1 24 yX7_mayTake cX7_mayTake 4 (some .boolean) [.ref r0, .ref r1, .int v2, .int v3] u (eI r) m1 := by
  intro r0 r1 v2 v3 u
  refine zMet.of (L := [(0, .ref r0), (1, .ref r1), (2, .int v2), (3, .int v3)]) RX7 (by decide +kernel) rfl (Nat.le_of_ble_eq_true rfl) (fun h => by cases h) rfl (fun p e s mi args below meth c R fin hc hin hRm => ?_)
  unfold St_mayTake
  refine zJ.chk _ (fun h1 => ?_)
  refine zJ.chk _ (fun h2 => ?_)
  refine z_iload_n hc dX7_mayTake_0 2 rfl rfl ?_
  refine z_iconst (v := 0) hc dX7_mayTake_1 rfl ?_
  refine z_aload_n hc dX7_mayTake_2 1 rfl rfl ?_
  refine z_getR (x := (r1 + 5)) hc (ci := 0) (k := 2) (by decide) (by decide) zly0 h2 (zkC h2) wFX7_49 rfl dX7_mayTake_3 (rfC_off (off := 5) h2 rfl (by decide)) (Nat.le_add_left_of_le (by decide)) ?_
  refine z_getI hc (ci := 3) (k := 1) (by decide) (by decide) zly3 (lyC_10_5 h2) (zkC (lyC_10_5 h2)) wFX7_53 rfl dX7_mayTake_6 ?_
  refine z_iconst (v := 1) hc dX7_mayTake_9 rfl ?_
  refine z_isub hc dX7_mayTake_10 ?_
  refine z_callSN (av := [.int v2, .int 0, .int ((gI u (r1 + 5) 1) - 1)]) (enc' := eI) hc rfl (sOW_within v2 0 ((gI u (r1 + 5) 1) - 1) _) (host := "OtterWrits") (by decide +kernel) wMX7_58 hpyX9_within hmyX9_within (rm_ok hRm (Nat.le_of_ble_eq_true rfl) (Nat.le_of_ble_eq_true rfl)) (Nat.le_of_ble_eq_true rfl) hRm.2.2 dX7_mayTake_11 (fun c1 u1 f1 => ?_)
  refine z_if_eq (tgt := 79) hc dX7_mayTake_14 (by decide) _ (fun h3 => ?_) (fun h3 => ?_)
  · refine z_iconst (v := 0) hc dX7_mayTake_79 rfl ?_
    exact z_zret hc rfl dX7_mayTake_80
  · refine z_iload_n hc dX7_mayTake_17 3 rfl rfl ?_
    refine z_iconst (v := 0) hc dX7_mayTake_18 rfl ?_
    refine z_aload_n hc dX7_mayTake_19 1 rfl rfl ?_
    refine z_getR (x := (r1 + 7)) hc (ci := 0) (k := 3) (by decide) (by decide) zly0 h2 (zkC h2) wFX7_62 rfl dX7_mayTake_20 (rfC_off (off := 7) h2 rfl (by decide)) (Nat.le_add_left_of_le (by decide)) ?_
    refine z_getI hc (ci := 3) (k := 1) (by decide) (by decide) zly3 (lyC_10_7 h2) (zkC (lyC_10_7 h2)) wFX7_53 rfl dX7_mayTake_23 ?_
    refine z_iconst (v := 1) hc dX7_mayTake_26 rfl ?_
    refine z_isub hc dX7_mayTake_27 ?_
    refine z_callSN (av := [.int v3, .int 0, .int ((gI u1 (r1 + 7) 1) - 1)]) (enc' := eI) hc rfl (sOW_within v3 0 ((gI u1 (r1 + 7) 1) - 1) _) (host := "OtterWrits") (by decide +kernel) wMX7_58 hpyX9_within hmyX9_within (rm_ok hRm (Nat.le_of_ble_eq_true rfl) (Nat.le_of_ble_eq_true rfl)) (Nat.le_of_ble_eq_true rfl) hRm.2.2 dX7_mayTake_28 (fun c2 u2 f2 => ?_)
    refine z_if_eq (tgt := 79) hc dX7_mayTake_31 (by decide) _ (fun h4 => ?_) (fun h4 => ?_)
    · refine z_iconst (v := 0) hc dX7_mayTake_79 rfl ?_
      exact z_zret hc rfl dX7_mayTake_80
    · refine z_aload_n hc dX7_mayTake_34 0 rfl rfl ?_
      refine z_getR (x := (r0 + 3)) hc (ci := 7) (k := 2) (by decide) (by decide) zly7 h1 (zkC h1) wFX7_18 rfl dX7_mayTake_35 (rfC_off (off := 3) h1 rfl (by decide)) (Nat.le_add_left_of_le (by decide)) ?_
      refine z_iload_n hc dX7_mayTake_38 2 rfl rfl ?_
      refine zJ.chk _ (fun h5 => ?_)
      refine z_iald (k := (ix v2)) hc (lyC_17_3 h1) (zkC (lyC_17_3 h1)) h5 rfl dX7_mayTake_39 ?_
      refine z_if_ne (tgt := 79) hc dX7_mayTake_40 (by decide) _ (fun h6 => ?_) (fun h6 => ?_)
      · refine z_iconst (v := 0) hc dX7_mayTake_79 rfl ?_
        exact z_zret hc rfl dX7_mayTake_80
      · refine z_aload_n hc dX7_mayTake_43 0 rfl rfl ?_
        refine z_getR (x := (r0 + 5)) hc (ci := 7) (k := 4) (by decide) (by decide) zly7 h1 (zkC h1) wFX7_24 rfl dX7_mayTake_44 (rfC_off (off := 5) h1 rfl (by decide)) (Nat.le_add_left_of_le (by decide)) ?_
        refine z_iload_n hc dX7_mayTake_47 3 rfl rfl ?_
        refine zJ.chk _ (fun h7 => ?_)
        refine z_iald (k := (ix v3)) hc (lyC_17_5 h1) (zkC (lyC_17_5 h1)) h7 rfl dX7_mayTake_48 ?_
        refine z_iconst (v := (-1)) hc dX7_mayTake_49 rfl ?_
        refine z_icmp_ne (tgt := 79) hc dX7_mayTake_50 (by decide) _ (fun h8 => ?_) (fun h8 => ?_)
        · refine z_iconst (v := 0) hc dX7_mayTake_79 rfl ?_
          exact z_zret hc rfl dX7_mayTake_80
        · refine z_aload_n hc dX7_mayTake_53 0 rfl rfl ?_
          refine z_getR (x := (r0 + 5)) hc (ci := 7) (k := 4) (by decide) (by decide) zly7 h1 (zkC h1) wFX7_24 rfl dX7_mayTake_54 (rfC_off (off := 5) h1 rfl (by decide)) (Nat.le_add_left_of_le (by decide)) ?_
          refine z_aload_n hc dX7_mayTake_57 1 rfl rfl ?_
          refine z_getR (x := (r1 + 7)) hc (ci := 0) (k := 3) (by decide) (by decide) zly0 h2 (zkC h2) wFX7_62 rfl dX7_mayTake_58 (rfC_off (off := 7) h2 rfl (by decide)) (Nat.le_add_left_of_le (by decide)) ?_
          refine z_getI hc (ci := 3) (k := 1) (by decide) (by decide) zly3 (lyC_10_7 h2) (zkC (lyC_10_7 h2)) wFX7_53 rfl dX7_mayTake_61 ?_
          refine z_iload_n hc dX7_mayTake_64 2 rfl rfl ?_
          refine z_callSN (av := [.ref (r0 + 5), .int (gI u2 (r1 + 7) 1), .int v2]) (enc' := eI) hc rfl (sOW_bitsOf (r0 + 5) (gI u2 (r1 + 7) 1) v2 _) (host := "OtterWrits") (by decide +kernel) wMX7_65 hpyX9_bitsOf hmyX9_bitsOf (rm_ok hRm (Nat.le_of_ble_eq_true rfl) (Nat.le_of_ble_eq_true rfl)) (Nat.le_of_ble_eq_true rfl) hRm.2.2 dX7_mayTake_65 (fun c3 u3 f3 => ?_)
          refine z_callS (av := [.int c3]) (enc' := eI) hc rfl (sJi_bitCount (w := wC D b) rfl c3 _) wMX7_69 hpyJ6_bitCount_0f7a4 hmyJ6_bitCount_0f7a4 (rm_ok hRm (Nat.le_of_ble_eq_true rfl) (Nat.le_of_ble_eq_true rfl)) (Nat.le_of_ble_eq_true rfl) hRm.2.2 dX7_mayTake_68 (fun c4 u4 f4 => ?_)
          refine z_iconst (v := 2) hc dX7_mayTake_71 rfl ?_
          refine z_icmp_ge (tgt := 79) hc dX7_mayTake_72 (by decide) _ (fun h9 => ?_) (fun h9 => ?_)
          · refine z_iconst (v := 0) hc dX7_mayTake_79 rfl ?_
            exact z_zret hc rfl dX7_mayTake_80
          · refine z_iconst (v := 1) hc dX7_mayTake_75 rfl ?_
            refine z_goto (tgt := 80) hc dX7_mayTake_76 (by decide) ?_
            exact z_zret hc rfl dX7_mayTake_80
set_option maxRecDepth 100000 in
set_option maxHeartbeats 4000000 in
theorem sSt_maySwim : ∀ (r0 : Nat) (r1 : Nat) (v2 : Int32) (v3 : Int32) (u : zM) r m1, St_maySwim r0 r1 v2 v3 u = some (r, m1) → zMet l (wC D b) 1 22 yX7_maySwim cX7_maySwim 5 (some .boolean) [.ref r0, .ref r1, .int v2, .int v3] u (eI r) m1 := by
  intro r0 r1 v2 v3 u
  refine zMet.of (L := [(0, .ref r0), (1, .ref r1), (2, .int v2), (3, .int v3)]) RX7 (by decide +kernel) rfl (Nat.le_of_ble_eq_true rfl) (fun h => by cases h) rfl (fun p e s mi args below meth c R fin hc hin hRm => ?_)
  unfold St_maySwim
  refine zJ.chk _ (fun h1 => ?_)
  refine zJ.chk _ (fun h2 => ?_)
  refine z_iload_n hc dX7_maySwim_0 2 rfl rfl ?_
  refine z_iconst (v := 0) hc dX7_maySwim_1 rfl ?_
  refine z_aload_n hc dX7_maySwim_2 1 rfl rfl ?_
  refine z_getR (x := (r1 + 5)) hc (ci := 0) (k := 2) (by decide) (by decide) zly0 h2 (zkC h2) wFX7_49 rfl dX7_maySwim_3 (rfC_off (off := 5) h2 rfl (by decide)) (Nat.le_add_left_of_le (by decide)) ?_
  refine z_getI hc (ci := 3) (k := 1) (by decide) (by decide) zly3 (lyC_10_5 h2) (zkC (lyC_10_5 h2)) wFX7_53 rfl dX7_maySwim_6 ?_
  refine z_iconst (v := 1) hc dX7_maySwim_9 rfl ?_
  refine z_isub hc dX7_maySwim_10 ?_
  refine z_callSN (av := [.int v2, .int 0, .int ((gI u (r1 + 5) 1) - 1)]) (enc' := eI) hc rfl (sOW_within v2 0 ((gI u (r1 + 5) 1) - 1) _) (host := "OtterWrits") (by decide +kernel) wMX7_58 hpyX9_within hmyX9_within (rm_ok hRm (Nat.le_of_ble_eq_true rfl) (Nat.le_of_ble_eq_true rfl)) (Nat.le_of_ble_eq_true rfl) hRm.2.2 dX7_maySwim_11 (fun c1 u1 f1 => ?_)
  refine z_if_eq (tgt := 34) hc dX7_maySwim_14 (by decide) _ (fun h3 => ?_) (fun h3 => ?_)
  · refine z_iconst (v := 0) hc dX7_maySwim_34 rfl ?_
    exact z_zret hc rfl dX7_maySwim_35
  · refine z_iload_n hc dX7_maySwim_17 3 rfl rfl ?_
    refine z_iconst (v := 0) hc dX7_maySwim_18 rfl ?_
    refine z_aload_n hc dX7_maySwim_19 1 rfl rfl ?_
    refine z_getR (x := (r1 + 1)) hc (ci := 0) (k := 0) (by decide) (by decide) zly0 h2 (zkC h2) wFX7_75 rfl dX7_maySwim_20 (rfC_off (off := 1) h2 rfl (by decide)) (Nat.le_add_left_of_le (by decide)) ?_
    refine z_getI hc (ci := 3) (k := 1) (by decide) (by decide) zly3 (lyC_10_1 h2) (zkC (lyC_10_1 h2)) wFX7_53 rfl dX7_maySwim_23 ?_
    refine z_iconst (v := 1) hc dX7_maySwim_26 rfl ?_
    refine z_isub hc dX7_maySwim_27 ?_
    refine z_callSN (av := [.int v3, .int 0, .int ((gI u1 (r1 + 1) 1) - 1)]) (enc' := eI) hc rfl (sOW_within v3 0 ((gI u1 (r1 + 1) 1) - 1) _) (host := "OtterWrits") (by decide +kernel) wMX7_58 hpyX9_within hmyX9_within (rm_ok hRm (Nat.le_of_ble_eq_true rfl) (Nat.le_of_ble_eq_true rfl)) (Nat.le_of_ble_eq_true rfl) hRm.2.2 dX7_maySwim_28 (fun c2 u2 f2 => ?_)
    refine z_if_ne (tgt := 36) hc dX7_maySwim_31 (by decide) _ (fun h4 => ?_) (fun h4 => ?_)
    · refine z_aload_n hc dX7_maySwim_36 0 rfl rfl ?_
      refine z_getR (x := (r0 + 3)) hc (ci := 7) (k := 2) (by decide) (by decide) zly7 h1 (zkC h1) wFX7_18 rfl dX7_maySwim_37 (rfC_off (off := 3) h1 rfl (by decide)) (Nat.le_add_left_of_le (by decide)) ?_
      refine z_iload_n hc dX7_maySwim_40 2 rfl rfl ?_
      refine zJ.chk _ (fun h5 => ?_)
      refine z_iald (k := (ix v2)) hc (lyC_17_3 h1) (zkC (lyC_17_3 h1)) h5 rfl dX7_maySwim_41 ?_
      refine zJ.letI (fun x1 e1 => ?_)
      refine z_istore (L' := [(4, .int x1), (0, .ref r0), (1, .ref r1), (2, .int v2), (3, .int v3)]) hc dX7_maySwim_42 (by decide) rfl rfl ?_
      refine z_aload_n hc dX7_maySwim_44 2 rfl rfl ?_
      refine z_iload hc dX7_maySwim_45 0 rfl ?_
      refine z_iload_n hc dX7_maySwim_47 4 rfl rfl ?_
      refine z_callV (av := [.int x1, .int v3]) (enc' := eI) hc rfl (sCo_isLinked r1 x1 v3 _) (ci := 0) (by decide) h2 (zkC h2) rfl wMX7_78 hpyX0_isLinked hmyX0_isLinked (rm_ok hRm (Nat.le_of_ble_eq_true rfl) (Nat.le_of_ble_eq_true rfl)) (Nat.le_of_ble_eq_true rfl) hRm.2.2 dX7_maySwim_48 (fun c3 u3 f3 => ?_)
      refine z_if_eq (tgt := 94) hc dX7_maySwim_51 (by decide) _ (fun h6 => ?_) (fun h6 => ?_)
      · refine z_iconst (v := 0) hc dX7_maySwim_94 rfl ?_
        exact z_zret hc rfl dX7_maySwim_95
      · refine z_aload_n hc dX7_maySwim_54 1 rfl rfl ?_
        refine z_getR (x := (r0 + 1)) hc (ci := 7) (k := 0) (by decide) (by decide) zly7 h1 (zkC h1) wFX7_9 rfl dX7_maySwim_55 (rfC_off (off := 1) h1 rfl (by decide)) (Nat.le_add_left_of_le (by decide)) ?_
        refine z_iload hc dX7_maySwim_58 0 rfl ?_
        refine zJ.chk _ (fun h7 => ?_)
        refine z_iald (k := (ix x1)) hc (lyC_17_1 h1) (zkC (lyC_17_1 h1)) h7 rfl dX7_maySwim_60 ?_
        refine z_iconst (v := 1) hc dX7_maySwim_61 rfl ?_
        refine z_icmp_lt (tgt := 94) hc dX7_maySwim_62 (by decide) _ (fun h8 => ?_) (fun h8 => ?_)
        · refine z_iconst (v := 0) hc dX7_maySwim_94 rfl ?_
          exact z_zret hc rfl dX7_maySwim_95
        · refine z_aload_n hc dX7_maySwim_65 1 rfl rfl ?_
          refine z_getR (x := (r0 + 1)) hc (ci := 7) (k := 0) (by decide) (by decide) zly7 h1 (zkC h1) wFX7_9 rfl dX7_maySwim_66 (rfC_off (off := 1) h1 rfl (by decide)) (Nat.le_add_left_of_le (by decide)) ?_
          refine z_iload_n hc dX7_maySwim_69 4 rfl rfl ?_
          refine zJ.chk _ (fun h9 => ?_)
          refine z_iald (k := (ix v3)) hc (lyC_17_1 h1) (zkC (lyC_17_1 h1)) h9 rfl dX7_maySwim_70 ?_
          refine z_iconst (v := 1) hc dX7_maySwim_71 rfl ?_
          refine z_icmp_lt (tgt := 94) hc dX7_maySwim_72 (by decide) _ (fun h10 => ?_) (fun h10 => ?_)
          · refine z_iconst (v := 0) hc dX7_maySwim_94 rfl ?_
            exact z_zret hc rfl dX7_maySwim_95
          · refine z_aload_n hc dX7_maySwim_75 1 rfl rfl ?_
            refine z_getR (x := (r0 + 4)) hc (ci := 7) (k := 3) (by decide) (by decide) zly7 h1 (zkC h1) wFX7_21 rfl dX7_maySwim_76 (rfC_off (off := 4) h1 rfl (by decide)) (Nat.le_add_left_of_le (by decide)) ?_
            refine z_iload_n hc dX7_maySwim_79 3 rfl rfl ?_
            refine zJ.chk _ (fun h11 => ?_)
            refine z_iald (k := (ix v2)) hc (lyC_17_4 h1) (zkC (lyC_17_4 h1)) h11 rfl dX7_maySwim_80 ?_
            refine z_aload_n hc dX7_maySwim_81 2 rfl rfl ?_
            refine z_getR (x := (r1 + 14)) hc (ci := 0) (k := 9) (by decide) (by decide) zly0 h2 (zkC h2) wFX7_82 rfl dX7_maySwim_82 (rfC_off (off := 14) h2 rfl (by decide)) (Nat.le_add_left_of_le (by decide)) ?_
            refine z_iload_n hc dX7_maySwim_85 3 rfl rfl ?_
            refine zJ.chk _ (fun h12 => ?_)
            refine z_iald (k := (ix v2)) hc (lyC_10_14 h2) (zkC (lyC_10_14 h2)) h12 rfl dX7_maySwim_86 ?_
            refine z_icmp_ge (tgt := 94) hc dX7_maySwim_87 (by decide) _ (fun h13 => ?_) (fun h13 => ?_)
            · refine z_iconst (v := 0) hc dX7_maySwim_94 rfl ?_
              exact z_zret hc rfl dX7_maySwim_95
            · refine z_iconst (v := 1) hc dX7_maySwim_90 rfl ?_
              refine z_goto (tgt := 95) hc dX7_maySwim_91 (by decide) ?_
              exact z_zret hc rfl dX7_maySwim_95
    · refine z_iconst (v := 0) hc dX7_maySwim_34 rfl ?_
      exact z_zret hc rfl dX7_maySwim_35
set_option maxRecDepth 100000 in
set_option maxHeartbeats 4000000 in
theorem sSt_mayServe : ∀ (r0 : Nat) (r1 : Nat) (v2 : Int32) (u : zM) r m1, St_mayServe r0 r1 v2 u = some (r, m1) → zMet l (wC D b) 1 22 yX7_mayServe cX7_mayServe 5 (some .boolean) [.ref r0, .ref r1, .int v2] u (eI r) m1 := by
  intro r0 r1 v2 u
  refine zMet.of (L := [(0, .ref r0), (1, .ref r1), (2, .int v2)]) RX7 (by decide +kernel) rfl (Nat.le_of_ble_eq_true rfl) (fun h => by cases h) rfl (fun p e s mi args below meth c R fin hc hin hRm => ?_)
  unfold St_mayServe
  refine zJ.chk _ (fun h1 => ?_)
  refine zJ.chk _ (fun h2 => ?_)
  refine z_iload_n hc dX7_mayServe_0 2 rfl rfl ?_
  refine z_iconst (v := 0) hc dX7_mayServe_1 rfl ?_
  refine z_aload_n hc dX7_mayServe_2 1 rfl rfl ?_
  refine z_getR (x := (r1 + 7)) hc (ci := 0) (k := 3) (by decide) (by decide) zly0 h2 (zkC h2) wFX7_62 rfl dX7_mayServe_3 (rfC_off (off := 7) h2 rfl (by decide)) (Nat.le_add_left_of_le (by decide)) ?_
  refine z_getI hc (ci := 3) (k := 1) (by decide) (by decide) zly3 (lyC_10_7 h2) (zkC (lyC_10_7 h2)) wFX7_53 rfl dX7_mayServe_6 ?_
  refine z_iconst (v := 1) hc dX7_mayServe_9 rfl ?_
  refine z_isub hc dX7_mayServe_10 ?_
  refine z_callSN (av := [.int v2, .int 0, .int ((gI u (r1 + 7) 1) - 1)]) (enc' := eI) hc rfl (sOW_within v2 0 ((gI u (r1 + 7) 1) - 1) _) (host := "OtterWrits") (by decide +kernel) wMX7_58 hpyX9_within hmyX9_within (rm_ok hRm (Nat.le_of_ble_eq_true rfl) (Nat.le_of_ble_eq_true rfl)) (Nat.le_of_ble_eq_true rfl) hRm.2.2 dX7_mayServe_11 (fun c1 u1 f1 => ?_)
  refine z_if_eq (tgt := 49) hc dX7_mayServe_14 (by decide) _ (fun h3 => ?_) (fun h3 => ?_)
  · refine z_iconst (v := 0) hc dX7_mayServe_49 rfl ?_
    exact z_zret hc rfl dX7_mayServe_50
  · refine z_aload_n hc dX7_mayServe_17 0 rfl rfl ?_
    refine z_getR (x := (r0 + 5)) hc (ci := 7) (k := 4) (by decide) (by decide) zly7 h1 (zkC h1) wFX7_24 rfl dX7_mayServe_18 (rfC_off (off := 5) h1 rfl (by decide)) (Nat.le_add_left_of_le (by decide)) ?_
    refine z_iload_n hc dX7_mayServe_21 2 rfl rfl ?_
    refine zJ.chk _ (fun h4 => ?_)
    refine z_iald (k := (ix v2)) hc (lyC_17_5 h1) (zkC (lyC_17_5 h1)) h4 rfl dX7_mayServe_22 ?_
    refine z_iconst (v := 0) hc dX7_mayServe_23 rfl ?_
    refine z_aload_n hc dX7_mayServe_24 1 rfl rfl ?_
    refine z_getR (x := (r1 + 5)) hc (ci := 0) (k := 2) (by decide) (by decide) zly0 h2 (zkC h2) wFX7_49 rfl dX7_mayServe_25 (rfC_off (off := 5) h2 rfl (by decide)) (Nat.le_add_left_of_le (by decide)) ?_
    refine z_getI hc (ci := 3) (k := 1) (by decide) (by decide) zly3 (lyC_10_5 h2) (zkC (lyC_10_5 h2)) wFX7_53 rfl dX7_mayServe_28 ?_
    refine z_iconst (v := 1) hc dX7_mayServe_31 rfl ?_
    refine z_isub hc dX7_mayServe_32 ?_
    refine z_callSN (av := [.int (gI u1 (r0 + 5) (ix v2)), .int 0, .int ((gI u1 (r1 + 5) 1) - 1)]) (enc' := eI) hc rfl (sOW_within (gI u1 (r0 + 5) (ix v2)) 0 ((gI u1 (r1 + 5) 1) - 1) _) (host := "OtterWrits") (by decide +kernel) wMX7_58 hpyX9_within hmyX9_within (rm_ok hRm (Nat.le_of_ble_eq_true rfl) (Nat.le_of_ble_eq_true rfl)) (Nat.le_of_ble_eq_true rfl) hRm.2.2 dX7_mayServe_33 (fun c2 u2 f2 => ?_)
    refine z_if_eq (tgt := 49) hc dX7_mayServe_36 (by decide) _ (fun h5 => ?_) (fun h5 => ?_)
    · refine z_iconst (v := 0) hc dX7_mayServe_49 rfl ?_
      exact z_zret hc rfl dX7_mayServe_50
    · refine z_aload_n hc dX7_mayServe_39 0 rfl rfl ?_
      refine z_getR (x := (r0 + 5)) hc (ci := 7) (k := 4) (by decide) (by decide) zly7 h1 (zkC h1) wFX7_24 rfl dX7_mayServe_40 (rfC_off (off := 5) h1 rfl (by decide)) (Nat.le_add_left_of_le (by decide)) ?_
      refine z_iload_n hc dX7_mayServe_43 2 rfl rfl ?_
      refine zJ.chk _ (fun h6 => ?_)
      refine z_iald (k := (ix v2)) hc (lyC_17_5 h1) (zkC (lyC_17_5 h1)) h6 rfl dX7_mayServe_44 ?_
      refine z_iconst (v := 3) hc dX7_mayServe_45 rfl ?_
      refine z_icmp_ne (tgt := 51) hc dX7_mayServe_46 (by decide) _ (fun h7 => ?_) (fun h7 => ?_)
      · refine z_aload_n hc dX7_mayServe_51 1 rfl rfl ?_
        refine z_getR (x := (r1 + 15)) hc (ci := 0) (k := 10) (by decide) (by decide) zly0 h2 (zkC h2) wFX7_85 rfl dX7_mayServe_52 (rfC_off (off := 15) h2 rfl (by decide)) (Nat.le_add_left_of_le (by decide)) ?_
        refine z_iload_n hc dX7_mayServe_55 2 rfl rfl ?_
        refine zJ.chk _ (fun h8 => ?_)
        refine z_iald (k := (ix v2)) hc (lyC_10_15 h2) (zkC (lyC_10_15 h2)) h8 rfl dX7_mayServe_56 ?_
        refine zJ.letI (fun x1 e1 => ?_)
        refine z_istore_n (L' := [(3, .int x1), (0, .ref r0), (1, .ref r1), (2, .int v2)]) hc dX7_mayServe_57 rfl (by decide) rfl rfl ?_
        refine z_aload_n hc dX7_mayServe_58 1 rfl rfl ?_
        refine z_getR (x := (r0 + 2)) hc (ci := 7) (k := 1) (by decide) (by decide) zly7 h1 (zkC h1) wFX7_15 rfl dX7_mayServe_59 (rfC_off (off := 2) h1 rfl (by decide)) (Nat.le_add_left_of_le (by decide)) ?_
        refine z_iload_n hc dX7_mayServe_62 0 rfl rfl ?_
        refine zJ.chk _ (fun h9 => ?_)
        refine z_iald (k := (ix x1)) hc (lyC_17_2 h1) (zkC (lyC_17_2 h1)) h9 rfl dX7_mayServe_63 ?_
        refine zJ.letI (fun x2 e2 => ?_)
        refine z_istore (L' := [(4, .int x2), (3, .int x1), (0, .ref r0), (1, .ref r1), (2, .int v2)]) hc dX7_mayServe_64 (by decide) rfl rfl ?_
        refine z_aload_n hc dX7_mayServe_66 2 rfl rfl ?_
        refine z_getR (x := (r0 + 3)) hc (ci := 7) (k := 2) (by decide) (by decide) zly7 h1 (zkC h1) wFX7_18 rfl dX7_mayServe_67 (rfC_off (off := 3) h1 rfl (by decide)) (Nat.le_add_left_of_le (by decide)) ?_
        refine z_aload_n hc dX7_mayServe_70 2 rfl rfl ?_
        refine z_getR (x := (r0 + 5)) hc (ci := 7) (k := 4) (by decide) (by decide) zly7 h1 (zkC h1) wFX7_24 rfl dX7_mayServe_71 (rfC_off (off := 5) h1 rfl (by decide)) (Nat.le_add_left_of_le (by decide)) ?_
        refine z_iload_n hc dX7_mayServe_74 4 rfl rfl ?_
        refine zJ.chk _ (fun h10 => ?_)
        refine z_iald (k := (ix v2)) hc (lyC_17_5 h1) (zkC (lyC_17_5 h1)) h10 rfl dX7_mayServe_75 ?_
        refine zJ.chk _ (fun h11 => ?_)
        refine z_iald (k := (ix (gI u2 (r0 + 5) (ix v2)))) hc (lyC_17_3 h1) (zkC (lyC_17_3 h1)) h11 rfl dX7_mayServe_76 ?_
        refine z_iload hc dX7_mayServe_77 0 rfl ?_
        refine z_icmp_ne (tgt := 105) hc dX7_mayServe_79 (by decide) _ (fun h12 => ?_) (fun h12 => ?_)
        · refine z_iconst (v := 0) hc dX7_mayServe_105 rfl ?_
          exact z_zret hc rfl dX7_mayServe_106
        · refine z_aload_n hc dX7_mayServe_82 3 rfl rfl ?_
          refine z_getR (x := (r1 + 11)) hc (ci := 0) (k := 6) (by decide) (by decide) zly0 h2 (zkC h2) wFX7_88 rfl dX7_mayServe_83 (rfC_off (off := 11) h2 rfl (by decide)) (Nat.le_add_left_of_le (by decide)) ?_
          refine z_iload_n hc dX7_mayServe_86 1 rfl rfl ?_
          refine zJ.chk _ (fun h13 => ?_)
          refine z_iald (k := (ix x1)) hc (lyC_10_11 h2) (zkC (lyC_10_11 h2)) h13 rfl dX7_mayServe_87 ?_
          refine z_aload_n hc dX7_mayServe_88 2 rfl rfl ?_
          refine z_getR (x := (r0 + 1)) hc (ci := 7) (k := 0) (by decide) (by decide) zly7 h1 (zkC h1) wFX7_9 rfl dX7_mayServe_89 (rfC_off (off := 1) h1 rfl (by decide)) (Nat.le_add_left_of_le (by decide)) ?_
          refine z_iload hc dX7_mayServe_92 0 rfl ?_
          refine zJ.chk _ (fun h14 => ?_)
          refine z_iald (k := (ix x2)) hc (lyC_17_1 h1) (zkC (lyC_17_1 h1)) h14 rfl dX7_mayServe_94 ?_
          refine z_callS (av := [.int (gI u2 (r1 + 11) (ix x1)), .int (gI u2 (r0 + 1) (ix x2))]) (enc' := eI) hc rfl (sSt_isServable (gI u2 (r1 + 11) (ix x1)) (gI u2 (r0 + 1) (ix x2)) _) wMX7_91 hpyX7_isServable hmyX7_isServable (rm_ok hRm (Nat.le_of_ble_eq_true rfl) (Nat.le_of_ble_eq_true rfl)) (Nat.le_of_ble_eq_true rfl) hRm.2.2 dX7_mayServe_95 (fun c3 u3 f3 => ?_)
          refine z_if_eq (tgt := 105) hc dX7_mayServe_98 (by decide) _ (fun h15 => ?_) (fun h15 => ?_)
          · refine z_iconst (v := 0) hc dX7_mayServe_105 rfl ?_
            exact z_zret hc rfl dX7_mayServe_106
          · refine z_iconst (v := 1) hc dX7_mayServe_101 rfl ?_
            refine z_goto (tgt := 106) hc dX7_mayServe_102 (by decide) ?_
            exact z_zret hc rfl dX7_mayServe_106
      · refine z_iconst (v := 0) hc dX7_mayServe_49 rfl ?_
        exact z_zret hc rfl dX7_mayServe_50
set_option maxRecDepth 100000 in
set_option maxHeartbeats 4000000 in
theorem sSt_doSwim : ∀ (r0 : Nat) (v1 : Int32) (v2 : Int32) (u : zM) r m1, St_doSwim r0 v1 v2 u = some (r, m1) → zMet l (wC D b) 0 0 yX7_doSwim cX7_doSwim 3 none [.ref r0, .int v1, .int v2] u (eV r) m1 := by
  intro r0 v1 v2 u
  refine zMet.of (L := [(0, .ref r0), (1, .int v1), (2, .int v2)]) RX7 (by decide +kernel) rfl (Nat.le_of_ble_eq_true rfl) (fun h => by cases h) rfl (fun p e s mi args below meth c R fin hc hin hRm => ?_)
  unfold St_doSwim
  refine zJ.chk _ (fun h1 => ?_)
  refine z_aload_n hc dX7_doSwim_0 0 rfl rfl ?_
  refine z_getR (x := (r0 + 3)) hc (ci := 7) (k := 2) (by decide) (by decide) zly7 h1 (zkC h1) wFX7_18 rfl dX7_doSwim_1 (rfC_off (off := 3) h1 rfl (by decide)) (Nat.le_add_left_of_le (by decide)) ?_
  refine z_iload_n hc dX7_doSwim_4 1 rfl rfl ?_
  refine z_iload_n hc dX7_doSwim_5 2 rfl rfl ?_
  refine zJ.chk _ (fun h2 => ?_)
  refine z_iast (k := (ix v1)) hc (lyC_17_3 h1) (zkC (lyC_17_3 h1)) h2 rfl dX7_doSwim_6 ?_
  refine zJ.letM (fun u1 e1 => ?_)
  refine z_aload_n hc dX7_doSwim_7 0 rfl rfl ?_
  refine z_getR (x := (r0 + 4)) hc (ci := 7) (k := 3) (by decide) (by decide) zly7 h1 (zkC h1) wFX7_21 rfl dX7_doSwim_8 (rfC_off (off := 4) h1 rfl (by decide)) (Nat.le_add_left_of_le (by decide)) ?_
  refine z_iload_n hc dX7_doSwim_11 1 rfl rfl ?_
  refine z_dup2 hc dX7_doSwim_12 rfl rfl ?_
  refine zJ.chk _ (fun h3 => ?_)
  refine z_iald (k := (ix v1)) hc (lyC_17_4 h1) (zkC (lyC_17_4 h1)) h3 rfl dX7_doSwim_13 ?_
  refine z_iconst (v := 1) hc dX7_doSwim_14 rfl ?_
  refine z_iadd hc dX7_doSwim_15 ?_
  refine zJ.chk _ (fun h4 => ?_)
  refine z_iast (k := (ix v1)) hc (lyC_17_4 h1) (zkC (lyC_17_4 h1)) h4 rfl dX7_doSwim_16 ?_
  refine zJ.letM (fun u2 e2 => ?_)
  exact z_vret hc dX7_doSwim_17
set_option maxRecDepth 100000 in
set_option maxHeartbeats 4000000 in
theorem sSt_doLine : ∀ (r0 : Nat) (r1 : Nat) (v2 : Int32) (v3 : Int32) (v4 : Int32) (u : zM) r m1, St_doLine r0 r1 v2 v3 v4 u = some (r, m1) → zMet l (wC D b) 4 99 yX7_doLine cX7_doLine 5 (some .boolean) [.ref r0, .ref r1, .int v2, .int v3, .int v4] u (eI r) m1 := by
  intro r0 r1 v2 v3 v4 u
  refine zMet.of (L := [(0, .ref r0), (1, .ref r1), (2, .int v2), (3, .int v3), (4, .int v4)]) RX7 (by decide +kernel) rfl (Nat.le_of_ble_eq_true rfl) (fun h => by cases h) rfl (fun p e s mi args below meth c R fin hc hin hRm => ?_)
  unfold St_doLine
  refine zJ.chk _ (fun h1 => ?_)
  refine zJ.chk _ (fun h2 => ?_)
  refine z_iload_n hc dX7_doLine_0 2 rfl rfl ?_
  refine zJ.cut _ (fun h3 => ?_) (fun h3 => ?_)
  · refine z_tabIn (v := 1) (tgt := 28) hc dX7_doLine_1 h3 (by decide) (by decide) rfl (by decide) ?_
    refine z_aload_n hc dX7_doLine_28 0 rfl rfl ?_
    refine z_aload_n hc dX7_doLine_29 1 rfl rfl ?_
    refine z_iload_n hc dX7_doLine_30 3 rfl rfl ?_
    refine z_iload hc dX7_doLine_31 4 rfl ?_
    refine z_callV (av := [.ref r1, .int v3, .int v4]) (enc' := eI) hc rfl (sSt_mayTake r0 r1 v3 v4 _) (ci := 7) (by decide) h1 (zkC h1) rfl wMX7_94 hpyX7_mayTake hmyX7_mayTake (rm_ok hRm (Nat.le_of_ble_eq_true rfl) (Nat.le_of_ble_eq_true rfl)) (Nat.le_of_ble_eq_true rfl) hRm.2.2 dX7_doLine_33 (fun c1 u1 f1 => ?_)
    refine z_if_ne (tgt := 41) hc dX7_doLine_36 (by decide) _ (fun h6 => ?_) (fun h6 => ?_)
    · refine z_aload_n hc dX7_doLine_41 0 rfl rfl ?_
      refine z_getR (x := (r0 + 5)) hc (ci := 7) (k := 4) (by decide) (by decide) zly7 h1 (zkC h1) wFX7_24 rfl dX7_doLine_42 (rfC_off (off := 5) h1 rfl (by decide)) (Nat.le_add_left_of_le (by decide)) ?_
      refine z_iload hc dX7_doLine_45 4 rfl ?_
      refine z_iload_n hc dX7_doLine_47 3 rfl rfl ?_
      refine zJ.chk _ (fun h7 => ?_)
      refine z_iast (k := (ix v4)) hc (lyC_17_5 h1) (zkC (lyC_17_5 h1)) h7 rfl dX7_doLine_48 ?_
      refine zJ.letM (fun u2 e1 => ?_)
      refine z_iconst (v := 1) hc dX7_doLine_49 rfl ?_
      exact z_zret hc rfl dX7_doLine_50
    · refine z_iconst (v := 0) hc dX7_doLine_39 rfl ?_
      exact z_zret hc rfl dX7_doLine_40
  · refine zJ.cut _ (fun h4 => ?_) (fun h4 => ?_)
    · refine z_tabIn (v := 2) (tgt := 51) hc dX7_doLine_1 h4 (by decide) (by decide) rfl (by decide) ?_
      refine z_aload_n hc dX7_doLine_51 0 rfl rfl ?_
      refine z_aload_n hc dX7_doLine_52 1 rfl rfl ?_
      refine z_iload_n hc dX7_doLine_53 3 rfl rfl ?_
      refine z_iload hc dX7_doLine_54 4 rfl ?_
      refine z_callV (av := [.ref r1, .int v3, .int v4]) (enc' := eI) hc rfl (sSt_maySwim r0 r1 v3 v4 _) (ci := 7) (by decide) h1 (zkC h1) rfl wMX7_98 hpyX7_maySwim hmyX7_maySwim (rm_ok hRm (Nat.le_of_ble_eq_true rfl) (Nat.le_of_ble_eq_true rfl)) (Nat.le_of_ble_eq_true rfl) hRm.2.2 dX7_doLine_56 (fun c2 u3 f2 => ?_)
      refine z_if_ne (tgt := 64) hc dX7_doLine_59 (by decide) _ (fun h8 => ?_) (fun h8 => ?_)
      · refine z_aload_n hc dX7_doLine_64 0 rfl rfl ?_
        refine z_iload_n hc dX7_doLine_65 3 rfl rfl ?_
        refine z_iload hc dX7_doLine_66 4 rfl ?_
        refine z_callV (av := [.int v3, .int v4]) (enc' := eV) hc rfl (sSt_doSwim r0 v3 v4 _) (ci := 7) (by decide) h1 (zkC h1) rfl wMX7_101 hpyX7_doSwim hmyX7_doSwim (rm_ok hRm (Nat.le_of_ble_eq_true rfl) (Nat.le_of_ble_eq_true rfl)) (Nat.le_of_ble_eq_true rfl) hRm.2.2 dX7_doLine_68 (fun c3 u4 f3 => ?_)
        refine z_iconst (v := 1) hc dX7_doLine_71 rfl ?_
        exact z_zret hc rfl dX7_doLine_72
      · refine z_iconst (v := 0) hc dX7_doLine_62 rfl ?_
        exact z_zret hc rfl dX7_doLine_63
    · refine zJ.cut _ (fun h5 => ?_) (fun h5 => ?_)
      · refine z_tabIn (v := 3) (tgt := 73) hc dX7_doLine_1 h5 (by decide) (by decide) rfl (by decide) ?_
        refine z_aload_n hc dX7_doLine_73 0 rfl rfl ?_
        refine z_aload_n hc dX7_doLine_74 1 rfl rfl ?_
        refine z_iload_n hc dX7_doLine_75 3 rfl rfl ?_
        refine z_callV (av := [.ref r1, .int v3]) (enc' := eI) hc rfl (sSt_mayServe r0 r1 v3 _) (ci := 7) (by decide) h1 (zkC h1) rfl wMX7_105 hpyX7_mayServe hmyX7_mayServe (rm_ok hRm (Nat.le_of_ble_eq_true rfl) (Nat.le_of_ble_eq_true rfl)) (Nat.le_of_ble_eq_true rfl) hRm.2.2 dX7_doLine_76 (fun c4 u5 f4 => ?_)
        refine z_if_ne (tgt := 84) hc dX7_doLine_79 (by decide) _ (fun h9 => ?_) (fun h9 => ?_)
        · refine z_aload_n hc dX7_doLine_84 0 rfl rfl ?_
          refine z_getR (x := (r0 + 5)) hc (ci := 7) (k := 4) (by decide) (by decide) zly7 h1 (zkC h1) wFX7_24 rfl dX7_doLine_85 (rfC_off (off := 5) h1 rfl (by decide)) (Nat.le_add_left_of_le (by decide)) ?_
          refine z_iload_n hc dX7_doLine_88 3 rfl rfl ?_
          refine z_iconst (v := 3) hc dX7_doLine_89 rfl ?_
          refine zJ.chk _ (fun h10 => ?_)
          refine z_iast (k := (ix v3)) hc (lyC_17_5 h1) (zkC (lyC_17_5 h1)) h10 rfl dX7_doLine_90 ?_
          refine zJ.letM (fun u6 e2 => ?_)
          refine z_iconst (v := 1) hc dX7_doLine_91 rfl ?_
          exact z_zret hc rfl dX7_doLine_92
        · refine z_iconst (v := 0) hc dX7_doLine_82 rfl ?_
          exact z_zret hc rfl dX7_doLine_83
      · refine z_tabOut (tgt := 93) hc dX7_doLine_1 (tab_out 3 (by decide) (fun j hj => match j, hj with | 0, _ => fun e => h3 e | 1, _ => fun e => h4 e | 2, _ => fun e => h5 e | j + 3, hj => absurd hj (by omega))) (by decide) ?_
        refine z_aload_n hc dX7_doLine_93 0 rfl rfl ?_
        refine z_aload_n hc dX7_doLine_94 1 rfl rfl ?_
        refine z_callV (av := [.ref r1]) (enc' := eV) hc rfl (sSt_nextDay r0 r1 _) (ci := 7) (by decide) h1 (zkC h1) rfl wMX7_109 hpyX7_nextDay hmyX7_nextDay (rm_ok hRm (Nat.le_of_ble_eq_true rfl) (Nat.le_of_ble_eq_true rfl)) (Nat.le_of_ble_eq_true rfl) hRm.2.2 dX7_doLine_95 (fun c5 u7 f5 => ?_)
        refine z_iconst (v := 1) hc dX7_doLine_98 rfl ?_
        exact z_zret hc rfl dX7_doLine_99
set_option maxRecDepth 100000 in
set_option maxHeartbeats 4000000 in
theorem sSt_waterTogether_4b {fin : Int32 × zM} (hc : zCx p s mi args meth c (wC D b) m0 RX7 cX7_waterTogether 4 (some .int)) (hRm : R.frames = 0 ∧ R.locals = 0 ∧ R.cells = zc (wC D b) m0 fin.2 ∧ R.slots = zs (wC D b) m0 fin.2) {zr4 : Nat → Nat → Int32 → Int32 → zM → Option (Int32 × zM)} (hr4 : ∀ (r0 : Nat) (r1 : Nat) (v2 : Int32) (v3 : Int32) (u : zM), zJ eI p l e R s mi args below meth c (wC D b) m0 4 fin 4 [(0, .ref r0), (1, .ref r1), (2, .int v2), (3, .int v3)] [] u (zr4 r0 r1 v2 v3 u)) (r0 : Nat) (r1 : Nat) (v2 : Int32) (v3 : Int32) (u : zM) : zJ eI p l e R s mi args below meth c (wC D b) m0 4 fin 4 [(0, .ref r0), (1, .ref r1), (2, .int v2), (3, .int v3)] [] u (St_waterTogether_4b zr4 r0 r1 v2 v3 u) := by
  unfold St_waterTogether_4b
  refine zJ.chk _ (fun h1 => ?_)
  refine zJ.chk _ (fun h2 => ?_)
  refine z_iload_n hc dX7_waterTogether_4 3 rfl rfl ?_
  refine z_aload_n hc dX7_waterTogether_5 1 rfl rfl ?_
  refine z_getR (x := (r1 + 1)) hc (ci := 0) (k := 0) (by decide) (by decide) zly0 h2 (zkC h2) wFX7_75 rfl dX7_waterTogether_6 (rfC_off (off := 1) h2 rfl (by decide)) (Nat.le_add_left_of_le (by decide)) ?_
  refine z_getI hc (ci := 3) (k := 1) (by decide) (by decide) zly3 (lyC_10_1 h2) (zkC (lyC_10_1 h2)) wFX7_53 rfl dX7_waterTogether_9 ?_
  refine z_icmp_ge (tgt := 30) hc dX7_waterTogether_12 (by decide) _ (fun h3 => ?_) (fun h3 => ?_)
  · refine z_iload_n hc dX7_waterTogether_30 2 rfl rfl ?_
    exact z_iret hc dX7_waterTogether_31
  · refine z_iload_n hc dX7_waterTogether_15 2 rfl rfl ?_
    refine z_aload_n hc dX7_waterTogether_16 0 rfl rfl ?_
    refine z_getR (x := (r0 + 1)) hc (ci := 7) (k := 0) (by decide) (by decide) zly7 h1 (zkC h1) wFX7_9 rfl dX7_waterTogether_17 (rfC_off (off := 1) h1 rfl (by decide)) (Nat.le_add_left_of_le (by decide)) ?_
    refine z_iload_n hc dX7_waterTogether_20 3 rfl rfl ?_
    refine zJ.chk _ (fun h4 => ?_)
    refine z_iald (k := (ix v3)) hc (lyC_17_1 h1) (zkC (lyC_17_1 h1)) h4 rfl dX7_waterTogether_21 ?_
    refine z_iadd hc dX7_waterTogether_22 ?_
    refine zJ.letI (fun x1 e1 => ?_)
    refine z_istore_n (L' := [(2, .int x1), (0, .ref r0), (1, .ref r1), (3, .int v3)]) hc dX7_waterTogether_23 rfl (by decide) rfl rfl ?_
    refine z_iinc (L' := [(3, .int (v3 + 1)), (2, .int x1), (0, .ref r0), (1, .ref r1)]) hc dX7_waterTogether_24 3 rfl (v := (v3 + 1)) rfl (by decide) rfl rfl ?_
    refine z_goto (tgt := 4) hc dX7_waterTogether_27 (by decide) ?_
    refine zJ.sub (L' := [(0, .ref r0), (1, .ref r1), (2, .int x1), (3, .int (v3 + 1))]) [2, 3, 1, 0] rfl ?_
    exact hr4 r0 r1 x1 (v3 + 1) _
set_option maxRecDepth 100000 in
set_option maxHeartbeats 4000000 in
theorem sSt_waterTogether_4 {fin : Int32 × zM} (hc : zCx p s mi args meth c (wC D b) m0 RX7 cX7_waterTogether 4 (some .int)) (hRm : R.frames = 0 ∧ R.locals = 0 ∧ R.cells = zc (wC D b) m0 fin.2 ∧ R.slots = zs (wC D b) m0 fin.2) : ∀ (zf : Nat) (r0 : Nat) (r1 : Nat) (v2 : Int32) (v3 : Int32) (u : zM), zJ eI p l e R s mi args below meth c (wC D b) m0 4 fin 4 [(0, .ref r0), (1, .ref r1), (2, .int v2), (3, .int v3)] [] u (St_waterTogether_4 zf r0 r1 v2 v3 u) := by
  intro zf
  induction zf with
  | zero => intro r0 r1 v2 v3 u; exact zJ.nil
  | succ zf ih => intro r0 r1 v2 v3 u; exact sSt_waterTogether_4b hc hRm ih r0 r1 v2 v3 u
set_option maxRecDepth 100000 in
set_option maxHeartbeats 4000000 in
theorem sSt_waterTogether : ∀ (r0 : Nat) (r1 : Nat) (u : zM) r m1, St_waterTogether r0 r1 u = some (r, m1) → zMet l (wC D b) 0 0 yX7_waterTogether cX7_waterTogether 4 (some .int) [.ref r0, .ref r1] u (eI r) m1 := by
  intro r0 r1 u
  refine zMet.of (L := [(0, .ref r0), (1, .ref r1)]) RX7 (by decide +kernel) rfl (Nat.le_of_ble_eq_true rfl) (fun h => by cases h) rfl (fun p e s mi args below meth c R fin hc hin hRm => ?_)
  unfold St_waterTogether
  refine zJ.chk _ (fun h1 => ?_)
  refine zJ.chk _ (fun h2 => ?_)
  refine z_iconst (v := 0) hc dX7_waterTogether_0 rfl ?_
  refine z_istore_n (L' := [(2, .int 0), (0, .ref r0), (1, .ref r1)]) hc dX7_waterTogether_1 rfl (by decide) rfl rfl ?_
  refine z_iconst (v := 0) hc dX7_waterTogether_2 rfl ?_
  refine z_istore_n (L' := [(3, .int 0), (2, .int 0), (0, .ref r0), (1, .ref r1)]) hc dX7_waterTogether_3 rfl (by decide) rfl rfl ?_
  refine zJ.sub (L' := [(0, .ref r0), (1, .ref r1), (2, .int 0), (3, .int 0)]) [2, 3, 1, 0] rfl ?_
  exact sSt_waterTogether_4 hc hRm zF r0 r1 0 0 _
set_option maxRecDepth 100000 in
set_option maxHeartbeats 4000000 in
theorem sTa_append_36 {fin : Unit × zM} (hc : zCx p s mi args meth c (wC D b) m0 RX8 cX8_append 5 none) (hRm : R.frames = 1 ∧ R.locals = 22 ∧ R.cells = zc (wC D b) m0 fin.2 ∧ R.slots = zs (wC D b) m0 fin.2) {zr3 : Int64 → Int32 → zM → Option (Unit × zM)} (hr3 : ∀ (v1 : Int64) (v3 : Int32) (u : zM), zJ eV p l e R s mi args below meth c (wC D b) m0 5 fin 3 [(0, .ref 2), (1, .long v1), (3, .int v3)] [] u (zr3 v1 v3 u)) (v1 : Int64) (v3 : Int32) (v4 : Int32) (u : zM) : zJ eV p l e R s mi args below meth c (wC D b) m0 5 fin 36 [(0, .ref 2), (1, .long v1), (3, .int v3), (4, .int v4)] [] u (Ta_append_36 zr3 v1 v3 v4 u) := by
  unfold Ta_append_36
  refine z_aload_n hc dX8_append_36 0 rfl rfl ?_
  refine z_getI hc (ci := 8) (k := 1) (by decide) (by decide) zly8 lC2 (zkC lC2) wFX8_21 rfl dX8_append_37 ?_
  refine z_sipush (v := 1000) hc dX8_append_40 rfl ?_
  refine z_icmp_ge (tgt := 68) hc dX8_append_43 (by decide) _ (fun h1 => ?_) (fun h1 => ?_)
  · refine z_iinc (L' := [(3, .int (v3 + (-8))), (0, .ref 2), (1, .long v1), (4, .int v4)]) hc dX8_append_68 2 rfl (v := (v3 + (-8))) rfl (by decide) rfl rfl ?_
    refine z_goto (tgt := 3) hc dX8_append_71 (by decide) ?_
    refine zJ.sub (L' := [(0, .ref 2), (1, .long v1), (3, .int (v3 + (-8)))]) [1, 2, 0] rfl ?_
    exact hr3 v1 (v3 + (-8)) _
  · refine z_aload_n hc dX8_append_46 0 rfl rfl ?_
    refine z_getR (x := 3) hc (ci := 8) (k := 0) (by decide) (by decide) zly8 lC2 (zkC lC2) wFX8_9 rfl dX8_append_47 rfl (by decide) ?_
    refine z_aload_n hc dX8_append_50 0 rfl rfl ?_
    refine z_getI hc (ci := 8) (k := 1) (by decide) (by decide) zly8 lC2 (zkC lC2) wFX8_21 rfl dX8_append_51 ?_
    refine z_iload hc dX8_append_54 3 rfl ?_
    refine z_i2b hc dX8_append_56 ?_
    refine zJ.chk _ (fun h2 => ?_)
    refine z_bast (k := (ix (gI u 2 1))) hc lC3 (zkC lC3) h2 rfl dX8_append_57 ?_
    refine zJ.letM (fun u1 e1 => ?_)
    refine z_aload_n hc dX8_append_58 0 rfl rfl ?_
    refine z_dup hc dX8_append_59 rfl ?_
    refine z_getI hc (ci := 8) (k := 1) (by decide) (by decide) zly8 lC2 (zkC lC2) wFX8_21 rfl dX8_append_60 ?_
    refine z_iconst (v := 1) hc dX8_append_63 rfl ?_
    refine z_iadd hc dX8_append_64 ?_
    refine z_putI hc (ci := 8) (k := 1) (by decide) (by decide) zly8 lC2 (zkC lC2) wFX8_21 rfl rfl rfl rfl dX8_append_65 ?_
    refine zJ.letM (fun u2 e2 => ?_)
    refine z_iinc (L' := [(3, .int (v3 + (-8))), (0, .ref 2), (1, .long v1), (4, .int v4)]) hc dX8_append_68 2 rfl (v := (v3 + (-8))) rfl (by decide) rfl rfl ?_
    refine z_goto (tgt := 3) hc dX8_append_71 (by decide) ?_
    refine zJ.sub (L' := [(0, .ref 2), (1, .long v1), (3, .int (v3 + (-8)))]) [1, 2, 0] rfl ?_
    exact hr3 v1 (v3 + (-8)) _
set_option maxRecDepth 100000 in
set_option maxHeartbeats 4000000 in
theorem sTa_append_3b {fin : Unit × zM} (hc : zCx p s mi args meth c (wC D b) m0 RX8 cX8_append 5 none) (hRm : R.frames = 1 ∧ R.locals = 22 ∧ R.cells = zc (wC D b) m0 fin.2 ∧ R.slots = zs (wC D b) m0 fin.2) {zr3 : Int64 → Int32 → zM → Option (Unit × zM)} (hr3 : ∀ (v1 : Int64) (v3 : Int32) (u : zM), zJ eV p l e R s mi args below meth c (wC D b) m0 5 fin 3 [(0, .ref 2), (1, .long v1), (3, .int v3)] [] u (zr3 v1 v3 u)) (v1 : Int64) (v3 : Int32) (u : zM) : zJ eV p l e R s mi args below meth c (wC D b) m0 5 fin 3 [(0, .ref 2), (1, .long v1), (3, .int v3)] [] u (Ta_append_3b zr3 v1 v3 u) := by
  unfold Ta_append_3b
  refine z_iload_n hc dX8_append_3 2 rfl rfl ?_
  refine z_if_lt (tgt := 74) hc dX8_append_4 (by decide) _ (fun h1 => ?_) (fun h1 => ?_)
  · exact z_vret hc dX8_append_74
  · refine z_lload_n hc dX8_append_7 1 rfl rfl ?_
    refine z_iload_n hc dX8_append_8 2 rfl rfl ?_
    refine z_lushr hc dX8_append_9 ?_
    refine z_ldc2 (v := 255) hc wKX8_15 dX8_append_10 ?_
    refine z_land hc dX8_append_13 ?_
    refine z_l2i hc dX8_append_14 ?_
    refine zJ.letI (fun x1 e1 => ?_)
    refine z_istore (L' := [(4, .int x1), (0, .ref 2), (1, .long v1), (3, .int v3)]) hc dX8_append_15 (by decide) rfl rfl ?_
    refine z_iload hc dX8_append_17 0 rfl ?_
    refine z_bipush (v := 10) hc dX8_append_19 rfl ?_
    refine z_icmp_eq (tgt := 36) hc dX8_append_21 (by decide) _ (fun h2 => ?_) (fun h2 => ?_)
    · refine zJ.sub (L' := [(0, .ref 2), (1, .long v1), (3, .int v3), (4, .int x1)]) [1, 2, 3, 0] rfl ?_
      exact sTa_append_36 hc hRm hr3 v1 v3 x1 _
    · refine z_iload hc dX8_append_24 0 rfl ?_
      refine z_bipush (v := 32) hc dX8_append_26 rfl ?_
      refine z_bipush (v := 126) hc dX8_append_28 rfl ?_
      refine z_callSN (av := [.int x1, .int 32, .int 126]) (enc' := eI) hc rfl (sOW_within x1 32 126 _) (host := "OtterWrits") (by decide +kernel) wMX8_17 hpyX9_within hmyX9_within (rm_ok hRm (Nat.le_of_ble_eq_true rfl) (Nat.le_of_ble_eq_true rfl)) (Nat.le_of_ble_eq_true rfl) hRm.2.2 dX8_append_30 (fun c1 u1 f1 => ?_)
      refine z_if_eq (tgt := 68) hc dX8_append_33 (by decide) _ (fun h3 => ?_) (fun h3 => ?_)
      · refine z_iinc (L' := [(3, .int (v3 + (-8))), (4, .int x1), (0, .ref 2), (1, .long v1)]) hc dX8_append_68 3 rfl (v := (v3 + (-8))) rfl (by decide) rfl rfl ?_
        refine z_goto (tgt := 3) hc dX8_append_71 (by decide) ?_
        refine zJ.sub (L' := [(0, .ref 2), (1, .long v1), (3, .int (v3 + (-8)))]) [2, 3, 0] rfl ?_
        exact hr3 v1 (v3 + (-8)) _
      · refine zJ.sub (L' := [(0, .ref 2), (1, .long v1), (3, .int v3), (4, .int x1)]) [1, 2, 3, 0] rfl ?_
        exact sTa_append_36 hc hRm hr3 v1 v3 x1 _
set_option maxRecDepth 100000 in
set_option maxHeartbeats 4000000 in
theorem sTa_append_3 {fin : Unit × zM} (hc : zCx p s mi args meth c (wC D b) m0 RX8 cX8_append 5 none) (hRm : R.frames = 1 ∧ R.locals = 22 ∧ R.cells = zc (wC D b) m0 fin.2 ∧ R.slots = zs (wC D b) m0 fin.2) : ∀ (zf : Nat) (v1 : Int64) (v3 : Int32) (u : zM), zJ eV p l e R s mi args below meth c (wC D b) m0 5 fin 3 [(0, .ref 2), (1, .long v1), (3, .int v3)] [] u (Ta_append_3 zf v1 v3 u) := by
  intro zf
  induction zf with
  | zero => intro v1 v3 u; exact zJ.nil
  | succ zf ih => intro v1 v3 u; exact sTa_append_3b hc hRm ih v1 v3 u
set_option maxRecDepth 100000 in
set_option maxHeartbeats 4000000 in
theorem sTa_append : ∀ (v1 : Int64) (u : zM) r m1, Ta_append v1 u = some (r, m1) → zMet l (wC D b) 1 22 yX8_append cX8_append 5 none [.ref 2, .long v1] u (eV r) m1 := by
  intro v1 u
  refine zMet.of (L := [(0, .ref 2), (1, .long v1)]) RX8 (by decide +kernel) rfl (Nat.le_of_ble_eq_true rfl) (fun h => by cases h) rfl (fun p e s mi args below meth c R fin hc hin hRm => ?_)
  unfold Ta_append
  refine z_bipush (v := 56) hc dX8_append_0 rfl ?_
  refine z_istore_n (L' := [(3, .int 56), (0, .ref 2), (1, .long v1)]) hc dX8_append_2 rfl (by decide) rfl rfl ?_
  refine zJ.sub (L' := [(0, .ref 2), (1, .long v1), (3, .int 56)]) [1, 2, 0] rfl ?_
  exact sTa_append_3 hc hRm zF v1 56 _
set_option maxRecDepth 100000 in
set_option maxHeartbeats 4000000 in
theorem sTa_finish : ∀ (u : zM) r m1, Ta_finish u = some (r, m1) → zMet l (wC D b) 0 0 yX8_finish cX8_finish 1 (some .int) [.ref 2] u (eI r) m1 := by
  intro u
  refine zMet.of (L := [(0, .ref 2)]) RX8 (by decide +kernel) rfl (Nat.le_of_ble_eq_true rfl) (fun h => by cases h) rfl (fun p e s mi args below meth c R fin hc hin hRm => ?_)
  unfold Ta_finish
  refine z_aload_n hc dX8_finish_0 0 rfl rfl ?_
  refine z_iconst (v := 0) hc dX8_finish_1 rfl ?_
  refine z_putI hc (ci := 8) (k := 1) (by decide) (by decide) zly8 lC2 (zkC lC2) wFX8_21 rfl rfl rfl rfl dX8_finish_2 ?_
  refine zJ.letM (fun u1 e1 => ?_)
  refine z_aload_n hc dX8_finish_5 0 rfl rfl ?_
  refine z_getI hc (ci := 8) (k := 6) (by decide) (by decide) zly8 lC2 (zkC lC2) wFX8_28 rfl dX8_finish_6 ?_
  exact z_iret hc dX8_finish_9
set_option maxRecDepth 100000 in
set_option maxHeartbeats 4000000 in
theorem sOW_feed : ∀ (v1 : Int64) (v3 : Int64) (v5 : Int64) (u : zM) r m1, OW_feed v1 v3 v5 u = some (r, m1) → zMet l (wC D b) 2 46 yX9_feed cX9_feed 7 (some .int) [.ref 1, .long v1, .long v3, .long v5] u (eI r) m1 := by
  intro v1 v3 v5 u
  refine zMet.of (L := [(0, .ref 1), (1, .long v1), (3, .long v3), (5, .long v5)]) RX9 (by decide +kernel) rfl (Nat.le_of_ble_eq_true rfl) (fun h => by cases h) rfl (fun p e s mi args below meth c R fin hc hin hRm => ?_)
  unfold OW_feed
  refine z_aload_n hc dX9_feed_0 0 rfl rfl ?_
  refine z_getR (x := 2) hc (ci := 9) (k := 0) (by decide) (by decide) zly9 lC1 (zkC lC1) wFX9_10 rfl dX9_feed_1 rfl (by decide) ?_
  refine z_lload_n hc dX9_feed_4 1 rfl rfl ?_
  refine z_callV (av := [.long v1]) (enc' := eV) hc rfl (sTa_append v1 _) (ci := 8) (by decide) lC2 (zkC lC2) rfl wMX9_79 hpyX8_append hmyX8_append (rm_ok hRm (Nat.le_of_ble_eq_true rfl) (Nat.le_of_ble_eq_true rfl)) (Nat.le_of_ble_eq_true rfl) hRm.2.2 dX9_feed_5 (fun c1 u1 f1 => ?_)
  refine z_aload_n hc dX9_feed_8 0 rfl rfl ?_
  refine z_getR (x := 2) hc (ci := 9) (k := 0) (by decide) (by decide) zly9 lC1 (zkC lC1) wFX9_10 rfl dX9_feed_9 rfl (by decide) ?_
  refine z_lload_n hc dX9_feed_12 2 rfl rfl ?_
  refine z_callV (av := [.long v3]) (enc' := eV) hc rfl (sTa_append v3 _) (ci := 8) (by decide) lC2 (zkC lC2) rfl wMX9_79 hpyX8_append hmyX8_append (rm_ok hRm (Nat.le_of_ble_eq_true rfl) (Nat.le_of_ble_eq_true rfl)) (Nat.le_of_ble_eq_true rfl) hRm.2.2 dX9_feed_13 (fun c2 u2 f2 => ?_)
  refine z_aload_n hc dX9_feed_16 0 rfl rfl ?_
  refine z_getR (x := 2) hc (ci := 9) (k := 0) (by decide) (by decide) zly9 lC1 (zkC lC1) wFX9_10 rfl dX9_feed_17 rfl (by decide) ?_
  refine z_lload hc dX9_feed_20 3 rfl ?_
  refine z_callV (av := [.long v5]) (enc' := eV) hc rfl (sTa_append v5 _) (ci := 8) (by decide) lC2 (zkC lC2) rfl wMX9_79 hpyX8_append hmyX8_append (rm_ok hRm (Nat.le_of_ble_eq_true rfl) (Nat.le_of_ble_eq_true rfl)) (Nat.le_of_ble_eq_true rfl) hRm.2.2 dX9_feed_22 (fun c3 u3 f3 => ?_)
  refine z_aload_n hc dX9_feed_25 0 rfl rfl ?_
  refine z_getR (x := 2) hc (ci := 9) (k := 0) (by decide) (by decide) zly9 lC1 (zkC lC1) wFX9_10 rfl dX9_feed_26 rfl (by decide) ?_
  refine z_getI hc (ci := 8) (k := 1) (by decide) (by decide) zly8 lC2 (zkC lC2) wFX9_83 rfl dX9_feed_29 ?_
  exact z_iret hc dX9_feed_32
set_option maxRecDepth 100000 in
set_option maxHeartbeats 4000000 in
theorem sOW_forgetPast : ∀ (u : zM) r m1, OW_forgetPast u = some (r, m1) → zMet l (wC D b) 0 0 yX9_forgetPast cX9_forgetPast 1 none [.ref 1] u (eV r) m1 := by
  intro u
  refine zMet.of (L := [(0, .ref 1)]) RX9 (by decide +kernel) rfl (Nat.le_of_ble_eq_true rfl) (fun h => by cases h) rfl (fun p e s mi args below meth c R fin hc hin hRm => ?_)
  unfold OW_forgetPast
  refine z_aload_n hc dX9_forgetPast_0 0 rfl rfl ?_
  refine z_iconst (v := 0) hc dX9_forgetPast_1 rfl ?_
  refine z_putI hc (ci := 9) (k := 12) (by decide) (by decide) zly9 lC1 (zkC lC1) wFX9_192 rfl rfl rfl rfl dX9_forgetPast_2 ?_
  refine zJ.letM (fun u1 e1 => ?_)
  refine z_aload_n hc dX9_forgetPast_5 0 rfl rfl ?_
  refine z_iconst (v := 0) hc dX9_forgetPast_6 rfl ?_
  refine z_putI hc (ci := 9) (k := 13) (by decide) (by decide) zly9 lC1 (zkC lC1) wFX9_216 rfl rfl rfl rfl dX9_forgetPast_7 ?_
  refine zJ.letM (fun u2 e2 => ?_)
  exact z_vret hc dX9_forgetPast_10
set_option maxRecDepth 100000 in
set_option maxHeartbeats 4000000 in
theorem sOW_startAnew_29b {fin : Unit × zM} (hc : zCx p s mi args meth c (wC D b) m0 RX9 cX9_startAnew 2 none) (hRm : R.frames = 2 ∧ R.locals = 122 ∧ R.cells = zc (wC D b) m0 fin.2 ∧ R.slots = zs (wC D b) m0 fin.2) {zr29 : Int32 → zM → Option (Unit × zM)} (hr29 : ∀ (v1 : Int32) (u : zM), zJ eV p l e R s mi args below meth c (wC D b) m0 2 fin 29 [(0, .ref 1), (1, .int v1)] [] u (zr29 v1 u)) (v1 : Int32) (u : zM) : zJ eV p l e R s mi args below meth c (wC D b) m0 2 fin 29 [(0, .ref 1), (1, .int v1)] [] u (OW_startAnew_29b zr29 v1 u) := by
  unfold OW_startAnew_29b
  refine z_iload_n hc dX9_startAnew_29 1 rfl rfl ?_
  refine z_iconst (v := 4) hc dX9_startAnew_30 rfl ?_
  refine z_icmp_ge (tgt := 50) hc dX9_startAnew_31 (by decide) _ (fun h1 => ?_) (fun h1 => ?_)
  · refine z_aload_n hc dX9_startAnew_50 0 rfl rfl ?_
    refine z_callV (av := []) (enc' := eV) hc rfl (sOW_forgetPast _) (ci := 9) (by decide) lC1 (zkC lC1) rfl wMX9_106 hpyX9_forgetPast hmyX9_forgetPast (rm_ok hRm (Nat.le_of_ble_eq_true rfl) (Nat.le_of_ble_eq_true rfl)) (Nat.le_of_ble_eq_true rfl) hRm.2.2 dX9_startAnew_51 (fun c1 u1 f1 => ?_)
    refine z_aload_n hc dX9_startAnew_54 0 rfl rfl ?_
    refine z_getR (x := 70) hc (ci := 9) (k := 8) (by decide) (by decide) zly9 lC1 (zkC lC1) wFX9_56 rfl dX9_startAnew_55 rfl (by decide) ?_
    refine z_callV (av := []) (enc' := eV) hc rfl (sOu_forget _) (ci := 4) (by decide) lC70 (zkC lC70) rfl wMX9_109 hpyX4_forget hmyX4_forget (rm_ok hRm (Nat.le_of_ble_eq_true rfl) (Nat.le_of_ble_eq_true rfl)) (Nat.le_of_ble_eq_true rfl) hRm.2.2 dX9_startAnew_58 (fun c2 u2 f2 => ?_)
    exact z_vret hc dX9_startAnew_61
  · refine z_aload_n hc dX9_startAnew_34 0 rfl rfl ?_
    refine z_getR (x := 83) hc (ci := 9) (k := 10) (by decide) (by decide) zly9 lC1 (zkC lC1) wFX9_66 rfl dX9_startAnew_35 rfl (by decide) ?_
    refine z_iload_n hc dX9_startAnew_38 1 rfl rfl ?_
    refine zJ.chk _ (fun h2 => ?_)
    refine z_aald (x := (83 + (98 + 15 * (ix v1)))) (k := (ix v1)) hc lC83 (by decide) (zkC lC83) h2 rfl (rfC_off lC83 rfl (by omega)) (Nat.le_add_right_of_le (by decide)) dX9_startAnew_39 ?_
    refine z_iconst (v := 0) hc dX9_startAnew_40 rfl ?_
    refine z_putI hc (ci := 2) (k := 3) (by decide) (by decide) zly2 (lyC_arr6 h2) (zkC (lyC_arr6 h2)) wFX9_102 rfl rfl rfl rfl dX9_startAnew_41 ?_
    refine zJ.letM (fun u3 e1 => ?_)
    refine z_iinc (L' := [(1, .int (v1 + 1)), (0, .ref 1)]) hc dX9_startAnew_44 1 rfl (v := (v1 + 1)) rfl (by decide) rfl rfl ?_
    refine z_goto (tgt := 29) hc dX9_startAnew_47 (by decide) ?_
    refine zJ.sub (L' := [(0, .ref 1), (1, .int (v1 + 1))]) [1, 0] rfl ?_
    exact hr29 (v1 + 1) _
set_option maxRecDepth 100000 in
set_option maxHeartbeats 4000000 in
theorem sOW_startAnew_29 {fin : Unit × zM} (hc : zCx p s mi args meth c (wC D b) m0 RX9 cX9_startAnew 2 none) (hRm : R.frames = 2 ∧ R.locals = 122 ∧ R.cells = zc (wC D b) m0 fin.2 ∧ R.slots = zs (wC D b) m0 fin.2) : ∀ (zf : Nat) (v1 : Int32) (u : zM), zJ eV p l e R s mi args below meth c (wC D b) m0 2 fin 29 [(0, .ref 1), (1, .int v1)] [] u (OW_startAnew_29 zf v1 u) := by
  intro zf
  induction zf with
  | zero => intro v1 u; exact zJ.nil
  | succ zf ih => intro v1 u; exact sOW_startAnew_29b hc hRm ih v1 u
set_option maxRecDepth 100000 in
set_option maxHeartbeats 4000000 in
theorem sOW_startAnew : ∀ (u : zM) r m1, OW_startAnew u = some (r, m1) → zMet l (wC D b) 2 122 yX9_startAnew cX9_startAnew 2 none [.ref 1] u (eV r) m1 := by
  intro u
  refine zMet.of (L := [(0, .ref 1)]) RX9 (by decide +kernel) rfl (Nat.le_of_ble_eq_true rfl) (fun h => by cases h) rfl (fun p e s mi args below meth c R fin hc hin hRm => ?_)
  unfold OW_startAnew
  refine z_aload_n hc dX9_startAnew_0 0 rfl rfl ?_
  refine z_getR (x := 54) hc (ci := 9) (k := 5) (by decide) (by decide) zly9 lC1 (zkC lC1) wFX9_39 rfl dX9_startAnew_1 rfl (by decide) ?_
  refine z_aload_n hc dX9_startAnew_4 0 rfl rfl ?_
  refine zJ.chk _ (fun h1 => ?_)
  refine z_getR (x := (gR u 1 1)) hc (ci := 9) (k := 1) (by decide) (by decide) zly9 lC1 (zkC lC1) wFX9_19 rfl dX9_startAnew_5 rfl (lC_pos h1) ?_
  refine z_callV (av := [.ref (gR u 1 1)]) (enc' := eV) hc rfl (sSt_begin 54 (gR u 1 1) _) (ci := 7) (by decide) lC54 (zkC lC54) rfl wMX9_75 hpyX7_begin hmyX7_begin (rm_ok hRm (Nat.le_of_ble_eq_true rfl) (Nat.le_of_ble_eq_true rfl)) (Nat.le_of_ble_eq_true rfl) hRm.2.2 dX9_startAnew_8 (fun c1 u1 f1 => ?_)
  refine z_aload_n hc dX9_startAnew_11 0 rfl rfl ?_
  refine zJ.chk _ (fun h2 => ?_)
  refine z_getR (x := (gR u1 1 3)) hc (ci := 9) (k := 3) (by decide) (by decide) zly9 lC1 (zkC lC1) wFX9_29 rfl dX9_startAnew_12 rfl (lC_pos h2) ?_
  refine z_iconst (v := 0) hc dX9_startAnew_15 rfl ?_
  refine z_putI hc (ci := 6) (k := 3) (by decide) (by decide) zly6 h2 (zkC h2) wFX9_98 rfl rfl rfl rfl dX9_startAnew_16 ?_
  refine zJ.letM (fun u2 e1 => ?_)
  refine z_aload_n hc dX9_startAnew_19 0 rfl rfl ?_
  refine z_getR (x := 66) hc (ci := 9) (k := 7) (by decide) (by decide) zly9 lC1 (zkC lC1) wFX9_49 rfl dX9_startAnew_20 rfl (by decide) ?_
  refine z_iconst (v := 0) hc dX9_startAnew_23 rfl ?_
  refine z_putI hc (ci := 5) (k := 3) (by decide) (by decide) zly5 lC66 (zkC lC66) wFX9_101 rfl rfl rfl rfl dX9_startAnew_24 ?_
  refine zJ.letM (fun u3 e2 => ?_)
  refine z_iconst (v := 0) hc dX9_startAnew_27 rfl ?_
  refine z_istore_n (L' := [(1, .int 0), (0, .ref 1)]) hc dX9_startAnew_28 rfl (by decide) rfl rfl ?_
  refine zJ.sub (L' := [(0, .ref 1), (1, .int 0)]) [1, 0] rfl ?_
  exact sOW_startAnew_29 hc hRm zF 0 _
set_option maxRecDepth 100000 in
set_option maxHeartbeats 4000000 in
theorem sOW_county : ∀ (u : zM) r m1, OW_county u = some (r, m1) → zMet l (wC D b) 48 1177 yX9_county cX9_county 3 (some .int) [.ref 1] u (eI r) m1 := by
  intro u
  refine zMet.of (L := [(0, .ref 1)]) RX9 (by decide +kernel) rfl (Nat.le_of_ble_eq_true rfl) (fun h => by cases h) rfl (fun p e s mi args below meth c R fin hc hin hRm => ?_)
  unfold OW_county
  refine z_aload_n hc dX9_county_0 0 rfl rfl ?_
  refine zJ.chk _ (fun h1 => ?_)
  refine z_getR (x := (gR u 1 2)) hc (ci := 9) (k := 2) (by decide) (by decide) zly9 lC1 (zkC lC1) wFX9_23 rfl dX9_county_1 rfl (lC_pos h1) ?_
  refine z_aload_n hc dX9_county_4 0 rfl rfl ?_
  refine z_getR (x := 2) hc (ci := 9) (k := 0) (by decide) (by decide) zly9 lC1 (zkC lC1) wFX9_10 rfl dX9_county_5 rfl (by decide) ?_
  refine z_callV (av := [.ref 2]) (enc' := eV) hc rfl (sCo_read (gR u 1 2) _) (ci := 0) (by decide) h1 (zkC h1) rfl wMX9_87 hpyX0_read hmyX0_read (rm_ok hRm (Nat.le_of_ble_eq_true rfl) (Nat.le_of_ble_eq_true rfl)) (Nat.le_of_ble_eq_true rfl) hRm.2.2 dX9_county_8 (fun c1 u1 f1 => ?_)
  refine z_aload_n hc dX9_county_11 0 rfl rfl ?_
  refine z_getR (x := 2) hc (ci := 9) (k := 0) (by decide) (by decide) zly9 lC1 (zkC lC1) wFX9_10 rfl dX9_county_12 rfl (by decide) ?_
  refine z_callV (av := []) (enc' := eI) hc rfl (sTa_finish _) (ci := 8) (by decide) lC2 (zkC lC2) rfl wMX9_91 hpyX8_finish hmyX8_finish (rm_ok hRm (Nat.le_of_ble_eq_true rfl) (Nat.le_of_ble_eq_true rfl)) (Nat.le_of_ble_eq_true rfl) hRm.2.2 dX9_county_15 (fun c2 u2 f2 => ?_)
  refine z_istore_n (L' := [(1, .int c2), (0, .ref 1)]) hc dX9_county_18 rfl (by decide) rfl rfl ?_
  refine z_iload_n hc dX9_county_19 0 rfl rfl ?_
  refine z_if_ne (tgt := 45) hc dX9_county_20 (by decide) _ (fun h2 => ?_) (fun h2 => ?_)
  · refine z_iload_n hc dX9_county_45 0 rfl rfl ?_
    exact z_iret hc dX9_county_46
  · refine z_aload_n hc dX9_county_23 1 rfl rfl ?_
    refine zJ.chk _ (fun h3 => ?_)
    refine z_getR (x := (gR u2 1 1)) hc (ci := 9) (k := 1) (by decide) (by decide) zly9 lC1 (zkC lC1) wFX9_19 rfl dX9_county_24 rfl (lC_pos h3) ?_
    refine z_astore_n (L' := [(2, .ref (gR u2 1 1)), (1, .int c2), (0, .ref 1)]) hc dX9_county_27 rfl (by decide) rfl rfl ?_
    refine z_aload_n hc dX9_county_28 2 rfl rfl ?_
    refine z_aload_n hc dX9_county_29 2 rfl rfl ?_
    refine zJ.chk _ (fun h4 => ?_)
    refine z_getR (x := (gR u2 1 2)) hc (ci := 9) (k := 2) (by decide) (by decide) zly9 lC1 (zkC lC1) wFX9_23 rfl dX9_county_30 rfl (lC_pos h4) ?_
    refine z_putR hc (ci := 9) (k := 1) (by decide) (by decide) zly9 lC1 (zkC lC1) wFX9_19 rfl (Or.inl rfl) (lC_pos h4) (rfC_put (k := 1) rfl) dX9_county_33 ?_
    refine zJ.letM (fun u3 e1 => ?_)
    refine z_aload_n hc dX9_county_36 2 rfl rfl ?_
    refine z_aload_n hc dX9_county_37 0 rfl rfl ?_
    refine z_putR hc (ci := 9) (k := 2) (by decide) (by decide) zly9 lC1 (zkC lC1) wFX9_23 rfl (Or.inl rfl) (lC_pos h3) (rfC_put (k := 2) rfl) dX9_county_38 ?_
    refine zJ.letM (fun u4 e2 => ?_)
    refine z_aload_n hc dX9_county_41 2 rfl rfl ?_
    refine z_callV (av := []) (enc' := eV) hc rfl (sOW_startAnew _) (ci := 9) (by decide) lC1 (zkC lC1) rfl wMX9_95 hpyX9_startAnew hmyX9_startAnew (rm_ok hRm (Nat.le_of_ble_eq_true rfl) (Nat.le_of_ble_eq_true rfl)) (Nat.le_of_ble_eq_true rfl) hRm.2.2 dX9_county_42 (fun c3 u5 f3 => ?_)
    refine z_iload_n hc dX9_county_45 1 rfl rfl ?_
    exact z_iret hc dX9_county_46
set_option maxRecDepth 100000 in
set_option maxHeartbeats 4000000 in
theorem sOW_session : ∀ (u : zM) r m1, OW_session u = some (r, m1) → zMet l (wC D b) 6 131 yX9_session cX9_session 3 (some .int) [.ref 1] u (eI r) m1 := by
  intro u
  refine zMet.of (L := [(0, .ref 1)]) RX9 (by decide +kernel) rfl (Nat.le_of_ble_eq_true rfl) (fun h => by cases h) rfl (fun p e s mi args below meth c R fin hc hin hRm => ?_)
  unfold OW_session
  refine z_aload_n hc dX9_session_0 0 rfl rfl ?_
  refine zJ.chk _ (fun h1 => ?_)
  refine z_getR (x := (gR u 1 4)) hc (ci := 9) (k := 4) (by decide) (by decide) zly9 lC1 (zkC lC1) wFX9_33 rfl dX9_session_1 rfl (lC_pos h1) ?_
  refine z_aload_n hc dX9_session_4 0 rfl rfl ?_
  refine z_getR (x := 2) hc (ci := 9) (k := 0) (by decide) (by decide) zly9 lC1 (zkC lC1) wFX9_10 rfl dX9_session_5 rfl (by decide) ?_
  refine z_aload_n hc dX9_session_8 0 rfl rfl ?_
  refine zJ.chk _ (fun h2 => ?_)
  refine z_getR (x := (gR u 1 1)) hc (ci := 9) (k := 1) (by decide) (by decide) zly9 lC1 (zkC lC1) wFX9_19 rfl dX9_session_9 rfl (lC_pos h2) ?_
  refine z_callV (av := [.ref 2, .ref (gR u 1 1)]) (enc' := eV) hc rfl (sSs_read (gR u 1 4) (gR u 1 1) _) (ci := 6) (by decide) h1 (zkC h1) rfl wMX9_112 hpyX6_read hmyX6_read (rm_ok hRm (Nat.le_of_ble_eq_true rfl) (Nat.le_of_ble_eq_true rfl)) (Nat.le_of_ble_eq_true rfl) hRm.2.2 dX9_session_12 (fun c1 u1 f1 => ?_)
  refine z_aload_n hc dX9_session_15 0 rfl rfl ?_
  refine z_getR (x := 2) hc (ci := 9) (k := 0) (by decide) (by decide) zly9 lC1 (zkC lC1) wFX9_10 rfl dX9_session_16 rfl (by decide) ?_
  refine z_callV (av := []) (enc' := eI) hc rfl (sTa_finish _) (ci := 8) (by decide) lC2 (zkC lC2) rfl wMX9_91 hpyX8_finish hmyX8_finish (rm_ok hRm (Nat.le_of_ble_eq_true rfl) (Nat.le_of_ble_eq_true rfl)) (Nat.le_of_ble_eq_true rfl) hRm.2.2 dX9_session_19 (fun c2 u2 f2 => ?_)
  refine z_istore_n (L' := [(1, .int c2), (0, .ref 1)]) hc dX9_session_22 rfl (by decide) rfl rfl ?_
  refine z_iload_n hc dX9_session_23 0 rfl rfl ?_
  refine z_if_ne (tgt := 45) hc dX9_session_24 (by decide) _ (fun h3 => ?_) (fun h3 => ?_)
  · refine z_iload_n hc dX9_session_45 0 rfl rfl ?_
    exact z_iret hc dX9_session_46
  · refine z_aload_n hc dX9_session_27 1 rfl rfl ?_
    refine zJ.chk _ (fun h4 => ?_)
    refine z_getR (x := (gR u2 1 3)) hc (ci := 9) (k := 3) (by decide) (by decide) zly9 lC1 (zkC lC1) wFX9_29 rfl dX9_session_28 rfl (lC_pos h4) ?_
    refine z_astore_n (L' := [(2, .ref (gR u2 1 3)), (1, .int c2), (0, .ref 1)]) hc dX9_session_31 rfl (by decide) rfl rfl ?_
    refine z_aload_n hc dX9_session_32 2 rfl rfl ?_
    refine z_aload_n hc dX9_session_33 2 rfl rfl ?_
    refine zJ.chk _ (fun h5 => ?_)
    refine z_getR (x := (gR u2 1 4)) hc (ci := 9) (k := 4) (by decide) (by decide) zly9 lC1 (zkC lC1) wFX9_33 rfl dX9_session_34 rfl (lC_pos h5) ?_
    refine z_putR hc (ci := 9) (k := 3) (by decide) (by decide) zly9 lC1 (zkC lC1) wFX9_29 rfl (Or.inl rfl) (lC_pos h5) (rfC_put (k := 3) rfl) dX9_session_37 ?_
    refine zJ.letM (fun u3 e1 => ?_)
    refine z_aload_n hc dX9_session_40 2 rfl rfl ?_
    refine z_aload_n hc dX9_session_41 0 rfl rfl ?_
    refine z_putR hc (ci := 9) (k := 4) (by decide) (by decide) zly9 lC1 (zkC lC1) wFX9_33 rfl (Or.inl rfl) (lC_pos h4) (rfC_put (k := 4) rfl) dX9_session_42 ?_
    refine zJ.letM (fun u4 e2 => ?_)
    refine z_iload_n hc dX9_session_45 1 rfl rfl ?_
    exact z_iret hc dX9_session_46
set_option maxRecDepth 100000 in
set_option maxHeartbeats 4000000 in
theorem sOW_isPlace : ∀ (v1 : Int32) (u : zM) r m1, OW_isPlace v1 u = some (r, m1) → zMet l (wC D b) 0 0 yX9_isPlace cX9_isPlace 2 (some .boolean) [.ref 1, .int v1] u (eI r) m1 := by
  intro v1 u
  refine zMet.of (L := [(0, .ref 1), (1, .int v1)]) RX9 (by decide +kernel) rfl (Nat.le_of_ble_eq_true rfl) (fun h => by cases h) rfl (fun p e s mi args below meth c R fin hc hin hRm => ?_)
  unfold OW_isPlace
  refine z_iload_n hc dX9_isPlace_0 1 rfl rfl ?_
  refine z_if_lt (tgt := 22) hc dX9_isPlace_1 (by decide) _ (fun h1 => ?_) (fun h1 => ?_)
  · refine z_iconst (v := 0) hc dX9_isPlace_22 rfl ?_
    exact z_zret hc rfl dX9_isPlace_23
  · refine z_iload_n hc dX9_isPlace_4 1 rfl rfl ?_
    refine z_aload_n hc dX9_isPlace_5 0 rfl rfl ?_
    refine zJ.chk _ (fun h2 => ?_)
    refine z_getR (x := (gR u 1 1)) hc (ci := 9) (k := 1) (by decide) (by decide) zly9 lC1 (zkC lC1) wFX9_19 rfl dX9_isPlace_6 rfl (lC_pos h2) ?_
    refine z_getR (x := ((gR u 1 1) + 1)) hc (ci := 0) (k := 0) (by decide) (by decide) zly0 h2 (zkC h2) wFX9_115 rfl dX9_isPlace_9 (rfC_off (off := 1) h2 rfl (by decide)) (Nat.le_add_left_of_le (by decide)) ?_
    refine z_getI hc (ci := 3) (k := 1) (by decide) (by decide) zly3 (lyC_10_1 h2) (zkC (lyC_10_1 h2)) wFX9_119 rfl dX9_isPlace_12 ?_
    refine z_icmp_ge (tgt := 22) hc dX9_isPlace_15 (by decide) _ (fun h3 => ?_) (fun h3 => ?_)
    · refine z_iconst (v := 0) hc dX9_isPlace_22 rfl ?_
      exact z_zret hc rfl dX9_isPlace_23
    · refine z_iconst (v := 1) hc dX9_isPlace_18 rfl ?_
      refine z_goto (tgt := 23) hc dX9_isPlace_19 (by decide) ?_
      exact z_zret hc rfl dX9_isPlace_23
set_option maxRecDepth 100000 in
set_option maxHeartbeats 4000000 in
theorem sOW_isPerson : ∀ (v1 : Int32) (u : zM) r m1, OW_isPerson v1 u = some (r, m1) → zMet l (wC D b) 0 0 yX9_isPerson cX9_isPerson 2 (some .boolean) [.ref 1, .int v1] u (eI r) m1 := by
  intro v1 u
  refine zMet.of (L := [(0, .ref 1), (1, .int v1)]) RX9 (by decide +kernel) rfl (Nat.le_of_ble_eq_true rfl) (fun h => by cases h) rfl (fun p e s mi args below meth c R fin hc hin hRm => ?_)
  unfold OW_isPerson
  refine z_iload_n hc dX9_isPerson_0 1 rfl rfl ?_
  refine z_if_lt (tgt := 22) hc dX9_isPerson_1 (by decide) _ (fun h1 => ?_) (fun h1 => ?_)
  · refine z_iconst (v := 0) hc dX9_isPerson_22 rfl ?_
    exact z_zret hc rfl dX9_isPerson_23
  · refine z_iload_n hc dX9_isPerson_4 1 rfl rfl ?_
    refine z_aload_n hc dX9_isPerson_5 0 rfl rfl ?_
    refine zJ.chk _ (fun h2 => ?_)
    refine z_getR (x := (gR u 1 1)) hc (ci := 9) (k := 1) (by decide) (by decide) zly9 lC1 (zkC lC1) wFX9_19 rfl dX9_isPerson_6 rfl (lC_pos h2) ?_
    refine z_getR (x := ((gR u 1 1) + 3)) hc (ci := 0) (k := 1) (by decide) (by decide) zly0 h2 (zkC h2) wFX9_122 rfl dX9_isPerson_9 (rfC_off (off := 3) h2 rfl (by decide)) (Nat.le_add_left_of_le (by decide)) ?_
    refine z_getI hc (ci := 3) (k := 1) (by decide) (by decide) zly3 (lyC_10_3 h2) (zkC (lyC_10_3 h2)) wFX9_119 rfl dX9_isPerson_12 ?_
    refine z_icmp_ge (tgt := 22) hc dX9_isPerson_15 (by decide) _ (fun h3 => ?_) (fun h3 => ?_)
    · refine z_iconst (v := 0) hc dX9_isPerson_22 rfl ?_
      exact z_zret hc rfl dX9_isPerson_23
    · refine z_iconst (v := 1) hc dX9_isPerson_18 rfl ?_
      refine z_goto (tgt := 23) hc dX9_isPerson_19 (by decide) ?_
      exact z_zret hc rfl dX9_isPerson_23
set_option maxRecDepth 100000 in
set_option maxHeartbeats 4000000 in
theorem sOW_isOtter : ∀ (v1 : Int32) (u : zM) r m1, OW_isOtter v1 u = some (r, m1) → zMet l (wC D b) 0 0 yX9_isOtter cX9_isOtter 2 (some .boolean) [.ref 1, .int v1] u (eI r) m1 := by
  intro v1 u
  refine zMet.of (L := [(0, .ref 1), (1, .int v1)]) RX9 (by decide +kernel) rfl (Nat.le_of_ble_eq_true rfl) (fun h => by cases h) rfl (fun p e s mi args below meth c R fin hc hin hRm => ?_)
  unfold OW_isOtter
  refine z_iload_n hc dX9_isOtter_0 1 rfl rfl ?_
  refine z_if_lt (tgt := 22) hc dX9_isOtter_1 (by decide) _ (fun h1 => ?_) (fun h1 => ?_)
  · refine z_iconst (v := 0) hc dX9_isOtter_22 rfl ?_
    exact z_zret hc rfl dX9_isOtter_23
  · refine z_iload_n hc dX9_isOtter_4 1 rfl rfl ?_
    refine z_aload_n hc dX9_isOtter_5 0 rfl rfl ?_
    refine zJ.chk _ (fun h2 => ?_)
    refine z_getR (x := (gR u 1 1)) hc (ci := 9) (k := 1) (by decide) (by decide) zly9 lC1 (zkC lC1) wFX9_19 rfl dX9_isOtter_6 rfl (lC_pos h2) ?_
    refine z_getR (x := ((gR u 1 1) + 5)) hc (ci := 0) (k := 2) (by decide) (by decide) zly0 h2 (zkC h2) wFX9_125 rfl dX9_isOtter_9 (rfC_off (off := 5) h2 rfl (by decide)) (Nat.le_add_left_of_le (by decide)) ?_
    refine z_getI hc (ci := 3) (k := 1) (by decide) (by decide) zly3 (lyC_10_5 h2) (zkC (lyC_10_5 h2)) wFX9_119 rfl dX9_isOtter_12 ?_
    refine z_icmp_ge (tgt := 22) hc dX9_isOtter_15 (by decide) _ (fun h3 => ?_) (fun h3 => ?_)
    · refine z_iconst (v := 0) hc dX9_isOtter_22 rfl ?_
      exact z_zret hc rfl dX9_isOtter_23
    · refine z_iconst (v := 1) hc dX9_isOtter_18 rfl ?_
      refine z_goto (tgt := 23) hc dX9_isOtter_19 (by decide) ?_
      exact z_zret hc rfl dX9_isOtter_23
set_option maxRecDepth 100000 in
set_option maxHeartbeats 4000000 in
theorem sOW_isWrit : ∀ (v1 : Int32) (u : zM) r m1, OW_isWrit v1 u = some (r, m1) → zMet l (wC D b) 0 0 yX9_isWrit cX9_isWrit 2 (some .boolean) [.ref 1, .int v1] u (eI r) m1 := by
  intro v1 u
  refine zMet.of (L := [(0, .ref 1), (1, .int v1)]) RX9 (by decide +kernel) rfl (Nat.le_of_ble_eq_true rfl) (fun h => by cases h) rfl (fun p e s mi args below meth c R fin hc hin hRm => ?_)
  unfold OW_isWrit
  refine z_iload_n hc dX9_isWrit_0 1 rfl rfl ?_
  refine z_if_lt (tgt := 22) hc dX9_isWrit_1 (by decide) _ (fun h1 => ?_) (fun h1 => ?_)
  · refine z_iconst (v := 0) hc dX9_isWrit_22 rfl ?_
    exact z_zret hc rfl dX9_isWrit_23
  · refine z_iload_n hc dX9_isWrit_4 1 rfl rfl ?_
    refine z_aload_n hc dX9_isWrit_5 0 rfl rfl ?_
    refine zJ.chk _ (fun h2 => ?_)
    refine z_getR (x := (gR u 1 1)) hc (ci := 9) (k := 1) (by decide) (by decide) zly9 lC1 (zkC lC1) wFX9_19 rfl dX9_isWrit_6 rfl (lC_pos h2) ?_
    refine z_getR (x := ((gR u 1 1) + 7)) hc (ci := 0) (k := 3) (by decide) (by decide) zly0 h2 (zkC h2) wFX9_128 rfl dX9_isWrit_9 (rfC_off (off := 7) h2 rfl (by decide)) (Nat.le_add_left_of_le (by decide)) ?_
    refine z_getI hc (ci := 3) (k := 1) (by decide) (by decide) zly3 (lyC_10_7 h2) (zkC (lyC_10_7 h2)) wFX9_119 rfl dX9_isWrit_12 ?_
    refine z_icmp_ge (tgt := 22) hc dX9_isWrit_15 (by decide) _ (fun h3 => ?_) (fun h3 => ?_)
    · refine z_iconst (v := 0) hc dX9_isWrit_22 rfl ?_
      exact z_zret hc rfl dX9_isWrit_23
    · refine z_iconst (v := 1) hc dX9_isWrit_18 rfl ?_
      refine z_goto (tgt := 23) hc dX9_isWrit_19 (by decide) ?_
      exact z_zret hc rfl dX9_isWrit_23
set_option maxRecDepth 100000 in
set_option maxHeartbeats 4000000 in
theorem sOW_place : ∀ (v1 : Int32) (v2 : Int32) (u : zM) r m1, OW_place v1 v2 u = some (r, m1) → zMet l (wC D b) 1 24 yX9_place cX9_place 3 (some .int) [.ref 1, .int v1, .int v2] u (eI r) m1 := by
  intro v1 v2 u
  refine zMet.of (L := [(0, .ref 1), (1, .int v1), (2, .int v2)]) RX9 (by decide +kernel) rfl (Nat.le_of_ble_eq_true rfl) (fun h => by cases h) rfl (fun p e s mi args below meth c R fin hc hin hRm => ?_)
  unfold OW_place
  refine z_aload_n hc dX9_place_0 0 rfl rfl ?_
  refine z_iload_n hc dX9_place_1 1 rfl rfl ?_
  refine z_callV (av := [.int v1]) (enc' := eI) hc rfl (sOW_isPlace v1 _) (ci := 9) (by decide) lC1 (zkC lC1) rfl wMX9_131 hpyX9_isPlace hmyX9_isPlace (rm_ok hRm (Nat.le_of_ble_eq_true rfl) (Nat.le_of_ble_eq_true rfl)) (Nat.le_of_ble_eq_true rfl) hRm.2.2 dX9_place_2 (fun c1 u1 f1 => ?_)
  refine z_if_ne (tgt := 10) hc dX9_place_5 (by decide) _ (fun h1 => ?_) (fun h1 => ?_)
  · refine z_iload_n hc dX9_place_10 2 rfl rfl ?_
    refine zJ.cut _ (fun h2 => ?_) (fun h2 => ?_)
    · refine z_tabIn (v := 0) (tgt := 40) hc dX9_place_11 h2 (by decide) (by decide) rfl (by decide) ?_
      refine z_aload_n hc dX9_place_40 0 rfl rfl ?_
      refine z_getR (x := 54) hc (ci := 9) (k := 5) (by decide) (by decide) zly9 lC1 (zkC lC1) wFX9_39 rfl dX9_place_41 rfl (by decide) ?_
      refine z_getR (x := 55) hc (ci := 7) (k := 0) (by decide) (by decide) zly7 lC54 (zkC lC54) wFX9_135 rfl dX9_place_44 rfl (by decide) ?_
      refine z_iload_n hc dX9_place_47 1 rfl rfl ?_
      refine zJ.chk _ (fun h6 => ?_)
      refine z_iald (k := (ix v1)) hc lC55 (zkC lC55) h6 rfl dX9_place_48 ?_
      exact z_iret hc dX9_place_49
    · refine zJ.cut _ (fun h3 => ?_) (fun h3 => ?_)
      · refine z_tabIn (v := 1) (tgt := 50) hc dX9_place_11 h3 (by decide) (by decide) rfl (by decide) ?_
        refine z_aload_n hc dX9_place_50 0 rfl rfl ?_
        refine zJ.chk _ (fun h7 => ?_)
        refine z_getR (x := (gR u1 1 1)) hc (ci := 9) (k := 1) (by decide) (by decide) zly9 lC1 (zkC lC1) wFX9_19 rfl dX9_place_51 rfl (lC_pos h7) ?_
        refine z_getR (x := ((gR u1 1 1) + 10)) hc (ci := 0) (k := 5) (by decide) (by decide) zly0 h7 (zkC h7) wFX9_138 rfl dX9_place_54 (rfC_off (off := 10) h7 rfl (by decide)) (Nat.le_add_left_of_le (by decide)) ?_
        refine z_iload_n hc dX9_place_57 1 rfl rfl ?_
        refine zJ.chk _ (fun h8 => ?_)
        refine z_iald (k := (ix v1)) hc (lyC_10_10 h7) (zkC (lyC_10_10 h7)) h8 rfl dX9_place_58 ?_
        exact z_iret hc dX9_place_59
      · refine zJ.cut _ (fun h4 => ?_) (fun h4 => ?_)
        · refine z_tabIn (v := 2) (tgt := 60) hc dX9_place_11 h4 (by decide) (by decide) rfl (by decide) ?_
          refine z_aload_n hc dX9_place_60 0 rfl rfl ?_
          refine z_getR (x := 54) hc (ci := 9) (k := 5) (by decide) (by decide) zly9 lC1 (zkC lC1) wFX9_39 rfl dX9_place_61 rfl (by decide) ?_
          refine z_getR (x := 56) hc (ci := 7) (k := 1) (by decide) (by decide) zly7 lC54 (zkC lC54) wFX9_141 rfl dX9_place_64 rfl (by decide) ?_
          refine z_aload_n hc dX9_place_67 0 rfl rfl ?_
          refine zJ.chk _ (fun h9 => ?_)
          refine z_getR (x := (gR u1 1 1)) hc (ci := 9) (k := 1) (by decide) (by decide) zly9 lC1 (zkC lC1) wFX9_19 rfl dX9_place_68 rfl (lC_pos h9) ?_
          refine z_getR (x := ((gR u1 1 1) + 3)) hc (ci := 0) (k := 1) (by decide) (by decide) zly0 h9 (zkC h9) wFX9_122 rfl dX9_place_71 (rfC_off (off := 3) h9 rfl (by decide)) (Nat.le_add_left_of_le (by decide)) ?_
          refine z_getI hc (ci := 3) (k := 1) (by decide) (by decide) zly3 (lyC_10_3 h9) (zkC (lyC_10_3 h9)) wFX9_119 rfl dX9_place_74 ?_
          refine z_iload_n hc dX9_place_77 1 rfl rfl ?_
          refine z_callS (av := [.ref 56, .int (gI u1 ((gR u1 1 1) + 3) 1), .int v1]) (enc' := eI) hc rfl (sOW_bitsOf 56 (gI u1 ((gR u1 1 1) + 3) 1) v1 _) wMX9_144 hpyX9_bitsOf hmyX9_bitsOf (rm_ok hRm (Nat.le_of_ble_eq_true rfl) (Nat.le_of_ble_eq_true rfl)) (Nat.le_of_ble_eq_true rfl) hRm.2.2 dX9_place_78 (fun c2 u2 f2 => ?_)
          exact z_iret hc dX9_place_81
        · refine zJ.cut _ (fun h5 => ?_) (fun h5 => ?_)
          · refine z_tabIn (v := 3) (tgt := 82) hc dX9_place_11 h5 (by decide) (by decide) rfl (by decide) ?_
            refine z_aload_n hc dX9_place_82 0 rfl rfl ?_
            refine z_getR (x := 54) hc (ci := 9) (k := 5) (by decide) (by decide) zly9 lC1 (zkC lC1) wFX9_39 rfl dX9_place_83 rfl (by decide) ?_
            refine z_getR (x := 57) hc (ci := 7) (k := 2) (by decide) (by decide) zly7 lC54 (zkC lC54) wFX9_148 rfl dX9_place_86 rfl (by decide) ?_
            refine z_aload_n hc dX9_place_89 0 rfl rfl ?_
            refine zJ.chk _ (fun h10 => ?_)
            refine z_getR (x := (gR u1 1 1)) hc (ci := 9) (k := 1) (by decide) (by decide) zly9 lC1 (zkC lC1) wFX9_19 rfl dX9_place_90 rfl (lC_pos h10) ?_
            refine z_getR (x := ((gR u1 1 1) + 5)) hc (ci := 0) (k := 2) (by decide) (by decide) zly0 h10 (zkC h10) wFX9_125 rfl dX9_place_93 (rfC_off (off := 5) h10 rfl (by decide)) (Nat.le_add_left_of_le (by decide)) ?_
            refine z_getI hc (ci := 3) (k := 1) (by decide) (by decide) zly3 (lyC_10_5 h10) (zkC (lyC_10_5 h10)) wFX9_119 rfl dX9_place_96 ?_
            refine z_iload_n hc dX9_place_99 1 rfl rfl ?_
            refine z_callS (av := [.ref 57, .int (gI u1 ((gR u1 1 1) + 5) 1), .int v1]) (enc' := eI) hc rfl (sOW_bitsOf 57 (gI u1 ((gR u1 1 1) + 5) 1) v1 _) wMX9_144 hpyX9_bitsOf hmyX9_bitsOf (rm_ok hRm (Nat.le_of_ble_eq_true rfl) (Nat.le_of_ble_eq_true rfl)) (Nat.le_of_ble_eq_true rfl) hRm.2.2 dX9_place_100 (fun c3 u3 f3 => ?_)
            exact z_iret hc dX9_place_103
          · refine z_tabOut (tgt := 104) hc dX9_place_11 (tab_out 4 (by decide) (fun j hj => match j, hj with | 0, _ => fun e => h2 e | 1, _ => fun e => h3 e | 2, _ => fun e => h4 e | 3, _ => fun e => h5 e | j + 4, hj => absurd hj (by omega))) (by decide) ?_
            refine z_iconst (v := (-1)) hc dX9_place_104 rfl ?_
            exact z_iret hc dX9_place_105
  · refine z_iconst (v := (-1)) hc dX9_place_8 rfl ?_
    exact z_iret hc dX9_place_9
set_option maxRecDepth 100000 in
set_option maxHeartbeats 4000000 in
theorem sOW_person : ∀ (v1 : Int32) (v2 : Int32) (u : zM) r m1, OW_person v1 v2 u = some (r, m1) → zMet l (wC D b) 1 21 yX9_person cX9_person 3 (some .int) [.ref 1, .int v1, .int v2] u (eI r) m1 := by
  intro v1 v2 u
  refine zMet.of (L := [(0, .ref 1), (1, .int v1), (2, .int v2)]) RX9 (by decide +kernel) rfl (Nat.le_of_ble_eq_true rfl) (fun h => by cases h) rfl (fun p e s mi args below meth c R fin hc hin hRm => ?_)
  unfold OW_person
  refine z_aload_n hc dX9_person_0 0 rfl rfl ?_
  refine z_iload_n hc dX9_person_1 1 rfl rfl ?_
  refine z_callV (av := [.int v1]) (enc' := eI) hc rfl (sOW_isPerson v1 _) (ci := 9) (by decide) lC1 (zkC lC1) rfl wMX9_151 hpyX9_isPerson hmyX9_isPerson (rm_ok hRm (Nat.le_of_ble_eq_true rfl) (Nat.le_of_ble_eq_true rfl)) (Nat.le_of_ble_eq_true rfl) hRm.2.2 dX9_person_2 (fun c1 u1 f1 => ?_)
  refine z_if_ne (tgt := 10) hc dX9_person_5 (by decide) _ (fun h1 => ?_) (fun h1 => ?_)
  · refine z_iload_n hc dX9_person_10 2 rfl rfl ?_
    refine zJ.cut _ (fun h2 => ?_) (fun h2 => ?_)
    · refine z_look (tgt := 36) (off := 25) hc dX9_person_11 (by decide) (by rw [h2]; decide) (by decide) ?_
      refine z_aload_n hc dX9_person_36 0 rfl rfl ?_
      refine zJ.chk _ (fun h4 => ?_)
      refine z_getR (x := (gR u1 1 1)) hc (ci := 9) (k := 1) (by decide) (by decide) zly9 lC1 (zkC lC1) wFX9_19 rfl dX9_person_37 rfl (lC_pos h4) ?_
      refine z_getR (x := ((gR u1 1 1) + 11)) hc (ci := 0) (k := 6) (by decide) (by decide) zly0 h4 (zkC h4) wFX9_154 rfl dX9_person_40 (rfC_off (off := 11) h4 rfl (by decide)) (Nat.le_add_left_of_le (by decide)) ?_
      refine z_iload_n hc dX9_person_43 1 rfl rfl ?_
      refine zJ.chk _ (fun h5 => ?_)
      refine z_iald (k := (ix v1)) hc (lyC_10_11 h4) (zkC (lyC_10_11 h4)) h5 rfl dX9_person_44 ?_
      exact z_iret hc dX9_person_45
    · refine zJ.cut _ (fun h3 => ?_) (fun h3 => ?_)
      · refine z_look (tgt := 46) (off := 35) hc dX9_person_11 (by decide) (by rw [h3]; decide) (by decide) ?_
        refine z_aload_n hc dX9_person_46 0 rfl rfl ?_
        refine z_getR (x := 54) hc (ci := 9) (k := 5) (by decide) (by decide) zly9 lC1 (zkC lC1) wFX9_39 rfl dX9_person_47 rfl (by decide) ?_
        refine z_getR (x := 56) hc (ci := 7) (k := 1) (by decide) (by decide) zly7 lC54 (zkC lC54) wFX9_141 rfl dX9_person_50 rfl (by decide) ?_
        refine z_iload_n hc dX9_person_53 1 rfl rfl ?_
        refine zJ.chk _ (fun h6 => ?_)
        refine z_iald (k := (ix v1)) hc lC56 (zkC lC56) h6 rfl dX9_person_54 ?_
        exact z_iret hc dX9_person_55
      · refine z_look (tgt := 56) (off := 45) hc dX9_person_11 (by decide) (zlook_out h2 h3) (by decide) ?_
        refine z_iconst (v := (-1)) hc dX9_person_56 rfl ?_
        exact z_iret hc dX9_person_57
  · refine z_iconst (v := (-1)) hc dX9_person_8 rfl ?_
    exact z_iret hc dX9_person_9
set_option maxRecDepth 100000 in
set_option maxHeartbeats 4000000 in
theorem sOW_otter : ∀ (v1 : Int32) (v2 : Int32) (u : zM) r m1, OW_otter v1 v2 u = some (r, m1) → zMet l (wC D b) 1 24 yX9_otter cX9_otter 3 (some .int) [.ref 1, .int v1, .int v2] u (eI r) m1 := by
  intro v1 v2 u
  refine zMet.of (L := [(0, .ref 1), (1, .int v1), (2, .int v2)]) RX9 (by decide +kernel) rfl (Nat.le_of_ble_eq_true rfl) (fun h => by cases h) rfl (fun p e s mi args below meth c R fin hc hin hRm => ?_)
  unfold OW_otter
  refine z_aload_n hc dX9_otter_0 0 rfl rfl ?_
  refine z_iload_n hc dX9_otter_1 1 rfl rfl ?_
  refine z_callV (av := [.int v1]) (enc' := eI) hc rfl (sOW_isOtter v1 _) (ci := 9) (by decide) lC1 (zkC lC1) rfl wMX9_157 hpyX9_isOtter hmyX9_isOtter (rm_ok hRm (Nat.le_of_ble_eq_true rfl) (Nat.le_of_ble_eq_true rfl)) (Nat.le_of_ble_eq_true rfl) hRm.2.2 dX9_otter_2 (fun c1 u1 f1 => ?_)
  refine z_if_ne (tgt := 10) hc dX9_otter_5 (by decide) _ (fun h1 => ?_) (fun h1 => ?_)
  · refine z_iload_n hc dX9_otter_10 2 rfl rfl ?_
    refine zJ.cut _ (fun h2 => ?_) (fun h2 => ?_)
    · refine z_tabIn (v := 0) (tgt := 40) hc dX9_otter_11 h2 (by decide) (by decide) rfl (by decide) ?_
      refine z_aload_n hc dX9_otter_40 0 rfl rfl ?_
      refine zJ.chk _ (fun h6 => ?_)
      refine z_getR (x := (gR u1 1 1)) hc (ci := 9) (k := 1) (by decide) (by decide) zly9 lC1 (zkC lC1) wFX9_19 rfl dX9_otter_41 rfl (lC_pos h6) ?_
      refine z_getR (x := ((gR u1 1 1) + 14)) hc (ci := 0) (k := 9) (by decide) (by decide) zly0 h6 (zkC h6) wFX9_160 rfl dX9_otter_44 (rfC_off (off := 14) h6 rfl (by decide)) (Nat.le_add_left_of_le (by decide)) ?_
      refine z_iload_n hc dX9_otter_47 1 rfl rfl ?_
      refine zJ.chk _ (fun h7 => ?_)
      refine z_iald (k := (ix v1)) hc (lyC_10_14 h6) (zkC (lyC_10_14 h6)) h7 rfl dX9_otter_48 ?_
      exact z_iret hc dX9_otter_49
    · refine zJ.cut _ (fun h3 => ?_) (fun h3 => ?_)
      · refine z_tabIn (v := 1) (tgt := 50) hc dX9_otter_11 h3 (by decide) (by decide) rfl (by decide) ?_
        refine z_aload_n hc dX9_otter_50 0 rfl rfl ?_
        refine z_getR (x := 54) hc (ci := 9) (k := 5) (by decide) (by decide) zly9 lC1 (zkC lC1) wFX9_39 rfl dX9_otter_51 rfl (by decide) ?_
        refine z_getR (x := 57) hc (ci := 7) (k := 2) (by decide) (by decide) zly7 lC54 (zkC lC54) wFX9_148 rfl dX9_otter_54 rfl (by decide) ?_
        refine z_iload_n hc dX9_otter_57 1 rfl rfl ?_
        refine zJ.chk _ (fun h8 => ?_)
        refine z_iald (k := (ix v1)) hc lC57 (zkC lC57) h8 rfl dX9_otter_58 ?_
        exact z_iret hc dX9_otter_59
      · refine zJ.cut _ (fun h4 => ?_) (fun h4 => ?_)
        · refine z_tabIn (v := 2) (tgt := 60) hc dX9_otter_11 h4 (by decide) (by decide) rfl (by decide) ?_
          refine z_aload_n hc dX9_otter_60 0 rfl rfl ?_
          refine z_getR (x := 54) hc (ci := 9) (k := 5) (by decide) (by decide) zly9 lC1 (zkC lC1) wFX9_39 rfl dX9_otter_61 rfl (by decide) ?_
          refine z_getR (x := 58) hc (ci := 7) (k := 3) (by decide) (by decide) zly7 lC54 (zkC lC54) wFX9_163 rfl dX9_otter_64 rfl (by decide) ?_
          refine z_iload_n hc dX9_otter_67 1 rfl rfl ?_
          refine zJ.chk _ (fun h9 => ?_)
          refine z_iald (k := (ix v1)) hc lC58 (zkC lC58) h9 rfl dX9_otter_68 ?_
          exact z_iret hc dX9_otter_69
        · refine zJ.cut _ (fun h5 => ?_) (fun h5 => ?_)
          · refine z_tabIn (v := 3) (tgt := 70) hc dX9_otter_11 h5 (by decide) (by decide) rfl (by decide) ?_
            refine z_aload_n hc dX9_otter_70 0 rfl rfl ?_
            refine z_getR (x := 54) hc (ci := 9) (k := 5) (by decide) (by decide) zly9 lC1 (zkC lC1) wFX9_39 rfl dX9_otter_71 rfl (by decide) ?_
            refine z_getR (x := 59) hc (ci := 7) (k := 4) (by decide) (by decide) zly7 lC54 (zkC lC54) wFX9_166 rfl dX9_otter_74 rfl (by decide) ?_
            refine z_aload_n hc dX9_otter_77 0 rfl rfl ?_
            refine zJ.chk _ (fun h10 => ?_)
            refine z_getR (x := (gR u1 1 1)) hc (ci := 9) (k := 1) (by decide) (by decide) zly9 lC1 (zkC lC1) wFX9_19 rfl dX9_otter_78 rfl (lC_pos h10) ?_
            refine z_getR (x := ((gR u1 1 1) + 7)) hc (ci := 0) (k := 3) (by decide) (by decide) zly0 h10 (zkC h10) wFX9_128 rfl dX9_otter_81 (rfC_off (off := 7) h10 rfl (by decide)) (Nat.le_add_left_of_le (by decide)) ?_
            refine z_getI hc (ci := 3) (k := 1) (by decide) (by decide) zly3 (lyC_10_7 h10) (zkC (lyC_10_7 h10)) wFX9_119 rfl dX9_otter_84 ?_
            refine z_iload_n hc dX9_otter_87 1 rfl rfl ?_
            refine z_callS (av := [.ref 59, .int (gI u1 ((gR u1 1 1) + 7) 1), .int v1]) (enc' := eI) hc rfl (sOW_bitsOf 59 (gI u1 ((gR u1 1 1) + 7) 1) v1 _) wMX9_144 hpyX9_bitsOf hmyX9_bitsOf (rm_ok hRm (Nat.le_of_ble_eq_true rfl) (Nat.le_of_ble_eq_true rfl)) (Nat.le_of_ble_eq_true rfl) hRm.2.2 dX9_otter_88 (fun c2 u2 f2 => ?_)
            exact z_iret hc dX9_otter_91
          · refine z_tabOut (tgt := 92) hc dX9_otter_11 (tab_out 4 (by decide) (fun j hj => match j, hj with | 0, _ => fun e => h2 e | 1, _ => fun e => h3 e | 2, _ => fun e => h4 e | 3, _ => fun e => h5 e | j + 4, hj => absurd hj (by omega))) (by decide) ?_
            refine z_iconst (v := (-1)) hc dX9_otter_92 rfl ?_
            exact z_iret hc dX9_otter_93
  · refine z_iconst (v := (-1)) hc dX9_otter_8 rfl ?_
    exact z_iret hc dX9_otter_9
set_option maxRecDepth 100000 in
set_option maxHeartbeats 4000000 in
theorem sOW_writ : ∀ (v1 : Int32) (v2 : Int32) (u : zM) r m1, OW_writ v1 v2 u = some (r, m1) → zMet l (wC D b) 1 21 yX9_writ cX9_writ 3 (some .int) [.ref 1, .int v1, .int v2] u (eI r) m1 := by
  intro v1 v2 u
  refine zMet.of (L := [(0, .ref 1), (1, .int v1), (2, .int v2)]) RX9 (by decide +kernel) rfl (Nat.le_of_ble_eq_true rfl) (fun h => by cases h) rfl (fun p e s mi args below meth c R fin hc hin hRm => ?_)
  unfold OW_writ
  refine z_aload_n hc dX9_writ_0 0 rfl rfl ?_
  refine z_iload_n hc dX9_writ_1 1 rfl rfl ?_
  refine z_callV (av := [.int v1]) (enc' := eI) hc rfl (sOW_isWrit v1 _) (ci := 9) (by decide) lC1 (zkC lC1) rfl wMX9_169 hpyX9_isWrit hmyX9_isWrit (rm_ok hRm (Nat.le_of_ble_eq_true rfl) (Nat.le_of_ble_eq_true rfl)) (Nat.le_of_ble_eq_true rfl) hRm.2.2 dX9_writ_2 (fun c1 u1 f1 => ?_)
  refine z_if_ne (tgt := 11) hc dX9_writ_5 (by decide) _ (fun h1 => ?_) (fun h1 => ?_)
  · refine z_iload_n hc dX9_writ_11 2 rfl rfl ?_
    refine zJ.cut _ (fun h2 => ?_) (fun h2 => ?_)
    · refine z_tabIn (v := 0) (tgt := 40) hc dX9_writ_12 h2 (by decide) (by decide) rfl (by decide) ?_
      refine z_aload_n hc dX9_writ_40 0 rfl rfl ?_
      refine zJ.chk _ (fun h5 => ?_)
      refine z_getR (x := (gR u1 1 1)) hc (ci := 9) (k := 1) (by decide) (by decide) zly9 lC1 (zkC lC1) wFX9_19 rfl dX9_writ_41 rfl (lC_pos h5) ?_
      refine z_getR (x := ((gR u1 1 1) + 15)) hc (ci := 0) (k := 10) (by decide) (by decide) zly0 h5 (zkC h5) wFX9_172 rfl dX9_writ_44 (rfC_off (off := 15) h5 rfl (by decide)) (Nat.le_add_left_of_le (by decide)) ?_
      refine z_iload_n hc dX9_writ_47 1 rfl rfl ?_
      refine zJ.chk _ (fun h6 => ?_)
      refine z_iald (k := (ix v1)) hc (lyC_10_15 h5) (zkC (lyC_10_15 h5)) h6 rfl dX9_writ_48 ?_
      exact z_iret hc dX9_writ_49
    · refine zJ.cut _ (fun h3 => ?_) (fun h3 => ?_)
      · refine z_tabIn (v := 1) (tgt := 50) hc dX9_writ_12 h3 (by decide) (by decide) rfl (by decide) ?_
        refine z_aload_n hc dX9_writ_50 0 rfl rfl ?_
        refine zJ.chk _ (fun h7 => ?_)
        refine z_getR (x := (gR u1 1 1)) hc (ci := 9) (k := 1) (by decide) (by decide) zly9 lC1 (zkC lC1) wFX9_19 rfl dX9_writ_51 rfl (lC_pos h7) ?_
        refine z_getR (x := ((gR u1 1 1) + 16)) hc (ci := 0) (k := 11) (by decide) (by decide) zly0 h7 (zkC h7) wFX9_175 rfl dX9_writ_54 (rfC_off (off := 16) h7 rfl (by decide)) (Nat.le_add_left_of_le (by decide)) ?_
        refine z_iload_n hc dX9_writ_57 1 rfl rfl ?_
        refine zJ.chk _ (fun h8 => ?_)
        refine z_iald (k := (ix v1)) hc (lyC_10_16 h7) (zkC (lyC_10_16 h7)) h8 rfl dX9_writ_58 ?_
        exact z_iret hc dX9_writ_59
      · refine zJ.cut _ (fun h4 => ?_) (fun h4 => ?_)
        · refine z_tabIn (v := 2) (tgt := 60) hc dX9_writ_12 h4 (by decide) (by decide) rfl (by decide) ?_
          refine z_aload_n hc dX9_writ_60 0 rfl rfl ?_
          refine z_getR (x := 54) hc (ci := 9) (k := 5) (by decide) (by decide) zly9 lC1 (zkC lC1) wFX9_39 rfl dX9_writ_61 rfl (by decide) ?_
          refine z_getR (x := 59) hc (ci := 7) (k := 4) (by decide) (by decide) zly7 lC54 (zkC lC54) wFX9_166 rfl dX9_writ_64 rfl (by decide) ?_
          refine z_iload_n hc dX9_writ_67 1 rfl rfl ?_
          refine zJ.chk _ (fun h9 => ?_)
          refine z_iald (k := (ix v1)) hc lC59 (zkC lC59) h9 rfl dX9_writ_68 ?_
          exact z_iret hc dX9_writ_69
        · refine z_tabOut (tgt := 70) hc dX9_writ_12 (tab_out 3 (by decide) (fun j hj => match j, hj with | 0, _ => fun e => h2 e | 1, _ => fun e => h3 e | 2, _ => fun e => h4 e | j + 3, hj => absurd hj (by omega))) (by decide) ?_
          refine z_bipush (v := (-2)) hc dX9_writ_70 rfl ?_
          exact z_iret hc dX9_writ_72
  · refine z_bipush (v := (-2)) hc dX9_writ_8 rfl ?_
    exact z_iret hc dX9_writ_10
set_option maxRecDepth 100000 in
set_option maxHeartbeats 4000000 in
theorem sOW_count : ∀ (v1 : Int32) (u : zM) r m1, OW_count v1 u = some (r, m1) → zMet l (wC D b) 2 43 yX9_count cX9_count 2 (some .int) [.ref 1, .int v1] u (eI r) m1 := by
  intro v1 u
  refine zMet.of (L := [(0, .ref 1), (1, .int v1)]) RX9 (by decide +kernel) rfl (Nat.le_of_ble_eq_true rfl) (fun h => by cases h) rfl (fun p e s mi args below meth c R fin hc hin hRm => ?_)
  unfold OW_count
  refine z_iload_n hc dX9_count_0 1 rfl rfl ?_
  refine zJ.cut _ (fun h1 => ?_) (fun h1 => ?_)
  · refine z_tabIn (v := 0) (tgt := 68) hc dX9_count_1 h1 (by decide) (by decide) rfl (by decide) ?_
    refine z_aload_n hc dX9_count_68 0 rfl rfl ?_
    refine zJ.chk _ (fun h14 => ?_)
    refine z_getR (x := (gR u 1 1)) hc (ci := 9) (k := 1) (by decide) (by decide) zly9 lC1 (zkC lC1) wFX9_19 rfl dX9_count_69 rfl (lC_pos h14) ?_
    refine z_getR (x := ((gR u 1 1) + 1)) hc (ci := 0) (k := 0) (by decide) (by decide) zly0 h14 (zkC h14) wFX9_115 rfl dX9_count_72 (rfC_off (off := 1) h14 rfl (by decide)) (Nat.le_add_left_of_le (by decide)) ?_
    refine z_getI hc (ci := 3) (k := 1) (by decide) (by decide) zly3 (lyC_10_1 h14) (zkC (lyC_10_1 h14)) wFX9_119 rfl dX9_count_75 ?_
    exact z_iret hc dX9_count_78
  · refine zJ.cut _ (fun h2 => ?_) (fun h2 => ?_)
    · refine z_tabIn (v := 1) (tgt := 79) hc dX9_count_1 h2 (by decide) (by decide) rfl (by decide) ?_
      refine z_aload_n hc dX9_count_79 0 rfl rfl ?_
      refine zJ.chk _ (fun h15 => ?_)
      refine z_getR (x := (gR u 1 1)) hc (ci := 9) (k := 1) (by decide) (by decide) zly9 lC1 (zkC lC1) wFX9_19 rfl dX9_count_80 rfl (lC_pos h15) ?_
      refine z_getI hc (ci := 0) (k := 15) (by decide) (by decide) zly0 h15 (zkC h15) wFX9_178 rfl dX9_count_83 ?_
      exact z_iret hc dX9_count_86
    · refine zJ.cut _ (fun h3 => ?_) (fun h3 => ?_)
      · refine z_tabIn (v := 2) (tgt := 87) hc dX9_count_1 h3 (by decide) (by decide) rfl (by decide) ?_
        refine z_aload_n hc dX9_count_87 0 rfl rfl ?_
        refine zJ.chk _ (fun h16 => ?_)
        refine z_getR (x := (gR u 1 1)) hc (ci := 9) (k := 1) (by decide) (by decide) zly9 lC1 (zkC lC1) wFX9_19 rfl dX9_count_88 rfl (lC_pos h16) ?_
        refine z_getR (x := ((gR u 1 1) + 3)) hc (ci := 0) (k := 1) (by decide) (by decide) zly0 h16 (zkC h16) wFX9_122 rfl dX9_count_91 (rfC_off (off := 3) h16 rfl (by decide)) (Nat.le_add_left_of_le (by decide)) ?_
        refine z_getI hc (ci := 3) (k := 1) (by decide) (by decide) zly3 (lyC_10_3 h16) (zkC (lyC_10_3 h16)) wFX9_119 rfl dX9_count_94 ?_
        exact z_iret hc dX9_count_97
      · refine zJ.cut _ (fun h4 => ?_) (fun h4 => ?_)
        · refine z_tabIn (v := 3) (tgt := 98) hc dX9_count_1 h4 (by decide) (by decide) rfl (by decide) ?_
          refine z_aload_n hc dX9_count_98 0 rfl rfl ?_
          refine zJ.chk _ (fun h17 => ?_)
          refine z_getR (x := (gR u 1 1)) hc (ci := 9) (k := 1) (by decide) (by decide) zly9 lC1 (zkC lC1) wFX9_19 rfl dX9_count_99 rfl (lC_pos h17) ?_
          refine z_getR (x := ((gR u 1 1) + 5)) hc (ci := 0) (k := 2) (by decide) (by decide) zly0 h17 (zkC h17) wFX9_125 rfl dX9_count_102 (rfC_off (off := 5) h17 rfl (by decide)) (Nat.le_add_left_of_le (by decide)) ?_
          refine z_getI hc (ci := 3) (k := 1) (by decide) (by decide) zly3 (lyC_10_5 h17) (zkC (lyC_10_5 h17)) wFX9_119 rfl dX9_count_105 ?_
          exact z_iret hc dX9_count_108
        · refine zJ.cut _ (fun h5 => ?_) (fun h5 => ?_)
          · refine z_tabIn (v := 4) (tgt := 109) hc dX9_count_1 h5 (by decide) (by decide) rfl (by decide) ?_
            refine z_aload_n hc dX9_count_109 0 rfl rfl ?_
            refine zJ.chk _ (fun h18 => ?_)
            refine z_getR (x := (gR u 1 1)) hc (ci := 9) (k := 1) (by decide) (by decide) zly9 lC1 (zkC lC1) wFX9_19 rfl dX9_count_110 rfl (lC_pos h18) ?_
            refine z_getR (x := ((gR u 1 1) + 7)) hc (ci := 0) (k := 3) (by decide) (by decide) zly0 h18 (zkC h18) wFX9_128 rfl dX9_count_113 (rfC_off (off := 7) h18 rfl (by decide)) (Nat.le_add_left_of_le (by decide)) ?_
            refine z_getI hc (ci := 3) (k := 1) (by decide) (by decide) zly3 (lyC_10_7 h18) (zkC (lyC_10_7 h18)) wFX9_119 rfl dX9_count_116 ?_
            exact z_iret hc dX9_count_119
          · refine zJ.cut _ (fun h6 => ?_) (fun h6 => ?_)
            · refine z_tabIn (v := 5) (tgt := 120) hc dX9_count_1 h6 (by decide) (by decide) rfl (by decide) ?_
              refine z_aload_n hc dX9_count_120 0 rfl rfl ?_
              refine z_getR (x := 54) hc (ci := 9) (k := 5) (by decide) (by decide) zly9 lC1 (zkC lC1) wFX9_39 rfl dX9_count_121 rfl (by decide) ?_
              refine z_getI hc (ci := 7) (k := 5) (by decide) (by decide) zly7 lC54 (zkC lC54) wFX9_181 rfl dX9_count_124 ?_
              exact z_iret hc dX9_count_127
            · refine zJ.cut _ (fun h7 => ?_) (fun h7 => ?_)
              · refine z_tabIn (v := 6) (tgt := 128) hc dX9_count_1 h7 (by decide) (by decide) rfl (by decide) ?_
                refine z_aload_n hc dX9_count_128 0 rfl rfl ?_
                refine zJ.chk _ (fun h19 => ?_)
                refine z_getR (x := (gR u 1 1)) hc (ci := 9) (k := 1) (by decide) (by decide) zly9 lC1 (zkC lC1) wFX9_19 rfl dX9_count_129 rfl (lC_pos h19) ?_
                refine z_aload_n hc dX9_count_132 0 rfl rfl ?_
                refine z_getR (x := 54) hc (ci := 9) (k := 5) (by decide) (by decide) zly9 lC1 (zkC lC1) wFX9_39 rfl dX9_count_133 rfl (by decide) ?_
                refine z_getI hc (ci := 7) (k := 5) (by decide) (by decide) zly7 lC54 (zkC lC54) wFX9_181 rfl dX9_count_136 ?_
                refine z_callV (av := [.int (gI u 54 5)]) (enc' := eI) hc rfl (sCo_rainOf (gR u 1 1) (gI u 54 5) _) (ci := 0) (by decide) h19 (zkC h19) rfl wMX9_184 hpyX0_rainOf hmyX0_rainOf (rm_ok hRm (Nat.le_of_ble_eq_true rfl) (Nat.le_of_ble_eq_true rfl)) (Nat.le_of_ble_eq_true rfl) hRm.2.2 dX9_count_139 (fun c1 u1 f1 => ?_)
                exact z_iret hc dX9_count_142
              · refine zJ.cut _ (fun h8 => ?_) (fun h8 => ?_)
                · refine z_tabIn (v := 7) (tgt := 143) hc dX9_count_1 h8 (by decide) (by decide) rfl (by decide) ?_
                  refine z_aload_n hc dX9_count_143 0 rfl rfl ?_
                  refine z_getR (x := 54) hc (ci := 9) (k := 5) (by decide) (by decide) zly9 lC1 (zkC lC1) wFX9_39 rfl dX9_count_144 rfl (by decide) ?_
                  refine z_aload_n hc dX9_count_147 0 rfl rfl ?_
                  refine zJ.chk _ (fun h20 => ?_)
                  refine z_getR (x := (gR u 1 1)) hc (ci := 9) (k := 1) (by decide) (by decide) zly9 lC1 (zkC lC1) wFX9_19 rfl dX9_count_148 rfl (lC_pos h20) ?_
                  refine z_callV (av := [.ref (gR u 1 1)]) (enc' := eI) hc rfl (sSt_wetBits 54 (gR u 1 1) _) (ci := 7) (by decide) lC54 (zkC lC54) rfl wMX9_188 hpyX7_wetBits hmyX7_wetBits (rm_ok hRm (Nat.le_of_ble_eq_true rfl) (Nat.le_of_ble_eq_true rfl)) (Nat.le_of_ble_eq_true rfl) hRm.2.2 dX9_count_151 (fun c2 u2 f2 => ?_)
                  exact z_iret hc dX9_count_154
                · refine zJ.cut _ (fun h9 => ?_) (fun h9 => ?_)
                  · refine z_tabIn (v := 8) (tgt := 155) hc dX9_count_1 h9 (by decide) (by decide) rfl (by decide) ?_
                    refine z_aload_n hc dX9_count_155 0 rfl rfl ?_
                    refine z_getR (x := 54) hc (ci := 9) (k := 5) (by decide) (by decide) zly9 lC1 (zkC lC1) wFX9_39 rfl dX9_count_156 rfl (by decide) ?_
                    refine z_getR (x := 59) hc (ci := 7) (k := 4) (by decide) (by decide) zly7 lC54 (zkC lC54) wFX9_166 rfl dX9_count_159 rfl (by decide) ?_
                    refine z_aload_n hc dX9_count_162 0 rfl rfl ?_
                    refine zJ.chk _ (fun h21 => ?_)
                    refine z_getR (x := (gR u 1 1)) hc (ci := 9) (k := 1) (by decide) (by decide) zly9 lC1 (zkC lC1) wFX9_19 rfl dX9_count_163 rfl (lC_pos h21) ?_
                    refine z_getR (x := ((gR u 1 1) + 7)) hc (ci := 0) (k := 3) (by decide) (by decide) zly0 h21 (zkC h21) wFX9_128 rfl dX9_count_166 (rfC_off (off := 7) h21 rfl (by decide)) (Nat.le_add_left_of_le (by decide)) ?_
                    refine z_getI hc (ci := 3) (k := 1) (by decide) (by decide) zly3 (lyC_10_7 h21) (zkC (lyC_10_7 h21)) wFX9_119 rfl dX9_count_169 ?_
                    refine z_iconst (v := 3) hc dX9_count_172 rfl ?_
                    refine z_callS (av := [.ref 59, .int (gI u ((gR u 1 1) + 7) 1), .int 3]) (enc' := eI) hc rfl (sOW_bitsOf 59 (gI u ((gR u 1 1) + 7) 1) 3 _) wMX9_144 hpyX9_bitsOf hmyX9_bitsOf (rm_ok hRm (Nat.le_of_ble_eq_true rfl) (Nat.le_of_ble_eq_true rfl)) (Nat.le_of_ble_eq_true rfl) hRm.2.2 dX9_count_173 (fun c3 u3 f3 => ?_)
                    exact z_iret hc dX9_count_176
                  · refine zJ.cut _ (fun h10 => ?_) (fun h10 => ?_)
                    · refine z_tabIn (v := 9) (tgt := 177) hc dX9_count_1 h10 (by decide) (by decide) rfl (by decide) ?_
                      refine z_aload_n hc dX9_count_177 0 rfl rfl ?_
                      refine zJ.chk _ (fun h22 => ?_)
                      refine z_getR (x := (gR u 1 3)) hc (ci := 9) (k := 3) (by decide) (by decide) zly9 lC1 (zkC lC1) wFX9_29 rfl dX9_count_178 rfl (lC_pos h22) ?_
                      refine z_getI hc (ci := 6) (k := 3) (by decide) (by decide) zly6 h22 (zkC h22) wFX9_98 rfl dX9_count_181 ?_
                      exact z_iret hc dX9_count_184
                    · refine zJ.cut _ (fun h11 => ?_) (fun h11 => ?_)
                      · refine z_tabIn (v := 10) (tgt := 185) hc dX9_count_1 h11 (by decide) (by decide) rfl (by decide) ?_
                        refine z_aload_n hc dX9_count_185 0 rfl rfl ?_
                        refine z_getR (x := 66) hc (ci := 9) (k := 7) (by decide) (by decide) zly9 lC1 (zkC lC1) wFX9_49 rfl dX9_count_186 rfl (by decide) ?_
                        refine z_getI hc (ci := 5) (k := 3) (by decide) (by decide) zly5 lC66 (zkC lC66) wFX9_101 rfl dX9_count_189 ?_
                        exact z_iret hc dX9_count_192
                      · refine zJ.cut _ (fun h12 => ?_) (fun h12 => ?_)
                        · refine z_tabIn (v := 11) (tgt := 193) hc dX9_count_1 h12 (by decide) (by decide) rfl (by decide) ?_
                          refine z_aload_n hc dX9_count_193 0 rfl rfl ?_
                          refine z_getI hc (ci := 9) (k := 12) (by decide) (by decide) zly9 lC1 (zkC lC1) wFX9_192 rfl dX9_count_194 ?_
                          exact z_iret hc dX9_count_197
                        · refine zJ.cut _ (fun h13 => ?_) (fun h13 => ?_)
                          · refine z_tabIn (v := 12) (tgt := 198) hc dX9_count_1 h13 (by decide) (by decide) rfl (by decide) ?_
                            refine z_aload_n hc dX9_count_198 0 rfl rfl ?_
                            refine z_getR (x := 2) hc (ci := 9) (k := 0) (by decide) (by decide) zly9 lC1 (zkC lC1) wFX9_10 rfl dX9_count_199 rfl (by decide) ?_
                            refine z_getI hc (ci := 8) (k := 1) (by decide) (by decide) zly8 lC2 (zkC lC2) wFX9_83 rfl dX9_count_202 ?_
                            exact z_iret hc dX9_count_205
                          · refine z_tabOut (tgt := 206) hc dX9_count_1 (tab_out 13 (by decide) (fun j hj => match j, hj with | 0, _ => fun e => h1 e | 1, _ => fun e => h2 e | 2, _ => fun e => h3 e | 3, _ => fun e => h4 e | 4, _ => fun e => h5 e | 5, _ => fun e => h6 e | 6, _ => fun e => h7 e | 7, _ => fun e => h8 e | 8, _ => fun e => h9 e | 9, _ => fun e => h10 e | 10, _ => fun e => h11 e | 11, _ => fun e => h12 e | 12, _ => fun e => h13 e | j + 13, hj => absurd hj (by omega))) (by decide) ?_
                            refine z_iconst (v := (-1)) hc dX9_count_206 rfl ?_
                            exact z_iret hc dX9_count_207
end ZS
