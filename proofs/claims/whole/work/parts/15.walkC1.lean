section ZS
variable {p : Program} {l : Launch} {e : Env} {R : Room} {s : State} {mi : MethodId} {args : Array Value} {below : List Frame} {meth : Method} {c : Code} {D : zD} {b : Nat} {m0 : zM}
set_option maxRecDepth 100000 in
set_option maxHeartbeats 4000000 in
theorem sCo_clear : ∀ (r0 : Nat) (u : zM) r m1, Co_clear r0 u = some (r, m1) → zMet l (wC D b) 0 0 yX0_clear cX0_clear 1 none [.ref r0] u (eV r) m1 := by
  intro r0 u
  refine zMet.of (L := [(0, .ref r0)]) RX0 (by decide +kernel) rfl (Nat.le_of_ble_eq_true rfl) (fun h => by cases h) rfl (fun p e s mi args below meth c R fin hc hin hRm => ?_)
  unfold Co_clear
  refine zJ.chk _ (fun h1 => ?_)
  refine z_aload_n hc dX0_clear_0 0 rfl rfl ?_
  refine z_getR (x := (r0 + 1)) hc (ci := 0) (k := 0) (by decide) (by decide) zly0 h1 (zkC h1) wFX0_14 rfl dX0_clear_1 (rfC_off (off := 1) h1 rfl (by decide)) (Nat.le_add_left_of_le (by decide)) ?_
  refine z_iconst (v := 0) hc dX0_clear_4 rfl ?_
  refine z_putI hc (ci := 3) (k := 1) (by decide) (by decide) zly3 (lyC_10_1 h1) (zkC (lyC_10_1 h1)) wFX0_84 rfl rfl rfl rfl dX0_clear_5 ?_
  refine zJ.letM (fun u1 e1 => ?_)
  refine z_aload_n hc dX0_clear_8 0 rfl rfl ?_
  refine z_getR (x := (r0 + 3)) hc (ci := 0) (k := 1) (by decide) (by decide) zly0 h1 (zkC h1) wFX0_20 rfl dX0_clear_9 (rfC_off (off := 3) h1 rfl (by decide)) (Nat.le_add_left_of_le (by decide)) ?_
  refine z_iconst (v := 0) hc dX0_clear_12 rfl ?_
  refine z_putI hc (ci := 3) (k := 1) (by decide) (by decide) zly3 (lyC_10_3 h1) (zkC (lyC_10_3 h1)) wFX0_84 rfl rfl rfl rfl dX0_clear_13 ?_
  refine zJ.letM (fun u2 e2 => ?_)
  refine z_aload_n hc dX0_clear_16 0 rfl rfl ?_
  refine z_getR (x := (r0 + 5)) hc (ci := 0) (k := 2) (by decide) (by decide) zly0 h1 (zkC h1) wFX0_23 rfl dX0_clear_17 (rfC_off (off := 5) h1 rfl (by decide)) (Nat.le_add_left_of_le (by decide)) ?_
  refine z_iconst (v := 0) hc dX0_clear_20 rfl ?_
  refine z_putI hc (ci := 3) (k := 1) (by decide) (by decide) zly3 (lyC_10_5 h1) (zkC (lyC_10_5 h1)) wFX0_84 rfl rfl rfl rfl dX0_clear_21 ?_
  refine zJ.letM (fun u3 e3 => ?_)
  refine z_aload_n hc dX0_clear_24 0 rfl rfl ?_
  refine z_getR (x := (r0 + 7)) hc (ci := 0) (k := 3) (by decide) (by decide) zly0 h1 (zkC h1) wFX0_26 rfl dX0_clear_25 (rfC_off (off := 7) h1 rfl (by decide)) (Nat.le_add_left_of_le (by decide)) ?_
  refine z_iconst (v := 0) hc dX0_clear_28 rfl ?_
  refine z_putI hc (ci := 3) (k := 1) (by decide) (by decide) zly3 (lyC_10_7 h1) (zkC (lyC_10_7 h1)) wFX0_84 rfl rfl rfl rfl dX0_clear_29 ?_
  refine zJ.letM (fun u4 e4 => ?_)
  refine z_aload_n hc dX0_clear_32 0 rfl rfl ?_
  refine z_iconst (v := 0) hc dX0_clear_33 rfl ?_
  refine z_putI hc (ci := 0) (k := 14) (by decide) (by decide) zly0 h1 (zkC h1) wFX0_87 rfl rfl rfl rfl dX0_clear_34 ?_
  refine zJ.letM (fun u5 e5 => ?_)
  refine z_aload_n hc dX0_clear_37 0 rfl rfl ?_
  refine z_iconst (v := 0) hc dX0_clear_38 rfl ?_
  refine z_putI hc (ci := 0) (k := 15) (by decide) (by decide) zly0 h1 (zkC h1) wFX0_90 rfl rfl rfl rfl dX0_clear_39 ?_
  refine zJ.letM (fun u6 e6 => ?_)
  refine z_aload_n hc dX0_clear_42 0 rfl rfl ?_
  refine z_getR (x := (r0 + 18)) hc (ci := 0) (k := 13) (by decide) (by decide) zly0 h1 (zkC h1) wFX0_60 rfl dX0_clear_43 (rfC_off (off := 18) h1 rfl (by decide)) (Nat.le_add_left_of_le (by decide)) ?_
  refine z_iconst (v := 0) hc dX0_clear_46 rfl ?_
  refine z_putI hc (ci := 1) (k := 2) (by decide) (by decide) zly1 (lyC_10_18 h1) (zkC (lyC_10_18 h1)) wFX0_93 rfl rfl rfl rfl dX0_clear_47 ?_
  refine zJ.letM (fun u7 e7 => ?_)
  exact z_vret hc dX0_clear_50
set_option maxRecDepth 100000 in
set_option maxHeartbeats 4000000 in
theorem sTa_readWord_74 {fin : Unit × zM} (hc : zCx p s mi args meth c (wC D b) m0 RX8 cX8_readWord 1 none) (hRm : R.frames = 0 ∧ R.locals = 0 ∧ R.cells = zc (wC D b) m0 fin.2 ∧ R.slots = zs (wC D b) m0 fin.2) (u : zM) : zJ eV p l e R s mi args below meth c (wC D b) m0 1 fin 74 [(0, .ref 2)] [] u (Ta_readWord_74 u) := by
  unfold Ta_readWord_74
  refine z_aload_n hc dX8_readWord_74 0 rfl rfl ?_
  refine z_aload_n hc dX8_readWord_75 0 rfl rfl ?_
  refine z_getI hc (ci := 8) (k := 2) (by decide) (by decide) zly8 lC2 (zkC lC2) wFX8_25 rfl dX8_readWord_76 ?_
  refine z_aload_n hc dX8_readWord_79 0 rfl rfl ?_
  refine z_getI hc (ci := 8) (k := 3) (by decide) (by decide) zly8 lC2 (zkC lC2) wFX8_34 rfl dX8_readWord_80 ?_
  refine z_isub hc dX8_readWord_83 ?_
  refine z_bipush (v := 8) hc dX8_readWord_84 rfl ?_
  refine z_icmp_gt (tgt := 93) hc dX8_readWord_86 (by decide) _ (fun h1 => ?_) (fun h1 => ?_)
  · refine z_iconst (v := 4) hc dX8_readWord_93 rfl ?_
    refine z_putI hc (ci := 8) (k := 4) (by decide) (by decide) zly8 lC2 (zkC lC2) wFX8_45 rfl rfl rfl rfl dX8_readWord_94 ?_
    refine zJ.letM (fun u1 e1 => ?_)
    exact z_vret hc dX8_readWord_97
  · refine z_iconst (v := 1) hc dX8_readWord_89 rfl ?_
    refine z_goto (tgt := 94) hc dX8_readWord_90 (by decide) ?_
    refine z_putI hc (ci := 8) (k := 4) (by decide) (by decide) zly8 lC2 (zkC lC2) wFX8_45 rfl rfl rfl rfl dX8_readWord_94 ?_
    refine zJ.letM (fun u2 e2 => ?_)
    exact z_vret hc dX8_readWord_97
set_option maxRecDepth 100000 in
set_option maxHeartbeats 4000000 in
theorem sTa_readWord_0b {fin : Unit × zM} (hc : zCx p s mi args meth c (wC D b) m0 RX8 cX8_readWord 1 none) (hRm : R.frames = 0 ∧ R.locals = 0 ∧ R.cells = zc (wC D b) m0 fin.2 ∧ R.slots = zs (wC D b) m0 fin.2) {zr0 : zM → Option (Unit × zM)} (hr0 : ∀ (u : zM), zJ eV p l e R s mi args below meth c (wC D b) m0 1 fin 0 [(0, .ref 2)] [] u (zr0 u)) (u : zM) : zJ eV p l e R s mi args below meth c (wC D b) m0 1 fin 0 [(0, .ref 2)] [] u (Ta_readWord_0b zr0 u) := by
  unfold Ta_readWord_0b
  refine z_aload_n hc dX8_readWord_0 0 rfl rfl ?_
  refine z_getI hc (ci := 8) (k := 2) (by decide) (by decide) zly8 lC2 (zkC lC2) wFX8_25 rfl dX8_readWord_1 ?_
  refine z_aload_n hc dX8_readWord_4 0 rfl rfl ?_
  refine z_getI hc (ci := 8) (k := 1) (by decide) (by decide) zly8 lC2 (zkC lC2) wFX8_21 rfl dX8_readWord_5 ?_
  refine z_icmp_ge (tgt := 74) hc dX8_readWord_8 (by decide) _ (fun h1 => ?_) (fun h1 => ?_)
  · exact sTa_readWord_74 hc hRm _
  · refine z_aload_n hc dX8_readWord_11 0 rfl rfl ?_
    refine z_getR (x := 3) hc (ci := 8) (k := 0) (by decide) (by decide) zly8 lC2 (zkC lC2) wFX8_9 rfl dX8_readWord_12 rfl (by decide) ?_
    refine z_aload_n hc dX8_readWord_15 0 rfl rfl ?_
    refine z_getI hc (ci := 8) (k := 2) (by decide) (by decide) zly8 lC2 (zkC lC2) wFX8_25 rfl dX8_readWord_16 ?_
    refine zJ.chk _ (fun h2 => ?_)
    refine z_bald (k := (ix (gI u 2 2))) hc lC3 (zkC lC3) h2 rfl dX8_readWord_19 ?_
    refine z_bipush (v := 97) hc dX8_readWord_20 rfl ?_
    refine z_icmp_lt (tgt := 74) hc dX8_readWord_22 (by decide) _ (fun h3 => ?_) (fun h3 => ?_)
    · exact sTa_readWord_74 hc hRm _
    · refine z_aload_n hc dX8_readWord_25 0 rfl rfl ?_
      refine z_getR (x := 3) hc (ci := 8) (k := 0) (by decide) (by decide) zly8 lC2 (zkC lC2) wFX8_9 rfl dX8_readWord_26 rfl (by decide) ?_
      refine z_aload_n hc dX8_readWord_29 0 rfl rfl ?_
      refine z_getI hc (ci := 8) (k := 2) (by decide) (by decide) zly8 lC2 (zkC lC2) wFX8_25 rfl dX8_readWord_30 ?_
      refine zJ.chk _ (fun h4 => ?_)
      refine z_bald (k := (ix (gI u 2 2))) hc lC3 (zkC lC3) h4 rfl dX8_readWord_33 ?_
      refine z_bipush (v := 122) hc dX8_readWord_34 rfl ?_
      refine z_icmp_gt (tgt := 74) hc dX8_readWord_36 (by decide) _ (fun h5 => ?_) (fun h5 => ?_)
      · exact sTa_readWord_74 hc hRm _
      · refine z_aload_n hc dX8_readWord_39 0 rfl rfl ?_
        refine z_aload_n hc dX8_readWord_40 0 rfl rfl ?_
        refine z_getL hc (ci := 8) (k := 5) (by decide) (by decide) zly8 lC2 (zkC lC2) wFX8_41 rfl dX8_readWord_41 ?_
        refine z_bipush (v := 8) hc dX8_readWord_44 rfl ?_
        refine z_lshl hc dX8_readWord_46 ?_
        refine z_aload_n hc dX8_readWord_47 0 rfl rfl ?_
        refine z_getR (x := 3) hc (ci := 8) (k := 0) (by decide) (by decide) zly8 lC2 (zkC lC2) wFX8_9 rfl dX8_readWord_48 rfl (by decide) ?_
        refine z_aload_n hc dX8_readWord_51 0 rfl rfl ?_
        refine z_getI hc (ci := 8) (k := 2) (by decide) (by decide) zly8 lC2 (zkC lC2) wFX8_25 rfl dX8_readWord_52 ?_
        refine zJ.chk _ (fun h6 => ?_)
        refine z_bald (k := (ix (gI u 2 2))) hc lC3 (zkC lC3) h6 rfl dX8_readWord_55 ?_
        refine z_i2l hc dX8_readWord_56 ?_
        refine z_lor hc dX8_readWord_57 ?_
        refine z_putL hc (ci := 8) (k := 5) (by decide) (by decide) zly8 lC2 (zkC lC2) wFX8_41 rfl rfl dX8_readWord_58 ?_
        refine zJ.letM (fun u1 e1 => ?_)
        refine z_aload_n hc dX8_readWord_61 0 rfl rfl ?_
        refine z_dup hc dX8_readWord_62 rfl ?_
        refine z_getI hc (ci := 8) (k := 2) (by decide) (by decide) zly8 lC2 (zkC lC2) wFX8_25 rfl dX8_readWord_63 ?_
        refine z_iconst (v := 1) hc dX8_readWord_66 rfl ?_
        refine z_iadd hc dX8_readWord_67 ?_
        refine z_putI hc (ci := 8) (k := 2) (by decide) (by decide) zly8 lC2 (zkC lC2) wFX8_25 rfl rfl rfl rfl dX8_readWord_68 ?_
        refine zJ.letM (fun u2 e2 => ?_)
        refine z_goto (tgt := 0) hc dX8_readWord_71 (by decide) ?_
        exact hr0 _
set_option maxRecDepth 100000 in
set_option maxHeartbeats 4000000 in
theorem sTa_readWord_0 {fin : Unit × zM} (hc : zCx p s mi args meth c (wC D b) m0 RX8 cX8_readWord 1 none) (hRm : R.frames = 0 ∧ R.locals = 0 ∧ R.cells = zc (wC D b) m0 fin.2 ∧ R.slots = zs (wC D b) m0 fin.2) : ∀ (zf : Nat) (u : zM), zJ eV p l e R s mi args below meth c (wC D b) m0 1 fin 0 [(0, .ref 2)] [] u (Ta_readWord_0 zf u) := by
  intro zf
  induction zf with
  | zero => intro u; exact zJ.nil
  | succ zf ih => intro u; exact sTa_readWord_0b hc hRm ih u
set_option maxRecDepth 100000 in
set_option maxHeartbeats 4000000 in
theorem sTa_readWord : ∀ (u : zM) r m1, Ta_readWord u = some (r, m1) → zMet l (wC D b) 0 0 yX8_readWord cX8_readWord 1 none [.ref 2] u (eV r) m1 := by
  intro u
  refine zMet.of (L := [(0, .ref 2)]) RX8 (by decide +kernel) rfl (Nat.le_of_ble_eq_true rfl) (fun h => by cases h) rfl (fun p e s mi args below meth c R fin hc hin hRm => ?_)
  unfold Ta_readWord
  exact sTa_readWord_0 hc hRm zF _
set_option maxRecDepth 100000 in
set_option maxHeartbeats 4000000 in
theorem sTa_readNumber_78 {fin : Unit × zM} (hc : zCx p s mi args meth c (wC D b) m0 RX8 cX8_readNumber 1 none) (hRm : R.frames = 0 ∧ R.locals = 0 ∧ R.cells = zc (wC D b) m0 fin.2 ∧ R.slots = zs (wC D b) m0 fin.2) (u : zM) : zJ eV p l e R s mi args below meth c (wC D b) m0 1 fin 78 [(0, .ref 2)] [] u (Ta_readNumber_78 u) := by
  unfold Ta_readNumber_78
  refine z_aload_n hc dX8_readNumber_78 0 rfl rfl ?_
  refine z_aload_n hc dX8_readNumber_79 0 rfl rfl ?_
  refine z_getI hc (ci := 8) (k := 2) (by decide) (by decide) zly8 lC2 (zkC lC2) wFX8_25 rfl dX8_readNumber_80 ?_
  refine z_aload_n hc dX8_readNumber_83 0 rfl rfl ?_
  refine z_getI hc (ci := 8) (k := 3) (by decide) (by decide) zly8 lC2 (zkC lC2) wFX8_34 rfl dX8_readNumber_84 ?_
  refine z_isub hc dX8_readNumber_87 ?_
  refine z_iconst (v := 4) hc dX8_readNumber_88 rfl ?_
  refine z_icmp_gt (tgt := 96) hc dX8_readNumber_89 (by decide) _ (fun h1 => ?_) (fun h1 => ?_)
  · refine z_iconst (v := 4) hc dX8_readNumber_96 rfl ?_
    refine z_putI hc (ci := 8) (k := 4) (by decide) (by decide) zly8 lC2 (zkC lC2) wFX8_45 rfl rfl rfl rfl dX8_readNumber_97 ?_
    refine zJ.letM (fun u1 e1 => ?_)
    exact z_vret hc dX8_readNumber_100
  · refine z_iconst (v := 2) hc dX8_readNumber_92 rfl ?_
    refine z_goto (tgt := 97) hc dX8_readNumber_93 (by decide) ?_
    refine z_putI hc (ci := 8) (k := 4) (by decide) (by decide) zly8 lC2 (zkC lC2) wFX8_45 rfl rfl rfl rfl dX8_readNumber_97 ?_
    refine zJ.letM (fun u2 e2 => ?_)
    exact z_vret hc dX8_readNumber_100
set_option maxRecDepth 100000 in
set_option maxHeartbeats 4000000 in
theorem sTa_readNumber_0b {fin : Unit × zM} (hc : zCx p s mi args meth c (wC D b) m0 RX8 cX8_readNumber 1 none) (hRm : R.frames = 0 ∧ R.locals = 0 ∧ R.cells = zc (wC D b) m0 fin.2 ∧ R.slots = zs (wC D b) m0 fin.2) {zr0 : zM → Option (Unit × zM)} (hr0 : ∀ (u : zM), zJ eV p l e R s mi args below meth c (wC D b) m0 1 fin 0 [(0, .ref 2)] [] u (zr0 u)) (u : zM) : zJ eV p l e R s mi args below meth c (wC D b) m0 1 fin 0 [(0, .ref 2)] [] u (Ta_readNumber_0b zr0 u) := by
  unfold Ta_readNumber_0b
  refine z_aload_n hc dX8_readNumber_0 0 rfl rfl ?_
  refine z_getI hc (ci := 8) (k := 2) (by decide) (by decide) zly8 lC2 (zkC lC2) wFX8_25 rfl dX8_readNumber_1 ?_
  refine z_aload_n hc dX8_readNumber_4 0 rfl rfl ?_
  refine z_getI hc (ci := 8) (k := 1) (by decide) (by decide) zly8 lC2 (zkC lC2) wFX8_21 rfl dX8_readNumber_5 ?_
  refine z_icmp_ge (tgt := 78) hc dX8_readNumber_8 (by decide) _ (fun h1 => ?_) (fun h1 => ?_)
  · exact sTa_readNumber_78 hc hRm _
  · refine z_aload_n hc dX8_readNumber_11 0 rfl rfl ?_
    refine z_getR (x := 3) hc (ci := 8) (k := 0) (by decide) (by decide) zly8 lC2 (zkC lC2) wFX8_9 rfl dX8_readNumber_12 rfl (by decide) ?_
    refine z_aload_n hc dX8_readNumber_15 0 rfl rfl ?_
    refine z_getI hc (ci := 8) (k := 2) (by decide) (by decide) zly8 lC2 (zkC lC2) wFX8_25 rfl dX8_readNumber_16 ?_
    refine zJ.chk _ (fun h2 => ?_)
    refine z_bald (k := (ix (gI u 2 2))) hc lC3 (zkC lC3) h2 rfl dX8_readNumber_19 ?_
    refine z_bipush (v := 48) hc dX8_readNumber_20 rfl ?_
    refine z_icmp_lt (tgt := 78) hc dX8_readNumber_22 (by decide) _ (fun h3 => ?_) (fun h3 => ?_)
    · exact sTa_readNumber_78 hc hRm _
    · refine z_aload_n hc dX8_readNumber_25 0 rfl rfl ?_
      refine z_getR (x := 3) hc (ci := 8) (k := 0) (by decide) (by decide) zly8 lC2 (zkC lC2) wFX8_9 rfl dX8_readNumber_26 rfl (by decide) ?_
      refine z_aload_n hc dX8_readNumber_29 0 rfl rfl ?_
      refine z_getI hc (ci := 8) (k := 2) (by decide) (by decide) zly8 lC2 (zkC lC2) wFX8_25 rfl dX8_readNumber_30 ?_
      refine zJ.chk _ (fun h4 => ?_)
      refine z_bald (k := (ix (gI u 2 2))) hc lC3 (zkC lC3) h4 rfl dX8_readNumber_33 ?_
      refine z_bipush (v := 57) hc dX8_readNumber_34 rfl ?_
      refine z_icmp_gt (tgt := 78) hc dX8_readNumber_36 (by decide) _ (fun h5 => ?_) (fun h5 => ?_)
      · exact sTa_readNumber_78 hc hRm _
      · refine z_aload_n hc dX8_readNumber_39 0 rfl rfl ?_
        refine z_aload_n hc dX8_readNumber_40 0 rfl rfl ?_
        refine z_getL hc (ci := 8) (k := 5) (by decide) (by decide) zly8 lC2 (zkC lC2) wFX8_41 rfl dX8_readNumber_41 ?_
        refine z_ldc2 (v := 10) hc wKX8_58 dX8_readNumber_44 ?_
        refine z_lmul hc dX8_readNumber_47 ?_
        refine z_aload_n hc dX8_readNumber_48 0 rfl rfl ?_
        refine z_getR (x := 3) hc (ci := 8) (k := 0) (by decide) (by decide) zly8 lC2 (zkC lC2) wFX8_9 rfl dX8_readNumber_49 rfl (by decide) ?_
        refine z_aload_n hc dX8_readNumber_52 0 rfl rfl ?_
        refine z_getI hc (ci := 8) (k := 2) (by decide) (by decide) zly8 lC2 (zkC lC2) wFX8_25 rfl dX8_readNumber_53 ?_
        refine zJ.chk _ (fun h6 => ?_)
        refine z_bald (k := (ix (gI u 2 2))) hc lC3 (zkC lC3) h6 rfl dX8_readNumber_56 ?_
        refine z_bipush (v := 48) hc dX8_readNumber_57 rfl ?_
        refine z_isub hc dX8_readNumber_59 ?_
        refine z_i2l hc dX8_readNumber_60 ?_
        refine z_ladd hc dX8_readNumber_61 ?_
        refine z_putL hc (ci := 8) (k := 5) (by decide) (by decide) zly8 lC2 (zkC lC2) wFX8_41 rfl rfl dX8_readNumber_62 ?_
        refine zJ.letM (fun u1 e1 => ?_)
        refine z_aload_n hc dX8_readNumber_65 0 rfl rfl ?_
        refine z_dup hc dX8_readNumber_66 rfl ?_
        refine z_getI hc (ci := 8) (k := 2) (by decide) (by decide) zly8 lC2 (zkC lC2) wFX8_25 rfl dX8_readNumber_67 ?_
        refine z_iconst (v := 1) hc dX8_readNumber_70 rfl ?_
        refine z_iadd hc dX8_readNumber_71 ?_
        refine z_putI hc (ci := 8) (k := 2) (by decide) (by decide) zly8 lC2 (zkC lC2) wFX8_25 rfl rfl rfl rfl dX8_readNumber_72 ?_
        refine zJ.letM (fun u2 e2 => ?_)
        refine z_goto (tgt := 0) hc dX8_readNumber_75 (by decide) ?_
        exact hr0 _
set_option maxRecDepth 100000 in
set_option maxHeartbeats 4000000 in
theorem sTa_readNumber_0 {fin : Unit × zM} (hc : zCx p s mi args meth c (wC D b) m0 RX8 cX8_readNumber 1 none) (hRm : R.frames = 0 ∧ R.locals = 0 ∧ R.cells = zc (wC D b) m0 fin.2 ∧ R.slots = zs (wC D b) m0 fin.2) : ∀ (zf : Nat) (u : zM), zJ eV p l e R s mi args below meth c (wC D b) m0 1 fin 0 [(0, .ref 2)] [] u (Ta_readNumber_0 zf u) := by
  intro zf
  induction zf with
  | zero => intro u; exact zJ.nil
  | succ zf ih => intro u; exact sTa_readNumber_0b hc hRm ih u
set_option maxRecDepth 100000 in
set_option maxHeartbeats 4000000 in
theorem sTa_readNumber : ∀ (u : zM) r m1, Ta_readNumber u = some (r, m1) → zMet l (wC D b) 0 0 yX8_readNumber cX8_readNumber 1 none [.ref 2] u (eV r) m1 := by
  intro u
  refine zMet.of (L := [(0, .ref 2)]) RX8 (by decide +kernel) rfl (Nat.le_of_ble_eq_true rfl) (fun h => by cases h) rfl (fun p e s mi args below meth c R fin hc hin hRm => ?_)
  unfold Ta_readNumber
  exact sTa_readNumber_0 hc hRm zF _
set_option maxRecDepth 100000 in
set_option maxHeartbeats 4000000 in
theorem sTa_isSign : ∀ (v0 : Int32) (u : zM) r m1, Ta_isSign v0 u = some (r, m1) → zMet l (wC D b) 0 0 yX8_isSign cX8_isSign 1 (some .boolean) [.int v0] u (eI r) m1 := by
  intro v0 u
  refine zMet.of (L := [(0, .int v0)]) RX8 (by decide +kernel) rfl (Nat.le_of_ble_eq_true rfl) (fun h => by cases h) rfl (fun p e s mi args below meth c R fin hc hin hRm => ?_)
  unfold Ta_isSign
  refine z_iload_n hc dX8_isSign_0 0 rfl rfl ?_
  refine z_bipush (v := 40) hc dX8_isSign_1 rfl ?_
  refine z_icmp_eq (tgt := 48) hc dX8_isSign_3 (by decide) _ (fun h1 => ?_) (fun h1 => ?_)
  · refine z_iconst (v := 1) hc dX8_isSign_48 rfl ?_
    refine z_goto (tgt := 53) hc dX8_isSign_49 (by decide) ?_
    exact z_zret hc rfl dX8_isSign_53
  · refine z_iload_n hc dX8_isSign_6 0 rfl rfl ?_
    refine z_bipush (v := 41) hc dX8_isSign_7 rfl ?_
    refine z_icmp_eq (tgt := 48) hc dX8_isSign_9 (by decide) _ (fun h2 => ?_) (fun h2 => ?_)
    · refine z_iconst (v := 1) hc dX8_isSign_48 rfl ?_
      refine z_goto (tgt := 53) hc dX8_isSign_49 (by decide) ?_
      exact z_zret hc rfl dX8_isSign_53
    · refine z_iload_n hc dX8_isSign_12 0 rfl rfl ?_
      refine z_bipush (v := 60) hc dX8_isSign_13 rfl ?_
      refine z_icmp_eq (tgt := 48) hc dX8_isSign_15 (by decide) _ (fun h3 => ?_) (fun h3 => ?_)
      · refine z_iconst (v := 1) hc dX8_isSign_48 rfl ?_
        refine z_goto (tgt := 53) hc dX8_isSign_49 (by decide) ?_
        exact z_zret hc rfl dX8_isSign_53
      · refine z_iload_n hc dX8_isSign_18 0 rfl rfl ?_
        refine z_bipush (v := 61) hc dX8_isSign_19 rfl ?_
        refine z_icmp_eq (tgt := 48) hc dX8_isSign_21 (by decide) _ (fun h4 => ?_) (fun h4 => ?_)
        · refine z_iconst (v := 1) hc dX8_isSign_48 rfl ?_
          refine z_goto (tgt := 53) hc dX8_isSign_49 (by decide) ?_
          exact z_zret hc rfl dX8_isSign_53
        · refine z_iload_n hc dX8_isSign_24 0 rfl rfl ?_
          refine z_bipush (v := 43) hc dX8_isSign_25 rfl ?_
          refine z_icmp_eq (tgt := 48) hc dX8_isSign_27 (by decide) _ (fun h5 => ?_) (fun h5 => ?_)
          · refine z_iconst (v := 1) hc dX8_isSign_48 rfl ?_
            refine z_goto (tgt := 53) hc dX8_isSign_49 (by decide) ?_
            exact z_zret hc rfl dX8_isSign_53
          · refine z_iload_n hc dX8_isSign_30 0 rfl rfl ?_
            refine z_bipush (v := 45) hc dX8_isSign_31 rfl ?_
            refine z_icmp_eq (tgt := 48) hc dX8_isSign_33 (by decide) _ (fun h6 => ?_) (fun h6 => ?_)
            · refine z_iconst (v := 1) hc dX8_isSign_48 rfl ?_
              refine z_goto (tgt := 53) hc dX8_isSign_49 (by decide) ?_
              exact z_zret hc rfl dX8_isSign_53
            · refine z_iload_n hc dX8_isSign_36 0 rfl rfl ?_
              refine z_bipush (v := 42) hc dX8_isSign_37 rfl ?_
              refine z_icmp_eq (tgt := 48) hc dX8_isSign_39 (by decide) _ (fun h7 => ?_) (fun h7 => ?_)
              · refine z_iconst (v := 1) hc dX8_isSign_48 rfl ?_
                refine z_goto (tgt := 53) hc dX8_isSign_49 (by decide) ?_
                exact z_zret hc rfl dX8_isSign_53
              · refine z_iload_n hc dX8_isSign_42 0 rfl rfl ?_
                refine z_bipush (v := 59) hc dX8_isSign_43 rfl ?_
                refine z_icmp_ne (tgt := 52) hc dX8_isSign_45 (by decide) _ (fun h8 => ?_) (fun h8 => ?_)
                · refine z_iconst (v := 0) hc dX8_isSign_52 rfl ?_
                  exact z_zret hc rfl dX8_isSign_53
                · refine z_iconst (v := 1) hc dX8_isSign_48 rfl ?_
                  refine z_goto (tgt := 53) hc dX8_isSign_49 (by decide) ?_
                  exact z_zret hc rfl dX8_isSign_53
set_option maxRecDepth 100000 in
set_option maxHeartbeats 4000000 in
theorem sTa_step_154 {fin : Unit × zM} (hc : zCx p s mi args meth c (wC D b) m0 RX8 cX8_step 1 none) (hRm : R.frames = 1 ∧ R.locals = 20 ∧ R.cells = zc (wC D b) m0 fin.2 ∧ R.slots = zs (wC D b) m0 fin.2) (u : zM) : zJ eV p l e R s mi args below meth c (wC D b) m0 1 fin 154 [(0, .ref 2)] [] u (Ta_step_154 u) := by
  unfold Ta_step_154
  refine z_aload_n hc dX8_step_154 0 rfl rfl ?_
  refine z_aload_n hc dX8_step_155 0 rfl rfl ?_
  refine z_getR (x := 3) hc (ci := 8) (k := 0) (by decide) (by decide) zly8 lC2 (zkC lC2) wFX8_9 rfl dX8_step_156 rfl (by decide) ?_
  refine z_aload_n hc dX8_step_159 0 rfl rfl ?_
  refine z_getI hc (ci := 8) (k := 2) (by decide) (by decide) zly8 lC2 (zkC lC2) wFX8_25 rfl dX8_step_160 ?_
  refine zJ.chk _ (fun h1 => ?_)
  refine z_bald (k := (ix (gI u 2 2))) hc lC3 (zkC lC3) h1 rfl dX8_step_163 ?_
  refine z_i2l hc dX8_step_164 ?_
  refine z_putL hc (ci := 8) (k := 5) (by decide) (by decide) zly8 lC2 (zkC lC2) wFX8_41 rfl rfl dX8_step_165 ?_
  refine zJ.letM (fun u1 e1 => ?_)
  refine z_aload_n hc dX8_step_168 0 rfl rfl ?_
  refine z_aload_n hc dX8_step_169 0 rfl rfl ?_
  refine z_getR (x := 3) hc (ci := 8) (k := 0) (by decide) (by decide) zly8 lC2 (zkC lC2) wFX8_9 rfl dX8_step_170 rfl (by decide) ?_
  refine z_aload_n hc dX8_step_173 0 rfl rfl ?_
  refine z_getI hc (ci := 8) (k := 2) (by decide) (by decide) zly8 lC2 (zkC lC2) wFX8_25 rfl dX8_step_174 ?_
  refine zJ.chk _ (fun h2 => ?_)
  refine z_bald (k := (ix (gI u1 2 2))) hc lC3 (zkC lC3) h2 rfl dX8_step_177 ?_
  refine z_callS (av := [.int (gI u1 3 (ix (gI u1 2 2)))]) (enc' := eI) hc rfl (sTa_isSign (gI u1 3 (ix (gI u1 2 2))) _) wMX8_54 hpyX8_isSign hmyX8_isSign (rm_ok hRm (Nat.le_of_ble_eq_true rfl) (Nat.le_of_ble_eq_true rfl)) (Nat.le_of_ble_eq_true rfl) hRm.2.2 dX8_step_178 (fun c1 u2 f1 => ?_)
  refine z_if_eq (tgt := 188) hc dX8_step_181 (by decide) _ (fun h3 => ?_) (fun h3 => ?_)
  · refine z_iconst (v := 4) hc dX8_step_188 rfl ?_
    refine z_putI hc (ci := 8) (k := 4) (by decide) (by decide) zly8 lC2 (zkC lC2) wFX8_45 rfl rfl rfl rfl dX8_step_189 ?_
    refine zJ.letM (fun u3 e2 => ?_)
    refine z_aload_n hc dX8_step_192 0 rfl rfl ?_
    refine z_dup hc dX8_step_193 rfl ?_
    refine z_getI hc (ci := 8) (k := 2) (by decide) (by decide) zly8 lC2 (zkC lC2) wFX8_25 rfl dX8_step_194 ?_
    refine z_iconst (v := 1) hc dX8_step_197 rfl ?_
    refine z_iadd hc dX8_step_198 ?_
    refine z_putI hc (ci := 8) (k := 2) (by decide) (by decide) zly8 lC2 (zkC lC2) wFX8_25 rfl rfl rfl rfl dX8_step_199 ?_
    refine zJ.letM (fun u4 e3 => ?_)
    exact z_vret hc dX8_step_202
  · refine z_iconst (v := 3) hc dX8_step_184 rfl ?_
    refine z_goto (tgt := 189) hc dX8_step_185 (by decide) ?_
    refine z_putI hc (ci := 8) (k := 4) (by decide) (by decide) zly8 lC2 (zkC lC2) wFX8_45 rfl rfl rfl rfl dX8_step_189 ?_
    refine zJ.letM (fun u5 e4 => ?_)
    refine z_aload_n hc dX8_step_192 0 rfl rfl ?_
    refine z_dup hc dX8_step_193 rfl ?_
    refine z_getI hc (ci := 8) (k := 2) (by decide) (by decide) zly8 lC2 (zkC lC2) wFX8_25 rfl dX8_step_194 ?_
    refine z_iconst (v := 1) hc dX8_step_197 rfl ?_
    refine z_iadd hc dX8_step_198 ?_
    refine z_putI hc (ci := 8) (k := 2) (by decide) (by decide) zly8 lC2 (zkC lC2) wFX8_25 rfl rfl rfl rfl dX8_step_199 ?_
    refine zJ.letM (fun u6 e5 => ?_)
    exact z_vret hc dX8_step_202
set_option maxRecDepth 100000 in
set_option maxHeartbeats 4000000 in
theorem sTa_step_119 {fin : Unit × zM} (hc : zCx p s mi args meth c (wC D b) m0 RX8 cX8_step 1 none) (hRm : R.frames = 1 ∧ R.locals = 20 ∧ R.cells = zc (wC D b) m0 fin.2 ∧ R.slots = zs (wC D b) m0 fin.2) (u : zM) : zJ eV p l e R s mi args below meth c (wC D b) m0 1 fin 119 [(0, .ref 2)] [] u (Ta_step_119 u) := by
  unfold Ta_step_119
  refine z_aload_n hc dX8_step_119 0 rfl rfl ?_
  refine z_getR (x := 3) hc (ci := 8) (k := 0) (by decide) (by decide) zly8 lC2 (zkC lC2) wFX8_9 rfl dX8_step_120 rfl (by decide) ?_
  refine z_aload_n hc dX8_step_123 0 rfl rfl ?_
  refine z_getI hc (ci := 8) (k := 2) (by decide) (by decide) zly8 lC2 (zkC lC2) wFX8_25 rfl dX8_step_124 ?_
  refine zJ.chk _ (fun h1 => ?_)
  refine z_bald (k := (ix (gI u 2 2))) hc lC3 (zkC lC3) h1 rfl dX8_step_127 ?_
  refine z_bipush (v := 48) hc dX8_step_128 rfl ?_
  refine z_icmp_lt (tgt := 154) hc dX8_step_130 (by decide) _ (fun h2 => ?_) (fun h2 => ?_)
  · exact sTa_step_154 hc hRm _
  · refine z_aload_n hc dX8_step_133 0 rfl rfl ?_
    refine z_getR (x := 3) hc (ci := 8) (k := 0) (by decide) (by decide) zly8 lC2 (zkC lC2) wFX8_9 rfl dX8_step_134 rfl (by decide) ?_
    refine z_aload_n hc dX8_step_137 0 rfl rfl ?_
    refine z_getI hc (ci := 8) (k := 2) (by decide) (by decide) zly8 lC2 (zkC lC2) wFX8_25 rfl dX8_step_138 ?_
    refine zJ.chk _ (fun h3 => ?_)
    refine z_bald (k := (ix (gI u 2 2))) hc lC3 (zkC lC3) h3 rfl dX8_step_141 ?_
    refine z_bipush (v := 57) hc dX8_step_142 rfl ?_
    refine z_icmp_gt (tgt := 154) hc dX8_step_144 (by decide) _ (fun h4 => ?_) (fun h4 => ?_)
    · exact sTa_step_154 hc hRm _
    · refine z_aload_n hc dX8_step_147 0 rfl rfl ?_
      refine z_callV (av := []) (enc' := eV) hc rfl (sTa_readNumber _) (ci := 8) (by decide) lC2 (zkC lC2) rfl wMX8_51 hpyX8_readNumber hmyX8_readNumber (rm_ok hRm (Nat.le_of_ble_eq_true rfl) (Nat.le_of_ble_eq_true rfl)) (Nat.le_of_ble_eq_true rfl) hRm.2.2 dX8_step_148 (fun c1 u1 f1 => ?_)
      refine z_goto (tgt := 202) hc dX8_step_151 (by decide) ?_
      exact z_vret hc dX8_step_202
set_option maxRecDepth 100000 in
set_option maxHeartbeats 4000000 in
theorem sTa_step_52 {fin : Unit × zM} (hc : zCx p s mi args meth c (wC D b) m0 RX8 cX8_step 1 none) (hRm : R.frames = 1 ∧ R.locals = 20 ∧ R.cells = zc (wC D b) m0 fin.2 ∧ R.slots = zs (wC D b) m0 fin.2) (u : zM) : zJ eV p l e R s mi args below meth c (wC D b) m0 1 fin 52 [(0, .ref 2)] [] u (Ta_step_52 u) := by
  unfold Ta_step_52
  refine z_aload_n hc dX8_step_52 0 rfl rfl ?_
  refine z_aload_n hc dX8_step_53 0 rfl rfl ?_
  refine z_getI hc (ci := 8) (k := 2) (by decide) (by decide) zly8 lC2 (zkC lC2) wFX8_25 rfl dX8_step_54 ?_
  refine z_putI hc (ci := 8) (k := 3) (by decide) (by decide) zly8 lC2 (zkC lC2) wFX8_34 rfl rfl rfl rfl dX8_step_57 ?_
  refine zJ.letM (fun u1 e1 => ?_)
  refine z_aload_n hc dX8_step_60 0 rfl rfl ?_
  refine z_lconst (v := 0) hc dX8_step_61 rfl ?_
  refine z_putL hc (ci := 8) (k := 5) (by decide) (by decide) zly8 lC2 (zkC lC2) wFX8_41 rfl rfl dX8_step_62 ?_
  refine zJ.letM (fun u2 e2 => ?_)
  refine z_aload_n hc dX8_step_65 0 rfl rfl ?_
  refine z_getI hc (ci := 8) (k := 2) (by decide) (by decide) zly8 lC2 (zkC lC2) wFX8_25 rfl dX8_step_66 ?_
  refine z_aload_n hc dX8_step_69 0 rfl rfl ?_
  refine z_getI hc (ci := 8) (k := 1) (by decide) (by decide) zly8 lC2 (zkC lC2) wFX8_21 rfl dX8_step_70 ?_
  refine z_icmp_lt (tgt := 84) hc dX8_step_73 (by decide) _ (fun h1 => ?_) (fun h1 => ?_)
  · refine z_aload_n hc dX8_step_84 0 rfl rfl ?_
    refine z_getR (x := 3) hc (ci := 8) (k := 0) (by decide) (by decide) zly8 lC2 (zkC lC2) wFX8_9 rfl dX8_step_85 rfl (by decide) ?_
    refine z_aload_n hc dX8_step_88 0 rfl rfl ?_
    refine z_getI hc (ci := 8) (k := 2) (by decide) (by decide) zly8 lC2 (zkC lC2) wFX8_25 rfl dX8_step_89 ?_
    refine zJ.chk _ (fun h2 => ?_)
    refine z_bald (k := (ix (gI u2 2 2))) hc lC3 (zkC lC3) h2 rfl dX8_step_92 ?_
    refine z_bipush (v := 97) hc dX8_step_93 rfl ?_
    refine z_icmp_lt (tgt := 119) hc dX8_step_95 (by decide) _ (fun h3 => ?_) (fun h3 => ?_)
    · exact sTa_step_119 hc hRm _
    · refine z_aload_n hc dX8_step_98 0 rfl rfl ?_
      refine z_getR (x := 3) hc (ci := 8) (k := 0) (by decide) (by decide) zly8 lC2 (zkC lC2) wFX8_9 rfl dX8_step_99 rfl (by decide) ?_
      refine z_aload_n hc dX8_step_102 0 rfl rfl ?_
      refine z_getI hc (ci := 8) (k := 2) (by decide) (by decide) zly8 lC2 (zkC lC2) wFX8_25 rfl dX8_step_103 ?_
      refine zJ.chk _ (fun h4 => ?_)
      refine z_bald (k := (ix (gI u2 2 2))) hc lC3 (zkC lC3) h4 rfl dX8_step_106 ?_
      refine z_bipush (v := 122) hc dX8_step_107 rfl ?_
      refine z_icmp_gt (tgt := 119) hc dX8_step_109 (by decide) _ (fun h5 => ?_) (fun h5 => ?_)
      · exact sTa_step_119 hc hRm _
      · refine z_aload_n hc dX8_step_112 0 rfl rfl ?_
        refine z_callV (av := []) (enc' := eV) hc rfl (sTa_readWord _) (ci := 8) (by decide) lC2 (zkC lC2) rfl wMX8_48 hpyX8_readWord hmyX8_readWord (rm_ok hRm (Nat.le_of_ble_eq_true rfl) (Nat.le_of_ble_eq_true rfl)) (Nat.le_of_ble_eq_true rfl) hRm.2.2 dX8_step_113 (fun c1 u3 f1 => ?_)
        refine z_goto (tgt := 202) hc dX8_step_116 (by decide) ?_
        exact z_vret hc dX8_step_202
  · refine z_aload_n hc dX8_step_76 0 rfl rfl ?_
    refine z_iconst (v := 0) hc dX8_step_77 rfl ?_
    refine z_putI hc (ci := 8) (k := 4) (by decide) (by decide) zly8 lC2 (zkC lC2) wFX8_45 rfl rfl rfl rfl dX8_step_78 ?_
    refine zJ.letM (fun u4 e3 => ?_)
    refine z_goto (tgt := 202) hc dX8_step_81 (by decide) ?_
    exact z_vret hc dX8_step_202
set_option maxRecDepth 100000 in
set_option maxHeartbeats 4000000 in
theorem sTa_step_0b {fin : Unit × zM} (hc : zCx p s mi args meth c (wC D b) m0 RX8 cX8_step 1 none) (hRm : R.frames = 1 ∧ R.locals = 20 ∧ R.cells = zc (wC D b) m0 fin.2 ∧ R.slots = zs (wC D b) m0 fin.2) {zr0 : zM → Option (Unit × zM)} (hr0 : ∀ (u : zM), zJ eV p l e R s mi args below meth c (wC D b) m0 1 fin 0 [(0, .ref 2)] [] u (zr0 u)) (u : zM) : zJ eV p l e R s mi args below meth c (wC D b) m0 1 fin 0 [(0, .ref 2)] [] u (Ta_step_0b zr0 u) := by
  unfold Ta_step_0b
  refine z_aload_n hc dX8_step_0 0 rfl rfl ?_
  refine z_getI hc (ci := 8) (k := 2) (by decide) (by decide) zly8 lC2 (zkC lC2) wFX8_25 rfl dX8_step_1 ?_
  refine z_aload_n hc dX8_step_4 0 rfl rfl ?_
  refine z_getI hc (ci := 8) (k := 1) (by decide) (by decide) zly8 lC2 (zkC lC2) wFX8_21 rfl dX8_step_5 ?_
  refine z_icmp_ge (tgt := 52) hc dX8_step_8 (by decide) _ (fun h1 => ?_) (fun h1 => ?_)
  · exact sTa_step_52 hc hRm _
  · refine z_aload_n hc dX8_step_11 0 rfl rfl ?_
    refine z_getR (x := 3) hc (ci := 8) (k := 0) (by decide) (by decide) zly8 lC2 (zkC lC2) wFX8_9 rfl dX8_step_12 rfl (by decide) ?_
    refine z_aload_n hc dX8_step_15 0 rfl rfl ?_
    refine z_getI hc (ci := 8) (k := 2) (by decide) (by decide) zly8 lC2 (zkC lC2) wFX8_25 rfl dX8_step_16 ?_
    refine zJ.chk _ (fun h2 => ?_)
    refine z_bald (k := (ix (gI u 2 2))) hc lC3 (zkC lC3) h2 rfl dX8_step_19 ?_
    refine z_bipush (v := 10) hc dX8_step_20 rfl ?_
    refine z_icmp_eq (tgt := 39) hc dX8_step_22 (by decide) _ (fun h3 => ?_) (fun h3 => ?_)
    · refine z_aload_n hc dX8_step_39 0 rfl rfl ?_
      refine z_dup hc dX8_step_40 rfl ?_
      refine z_getI hc (ci := 8) (k := 2) (by decide) (by decide) zly8 lC2 (zkC lC2) wFX8_25 rfl dX8_step_41 ?_
      refine z_iconst (v := 1) hc dX8_step_44 rfl ?_
      refine z_iadd hc dX8_step_45 ?_
      refine z_putI hc (ci := 8) (k := 2) (by decide) (by decide) zly8 lC2 (zkC lC2) wFX8_25 rfl rfl rfl rfl dX8_step_46 ?_
      refine zJ.letM (fun u1 e1 => ?_)
      refine z_goto (tgt := 0) hc dX8_step_49 (by decide) ?_
      exact hr0 _
    · refine z_aload_n hc dX8_step_25 0 rfl rfl ?_
      refine z_getR (x := 3) hc (ci := 8) (k := 0) (by decide) (by decide) zly8 lC2 (zkC lC2) wFX8_9 rfl dX8_step_26 rfl (by decide) ?_
      refine z_aload_n hc dX8_step_29 0 rfl rfl ?_
      refine z_getI hc (ci := 8) (k := 2) (by decide) (by decide) zly8 lC2 (zkC lC2) wFX8_25 rfl dX8_step_30 ?_
      refine zJ.chk _ (fun h4 => ?_)
      refine z_bald (k := (ix (gI u 2 2))) hc lC3 (zkC lC3) h4 rfl dX8_step_33 ?_
      refine z_bipush (v := 32) hc dX8_step_34 rfl ?_
      refine z_icmp_ne (tgt := 52) hc dX8_step_36 (by decide) _ (fun h5 => ?_) (fun h5 => ?_)
      · exact sTa_step_52 hc hRm _
      · refine z_aload_n hc dX8_step_39 0 rfl rfl ?_
        refine z_dup hc dX8_step_40 rfl ?_
        refine z_getI hc (ci := 8) (k := 2) (by decide) (by decide) zly8 lC2 (zkC lC2) wFX8_25 rfl dX8_step_41 ?_
        refine z_iconst (v := 1) hc dX8_step_44 rfl ?_
        refine z_iadd hc dX8_step_45 ?_
        refine z_putI hc (ci := 8) (k := 2) (by decide) (by decide) zly8 lC2 (zkC lC2) wFX8_25 rfl rfl rfl rfl dX8_step_46 ?_
        refine zJ.letM (fun u2 e2 => ?_)
        refine z_goto (tgt := 0) hc dX8_step_49 (by decide) ?_
        exact hr0 _
set_option maxRecDepth 100000 in
set_option maxHeartbeats 4000000 in
theorem sTa_step_0 {fin : Unit × zM} (hc : zCx p s mi args meth c (wC D b) m0 RX8 cX8_step 1 none) (hRm : R.frames = 1 ∧ R.locals = 20 ∧ R.cells = zc (wC D b) m0 fin.2 ∧ R.slots = zs (wC D b) m0 fin.2) : ∀ (zf : Nat) (u : zM), zJ eV p l e R s mi args below meth c (wC D b) m0 1 fin 0 [(0, .ref 2)] [] u (Ta_step_0 zf u) := by
  intro zf
  induction zf with
  | zero => intro u; exact zJ.nil
  | succ zf ih => intro u; exact sTa_step_0b hc hRm ih u
set_option maxRecDepth 100000 in
set_option maxHeartbeats 4000000 in
theorem sTa_step : ∀ (u : zM) r m1, Ta_step u = some (r, m1) → zMet l (wC D b) 1 20 yX8_step cX8_step 1 none [.ref 2] u (eV r) m1 := by
  intro u
  refine zMet.of (L := [(0, .ref 2)]) RX8 (by decide +kernel) rfl (Nat.le_of_ble_eq_true rfl) (fun h => by cases h) rfl (fun p e s mi args below meth c R fin hc hin hRm => ?_)
  unfold Ta_step
  exact sTa_step_0 hc hRm zF _
set_option maxRecDepth 100000 in
set_option maxHeartbeats 4000000 in
theorem sTa_begin : ∀ (u : zM) r m1, Ta_begin u = some (r, m1) → zMet l (wC D b) 2 40 yX8_begin cX8_begin 1 none [.ref 2] u (eV r) m1 := by
  intro u
  refine zMet.of (L := [(0, .ref 2)]) RX8 (by decide +kernel) rfl (Nat.le_of_ble_eq_true rfl) (fun h => by cases h) rfl (fun p e s mi args below meth c R fin hc hin hRm => ?_)
  unfold Ta_begin
  refine z_aload_n hc dX8_begin_0 0 rfl rfl ?_
  refine z_iconst (v := 0) hc dX8_begin_1 rfl ?_
  refine z_putI hc (ci := 8) (k := 2) (by decide) (by decide) zly8 lC2 (zkC lC2) wFX8_25 rfl rfl rfl rfl dX8_begin_2 ?_
  refine zJ.letM (fun u1 e1 => ?_)
  refine z_aload_n hc dX8_begin_5 0 rfl rfl ?_
  refine z_iconst (v := 0) hc dX8_begin_6 rfl ?_
  refine z_putI hc (ci := 8) (k := 6) (by decide) (by decide) zly8 lC2 (zkC lC2) wFX8_28 rfl rfl rfl rfl dX8_begin_7 ?_
  refine zJ.letM (fun u2 e2 => ?_)
  refine z_aload_n hc dX8_begin_10 0 rfl rfl ?_
  refine z_callV (av := []) (enc' := eV) hc rfl (sTa_step _) (ci := 8) (by decide) lC2 (zkC lC2) rfl wMX8_31 hpyX8_step hmyX8_step (rm_ok hRm (Nat.le_of_ble_eq_true rfl) (Nat.le_of_ble_eq_true rfl)) (Nat.le_of_ble_eq_true rfl) hRm.2.2 dX8_begin_11 (fun c1 u3 f1 => ?_)
  exact z_vret hc dX8_begin_14
set_option maxRecDepth 100000 in
set_option maxHeartbeats 4000000 in
theorem sTa_isFine : ∀ (u : zM) r m1, Ta_isFine u = some (r, m1) → zMet l (wC D b) 0 0 yX8_isFine cX8_isFine 1 (some .boolean) [.ref 2] u (eI r) m1 := by
  intro u
  refine zMet.of (L := [(0, .ref 2)]) RX8 (by decide +kernel) rfl (Nat.le_of_ble_eq_true rfl) (fun h => by cases h) rfl (fun p e s mi args below meth c R fin hc hin hRm => ?_)
  unfold Ta_isFine
  refine z_aload_n hc dX8_isFine_0 0 rfl rfl ?_
  refine z_getI hc (ci := 8) (k := 6) (by decide) (by decide) zly8 lC2 (zkC lC2) wFX8_28 rfl dX8_isFine_1 ?_
  refine z_if_ne (tgt := 11) hc dX8_isFine_4 (by decide) _ (fun h1 => ?_) (fun h1 => ?_)
  · refine z_iconst (v := 0) hc dX8_isFine_11 rfl ?_
    exact z_zret hc rfl dX8_isFine_12
  · refine z_iconst (v := 1) hc dX8_isFine_7 rfl ?_
    refine z_goto (tgt := 12) hc dX8_isFine_8 (by decide) ?_
    exact z_zret hc rfl dX8_isFine_12
set_option maxRecDepth 100000 in
set_option maxHeartbeats 4000000 in
theorem sTa_atWord : ∀ (v1 : Int64) (u : zM) r m1, Ta_atWord v1 u = some (r, m1) → zMet l (wC D b) 0 0 yX8_atWord cX8_atWord 3 (some .boolean) [.ref 2, .long v1] u (eI r) m1 := by
  intro v1 u
  refine zMet.of (L := [(0, .ref 2), (1, .long v1)]) RX8 (by decide +kernel) rfl (Nat.le_of_ble_eq_true rfl) (fun h => by cases h) rfl (fun p e s mi args below meth c R fin hc hin hRm => ?_)
  unfold Ta_atWord
  refine z_aload_n hc dX8_atWord_0 0 rfl rfl ?_
  refine z_getI hc (ci := 8) (k := 6) (by decide) (by decide) zly8 lC2 (zkC lC2) wFX8_28 rfl dX8_atWord_1 ?_
  refine z_if_ne (tgt := 28) hc dX8_atWord_4 (by decide) _ (fun h1 => ?_) (fun h1 => ?_)
  · refine z_iconst (v := 0) hc dX8_atWord_28 rfl ?_
    exact z_zret hc rfl dX8_atWord_29
  · refine z_aload_n hc dX8_atWord_7 0 rfl rfl ?_
    refine z_getI hc (ci := 8) (k := 4) (by decide) (by decide) zly8 lC2 (zkC lC2) wFX8_45 rfl dX8_atWord_8 ?_
    refine z_iconst (v := 1) hc dX8_atWord_11 rfl ?_
    refine z_icmp_ne (tgt := 28) hc dX8_atWord_12 (by decide) _ (fun h2 => ?_) (fun h2 => ?_)
    · refine z_iconst (v := 0) hc dX8_atWord_28 rfl ?_
      exact z_zret hc rfl dX8_atWord_29
    · refine z_aload_n hc dX8_atWord_15 0 rfl rfl ?_
      refine z_getL hc (ci := 8) (k := 5) (by decide) (by decide) zly8 lC2 (zkC lC2) wFX8_41 rfl dX8_atWord_16 ?_
      refine z_lload_n hc dX8_atWord_19 1 rfl rfl ?_
      refine z_lcmp hc dX8_atWord_20 ?_
      refine z_if_ne (tgt := 28) hc dX8_atWord_21 (by decide) _ (fun h3 => ?_) (fun h3 => ?_)
      · refine z_iconst (v := 0) hc dX8_atWord_28 rfl ?_
        exact z_zret hc rfl dX8_atWord_29
      · refine z_iconst (v := 1) hc dX8_atWord_24 rfl ?_
        refine z_goto (tgt := 29) hc dX8_atWord_25 (by decide) ?_
        exact z_zret hc rfl dX8_atWord_29
set_option maxRecDepth 100000 in
set_option maxHeartbeats 4000000 in
theorem sNa_isFull : ∀ (r0 : Nat) (u : zM) r m1, Na_isFull r0 u = some (r, m1) → zMet l (wC D b) 0 0 yX3_isFull cX3_isFull 1 (some .boolean) [.ref r0] u (eI r) m1 := by
  intro r0 u
  refine zMet.of (L := [(0, .ref r0)]) RX3 (by decide +kernel) rfl (Nat.le_of_ble_eq_true rfl) (fun h => by cases h) rfl (fun p e s mi args below meth c R fin hc hin hRm => ?_)
  unfold Na_isFull
  refine zJ.chk _ (fun h1 => ?_)
  refine z_aload_n hc dX3_isFull_0 0 rfl rfl ?_
  refine z_getI hc (ci := 3) (k := 1) (by decide) (by decide) zly3 h1 (zkC h1) wFX3_15 rfl dX3_isFull_1 ?_
  refine z_aload_n hc dX3_isFull_4 0 rfl rfl ?_
  refine z_getR (x := (r0 + 1)) hc (ci := 3) (k := 0) (by decide) (by decide) zly3 h1 (zkC h1) wFX3_9 rfl dX3_isFull_5 (rfC_off (off := 1) h1 rfl (by decide)) (Nat.le_add_left_of_le (by decide)) ?_
  refine z_alen (v := (Nat.toInt32 ((layC (r0 + 1)).2))) hc (lyC_13_1 h1) (by decide) (zkC (lyC_13_1 h1)) rfl dX3_isFull_8 ?_
  refine z_icmp_lt (tgt := 16) hc dX3_isFull_9 (by decide) _ (fun h2 => ?_) (fun h2 => ?_)
  · refine z_iconst (v := 0) hc dX3_isFull_16 rfl ?_
    exact z_zret hc rfl dX3_isFull_17
  · refine z_iconst (v := 1) hc dX3_isFull_12 rfl ?_
    refine z_goto (tgt := 17) hc dX3_isFull_13 (by decide) ?_
    exact z_zret hc rfl dX3_isFull_17
set_option maxRecDepth 100000 in
set_option maxHeartbeats 4000000 in
theorem sTa_failAt : ∀ (v1 : Int32) (v2 : Int32) (u : zM) r m1, Ta_failAt v1 v2 u = some (r, m1) → zMet l (wC D b) 0 0 yX8_failAt cX8_failAt 3 none [.ref 2, .int v1, .int v2] u (eV r) m1 := by
  intro v1 v2 u
  refine zMet.of (L := [(0, .ref 2), (1, .int v1), (2, .int v2)]) RX8 (by decide +kernel) rfl (Nat.le_of_ble_eq_true rfl) (fun h => by cases h) rfl (fun p e s mi args below meth c R fin hc hin hRm => ?_)
  unfold Ta_failAt
  refine z_aload_n hc dX8_failAt_0 0 rfl rfl ?_
  refine z_getI hc (ci := 8) (k := 6) (by decide) (by decide) zly8 lC2 (zkC lC2) wFX8_28 rfl dX8_failAt_1 ?_
  refine z_if_ne (tgt := 17) hc dX8_failAt_4 (by decide) _ (fun h1 => ?_) (fun h1 => ?_)
  · exact z_vret hc dX8_failAt_17
  · refine z_aload_n hc dX8_failAt_7 0 rfl rfl ?_
    refine z_iload_n hc dX8_failAt_8 1 rfl rfl ?_
    refine z_bipush (v := 16) hc dX8_failAt_9 rfl ?_
    refine z_iload_n hc dX8_failAt_11 2 rfl rfl ?_
    refine z_imul hc dX8_failAt_12 ?_
    refine z_iadd hc dX8_failAt_13 ?_
    refine z_putI hc (ci := 8) (k := 6) (by decide) (by decide) zly8 lC2 (zkC lC2) wFX8_28 rfl rfl rfl rfl dX8_failAt_14 ?_
    refine zJ.letM (fun u1 e1 => ?_)
    exact z_vret hc dX8_failAt_17
set_option maxRecDepth 100000 in
set_option maxHeartbeats 4000000 in
theorem sTa_fail : ∀ (v1 : Int32) (u : zM) r m1, Ta_fail v1 u = some (r, m1) → zMet l (wC D b) 1 22 yX8_fail cX8_fail 2 none [.ref 2, .int v1] u (eV r) m1 := by
  intro v1 u
  refine zMet.of (L := [(0, .ref 2), (1, .int v1)]) RX8 (by decide +kernel) rfl (Nat.le_of_ble_eq_true rfl) (fun h => by cases h) rfl (fun p e s mi args below meth c R fin hc hin hRm => ?_)
  unfold Ta_fail
  refine z_aload_n hc dX8_fail_0 0 rfl rfl ?_
  refine z_iload_n hc dX8_fail_1 1 rfl rfl ?_
  refine z_aload_n hc dX8_fail_2 0 rfl rfl ?_
  refine z_getI hc (ci := 8) (k := 3) (by decide) (by decide) zly8 lC2 (zkC lC2) wFX8_34 rfl dX8_fail_3 ?_
  refine z_callV (av := [.int v1, .int (gI u 2 3)]) (enc' := eV) hc rfl (sTa_failAt v1 (gI u 2 3) _) (ci := 8) (by decide) lC2 (zkC lC2) rfl wMX8_37 hpyX8_failAt hmyX8_failAt (rm_ok hRm (Nat.le_of_ble_eq_true rfl) (Nat.le_of_ble_eq_true rfl)) (Nat.le_of_ble_eq_true rfl) hRm.2.2 dX8_fail_6 (fun c1 u1 f1 => ?_)
  exact z_vret hc dX8_fail_9
set_option maxRecDepth 100000 in
set_option maxHeartbeats 4000000 in
theorem sCo_passFirst : ∀ (v1 : Int32) (u : zM) r m1, Co_passFirst v1 u = some (r, m1) → zMet l (wC D b) 2 43 yX0_passFirst cX0_passFirst 2 none [.ref 2, .int v1] u (eV r) m1 := by
  intro v1 u
  refine zMet.of (L := [(0, .ref 2), (1, .int v1)]) RX0 (by decide +kernel) rfl (Nat.le_of_ble_eq_true rfl) (fun h => by cases h) rfl (fun p e s mi args below meth c R fin hc hin hRm => ?_)
  unfold Co_passFirst
  refine z_iload_n hc dX0_passFirst_0 1 rfl rfl ?_
  refine z_if_eq (tgt := 12) hc dX0_passFirst_1 (by decide) _ (fun h1 => ?_) (fun h1 => ?_)
  · refine z_aload_n hc dX0_passFirst_12 0 rfl rfl ?_
    refine z_callV (av := []) (enc' := eV) hc rfl (sTa_step _) (ci := 8) (by decide) lC2 (zkC lC2) rfl wMX0_136 hpyX8_step hmyX8_step (rm_ok hRm (Nat.le_of_ble_eq_true rfl) (Nat.le_of_ble_eq_true rfl)) (Nat.le_of_ble_eq_true rfl) hRm.2.2 dX0_passFirst_13 (fun c1 u1 f1 => ?_)
    exact z_vret hc dX0_passFirst_16
  · refine z_aload_n hc dX0_passFirst_4 0 rfl rfl ?_
    refine z_iconst (v := 5) hc dX0_passFirst_5 rfl ?_
    refine z_callV (av := [.int 5]) (enc' := eV) hc rfl (sTa_fail 5 _) (ci := 8) (by decide) lC2 (zkC lC2) rfl wMX0_133 hpyX8_fail hmyX8_fail (rm_ok hRm (Nat.le_of_ble_eq_true rfl) (Nat.le_of_ble_eq_true rfl)) (Nat.le_of_ble_eq_true rfl) hRm.2.2 dX0_passFirst_6 (fun c2 u2 f2 => ?_)
    refine z_goto (tgt := 16) hc dX0_passFirst_9 (by decide) ?_
    exact z_vret hc dX0_passFirst_16
set_option maxRecDepth 100000 in
set_option maxHeartbeats 4000000 in
theorem sTa_isKept_2b {fin : Int32 × zM} (hc : zCx p s mi args meth c (wC D b) m0 RX8 cX8_isKept 3 (some .boolean)) (hRm : R.frames = 0 ∧ R.locals = 0 ∧ R.cells = zc (wC D b) m0 fin.2 ∧ R.slots = zs (wC D b) m0 fin.2) {zr2 : Int64 → Int32 → zM → Option (Int32 × zM)} (hr2 : ∀ (v0 : Int64) (v2 : Int32) (u : zM), zJ eI p l e R s mi args below meth c (wC D b) m0 3 fin 2 [(0, .long v0), (2, .int v2)] [] u (zr2 v0 v2 u)) (v0 : Int64) (v2 : Int32) (u : zM) : zJ eI p l e R s mi args below meth c (wC D b) m0 3 fin 2 [(0, .long v0), (2, .int v2)] [] u (Ta_isKept_2b zr2 v0 v2 u) := by
  unfold Ta_isKept_2b
  refine z_iload_n hc dX8_isKept_2 1 rfl rfl ?_
  refine z_kept hc dX8_isKept_3 ?_
  refine z_keptLen hc dX8_isKept_6 ?_
  refine z_icmp_ge (tgt := 28) hc dX8_isKept_7 (by decide) _ (fun h1 => ?_) (fun h1 => ?_)
  · refine z_iconst (v := 0) hc dX8_isKept_28 rfl ?_
    exact z_zret hc rfl dX8_isKept_29
  · refine z_kept hc dX8_isKept_10 ?_
    refine z_iload_n hc dX8_isKept_13 1 rfl rfl ?_
    refine zJ.chk _ (fun h2 => ?_)
    refine z_keptLd hc h2 dX8_isKept_14 ?_
    refine z_lload_n hc dX8_isKept_15 0 rfl rfl ?_
    refine z_lcmp hc dX8_isKept_16 ?_
    refine z_if_ne (tgt := 22) hc dX8_isKept_17 (by decide) _ (fun h3 => ?_) (fun h3 => ?_)
    · refine z_iinc (L' := [(2, .int (v2 + 1)), (0, .long v0)]) hc dX8_isKept_22 1 rfl (v := (v2 + 1)) rfl (by decide) rfl rfl ?_
      refine z_goto (tgt := 2) hc dX8_isKept_25 (by decide) ?_
      refine zJ.sub (L' := [(0, .long v0), (2, .int (v2 + 1))]) [1, 0] rfl ?_
      exact hr2 v0 (v2 + 1) _
    · refine z_iconst (v := 1) hc dX8_isKept_20 rfl ?_
      exact z_zret hc rfl dX8_isKept_21
set_option maxRecDepth 100000 in
set_option maxHeartbeats 4000000 in
theorem sTa_isKept_2 {fin : Int32 × zM} (hc : zCx p s mi args meth c (wC D b) m0 RX8 cX8_isKept 3 (some .boolean)) (hRm : R.frames = 0 ∧ R.locals = 0 ∧ R.cells = zc (wC D b) m0 fin.2 ∧ R.slots = zs (wC D b) m0 fin.2) : ∀ (zf : Nat) (v0 : Int64) (v2 : Int32) (u : zM), zJ eI p l e R s mi args below meth c (wC D b) m0 3 fin 2 [(0, .long v0), (2, .int v2)] [] u (Ta_isKept_2 zf v0 v2 u) := by
  intro zf
  induction zf with
  | zero => intro v0 v2 u; exact zJ.nil
  | succ zf ih => intro v0 v2 u; exact sTa_isKept_2b hc hRm ih v0 v2 u
set_option maxRecDepth 100000 in
set_option maxHeartbeats 4000000 in
theorem sTa_isKept : ∀ (v0 : Int64) (u : zM) r m1, Ta_isKept v0 u = some (r, m1) → zMet l (wC D b) 0 0 yX8_isKept cX8_isKept 3 (some .boolean) [.long v0] u (eI r) m1 := by
  intro v0 u
  refine zMet.of (L := [(0, .long v0)]) RX8 (by decide +kernel) rfl (Nat.le_of_ble_eq_true rfl) (fun h => by cases h) rfl (fun p e s mi args below meth c R fin hc hin hRm => ?_)
  unfold Ta_isKept
  refine z_iconst (v := 0) hc dX8_isKept_0 rfl ?_
  refine z_istore_n (L' := [(2, .int 0), (0, .long v0)]) hc dX8_isKept_1 rfl (by decide) rfl rfl ?_
  refine zJ.sub (L' := [(0, .long v0), (2, .int 0)]) [1, 0] rfl ?_
  exact sTa_isKept_2 hc hRm zF v0 0 _
set_option maxRecDepth 100000 in
set_option maxHeartbeats 4000000 in
theorem sTa_atName : ∀ (u : zM) r m1, Ta_atName u = some (r, m1) → zMet l (wC D b) 2 43 yX8_atName cX8_atName 1 (some .boolean) [.ref 2] u (eI r) m1 := by
  intro u
  refine zMet.of (L := [(0, .ref 2)]) RX8 (by decide +kernel) rfl (Nat.le_of_ble_eq_true rfl) (fun h => by cases h) rfl (fun p e s mi args below meth c R fin hc hin hRm => ?_)
  unfold Ta_atName
  refine z_aload_n hc dX8_atName_0 0 rfl rfl ?_
  refine z_getI hc (ci := 8) (k := 6) (by decide) (by decide) zly8 lC2 (zkC lC2) wFX8_28 rfl dX8_atName_1 ?_
  refine z_if_eq (tgt := 9) hc dX8_atName_4 (by decide) _ (fun h1 => ?_) (fun h1 => ?_)
  · refine z_aload_n hc dX8_atName_9 0 rfl rfl ?_
    refine z_getI hc (ci := 8) (k := 4) (by decide) (by decide) zly8 lC2 (zkC lC2) wFX8_45 rfl dX8_atName_10 ?_
    refine z_iconst (v := 1) hc dX8_atName_13 rfl ?_
    refine z_icmp_ne (tgt := 27) hc dX8_atName_14 (by decide) _ (fun h2 => ?_) (fun h2 => ?_)
    · refine z_aload_n hc dX8_atName_27 0 rfl rfl ?_
      refine z_iconst (v := 1) hc dX8_atName_28 rfl ?_
      refine z_callV (av := [.int 1]) (enc' := eV) hc rfl (sTa_fail 1 _) (ci := 8) (by decide) lC2 (zkC lC2) rfl wMX8_64 hpyX8_fail hmyX8_fail (rm_ok hRm (Nat.le_of_ble_eq_true rfl) (Nat.le_of_ble_eq_true rfl)) (Nat.le_of_ble_eq_true rfl) hRm.2.2 dX8_atName_29 (fun c1 u1 f1 => ?_)
      refine z_iconst (v := 0) hc dX8_atName_32 rfl ?_
      exact z_zret hc rfl dX8_atName_33
    · refine z_aload_n hc dX8_atName_17 0 rfl rfl ?_
      refine z_getL hc (ci := 8) (k := 5) (by decide) (by decide) zly8 lC2 (zkC lC2) wFX8_41 rfl dX8_atName_18 ?_
      refine z_callS (av := [.long (gL u 2 5)]) (enc' := eI) hc rfl (sTa_isKept (gL u 2 5) _) wMX8_60 hpyX8_isKept hmyX8_isKept (rm_ok hRm (Nat.le_of_ble_eq_true rfl) (Nat.le_of_ble_eq_true rfl)) (Nat.le_of_ble_eq_true rfl) hRm.2.2 dX8_atName_21 (fun c2 u2 f2 => ?_)
      refine z_if_eq (tgt := 34) hc dX8_atName_24 (by decide) _ (fun h3 => ?_) (fun h3 => ?_)
      · refine z_iconst (v := 1) hc dX8_atName_34 rfl ?_
        exact z_zret hc rfl dX8_atName_35
      · refine z_aload_n hc dX8_atName_27 0 rfl rfl ?_
        refine z_iconst (v := 1) hc dX8_atName_28 rfl ?_
        refine z_callV (av := [.int 1]) (enc' := eV) hc rfl (sTa_fail 1 _) (ci := 8) (by decide) lC2 (zkC lC2) rfl wMX8_64 hpyX8_fail hmyX8_fail (rm_ok hRm (Nat.le_of_ble_eq_true rfl) (Nat.le_of_ble_eq_true rfl)) (Nat.le_of_ble_eq_true rfl) hRm.2.2 dX8_atName_29 (fun c3 u3 f3 => ?_)
        refine z_iconst (v := 0) hc dX8_atName_32 rfl ?_
        exact z_zret hc rfl dX8_atName_33
  · refine z_iconst (v := 0) hc dX8_atName_7 rfl ?_
    exact z_zret hc rfl dX8_atName_8
set_option maxRecDepth 100000 in
set_option maxHeartbeats 4000000 in
theorem sNa_find_2b {fin : Int32 × zM} (hc : zCx p s mi args meth c (wC D b) m0 RX3 cX3_find 4 (some .int)) (hRm : R.frames = 0 ∧ R.locals = 0 ∧ R.cells = zc (wC D b) m0 fin.2 ∧ R.slots = zs (wC D b) m0 fin.2) {zr2 : Nat → Int64 → Int32 → zM → Option (Int32 × zM)} (hr2 : ∀ (r0 : Nat) (v1 : Int64) (v3 : Int32) (u : zM), zJ eI p l e R s mi args below meth c (wC D b) m0 4 fin 2 [(0, .ref r0), (1, .long v1), (3, .int v3)] [] u (zr2 r0 v1 v3 u)) (r0 : Nat) (v1 : Int64) (v3 : Int32) (u : zM) : zJ eI p l e R s mi args below meth c (wC D b) m0 4 fin 2 [(0, .ref r0), (1, .long v1), (3, .int v3)] [] u (Na_find_2b zr2 r0 v1 v3 u) := by
  unfold Na_find_2b
  refine zJ.chk _ (fun h1 => ?_)
  refine z_iload_n hc dX3_find_2 2 rfl rfl ?_
  refine z_aload_n hc dX3_find_3 0 rfl rfl ?_
  refine z_getI hc (ci := 3) (k := 1) (by decide) (by decide) zly3 h1 (zkC h1) wFX3_15 rfl dX3_find_4 ?_
  refine z_icmp_ge (tgt := 29) hc dX3_find_7 (by decide) _ (fun h2 => ?_) (fun h2 => ?_)
  · refine z_iconst (v := (-1)) hc dX3_find_29 rfl ?_
    exact z_iret hc dX3_find_30
  · refine z_aload_n hc dX3_find_10 0 rfl rfl ?_
    refine z_getR (x := (r0 + 1)) hc (ci := 3) (k := 0) (by decide) (by decide) zly3 h1 (zkC h1) wFX3_9 rfl dX3_find_11 (rfC_off (off := 1) h1 rfl (by decide)) (Nat.le_add_left_of_le (by decide)) ?_
    refine z_iload_n hc dX3_find_14 2 rfl rfl ?_
    refine zJ.chk _ (fun h3 => ?_)
    refine z_lald (k := (ix v3)) hc (lyC_13_1 h1) (zkC (lyC_13_1 h1)) h3 rfl dX3_find_15 ?_
    refine z_lload_n hc dX3_find_16 1 rfl rfl ?_
    refine z_lcmp hc dX3_find_17 ?_
    refine z_if_ne (tgt := 23) hc dX3_find_18 (by decide) _ (fun h4 => ?_) (fun h4 => ?_)
    · refine z_iinc (L' := [(3, .int (v3 + 1)), (0, .ref r0), (1, .long v1)]) hc dX3_find_23 2 rfl (v := (v3 + 1)) rfl (by decide) rfl rfl ?_
      refine z_goto (tgt := 2) hc dX3_find_26 (by decide) ?_
      refine zJ.sub (L' := [(0, .ref r0), (1, .long v1), (3, .int (v3 + 1))]) [1, 2, 0] rfl ?_
      exact hr2 r0 v1 (v3 + 1) _
    · refine z_iload_n hc dX3_find_21 2 rfl rfl ?_
      exact z_iret hc dX3_find_22
set_option maxRecDepth 100000 in
set_option maxHeartbeats 4000000 in
theorem sNa_find_2 {fin : Int32 × zM} (hc : zCx p s mi args meth c (wC D b) m0 RX3 cX3_find 4 (some .int)) (hRm : R.frames = 0 ∧ R.locals = 0 ∧ R.cells = zc (wC D b) m0 fin.2 ∧ R.slots = zs (wC D b) m0 fin.2) : ∀ (zf : Nat) (r0 : Nat) (v1 : Int64) (v3 : Int32) (u : zM), zJ eI p l e R s mi args below meth c (wC D b) m0 4 fin 2 [(0, .ref r0), (1, .long v1), (3, .int v3)] [] u (Na_find_2 zf r0 v1 v3 u) := by
  intro zf
  induction zf with
  | zero => intro r0 v1 v3 u; exact zJ.nil
  | succ zf ih => intro r0 v1 v3 u; exact sNa_find_2b hc hRm ih r0 v1 v3 u
set_option maxRecDepth 100000 in
set_option maxHeartbeats 4000000 in
theorem sNa_find : ∀ (r0 : Nat) (v1 : Int64) (u : zM) r m1, Na_find r0 v1 u = some (r, m1) → zMet l (wC D b) 0 0 yX3_find cX3_find 4 (some .int) [.ref r0, .long v1] u (eI r) m1 := by
  intro r0 v1 u
  refine zMet.of (L := [(0, .ref r0), (1, .long v1)]) RX3 (by decide +kernel) rfl (Nat.le_of_ble_eq_true rfl) (fun h => by cases h) rfl (fun p e s mi args below meth c R fin hc hin hRm => ?_)
  unfold Na_find
  refine zJ.chk _ (fun h1 => ?_)
  refine z_iconst (v := 0) hc dX3_find_0 rfl ?_
  refine z_istore_n (L' := [(3, .int 0), (0, .ref r0), (1, .long v1)]) hc dX3_find_1 rfl (by decide) rfl rfl ?_
  refine zJ.sub (L' := [(0, .ref r0), (1, .long v1), (3, .int 0)]) [1, 2, 0] rfl ?_
  exact sNa_find_2 hc hRm zF r0 v1 0 _
set_option maxRecDepth 100000 in
set_option maxHeartbeats 4000000 in
theorem sCo_isTold : ∀ (r0 : Nat) (v1 : Int64) (u : zM) r m1, Co_isTold r0 v1 u = some (r, m1) → zMet l (wC D b) 1 23 yX0_isTold cX0_isTold 3 (some .boolean) [.ref r0, .long v1] u (eI r) m1 := by
  intro r0 v1 u
  refine zMet.of (L := [(0, .ref r0), (1, .long v1)]) RX0 (by decide +kernel) rfl (Nat.le_of_ble_eq_true rfl) (fun h => by cases h) rfl (fun p e s mi args below meth c R fin hc hin hRm => ?_)
  unfold Co_isTold
  refine zJ.chk _ (fun h1 => ?_)
  refine z_aload_n hc dX0_isTold_0 0 rfl rfl ?_
  refine z_getR (x := (r0 + 1)) hc (ci := 0) (k := 0) (by decide) (by decide) zly0 h1 (zkC h1) wFX0_14 rfl dX0_isTold_1 (rfC_off (off := 1) h1 rfl (by decide)) (Nat.le_add_left_of_le (by decide)) ?_
  refine z_lload_n hc dX0_isTold_4 1 rfl rfl ?_
  refine z_callV (av := [.long v1]) (enc' := eI) hc rfl (sNa_find (r0 + 1) v1 _) (ci := 3) (by decide) (lyC_10_1 h1) (zkC (lyC_10_1 h1)) rfl wMX0_149 hpyX3_find hmyX3_find (rm_ok hRm (Nat.le_of_ble_eq_true rfl) (Nat.le_of_ble_eq_true rfl)) (Nat.le_of_ble_eq_true rfl) hRm.2.2 dX0_isTold_5 (fun c1 u1 f1 => ?_)
  refine z_iconst (v := (-1)) hc dX0_isTold_8 rfl ?_
  refine z_icmp_ne (tgt := 48) hc dX0_isTold_9 (by decide) _ (fun h2 => ?_) (fun h2 => ?_)
  · refine z_iconst (v := 1) hc dX0_isTold_48 rfl ?_
    refine z_goto (tgt := 53) hc dX0_isTold_49 (by decide) ?_
    exact z_zret hc rfl dX0_isTold_53
  · refine z_aload_n hc dX0_isTold_12 0 rfl rfl ?_
    refine z_getR (x := (r0 + 3)) hc (ci := 0) (k := 1) (by decide) (by decide) zly0 h1 (zkC h1) wFX0_20 rfl dX0_isTold_13 (rfC_off (off := 3) h1 rfl (by decide)) (Nat.le_add_left_of_le (by decide)) ?_
    refine z_lload_n hc dX0_isTold_16 1 rfl rfl ?_
    refine z_callV (av := [.long v1]) (enc' := eI) hc rfl (sNa_find (r0 + 3) v1 _) (ci := 3) (by decide) (lyC_10_3 h1) (zkC (lyC_10_3 h1)) rfl wMX0_149 hpyX3_find hmyX3_find (rm_ok hRm (Nat.le_of_ble_eq_true rfl) (Nat.le_of_ble_eq_true rfl)) (Nat.le_of_ble_eq_true rfl) hRm.2.2 dX0_isTold_17 (fun c2 u2 f2 => ?_)
    refine z_iconst (v := (-1)) hc dX0_isTold_20 rfl ?_
    refine z_icmp_ne (tgt := 48) hc dX0_isTold_21 (by decide) _ (fun h3 => ?_) (fun h3 => ?_)
    · refine z_iconst (v := 1) hc dX0_isTold_48 rfl ?_
      refine z_goto (tgt := 53) hc dX0_isTold_49 (by decide) ?_
      exact z_zret hc rfl dX0_isTold_53
    · refine z_aload_n hc dX0_isTold_24 0 rfl rfl ?_
      refine z_getR (x := (r0 + 5)) hc (ci := 0) (k := 2) (by decide) (by decide) zly0 h1 (zkC h1) wFX0_23 rfl dX0_isTold_25 (rfC_off (off := 5) h1 rfl (by decide)) (Nat.le_add_left_of_le (by decide)) ?_
      refine z_lload_n hc dX0_isTold_28 1 rfl rfl ?_
      refine z_callV (av := [.long v1]) (enc' := eI) hc rfl (sNa_find (r0 + 5) v1 _) (ci := 3) (by decide) (lyC_10_5 h1) (zkC (lyC_10_5 h1)) rfl wMX0_149 hpyX3_find hmyX3_find (rm_ok hRm (Nat.le_of_ble_eq_true rfl) (Nat.le_of_ble_eq_true rfl)) (Nat.le_of_ble_eq_true rfl) hRm.2.2 dX0_isTold_29 (fun c3 u3 f3 => ?_)
      refine z_iconst (v := (-1)) hc dX0_isTold_32 rfl ?_
      refine z_icmp_ne (tgt := 48) hc dX0_isTold_33 (by decide) _ (fun h4 => ?_) (fun h4 => ?_)
      · refine z_iconst (v := 1) hc dX0_isTold_48 rfl ?_
        refine z_goto (tgt := 53) hc dX0_isTold_49 (by decide) ?_
        exact z_zret hc rfl dX0_isTold_53
      · refine z_aload_n hc dX0_isTold_36 0 rfl rfl ?_
        refine z_getR (x := (r0 + 7)) hc (ci := 0) (k := 3) (by decide) (by decide) zly0 h1 (zkC h1) wFX0_26 rfl dX0_isTold_37 (rfC_off (off := 7) h1 rfl (by decide)) (Nat.le_add_left_of_le (by decide)) ?_
        refine z_lload_n hc dX0_isTold_40 1 rfl rfl ?_
        refine z_callV (av := [.long v1]) (enc' := eI) hc rfl (sNa_find (r0 + 7) v1 _) (ci := 3) (by decide) (lyC_10_7 h1) (zkC (lyC_10_7 h1)) rfl wMX0_149 hpyX3_find hmyX3_find (rm_ok hRm (Nat.le_of_ble_eq_true rfl) (Nat.le_of_ble_eq_true rfl)) (Nat.le_of_ble_eq_true rfl) hRm.2.2 dX0_isTold_41 (fun c4 u4 f4 => ?_)
        refine z_iconst (v := (-1)) hc dX0_isTold_44 rfl ?_
        refine z_icmp_eq (tgt := 52) hc dX0_isTold_45 (by decide) _ (fun h5 => ?_) (fun h5 => ?_)
        · refine z_iconst (v := 0) hc dX0_isTold_52 rfl ?_
          exact z_zret hc rfl dX0_isTold_53
        · refine z_iconst (v := 1) hc dX0_isTold_48 rfl ?_
          refine z_goto (tgt := 53) hc dX0_isTold_49 (by decide) ?_
          exact z_zret hc rfl dX0_isTold_53
set_option maxRecDepth 100000 in
set_option maxHeartbeats 4000000 in
theorem sCo_passNewName : ∀ (r0 : Nat) (u : zM) r m1, Co_passNewName r0 u = some (r, m1) → zMet l (wC D b) 3 63 yX0_passNewName cX0_passNewName 4 (some .long) [.ref r0, .ref 2] u (eL r) m1 := by
  intro r0 u
  refine zMet.of (L := [(0, .ref r0), (1, .ref 2)]) RX0 (by decide +kernel) rfl (Nat.le_of_ble_eq_true rfl) (fun h => by cases h) rfl (fun p e s mi args below meth c R fin hc hin hRm => ?_)
  unfold Co_passNewName
  refine zJ.chk _ (fun h1 => ?_)
  refine z_aload_n hc dX0_passNewName_0 1 rfl rfl ?_
  refine z_callV (av := []) (enc' := eI) hc rfl (sTa_atName _) (ci := 8) (by decide) lC2 (zkC lC2) rfl wMX0_139 hpyX8_atName hmyX8_atName (rm_ok hRm (Nat.le_of_ble_eq_true rfl) (Nat.le_of_ble_eq_true rfl)) (Nat.le_of_ble_eq_true rfl) hRm.2.2 dX0_passNewName_1 (fun c1 u1 f1 => ?_)
  refine z_if_ne (tgt := 9) hc dX0_passNewName_4 (by decide) _ (fun h2 => ?_) (fun h2 => ?_)
  · refine z_aload_n hc dX0_passNewName_9 1 rfl rfl ?_
    refine z_getL hc (ci := 8) (k := 5) (by decide) (by decide) zly8 lC2 (zkC lC2) wFX0_142 rfl dX0_passNewName_10 ?_
    refine zJ.letL (fun x1 e1 => ?_)
    refine z_lstore_n (L' := [(2, .long x1), (0, .ref r0), (1, .ref 2)]) hc dX0_passNewName_13 rfl (by decide) rfl rfl ?_
    refine z_aload_n hc dX0_passNewName_14 1 rfl rfl ?_
    refine z_lload_n hc dX0_passNewName_15 0 rfl rfl ?_
    refine z_callV (av := [.long x1]) (enc' := eI) hc rfl (sCo_isTold r0 x1 _) (ci := 0) (by decide) h1 (zkC h1) rfl wMX0_146 hpyX0_isTold hmyX0_isTold (rm_ok hRm (Nat.le_of_ble_eq_true rfl) (Nat.le_of_ble_eq_true rfl)) (Nat.le_of_ble_eq_true rfl) hRm.2.2 dX0_passNewName_16 (fun c2 u2 f2 => ?_)
    refine z_if_eq (tgt := 30) hc dX0_passNewName_19 (by decide) _ (fun h3 => ?_) (fun h3 => ?_)
    · refine z_aload_n hc dX0_passNewName_30 2 rfl rfl ?_
      refine z_callV (av := []) (enc' := eV) hc rfl (sTa_step _) (ci := 8) (by decide) lC2 (zkC lC2) rfl wMX0_136 hpyX8_step hmyX8_step (rm_ok hRm (Nat.le_of_ble_eq_true rfl) (Nat.le_of_ble_eq_true rfl)) (Nat.le_of_ble_eq_true rfl) hRm.2.2 dX0_passNewName_31 (fun c3 u3 f3 => ?_)
      refine z_lload_n hc dX0_passNewName_34 0 rfl rfl ?_
      exact z_lret hc dX0_passNewName_35
    · refine z_aload_n hc dX0_passNewName_22 2 rfl rfl ?_
      refine z_iconst (v := 3) hc dX0_passNewName_23 rfl ?_
      refine z_callV (av := [.int 3]) (enc' := eV) hc rfl (sTa_fail 3 _) (ci := 8) (by decide) lC2 (zkC lC2) rfl wMX0_133 hpyX8_fail hmyX8_fail (rm_ok hRm (Nat.le_of_ble_eq_true rfl) (Nat.le_of_ble_eq_true rfl)) (Nat.le_of_ble_eq_true rfl) hRm.2.2 dX0_passNewName_24 (fun c4 u4 f4 => ?_)
      refine z_goto (tgt := 34) hc dX0_passNewName_27 (by decide) ?_
      refine z_lload_n hc dX0_passNewName_34 0 rfl rfl ?_
      exact z_lret hc dX0_passNewName_35
  · refine z_lconst (v := 0) hc dX0_passNewName_7 rfl ?_
    exact z_lret hc dX0_passNewName_8
set_option maxRecDepth 100000 in
set_option maxHeartbeats 4000000 in
theorem sTa_passWord : ∀ (v1 : Int64) (u : zM) r m1, Ta_passWord v1 u = some (r, m1) → zMet l (wC D b) 2 43 yX8_passWord cX8_passWord 3 none [.ref 2, .long v1] u (eV r) m1 := by
  intro v1 u
  refine zMet.of (L := [(0, .ref 2), (1, .long v1)]) RX8 (by decide +kernel) rfl (Nat.le_of_ble_eq_true rfl) (fun h => by cases h) rfl (fun p e s mi args below meth c R fin hc hin hRm => ?_)
  unfold Ta_passWord
  refine z_aload_n hc dX8_passWord_0 0 rfl rfl ?_
  refine z_lload_n hc dX8_passWord_1 1 rfl rfl ?_
  refine z_callV (av := [.long v1]) (enc' := eI) hc rfl (sTa_atWord v1 _) (ci := 8) (by decide) lC2 (zkC lC2) rfl wMX8_72 hpyX8_atWord hmyX8_atWord (rm_ok hRm (Nat.le_of_ble_eq_true rfl) (Nat.le_of_ble_eq_true rfl)) (Nat.le_of_ble_eq_true rfl) hRm.2.2 dX8_passWord_2 (fun c1 u1 f1 => ?_)
  refine z_if_eq (tgt := 15) hc dX8_passWord_5 (by decide) _ (fun h1 => ?_) (fun h1 => ?_)
  · refine z_aload_n hc dX8_passWord_15 0 rfl rfl ?_
    refine z_iconst (v := 1) hc dX8_passWord_16 rfl ?_
    refine z_callV (av := [.int 1]) (enc' := eV) hc rfl (sTa_fail 1 _) (ci := 8) (by decide) lC2 (zkC lC2) rfl wMX8_64 hpyX8_fail hmyX8_fail (rm_ok hRm (Nat.le_of_ble_eq_true rfl) (Nat.le_of_ble_eq_true rfl)) (Nat.le_of_ble_eq_true rfl) hRm.2.2 dX8_passWord_17 (fun c2 u2 f2 => ?_)
    exact z_vret hc dX8_passWord_20
  · refine z_aload_n hc dX8_passWord_8 0 rfl rfl ?_
    refine z_callV (av := []) (enc' := eV) hc rfl (sTa_step _) (ci := 8) (by decide) lC2 (zkC lC2) rfl wMX8_31 hpyX8_step hmyX8_step (rm_ok hRm (Nat.le_of_ble_eq_true rfl) (Nat.le_of_ble_eq_true rfl)) (Nat.le_of_ble_eq_true rfl) hRm.2.2 dX8_passWord_9 (fun c3 u3 f3 => ?_)
    refine z_goto (tgt := 20) hc dX8_passWord_12 (by decide) ?_
    exact z_vret hc dX8_passWord_20
set_option maxRecDepth 100000 in
set_option maxHeartbeats 4000000 in
theorem sTa_atNumber : ∀ (u : zM) r m1, Ta_atNumber u = some (r, m1) → zMet l (wC D b) 0 0 yX8_atNumber cX8_atNumber 1 (some .boolean) [.ref 2] u (eI r) m1 := by
  intro u
  refine zMet.of (L := [(0, .ref 2)]) RX8 (by decide +kernel) rfl (Nat.le_of_ble_eq_true rfl) (fun h => by cases h) rfl (fun p e s mi args below meth c R fin hc hin hRm => ?_)
  unfold Ta_atNumber
  refine z_aload_n hc dX8_atNumber_0 0 rfl rfl ?_
  refine z_getI hc (ci := 8) (k := 6) (by decide) (by decide) zly8 lC2 (zkC lC2) wFX8_28 rfl dX8_atNumber_1 ?_
  refine z_if_ne (tgt := 19) hc dX8_atNumber_4 (by decide) _ (fun h1 => ?_) (fun h1 => ?_)
  · refine z_iconst (v := 0) hc dX8_atNumber_19 rfl ?_
    exact z_zret hc rfl dX8_atNumber_20
  · refine z_aload_n hc dX8_atNumber_7 0 rfl rfl ?_
    refine z_getI hc (ci := 8) (k := 4) (by decide) (by decide) zly8 lC2 (zkC lC2) wFX8_45 rfl dX8_atNumber_8 ?_
    refine z_iconst (v := 2) hc dX8_atNumber_11 rfl ?_
    refine z_icmp_ne (tgt := 19) hc dX8_atNumber_12 (by decide) _ (fun h2 => ?_) (fun h2 => ?_)
    · refine z_iconst (v := 0) hc dX8_atNumber_19 rfl ?_
      exact z_zret hc rfl dX8_atNumber_20
    · refine z_iconst (v := 1) hc dX8_atNumber_15 rfl ?_
      refine z_goto (tgt := 20) hc dX8_atNumber_16 (by decide) ?_
      exact z_zret hc rfl dX8_atNumber_20
set_option maxRecDepth 100000 in
set_option maxHeartbeats 4000000 in
theorem sTa_passNumber : ∀ (v1 : Int32) (v2 : Int32) (u : zM) r m1, Ta_passNumber v1 v2 u = some (r, m1) → zMet l (wC D b) 2 43 yX8_passNumber cX8_passNumber 4 (some .int) [.ref 2, .int v1, .int v2] u (eI r) m1 := by
  intro v1 v2 u
  refine zMet.of (L := [(0, .ref 2), (1, .int v1), (2, .int v2)]) RX8 (by decide +kernel) rfl (Nat.le_of_ble_eq_true rfl) (fun h => by cases h) rfl (fun p e s mi args below meth c R fin hc hin hRm => ?_)
  unfold Ta_passNumber
  refine z_aload_n hc dX8_passNumber_0 0 rfl rfl ?_
  refine z_callV (av := []) (enc' := eI) hc rfl (sTa_atNumber _) (ci := 8) (by decide) lC2 (zkC lC2) rfl wMX8_79 hpyX8_atNumber hmyX8_atNumber (rm_ok hRm (Nat.le_of_ble_eq_true rfl) (Nat.le_of_ble_eq_true rfl)) (Nat.le_of_ble_eq_true rfl) hRm.2.2 dX8_passNumber_1 (fun c1 u1 f1 => ?_)
  refine z_if_ne (tgt := 14) hc dX8_passNumber_4 (by decide) _ (fun h1 => ?_) (fun h1 => ?_)
  · refine z_aload_n hc dX8_passNumber_14 0 rfl rfl ?_
    refine z_getL hc (ci := 8) (k := 5) (by decide) (by decide) zly8 lC2 (zkC lC2) wFX8_41 rfl dX8_passNumber_15 ?_
    refine z_iload_n hc dX8_passNumber_18 1 rfl rfl ?_
    refine z_i2l hc dX8_passNumber_19 ?_
    refine z_lcmp hc dX8_passNumber_20 ?_
    refine z_if_lt (tgt := 34) hc dX8_passNumber_21 (by decide) _ (fun h2 => ?_) (fun h2 => ?_)
    · refine z_aload_n hc dX8_passNumber_34 0 rfl rfl ?_
      refine z_iconst (v := 4) hc dX8_passNumber_35 rfl ?_
      refine z_callV (av := [.int 4]) (enc' := eV) hc rfl (sTa_fail 4 _) (ci := 8) (by decide) lC2 (zkC lC2) rfl wMX8_64 hpyX8_fail hmyX8_fail (rm_ok hRm (Nat.le_of_ble_eq_true rfl) (Nat.le_of_ble_eq_true rfl)) (Nat.le_of_ble_eq_true rfl) hRm.2.2 dX8_passNumber_36 (fun c2 u2 f2 => ?_)
      refine z_iload_n hc dX8_passNumber_39 1 rfl rfl ?_
      exact z_iret hc dX8_passNumber_40
    · refine z_aload_n hc dX8_passNumber_24 0 rfl rfl ?_
      refine z_getL hc (ci := 8) (k := 5) (by decide) (by decide) zly8 lC2 (zkC lC2) wFX8_41 rfl dX8_passNumber_25 ?_
      refine z_iload_n hc dX8_passNumber_28 2 rfl rfl ?_
      refine z_i2l hc dX8_passNumber_29 ?_
      refine z_lcmp hc dX8_passNumber_30 ?_
      refine z_if_le (tgt := 41) hc dX8_passNumber_31 (by decide) _ (fun h3 => ?_) (fun h3 => ?_)
      · refine z_aload_n hc dX8_passNumber_41 0 rfl rfl ?_
        refine z_getL hc (ci := 8) (k := 5) (by decide) (by decide) zly8 lC2 (zkC lC2) wFX8_41 rfl dX8_passNumber_42 ?_
        refine z_l2i hc dX8_passNumber_45 ?_
        refine zJ.letI (fun x1 e1 => ?_)
        refine z_istore_n (L' := [(3, .int x1), (0, .ref 2), (1, .int v1), (2, .int v2)]) hc dX8_passNumber_46 rfl (by decide) rfl rfl ?_
        refine z_aload_n hc dX8_passNumber_47 1 rfl rfl ?_
        refine z_callV (av := []) (enc' := eV) hc rfl (sTa_step _) (ci := 8) (by decide) lC2 (zkC lC2) rfl wMX8_31 hpyX8_step hmyX8_step (rm_ok hRm (Nat.le_of_ble_eq_true rfl) (Nat.le_of_ble_eq_true rfl)) (Nat.le_of_ble_eq_true rfl) hRm.2.2 dX8_passNumber_48 (fun c3 u3 f3 => ?_)
        refine z_iload_n hc dX8_passNumber_51 0 rfl rfl ?_
        exact z_iret hc dX8_passNumber_52
      · refine z_aload_n hc dX8_passNumber_34 0 rfl rfl ?_
        refine z_iconst (v := 4) hc dX8_passNumber_35 rfl ?_
        refine z_callV (av := [.int 4]) (enc' := eV) hc rfl (sTa_fail 4 _) (ci := 8) (by decide) lC2 (zkC lC2) rfl wMX8_64 hpyX8_fail hmyX8_fail (rm_ok hRm (Nat.le_of_ble_eq_true rfl) (Nat.le_of_ble_eq_true rfl)) (Nat.le_of_ble_eq_true rfl) hRm.2.2 dX8_passNumber_36 (fun c4 u4 f4 => ?_)
        refine z_iload_n hc dX8_passNumber_39 1 rfl rfl ?_
        exact z_iret hc dX8_passNumber_40
  · refine z_aload_n hc dX8_passNumber_7 0 rfl rfl ?_
    refine z_iconst (v := 1) hc dX8_passNumber_8 rfl ?_
    refine z_callV (av := [.int 1]) (enc' := eV) hc rfl (sTa_fail 1 _) (ci := 8) (by decide) lC2 (zkC lC2) rfl wMX8_64 hpyX8_fail hmyX8_fail (rm_ok hRm (Nat.le_of_ble_eq_true rfl) (Nat.le_of_ble_eq_true rfl)) (Nat.le_of_ble_eq_true rfl) hRm.2.2 dX8_passNumber_9 (fun c5 u5 f5 => ?_)
    refine z_iload_n hc dX8_passNumber_12 1 rfl rfl ?_
    exact z_iret hc dX8_passNumber_13
set_option maxRecDepth 100000 in
set_option maxHeartbeats 4000000 in
theorem sTa_atSign : ∀ (v1 : Int32) (u : zM) r m1, Ta_atSign v1 u = some (r, m1) → zMet l (wC D b) 0 0 yX8_atSign cX8_atSign 2 (some .boolean) [.ref 2, .int v1] u (eI r) m1 := by
  intro v1 u
  refine zMet.of (L := [(0, .ref 2), (1, .int v1)]) RX8 (by decide +kernel) rfl (Nat.le_of_ble_eq_true rfl) (fun h => by cases h) rfl (fun p e s mi args below meth c R fin hc hin hRm => ?_)
  unfold Ta_atSign
  refine z_aload_n hc dX8_atSign_0 0 rfl rfl ?_
  refine z_getI hc (ci := 8) (k := 6) (by decide) (by decide) zly8 lC2 (zkC lC2) wFX8_28 rfl dX8_atSign_1 ?_
  refine z_if_ne (tgt := 29) hc dX8_atSign_4 (by decide) _ (fun h1 => ?_) (fun h1 => ?_)
  · refine z_iconst (v := 0) hc dX8_atSign_29 rfl ?_
    exact z_zret hc rfl dX8_atSign_30
  · refine z_aload_n hc dX8_atSign_7 0 rfl rfl ?_
    refine z_getI hc (ci := 8) (k := 4) (by decide) (by decide) zly8 lC2 (zkC lC2) wFX8_45 rfl dX8_atSign_8 ?_
    refine z_iconst (v := 3) hc dX8_atSign_11 rfl ?_
    refine z_icmp_ne (tgt := 29) hc dX8_atSign_12 (by decide) _ (fun h2 => ?_) (fun h2 => ?_)
    · refine z_iconst (v := 0) hc dX8_atSign_29 rfl ?_
      exact z_zret hc rfl dX8_atSign_30
    · refine z_aload_n hc dX8_atSign_15 0 rfl rfl ?_
      refine z_getL hc (ci := 8) (k := 5) (by decide) (by decide) zly8 lC2 (zkC lC2) wFX8_41 rfl dX8_atSign_16 ?_
      refine z_iload_n hc dX8_atSign_19 1 rfl rfl ?_
      refine z_i2l hc dX8_atSign_20 ?_
      refine z_lcmp hc dX8_atSign_21 ?_
      refine z_if_ne (tgt := 29) hc dX8_atSign_22 (by decide) _ (fun h3 => ?_) (fun h3 => ?_)
      · refine z_iconst (v := 0) hc dX8_atSign_29 rfl ?_
        exact z_zret hc rfl dX8_atSign_30
      · refine z_iconst (v := 1) hc dX8_atSign_25 rfl ?_
        refine z_goto (tgt := 30) hc dX8_atSign_26 (by decide) ?_
        exact z_zret hc rfl dX8_atSign_30
set_option maxRecDepth 100000 in
set_option maxHeartbeats 4000000 in
theorem sTa_passSign : ∀ (v1 : Int32) (u : zM) r m1, Ta_passSign v1 u = some (r, m1) → zMet l (wC D b) 2 43 yX8_passSign cX8_passSign 2 none [.ref 2, .int v1] u (eV r) m1 := by
  intro v1 u
  refine zMet.of (L := [(0, .ref 2), (1, .int v1)]) RX8 (by decide +kernel) rfl (Nat.le_of_ble_eq_true rfl) (fun h => by cases h) rfl (fun p e s mi args below meth c R fin hc hin hRm => ?_)
  unfold Ta_passSign
  refine z_aload_n hc dX8_passSign_0 0 rfl rfl ?_
  refine z_iload_n hc dX8_passSign_1 1 rfl rfl ?_
  refine z_callV (av := [.int v1]) (enc' := eI) hc rfl (sTa_atSign v1 _) (ci := 8) (by decide) lC2 (zkC lC2) rfl wMX8_75 hpyX8_atSign hmyX8_atSign (rm_ok hRm (Nat.le_of_ble_eq_true rfl) (Nat.le_of_ble_eq_true rfl)) (Nat.le_of_ble_eq_true rfl) hRm.2.2 dX8_passSign_2 (fun c1 u1 f1 => ?_)
  refine z_if_eq (tgt := 15) hc dX8_passSign_5 (by decide) _ (fun h1 => ?_) (fun h1 => ?_)
  · refine z_aload_n hc dX8_passSign_15 0 rfl rfl ?_
    refine z_iconst (v := 1) hc dX8_passSign_16 rfl ?_
    refine z_callV (av := [.int 1]) (enc' := eV) hc rfl (sTa_fail 1 _) (ci := 8) (by decide) lC2 (zkC lC2) rfl wMX8_64 hpyX8_fail hmyX8_fail (rm_ok hRm (Nat.le_of_ble_eq_true rfl) (Nat.le_of_ble_eq_true rfl)) (Nat.le_of_ble_eq_true rfl) hRm.2.2 dX8_passSign_17 (fun c2 u2 f2 => ?_)
    exact z_vret hc dX8_passSign_20
  · refine z_aload_n hc dX8_passSign_8 0 rfl rfl ?_
    refine z_callV (av := []) (enc' := eV) hc rfl (sTa_step _) (ci := 8) (by decide) lC2 (zkC lC2) rfl wMX8_31 hpyX8_step hmyX8_step (rm_ok hRm (Nat.le_of_ble_eq_true rfl) (Nat.le_of_ble_eq_true rfl)) (Nat.le_of_ble_eq_true rfl) hRm.2.2 dX8_passSign_9 (fun c3 u3 f3 => ?_)
    refine z_goto (tgt := 20) hc dX8_passSign_12 (by decide) ?_
    exact z_vret hc dX8_passSign_20
set_option maxRecDepth 100000 in
set_option maxHeartbeats 4000000 in
theorem sNa_put : ∀ (r0 : Nat) (v1 : Int64) (u : zM) r m1, Na_put r0 v1 u = some (r, m1) → zMet l (wC D b) 0 0 yX3_put cX3_put 3 (some .int) [.ref r0, .long v1] u (eI r) m1 := by
  intro r0 v1 u
  refine zMet.of (L := [(0, .ref r0), (1, .long v1)]) RX3 (by decide +kernel) rfl (Nat.le_of_ble_eq_true rfl) (fun h => by cases h) rfl (fun p e s mi args below meth c R fin hc hin hRm => ?_)
  unfold Na_put
  refine zJ.chk _ (fun h1 => ?_)
  refine z_aload_n hc dX3_put_0 0 rfl rfl ?_
  refine z_getI hc (ci := 3) (k := 1) (by decide) (by decide) zly3 h1 (zkC h1) wFX3_15 rfl dX3_put_1 ?_
  refine z_aload_n hc dX3_put_4 0 rfl rfl ?_
  refine z_getR (x := (r0 + 1)) hc (ci := 3) (k := 0) (by decide) (by decide) zly3 h1 (zkC h1) wFX3_9 rfl dX3_put_5 (rfC_off (off := 1) h1 rfl (by decide)) (Nat.le_add_left_of_le (by decide)) ?_
  refine z_alen (v := (Nat.toInt32 ((layC (r0 + 1)).2))) hc (lyC_13_1 h1) (by decide) (zkC (lyC_13_1 h1)) rfl dX3_put_8 ?_
  refine z_icmp_lt (tgt := 14) hc dX3_put_9 (by decide) _ (fun h2 => ?_) (fun h2 => ?_)
  · refine z_aload_n hc dX3_put_14 0 rfl rfl ?_
    refine z_getR (x := (r0 + 1)) hc (ci := 3) (k := 0) (by decide) (by decide) zly3 h1 (zkC h1) wFX3_9 rfl dX3_put_15 (rfC_off (off := 1) h1 rfl (by decide)) (Nat.le_add_left_of_le (by decide)) ?_
    refine z_aload_n hc dX3_put_18 0 rfl rfl ?_
    refine z_getI hc (ci := 3) (k := 1) (by decide) (by decide) zly3 h1 (zkC h1) wFX3_15 rfl dX3_put_19 ?_
    refine z_lload_n hc dX3_put_22 1 rfl rfl ?_
    refine zJ.chk _ (fun h3 => ?_)
    refine z_last (k := (ix (gI u r0 1))) hc (lyC_13_1 h1) (zkC (lyC_13_1 h1)) h3 rfl dX3_put_23 ?_
    refine zJ.letM (fun u1 e1 => ?_)
    refine z_aload_n hc dX3_put_24 0 rfl rfl ?_
    refine z_dup hc dX3_put_25 rfl ?_
    refine z_getI hc (ci := 3) (k := 1) (by decide) (by decide) zly3 h1 (zkC h1) wFX3_15 rfl dX3_put_26 ?_
    refine z_iconst (v := 1) hc dX3_put_29 rfl ?_
    refine z_iadd hc dX3_put_30 ?_
    refine z_putI hc (ci := 3) (k := 1) (by decide) (by decide) zly3 h1 (zkC h1) wFX3_15 rfl rfl rfl rfl dX3_put_31 ?_
    refine zJ.letM (fun u2 e2 => ?_)
    refine z_aload_n hc dX3_put_34 0 rfl rfl ?_
    refine z_getI hc (ci := 3) (k := 1) (by decide) (by decide) zly3 h1 (zkC h1) wFX3_15 rfl dX3_put_35 ?_
    refine z_iconst (v := 1) hc dX3_put_38 rfl ?_
    refine z_isub hc dX3_put_39 ?_
    exact z_iret hc dX3_put_40
  · refine z_iconst (v := (-1)) hc dX3_put_12 rfl ?_
    exact z_iret hc dX3_put_13
set_option maxRecDepth 100000 in
set_option maxHeartbeats 4000000 in
theorem sCo_readPlace_58 {fin : Unit × zM} (hc : zCx p s mi args meth c (wC D b) m0 RX0 cX0_readPlace 6 none) (hRm : R.frames = 4 ∧ R.locals = 86 ∧ R.cells = zc (wC D b) m0 fin.2 ∧ R.slots = zs (wC D b) m0 fin.2) (r0 : Nat) (v4 : Int32) (s0 : Int32) (u : zM) : zJ eV p l e R s mi args below meth c (wC D b) m0 6 fin 58 [(0, .ref r0), (4, .int v4)] [.int s0] u (Co_readPlace_58 r0 v4 s0 u) := by
  unfold Co_readPlace_58
  refine zJ.chk _ (fun h1 => ?_)
  refine z_istore (L' := [(5, .int s0), (0, .ref r0), (4, .int v4)]) hc dX0_readPlace_58 (by decide) rfl rfl ?_
  refine z_iload hc dX0_readPlace_60 0 rfl ?_
  refine z_iconst (v := (-1)) hc dX0_readPlace_62 rfl ?_
  refine z_icmp_eq (tgt := 83) hc dX0_readPlace_63 (by decide) _ (fun h2 => ?_) (fun h2 => ?_)
  · exact z_vret hc dX0_readPlace_83
  · refine z_aload_n hc dX0_readPlace_66 1 rfl rfl ?_
    refine z_getR (x := (r0 + 9)) hc (ci := 0) (k := 4) (by decide) (by decide) zly0 h1 (zkC h1) wFX0_29 rfl dX0_readPlace_67 (rfC_off (off := 9) h1 rfl (by decide)) (Nat.le_add_left_of_le (by decide)) ?_
    refine z_iload hc dX0_readPlace_70 0 rfl ?_
    refine z_iload hc dX0_readPlace_72 2 rfl ?_
    refine zJ.chk _ (fun h3 => ?_)
    refine z_iast (k := (ix s0)) hc (lyC_10_9 h1) (zkC (lyC_10_9 h1)) h3 rfl dX0_readPlace_74 ?_
    refine zJ.letM (fun u1 e1 => ?_)
    refine z_aload_n hc dX0_readPlace_75 1 rfl rfl ?_
    refine z_getR (x := (r0 + 10)) hc (ci := 0) (k := 5) (by decide) (by decide) zly0 h1 (zkC h1) wFX0_33 rfl dX0_readPlace_76 (rfC_off (off := 10) h1 rfl (by decide)) (Nat.le_add_left_of_le (by decide)) ?_
    refine z_iload hc dX0_readPlace_79 0 rfl ?_
    refine z_iconst (v := 0) hc dX0_readPlace_81 rfl ?_
    refine zJ.chk _ (fun h4 => ?_)
    refine z_iast (k := (ix s0)) hc (lyC_10_10 h1) (zkC (lyC_10_10 h1)) h4 rfl dX0_readPlace_82 ?_
    refine zJ.letM (fun u2 e2 => ?_)
    exact z_vret hc dX0_readPlace_83
set_option maxRecDepth 100000 in
set_option maxHeartbeats 4000000 in
theorem sCo_readPlace : ∀ (r0 : Nat) (u : zM) r m1, Co_readPlace r0 u = some (r, m1) → zMet l (wC D b) 4 86 yX0_readPlace cX0_readPlace 6 none [.ref r0, .ref 2] u (eV r) m1 := by
  intro r0 u
  refine zMet.of (L := [(0, .ref r0), (1, .ref 2)]) RX0 (by decide +kernel) rfl (Nat.le_of_ble_eq_true rfl) (fun h => by cases h) rfl (fun p e s mi args below meth c R fin hc hin hRm => ?_)
  unfold Co_readPlace
  refine zJ.chk _ (fun h1 => ?_)
  refine z_aload_n hc dX0_readPlace_0 1 rfl rfl ?_
  refine z_aload_n hc dX0_readPlace_1 0 rfl rfl ?_
  refine z_getR (x := (r0 + 1)) hc (ci := 0) (k := 0) (by decide) (by decide) zly0 h1 (zkC h1) wFX0_14 rfl dX0_readPlace_2 (rfC_off (off := 1) h1 rfl (by decide)) (Nat.le_add_left_of_le (by decide)) ?_
  refine z_callV (av := []) (enc' := eI) hc rfl (sNa_isFull (r0 + 1) _) (ci := 3) (by decide) (lyC_10_1 h1) (zkC (lyC_10_1 h1)) rfl wMX0_153 hpyX3_isFull hmyX3_isFull (rm_ok hRm (Nat.le_of_ble_eq_true rfl) (Nat.le_of_ble_eq_true rfl)) (Nat.le_of_ble_eq_true rfl) hRm.2.2 dX0_readPlace_5 (fun c1 u1 f1 => ?_)
  refine z_callS (av := [.ref 2, .int c1]) (enc' := eV) hc rfl (sCo_passFirst c1 _) wMX0_156 hpyX0_passFirst hmyX0_passFirst (rm_ok hRm (Nat.le_of_ble_eq_true rfl) (Nat.le_of_ble_eq_true rfl)) (Nat.le_of_ble_eq_true rfl) hRm.2.2 dX0_readPlace_8 (fun c2 u2 f2 => ?_)
  refine z_aload_n hc dX0_readPlace_11 0 rfl rfl ?_
  refine z_aload_n hc dX0_readPlace_12 1 rfl rfl ?_
  refine z_callV (av := [.ref 2]) (enc' := eL) hc rfl (sCo_passNewName r0 _) (ci := 0) (by decide) h1 (zkC h1) rfl wMX0_160 hpyX0_passNewName hmyX0_passNewName (rm_ok hRm (Nat.le_of_ble_eq_true rfl) (Nat.le_of_ble_eq_true rfl)) (Nat.le_of_ble_eq_true rfl) hRm.2.2 dX0_readPlace_13 (fun c3 u3 f3 => ?_)
  refine z_lstore_n (L' := [(2, .long c3), (0, .ref r0), (1, .ref 2)]) hc dX0_readPlace_16 rfl (by decide) rfl rfl ?_
  refine z_aload_n hc dX0_readPlace_17 2 rfl rfl ?_
  refine z_ldc2 (v := 512736126322) hc wKX0_164 dX0_readPlace_18 ?_
  refine z_callV (av := [.long 512736126322]) (enc' := eV) hc rfl (sTa_passWord 512736126322 _) (ci := 8) (by decide) lC2 (zkC lC2) rfl wMX0_166 hpyX8_passWord hmyX8_passWord (rm_ok hRm (Nat.le_of_ble_eq_true rfl) (Nat.le_of_ble_eq_true rfl)) (Nat.le_of_ble_eq_true rfl) hRm.2.2 dX0_readPlace_21 (fun c4 u4 f4 => ?_)
  refine z_aload_n hc dX0_readPlace_24 2 rfl rfl ?_
  refine z_iconst (v := 0) hc dX0_readPlace_25 rfl ?_
  refine z_bipush (v := 9) hc dX0_readPlace_26 rfl ?_
  refine z_callV (av := [.int 0, .int 9]) (enc' := eI) hc rfl (sTa_passNumber 0 9 _) (ci := 8) (by decide) lC2 (zkC lC2) rfl wMX0_170 hpyX8_passNumber hmyX8_passNumber (rm_ok hRm (Nat.le_of_ble_eq_true rfl) (Nat.le_of_ble_eq_true rfl)) (Nat.le_of_ble_eq_true rfl) hRm.2.2 dX0_readPlace_28 (fun c5 u5 f5 => ?_)
  refine z_istore (L' := [(4, .int c5), (2, .long c3), (0, .ref r0), (1, .ref 2)]) hc dX0_readPlace_31 (by decide) rfl rfl ?_
  refine z_aload_n hc dX0_readPlace_33 3 rfl rfl ?_
  refine z_bipush (v := 59) hc dX0_readPlace_34 rfl ?_
  refine z_callV (av := [.int 59]) (enc' := eV) hc rfl (sTa_passSign 59 _) (ci := 8) (by decide) lC2 (zkC lC2) rfl wMX0_174 hpyX8_passSign hmyX8_passSign (rm_ok hRm (Nat.le_of_ble_eq_true rfl) (Nat.le_of_ble_eq_true rfl)) (Nat.le_of_ble_eq_true rfl) hRm.2.2 dX0_readPlace_36 (fun c6 u6 f6 => ?_)
  refine z_aload_n hc dX0_readPlace_39 3 rfl rfl ?_
  refine z_callV (av := []) (enc' := eI) hc rfl (sTa_isFine _) (ci := 8) (by decide) lC2 (zkC lC2) rfl wMX0_72 hpyX8_isFine hmyX8_isFine (rm_ok hRm (Nat.le_of_ble_eq_true rfl) (Nat.le_of_ble_eq_true rfl)) (Nat.le_of_ble_eq_true rfl) hRm.2.2 dX0_readPlace_40 (fun c7 u7 f7 => ?_)
  refine z_if_eq (tgt := 57) hc dX0_readPlace_43 (by decide) _ (fun h2 => ?_) (fun h2 => ?_)
  · refine z_iconst (v := (-1)) hc dX0_readPlace_57 rfl ?_
    refine zJ.sub (L' := [(0, .ref r0), (4, .int c5)]) [2, 0] rfl ?_
    exact sCo_readPlace_58 hc hRm r0 c5 (-1) _
  · refine z_aload_n hc dX0_readPlace_46 2 rfl rfl ?_
    refine z_getR (x := (r0 + 1)) hc (ci := 0) (k := 0) (by decide) (by decide) zly0 h1 (zkC h1) wFX0_14 rfl dX0_readPlace_47 (rfC_off (off := 1) h1 rfl (by decide)) (Nat.le_add_left_of_le (by decide)) ?_
    refine z_lload_n hc dX0_readPlace_50 1 rfl rfl ?_
    refine z_callV (av := [.long c3]) (enc' := eI) hc rfl (sNa_put (r0 + 1) c3 _) (ci := 3) (by decide) (lyC_10_1 h1) (zkC (lyC_10_1 h1)) rfl wMX0_178 hpyX3_put hmyX3_put (rm_ok hRm (Nat.le_of_ble_eq_true rfl) (Nat.le_of_ble_eq_true rfl)) (Nat.le_of_ble_eq_true rfl) hRm.2.2 dX0_readPlace_51 (fun c8 u8 f8 => ?_)
    refine z_goto (tgt := 58) hc dX0_readPlace_54 (by decide) ?_
    refine zJ.sub (L' := [(0, .ref r0), (4, .int c5)]) [2, 0] rfl ?_
    exact sCo_readPlace_58 hc hRm r0 c5 c8 _
set_option maxRecDepth 100000 in
set_option maxHeartbeats 4000000 in
theorem sTa_passTold : ∀ (r1 : Nat) (u : zM) r m1, Ta_passTold r1 u = some (r, m1) → zMet l (wC D b) 3 63 yX8_passTold cX8_passTold 3 (some .int) [.ref 2, .ref r1] u (eI r) m1 := by
  intro r1 u
  refine zMet.of (L := [(0, .ref 2), (1, .ref r1)]) RX8 (by decide +kernel) rfl (Nat.le_of_ble_eq_true rfl) (fun h => by cases h) rfl (fun p e s mi args below meth c R fin hc hin hRm => ?_)
  unfold Ta_passTold
  refine zJ.chk _ (fun h1 => ?_)
  refine z_aload_n hc dX8_passTold_0 0 rfl rfl ?_
  refine z_callV (av := []) (enc' := eI) hc rfl (sTa_atName _) (ci := 8) (by decide) lC2 (zkC lC2) rfl wMX8_83 hpyX8_atName hmyX8_atName (rm_ok hRm (Nat.le_of_ble_eq_true rfl) (Nat.le_of_ble_eq_true rfl)) (Nat.le_of_ble_eq_true rfl) hRm.2.2 dX8_passTold_1 (fun c1 u1 f1 => ?_)
  refine z_if_ne (tgt := 9) hc dX8_passTold_4 (by decide) _ (fun h2 => ?_) (fun h2 => ?_)
  · refine z_aload_n hc dX8_passTold_9 1 rfl rfl ?_
    refine z_aload_n hc dX8_passTold_10 0 rfl rfl ?_
    refine z_getL hc (ci := 8) (k := 5) (by decide) (by decide) zly8 lC2 (zkC lC2) wFX8_41 rfl dX8_passTold_11 ?_
    refine z_callV (av := [.long (gL u1 2 5)]) (enc' := eI) hc rfl (sNa_find r1 (gL u1 2 5) _) (ci := 3) (by decide) h1 (zkC h1) rfl wMX8_86 hpyX3_find hmyX3_find (rm_ok hRm (Nat.le_of_ble_eq_true rfl) (Nat.le_of_ble_eq_true rfl)) (Nat.le_of_ble_eq_true rfl) hRm.2.2 dX8_passTold_14 (fun c2 u2 f2 => ?_)
    refine z_istore_n (L' := [(2, .int c2), (0, .ref 2), (1, .ref r1)]) hc dX8_passTold_17 rfl (by decide) rfl rfl ?_
    refine z_iload_n hc dX8_passTold_18 0 rfl rfl ?_
    refine z_iconst (v := (-1)) hc dX8_passTold_19 rfl ?_
    refine z_icmp_ne (tgt := 30) hc dX8_passTold_20 (by decide) _ (fun h3 => ?_) (fun h3 => ?_)
    · refine z_aload_n hc dX8_passTold_30 1 rfl rfl ?_
      refine z_callV (av := []) (enc' := eV) hc rfl (sTa_step _) (ci := 8) (by decide) lC2 (zkC lC2) rfl wMX8_31 hpyX8_step hmyX8_step (rm_ok hRm (Nat.le_of_ble_eq_true rfl) (Nat.le_of_ble_eq_true rfl)) (Nat.le_of_ble_eq_true rfl) hRm.2.2 dX8_passTold_31 (fun c3 u3 f3 => ?_)
      refine z_iload_n hc dX8_passTold_34 0 rfl rfl ?_
      exact z_iret hc dX8_passTold_35
    · refine z_aload_n hc dX8_passTold_23 1 rfl rfl ?_
      refine z_iconst (v := 2) hc dX8_passTold_24 rfl ?_
      refine z_callV (av := [.int 2]) (enc' := eV) hc rfl (sTa_fail 2 _) (ci := 8) (by decide) lC2 (zkC lC2) rfl wMX8_64 hpyX8_fail hmyX8_fail (rm_ok hRm (Nat.le_of_ble_eq_true rfl) (Nat.le_of_ble_eq_true rfl)) (Nat.le_of_ble_eq_true rfl) hRm.2.2 dX8_passTold_25 (fun c4 u4 f4 => ?_)
      refine z_iconst (v := (-1)) hc dX8_passTold_28 rfl ?_
      exact z_iret hc dX8_passTold_29
  · refine z_iconst (v := (-1)) hc dX8_passTold_7 rfl ?_
    exact z_iret hc dX8_passTold_8
set_option maxRecDepth 100000 in
set_option maxHeartbeats 4000000 in
theorem sCo_isLinked : ∀ (r0 : Nat) (v1 : Int32) (v2 : Int32) (u : zM) r m1, Co_isLinked r0 v1 v2 u = some (r, m1) → zMet l (wC D b) 0 0 yX0_isLinked cX0_isLinked 3 (some .boolean) [.ref r0, .int v1, .int v2] u (eI r) m1 := by
  intro r0 v1 v2 u
  refine zMet.of (L := [(0, .ref r0), (1, .int v1), (2, .int v2)]) RX0 (by decide +kernel) rfl (Nat.le_of_ble_eq_true rfl) (fun h => by cases h) rfl (fun p e s mi args below meth c R fin hc hin hRm => ?_)
  unfold Co_isLinked
  refine zJ.chk _ (fun h1 => ?_)
  refine z_aload_n hc dX0_isLinked_0 0 rfl rfl ?_
  refine z_getR (x := (r0 + 10)) hc (ci := 0) (k := 5) (by decide) (by decide) zly0 h1 (zkC h1) wFX0_33 rfl dX0_isLinked_1 (rfC_off (off := 10) h1 rfl (by decide)) (Nat.le_add_left_of_le (by decide)) ?_
  refine z_iload_n hc dX0_isLinked_4 1 rfl rfl ?_
  refine zJ.chk _ (fun h2 => ?_)
  refine z_iald (k := (ix v1)) hc (lyC_10_10 h1) (zkC (lyC_10_10 h1)) h2 rfl dX0_isLinked_5 ?_
  refine z_iload_n hc dX0_isLinked_6 2 rfl rfl ?_
  refine z_ishr hc dX0_isLinked_7 ?_
  refine z_iconst (v := 1) hc dX0_isLinked_8 rfl ?_
  refine z_iand hc dX0_isLinked_9 ?_
  refine z_if_eq (tgt := 17) hc dX0_isLinked_10 (by decide) _ (fun h3 => ?_) (fun h3 => ?_)
  · refine z_iconst (v := 0) hc dX0_isLinked_17 rfl ?_
    exact z_zret hc rfl dX0_isLinked_18
  · refine z_iconst (v := 1) hc dX0_isLinked_13 rfl ?_
    refine z_goto (tgt := 18) hc dX0_isLinked_14 (by decide) ?_
    exact z_zret hc rfl dX0_isLinked_18
set_option maxRecDepth 100000 in
set_option maxHeartbeats 4000000 in
theorem sCo_flipLink : ∀ (r0 : Nat) (v1 : Int32) (v2 : Int32) (u : zM) r m1, Co_flipLink r0 v1 v2 u = some (r, m1) → zMet l (wC D b) 0 0 yX0_flipLink cX0_flipLink 3 none [.ref r0, .int v1, .int v2] u (eV r) m1 := by
  intro r0 v1 v2 u
  refine zMet.of (L := [(0, .ref r0), (1, .int v1), (2, .int v2)]) RX0 (by decide +kernel) rfl (Nat.le_of_ble_eq_true rfl) (fun h => by cases h) rfl (fun p e s mi args below meth c R fin hc hin hRm => ?_)
  unfold Co_flipLink
  refine zJ.chk _ (fun h1 => ?_)
  refine z_aload_n hc dX0_flipLink_0 0 rfl rfl ?_
  refine z_getR (x := (r0 + 10)) hc (ci := 0) (k := 5) (by decide) (by decide) zly0 h1 (zkC h1) wFX0_33 rfl dX0_flipLink_1 (rfC_off (off := 10) h1 rfl (by decide)) (Nat.le_add_left_of_le (by decide)) ?_
  refine z_iload_n hc dX0_flipLink_4 1 rfl rfl ?_
  refine z_dup2 hc dX0_flipLink_5 rfl rfl ?_
  refine zJ.chk _ (fun h2 => ?_)
  refine z_iald (k := (ix v1)) hc (lyC_10_10 h1) (zkC (lyC_10_10 h1)) h2 rfl dX0_flipLink_6 ?_
  refine z_iconst (v := 1) hc dX0_flipLink_7 rfl ?_
  refine z_iload_n hc dX0_flipLink_8 2 rfl rfl ?_
  refine z_ishl hc dX0_flipLink_9 ?_
  refine z_ixor hc dX0_flipLink_10 ?_
  refine zJ.chk _ (fun h3 => ?_)
  refine z_iast (k := (ix v1)) hc (lyC_10_10 h1) (zkC (lyC_10_10 h1)) h3 rfl dX0_flipLink_11 ?_
  refine zJ.letM (fun u1 e1 => ?_)
  refine z_aload_n hc dX0_flipLink_12 0 rfl rfl ?_
  refine z_getR (x := (r0 + 10)) hc (ci := 0) (k := 5) (by decide) (by decide) zly0 h1 (zkC h1) wFX0_33 rfl dX0_flipLink_13 (rfC_off (off := 10) h1 rfl (by decide)) (Nat.le_add_left_of_le (by decide)) ?_
  refine z_iload_n hc dX0_flipLink_16 2 rfl rfl ?_
  refine z_dup2 hc dX0_flipLink_17 rfl rfl ?_
  refine zJ.chk _ (fun h4 => ?_)
  refine z_iald (k := (ix v2)) hc (lyC_10_10 h1) (zkC (lyC_10_10 h1)) h4 rfl dX0_flipLink_18 ?_
  refine z_iconst (v := 1) hc dX0_flipLink_19 rfl ?_
  refine z_iload_n hc dX0_flipLink_20 1 rfl rfl ?_
  refine z_ishl hc dX0_flipLink_21 ?_
  refine z_ixor hc dX0_flipLink_22 ?_
  refine zJ.chk _ (fun h5 => ?_)
  refine z_iast (k := (ix v2)) hc (lyC_10_10 h1) (zkC (lyC_10_10 h1)) h5 rfl dX0_flipLink_23 ?_
  refine zJ.letM (fun u2 e2 => ?_)
  exact z_vret hc dX0_flipLink_24
set_option maxRecDepth 100000 in
set_option maxHeartbeats 4000000 in
theorem sCo_readStream_71 {fin : Unit × zM} (hc : zCx p s mi args meth c (wC D b) m0 RX0 cX0_readStream 5 none) (hRm : R.frames = 4 ∧ R.locals = 85 ∧ R.cells = zc (wC D b) m0 fin.2 ∧ R.slots = zs (wC D b) m0 fin.2) (r0 : Nat) (v2 : Int32) (v4 : Int32) (u : zM) : zJ eV p l e R s mi args below meth c (wC D b) m0 5 fin 71 [(0, .ref r0), (1, .ref 2), (2, .int v2), (4, .int v4)] [] u (Co_readStream_71 r0 v2 v4 u) := by
  unfold Co_readStream_71
  refine zJ.chk _ (fun h1 => ?_)
  refine z_aload_n hc dX0_readStream_71 1 rfl rfl ?_
  refine z_bipush (v := 59) hc dX0_readStream_72 rfl ?_
  refine z_callV (av := [.int 59]) (enc' := eV) hc rfl (sTa_passSign 59 _) (ci := 8) (by decide) lC2 (zkC lC2) rfl wMX0_174 hpyX8_passSign hmyX8_passSign (rm_ok hRm (Nat.le_of_ble_eq_true rfl) (Nat.le_of_ble_eq_true rfl)) (Nat.le_of_ble_eq_true rfl) hRm.2.2 dX0_readStream_74 (fun c1 u1 f1 => ?_)
  refine z_aload_n hc dX0_readStream_77 1 rfl rfl ?_
  refine z_callV (av := []) (enc' := eI) hc rfl (sTa_isFine _) (ci := 8) (by decide) lC2 (zkC lC2) rfl wMX0_72 hpyX8_isFine hmyX8_isFine (rm_ok hRm (Nat.le_of_ble_eq_true rfl) (Nat.le_of_ble_eq_true rfl)) (Nat.le_of_ble_eq_true rfl) hRm.2.2 dX0_readStream_78 (fun c2 u2 f2 => ?_)
  refine z_if_eq (tgt := 101) hc dX0_readStream_81 (by decide) _ (fun h2 => ?_) (fun h2 => ?_)
  · exact z_vret hc dX0_readStream_101
  · refine z_aload_n hc dX0_readStream_84 0 rfl rfl ?_
    refine z_iload_n hc dX0_readStream_85 2 rfl rfl ?_
    refine z_iload hc dX0_readStream_86 3 rfl ?_
    refine z_callV (av := [.int v2, .int v4]) (enc' := eV) hc rfl (sCo_flipLink r0 v2 v4 _) (ci := 0) (by decide) h1 (zkC h1) rfl wMX0_196 hpyX0_flipLink hmyX0_flipLink (rm_ok hRm (Nat.le_of_ble_eq_true rfl) (Nat.le_of_ble_eq_true rfl)) (Nat.le_of_ble_eq_true rfl) hRm.2.2 dX0_readStream_88 (fun c3 u3 f3 => ?_)
    refine z_aload_n hc dX0_readStream_91 0 rfl rfl ?_
    refine z_dup hc dX0_readStream_92 rfl ?_
    refine z_getI hc (ci := 0) (k := 15) (by decide) (by decide) zly0 h1 (zkC h1) wFX0_90 rfl dX0_readStream_93 ?_
    refine z_iconst (v := 1) hc dX0_readStream_96 rfl ?_
    refine z_iadd hc dX0_readStream_97 ?_
    refine z_putI hc (ci := 0) (k := 15) (by decide) (by decide) zly0 h1 (zkC h1) wFX0_90 rfl rfl rfl rfl dX0_readStream_98 ?_
    refine zJ.letM (fun u4 e1 => ?_)
    exact z_vret hc dX0_readStream_101
set_option maxRecDepth 100000 in
set_option maxHeartbeats 4000000 in
theorem sCo_readStream_65 {fin : Unit × zM} (hc : zCx p s mi args meth c (wC D b) m0 RX0 cX0_readStream 5 none) (hRm : R.frames = 4 ∧ R.locals = 85 ∧ R.cells = zc (wC D b) m0 fin.2 ∧ R.slots = zs (wC D b) m0 fin.2) (r0 : Nat) (v2 : Int32) (v3 : Int32) (v4 : Int32) (u : zM) : zJ eV p l e R s mi args below meth c (wC D b) m0 5 fin 65 [(0, .ref r0), (1, .ref 2), (2, .int v2), (3, .int v3), (4, .int v4)] [] u (Co_readStream_65 r0 v2 v3 v4 u) := by
  unfold Co_readStream_65
  refine zJ.chk _ (fun h1 => ?_)
  refine z_aload_n hc dX0_readStream_65 1 rfl rfl ?_
  refine z_iconst (v := 3) hc dX0_readStream_66 rfl ?_
  refine z_iload_n hc dX0_readStream_67 3 rfl rfl ?_
  refine z_callV (av := [.int 3, .int v3]) (enc' := eV) hc rfl (sTa_failAt 3 v3 _) (ci := 8) (by decide) lC2 (zkC lC2) rfl wMX0_192 hpyX8_failAt hmyX8_failAt (rm_ok hRm (Nat.le_of_ble_eq_true rfl) (Nat.le_of_ble_eq_true rfl)) (Nat.le_of_ble_eq_true rfl) hRm.2.2 dX0_readStream_68 (fun c1 u1 f1 => ?_)
  refine zJ.sub (L' := [(0, .ref r0), (1, .ref 2), (2, .int v2), (4, .int v4)]) [0, 1, 2, 4] rfl ?_
  exact sCo_readStream_71 hc hRm r0 v2 v4 _
set_option maxRecDepth 100000 in
set_option maxHeartbeats 4000000 in
theorem sCo_readStream_15 {fin : Unit × zM} (hc : zCx p s mi args meth c (wC D b) m0 RX0 cX0_readStream 5 none) (hRm : R.frames = 4 ∧ R.locals = 85 ∧ R.cells = zc (wC D b) m0 fin.2 ∧ R.slots = zs (wC D b) m0 fin.2) (r0 : Nat) (s1 : Int32) (u : zM) : zJ eV p l e R s mi args below meth c (wC D b) m0 5 fin 15 [(0, .ref r0), (1, .ref 2)] [.int s1, .ref 2] u (Co_readStream_15 r0 s1 u) := by
  unfold Co_readStream_15
  refine zJ.chk _ (fun h1 => ?_)
  refine z_callS (av := [.ref 2, .int s1]) (enc' := eV) hc rfl (sCo_passFirst s1 _) wMX0_156 hpyX0_passFirst hmyX0_passFirst (rm_ok hRm (Nat.le_of_ble_eq_true rfl) (Nat.le_of_ble_eq_true rfl)) (Nat.le_of_ble_eq_true rfl) hRm.2.2 dX0_readStream_15 (fun c1 u1 f1 => ?_)
  refine z_aload_n hc dX0_readStream_18 1 rfl rfl ?_
  refine z_aload_n hc dX0_readStream_19 0 rfl rfl ?_
  refine z_getR (x := (r0 + 1)) hc (ci := 0) (k := 0) (by decide) (by decide) zly0 h1 (zkC h1) wFX0_14 rfl dX0_readStream_20 (rfC_off (off := 1) h1 rfl (by decide)) (Nat.le_add_left_of_le (by decide)) ?_
  refine z_callV (av := [.ref (r0 + 1)]) (enc' := eI) hc rfl (sTa_passTold (r0 + 1) _) (ci := 8) (by decide) lC2 (zkC lC2) rfl wMX0_181 hpyX8_passTold hmyX8_passTold (rm_ok hRm (Nat.le_of_ble_eq_true rfl) (Nat.le_of_ble_eq_true rfl)) (Nat.le_of_ble_eq_true rfl) hRm.2.2 dX0_readStream_23 (fun c2 u2 f2 => ?_)
  refine z_istore_n (L' := [(2, .int c2), (0, .ref r0), (1, .ref 2)]) hc dX0_readStream_26 rfl (by decide) rfl rfl ?_
  refine z_aload_n hc dX0_readStream_27 2 rfl rfl ?_
  refine z_getI hc (ci := 8) (k := 3) (by decide) (by decide) zly8 lC2 (zkC lC2) wFX0_185 rfl dX0_readStream_28 ?_
  refine zJ.letI (fun x1 e1 => ?_)
  refine z_istore_n (L' := [(3, .int x1), (2, .int c2), (0, .ref r0), (1, .ref 2)]) hc dX0_readStream_31 rfl (by decide) rfl rfl ?_
  refine z_aload_n hc dX0_readStream_32 3 rfl rfl ?_
  refine z_aload_n hc dX0_readStream_33 2 rfl rfl ?_
  refine z_getR (x := (r0 + 1)) hc (ci := 0) (k := 0) (by decide) (by decide) zly0 h1 (zkC h1) wFX0_14 rfl dX0_readStream_34 (rfC_off (off := 1) h1 rfl (by decide)) (Nat.le_add_left_of_le (by decide)) ?_
  refine z_callV (av := [.ref (r0 + 1)]) (enc' := eI) hc rfl (sTa_passTold (r0 + 1) _) (ci := 8) (by decide) lC2 (zkC lC2) rfl wMX0_181 hpyX8_passTold hmyX8_passTold (rm_ok hRm (Nat.le_of_ble_eq_true rfl) (Nat.le_of_ble_eq_true rfl)) (Nat.le_of_ble_eq_true rfl) hRm.2.2 dX0_readStream_37 (fun c3 u3 f3 => ?_)
  refine z_istore (L' := [(4, .int c3), (3, .int x1), (2, .int c2), (0, .ref r0), (1, .ref 2)]) hc dX0_readStream_40 (by decide) rfl rfl ?_
  refine z_aload_n hc dX0_readStream_42 4 rfl rfl ?_
  refine z_callV (av := []) (enc' := eI) hc rfl (sTa_isFine _) (ci := 8) (by decide) lC2 (zkC lC2) rfl wMX0_72 hpyX8_isFine hmyX8_isFine (rm_ok hRm (Nat.le_of_ble_eq_true rfl) (Nat.le_of_ble_eq_true rfl)) (Nat.le_of_ble_eq_true rfl) hRm.2.2 dX0_readStream_43 (fun c4 u4 f4 => ?_)
  refine z_if_eq (tgt := 71) hc dX0_readStream_46 (by decide) _ (fun h2 => ?_) (fun h2 => ?_)
  · refine zJ.sub (L' := [(0, .ref r0), (1, .ref 2), (2, .int c2), (4, .int c3)]) [3, 4, 2, 0] rfl ?_
    exact sCo_readStream_71 hc hRm r0 c2 c3 _
  · refine z_iload_n hc dX0_readStream_49 2 rfl rfl ?_
    refine z_iload hc dX0_readStream_50 0 rfl ?_
    refine z_icmp_eq (tgt := 65) hc dX0_readStream_52 (by decide) _ (fun h3 => ?_) (fun h3 => ?_)
    · refine zJ.sub (L' := [(0, .ref r0), (1, .ref 2), (2, .int c2), (3, .int x1), (4, .int c3)]) [3, 4, 2, 1, 0] rfl ?_
      exact sCo_readStream_65 hc hRm r0 c2 x1 c3 _
    · refine z_aload_n hc dX0_readStream_55 3 rfl rfl ?_
      refine z_iload_n hc dX0_readStream_56 2 rfl rfl ?_
      refine z_iload hc dX0_readStream_57 0 rfl ?_
      refine z_callV (av := [.int c2, .int c3]) (enc' := eI) hc rfl (sCo_isLinked r0 c2 c3 _) (ci := 0) (by decide) h1 (zkC h1) rfl wMX0_188 hpyX0_isLinked hmyX0_isLinked (rm_ok hRm (Nat.le_of_ble_eq_true rfl) (Nat.le_of_ble_eq_true rfl)) (Nat.le_of_ble_eq_true rfl) hRm.2.2 dX0_readStream_59 (fun c5 u5 f5 => ?_)
      refine z_if_eq (tgt := 71) hc dX0_readStream_62 (by decide) _ (fun h4 => ?_) (fun h4 => ?_)
      · refine zJ.sub (L' := [(0, .ref r0), (1, .ref 2), (2, .int c2), (4, .int c3)]) [3, 4, 2, 0] rfl ?_
        exact sCo_readStream_71 hc hRm r0 c2 c3 _
      · refine zJ.sub (L' := [(0, .ref r0), (1, .ref 2), (2, .int c2), (3, .int x1), (4, .int c3)]) [3, 4, 2, 1, 0] rfl ?_
        exact sCo_readStream_65 hc hRm r0 c2 x1 c3 _
set_option maxRecDepth 100000 in
set_option maxHeartbeats 4000000 in
theorem sCo_readStream : ∀ (r0 : Nat) (u : zM) r m1, Co_readStream r0 u = some (r, m1) → zMet l (wC D b) 4 85 yX0_readStream cX0_readStream 5 none [.ref r0, .ref 2] u (eV r) m1 := by
  intro r0 u
  refine zMet.of (L := [(0, .ref r0), (1, .ref 2)]) RX0 (by decide +kernel) rfl (Nat.le_of_ble_eq_true rfl) (fun h => by cases h) rfl (fun p e s mi args below meth c R fin hc hin hRm => ?_)
  unfold Co_readStream
  refine zJ.chk _ (fun h1 => ?_)
  refine z_aload_n hc dX0_readStream_0 1 rfl rfl ?_
  refine z_aload_n hc dX0_readStream_1 0 rfl rfl ?_
  refine z_getI hc (ci := 0) (k := 15) (by decide) (by decide) zly0 h1 (zkC h1) wFX0_90 rfl dX0_readStream_2 ?_
  refine z_bipush (v := 10) hc dX0_readStream_5 rfl ?_
  refine z_icmp_lt (tgt := 14) hc dX0_readStream_7 (by decide) _ (fun h2 => ?_) (fun h2 => ?_)
  · refine z_iconst (v := 0) hc dX0_readStream_14 rfl ?_
    exact sCo_readStream_15 hc hRm r0 0 _
  · refine z_iconst (v := 1) hc dX0_readStream_10 rfl ?_
    refine z_goto (tgt := 15) hc dX0_readStream_11 (by decide) ?_
    exact sCo_readStream_15 hc hRm r0 1 _
set_option maxRecDepth 100000 in
set_option maxHeartbeats 4000000 in
theorem sCo_passKind_59 {fin : Int32 × zM} (hc : zCx p s mi args meth c (wC D b) m0 RX0 cX0_passKind 2 (some .int)) (hRm : R.frames = 2 ∧ R.locals = 43 ∧ R.cells = zc (wC D b) m0 fin.2 ∧ R.slots = zs (wC D b) m0 fin.2) (v1 : Int32) (u : zM) : zJ eI p l e R s mi args below meth c (wC D b) m0 2 fin 59 [(0, .ref 2), (1, .int v1)] [] u (Co_passKind_59 v1 u) := by
  unfold Co_passKind_59
  refine z_iload_n hc dX0_passKind_59 1 rfl rfl ?_
  refine z_iconst (v := (-1)) hc dX0_passKind_60 rfl ?_
  refine z_icmp_ne (tgt := 72) hc dX0_passKind_61 (by decide) _ (fun h1 => ?_) (fun h1 => ?_)
  · refine z_aload_n hc dX0_passKind_72 0 rfl rfl ?_
    refine z_callV (av := []) (enc' := eV) hc rfl (sTa_step _) (ci := 8) (by decide) lC2 (zkC lC2) rfl wMX0_136 hpyX8_step hmyX8_step (rm_ok hRm (Nat.le_of_ble_eq_true rfl) (Nat.le_of_ble_eq_true rfl)) (Nat.le_of_ble_eq_true rfl) hRm.2.2 dX0_passKind_73 (fun c1 u1 f1 => ?_)
    refine z_iload_n hc dX0_passKind_76 1 rfl rfl ?_
    exact z_iret hc dX0_passKind_77
  · refine z_aload_n hc dX0_passKind_64 0 rfl rfl ?_
    refine z_iconst (v := 1) hc dX0_passKind_65 rfl ?_
    refine z_callV (av := [.int 1]) (enc' := eV) hc rfl (sTa_fail 1 _) (ci := 8) (by decide) lC2 (zkC lC2) rfl wMX0_133 hpyX8_fail hmyX8_fail (rm_ok hRm (Nat.le_of_ble_eq_true rfl) (Nat.le_of_ble_eq_true rfl)) (Nat.le_of_ble_eq_true rfl) hRm.2.2 dX0_passKind_66 (fun c2 u2 f2 => ?_)
    refine z_goto (tgt := 76) hc dX0_passKind_69 (by decide) ?_
    refine z_iload_n hc dX0_passKind_76 1 rfl rfl ?_
    exact z_iret hc dX0_passKind_77
set_option maxRecDepth 100000 in
set_option maxHeartbeats 4000000 in
theorem sCo_passKind : ∀ (u : zM) r m1, Co_passKind u = some (r, m1) → zMet l (wC D b) 2 43 yX0_passKind cX0_passKind 2 (some .int) [.ref 2] u (eI r) m1 := by
  intro u
  refine zMet.of (L := [(0, .ref 2)]) RX0 (by decide +kernel) rfl (Nat.le_of_ble_eq_true rfl) (fun h => by cases h) rfl (fun p e s mi args below meth c R fin hc hin hRm => ?_)
  unfold Co_passKind
  refine z_iconst (v := (-1)) hc dX0_passKind_0 rfl ?_
  refine z_istore_n (L' := [(1, .int (-1)), (0, .ref 2)]) hc dX0_passKind_1 rfl (by decide) rfl rfl ?_
  refine z_aload_n hc dX0_passKind_2 1 rfl rfl ?_
  refine z_ldc2 (v := 482854660462) hc wKX0_205 dX0_passKind_3 ?_
  refine z_callV (av := [.long 482854660462]) (enc' := eI) hc rfl (sTa_atWord 482854660462 _) (ci := 8) (by decide) lC2 (zkC lC2) rfl wMX0_96 hpyX8_atWord hmyX8_atWord (rm_ok hRm (Nat.le_of_ble_eq_true rfl) (Nat.le_of_ble_eq_true rfl)) (Nat.le_of_ble_eq_true rfl) hRm.2.2 dX0_passKind_6 (fun c1 u1 f1 => ?_)
  refine z_if_eq (tgt := 17) hc dX0_passKind_9 (by decide) _ (fun h1 => ?_) (fun h1 => ?_)
  · refine z_aload_n hc dX0_passKind_17 1 rfl rfl ?_
    refine z_ldc2 (v := 2002875001) hc wKX0_207 dX0_passKind_18 ?_
    refine z_callV (av := [.long 2002875001]) (enc' := eI) hc rfl (sTa_atWord 2002875001 _) (ci := 8) (by decide) lC2 (zkC lC2) rfl wMX0_96 hpyX8_atWord hmyX8_atWord (rm_ok hRm (Nat.le_of_ble_eq_true rfl) (Nat.le_of_ble_eq_true rfl)) (Nat.le_of_ble_eq_true rfl) hRm.2.2 dX0_passKind_21 (fun c2 u2 f2 => ?_)
    refine z_if_eq (tgt := 32) hc dX0_passKind_24 (by decide) _ (fun h2 => ?_) (fun h2 => ?_)
    · refine z_aload_n hc dX0_passKind_32 1 rfl rfl ?_
      refine z_ldc2 (v := 108170704348530) hc wKX0_209 dX0_passKind_33 ?_
      refine z_callV (av := [.long 108170704348530]) (enc' := eI) hc rfl (sTa_atWord 108170704348530 _) (ci := 8) (by decide) lC2 (zkC lC2) rfl wMX0_96 hpyX8_atWord hmyX8_atWord (rm_ok hRm (Nat.le_of_ble_eq_true rfl) (Nat.le_of_ble_eq_true rfl)) (Nat.le_of_ble_eq_true rfl) hRm.2.2 dX0_passKind_36 (fun c3 u3 f3 => ?_)
      refine z_if_eq (tgt := 47) hc dX0_passKind_39 (by decide) _ (fun h3 => ?_) (fun h3 => ?_)
      · refine z_aload_n hc dX0_passKind_47 1 rfl rfl ?_
        refine z_ldc2 (v := 1684371321) hc wKX0_211 dX0_passKind_48 ?_
        refine z_callV (av := [.long 1684371321]) (enc' := eI) hc rfl (sTa_atWord 1684371321 _) (ci := 8) (by decide) lC2 (zkC lC2) rfl wMX0_96 hpyX8_atWord hmyX8_atWord (rm_ok hRm (Nat.le_of_ble_eq_true rfl) (Nat.le_of_ble_eq_true rfl)) (Nat.le_of_ble_eq_true rfl) hRm.2.2 dX0_passKind_51 (fun c4 u4 f4 => ?_)
        refine z_if_eq (tgt := 59) hc dX0_passKind_54 (by decide) _ (fun h4 => ?_) (fun h4 => ?_)
        · refine zJ.sub (L' := [(0, .ref 2), (1, .int (-1))]) [1, 0] rfl ?_
          exact sCo_passKind_59 hc hRm (-1) _
        · refine z_iconst (v := 3) hc dX0_passKind_57 rfl ?_
          refine z_istore_n (L' := [(1, .int 3), (0, .ref 2)]) hc dX0_passKind_58 rfl (by decide) rfl rfl ?_
          refine zJ.sub (L' := [(0, .ref 2), (1, .int 3)]) [1, 0] rfl ?_
          exact sCo_passKind_59 hc hRm 3 _
      · refine z_iconst (v := 2) hc dX0_passKind_42 rfl ?_
        refine z_istore_n (L' := [(1, .int 2), (0, .ref 2)]) hc dX0_passKind_43 rfl (by decide) rfl rfl ?_
        refine z_goto (tgt := 59) hc dX0_passKind_44 (by decide) ?_
        refine zJ.sub (L' := [(0, .ref 2), (1, .int 2)]) [1, 0] rfl ?_
        exact sCo_passKind_59 hc hRm 2 _
    · refine z_iconst (v := 1) hc dX0_passKind_27 rfl ?_
      refine z_istore_n (L' := [(1, .int 1), (0, .ref 2)]) hc dX0_passKind_28 rfl (by decide) rfl rfl ?_
      refine z_goto (tgt := 59) hc dX0_passKind_29 (by decide) ?_
      refine zJ.sub (L' := [(0, .ref 2), (1, .int 1)]) [1, 0] rfl ?_
      exact sCo_passKind_59 hc hRm 1 _
  · refine z_iconst (v := 0) hc dX0_passKind_12 rfl ?_
    refine z_istore_n (L' := [(1, .int 0), (0, .ref 2)]) hc dX0_passKind_13 rfl (by decide) rfl rfl ?_
    refine z_goto (tgt := 59) hc dX0_passKind_14 (by decide) ?_
    refine zJ.sub (L' := [(0, .ref 2), (1, .int 0)]) [1, 0] rfl ?_
    exact sCo_passKind_59 hc hRm 0 _
set_option maxRecDepth 100000 in
set_option maxHeartbeats 4000000 in
theorem sCo_readPerson_65 {fin : Unit × zM} (hc : zCx p s mi args meth c (wC D b) m0 RX0 cX0_readPerson 7 none) (hRm : R.frames = 4 ∧ R.locals = 86 ∧ R.cells = zc (wC D b) m0 fin.2 ∧ R.slots = zs (wC D b) m0 fin.2) (r0 : Nat) (v4 : Int32) (v5 : Int32) (s0 : Int32) (u : zM) : zJ eV p l e R s mi args below meth c (wC D b) m0 7 fin 65 [(0, .ref r0), (4, .int v4), (5, .int v5)] [.int s0] u (Co_readPerson_65 r0 v4 v5 s0 u) := by
  unfold Co_readPerson_65
  refine zJ.chk _ (fun h1 => ?_)
  refine z_istore (L' := [(6, .int s0), (0, .ref r0), (4, .int v4), (5, .int v5)]) hc dX0_readPerson_65 (by decide) rfl rfl ?_
  refine z_iload hc dX0_readPerson_67 0 rfl ?_
  refine z_iconst (v := (-1)) hc dX0_readPerson_69 rfl ?_
  refine z_icmp_eq (tgt := 91) hc dX0_readPerson_70 (by decide) _ (fun h2 => ?_) (fun h2 => ?_)
  · exact z_vret hc dX0_readPerson_91
  · refine z_aload_n hc dX0_readPerson_73 1 rfl rfl ?_
    refine z_getR (x := (r0 + 11)) hc (ci := 0) (k := 6) (by decide) (by decide) zly0 h1 (zkC h1) wFX0_36 rfl dX0_readPerson_74 (rfC_off (off := 11) h1 rfl (by decide)) (Nat.le_add_left_of_le (by decide)) ?_
    refine z_iload hc dX0_readPerson_77 0 rfl ?_
    refine z_iload hc dX0_readPerson_79 2 rfl ?_
    refine zJ.chk _ (fun h3 => ?_)
    refine z_iast (k := (ix s0)) hc (lyC_10_11 h1) (zkC (lyC_10_11 h1)) h3 rfl dX0_readPerson_81 ?_
    refine zJ.letM (fun u1 e1 => ?_)
    refine z_aload_n hc dX0_readPerson_82 1 rfl rfl ?_
    refine z_getR (x := (r0 + 12)) hc (ci := 0) (k := 7) (by decide) (by decide) zly0 h1 (zkC h1) wFX0_39 rfl dX0_readPerson_83 (rfC_off (off := 12) h1 rfl (by decide)) (Nat.le_add_left_of_le (by decide)) ?_
    refine z_iload hc dX0_readPerson_86 0 rfl ?_
    refine z_iload hc dX0_readPerson_88 3 rfl ?_
    refine zJ.chk _ (fun h4 => ?_)
    refine z_iast (k := (ix s0)) hc (lyC_10_12 h1) (zkC (lyC_10_12 h1)) h4 rfl dX0_readPerson_90 ?_
    refine zJ.letM (fun u2 e2 => ?_)
    exact z_vret hc dX0_readPerson_91
set_option maxRecDepth 100000 in
set_option maxHeartbeats 4000000 in
theorem sCo_readPerson : ∀ (r0 : Nat) (u : zM) r m1, Co_readPerson r0 u = some (r, m1) → zMet l (wC D b) 4 86 yX0_readPerson cX0_readPerson 7 none [.ref r0, .ref 2] u (eV r) m1 := by
  intro r0 u
  refine zMet.of (L := [(0, .ref r0), (1, .ref 2)]) RX0 (by decide +kernel) rfl (Nat.le_of_ble_eq_true rfl) (fun h => by cases h) rfl (fun p e s mi args below meth c R fin hc hin hRm => ?_)
  unfold Co_readPerson
  refine zJ.chk _ (fun h1 => ?_)
  refine z_aload_n hc dX0_readPerson_0 1 rfl rfl ?_
  refine z_aload_n hc dX0_readPerson_1 0 rfl rfl ?_
  refine z_getR (x := (r0 + 3)) hc (ci := 0) (k := 1) (by decide) (by decide) zly0 h1 (zkC h1) wFX0_20 rfl dX0_readPerson_2 (rfC_off (off := 3) h1 rfl (by decide)) (Nat.le_add_left_of_le (by decide)) ?_
  refine z_callV (av := []) (enc' := eI) hc rfl (sNa_isFull (r0 + 3) _) (ci := 3) (by decide) (lyC_10_3 h1) (zkC (lyC_10_3 h1)) rfl wMX0_153 hpyX3_isFull hmyX3_isFull (rm_ok hRm (Nat.le_of_ble_eq_true rfl) (Nat.le_of_ble_eq_true rfl)) (Nat.le_of_ble_eq_true rfl) hRm.2.2 dX0_readPerson_5 (fun c1 u1 f1 => ?_)
  refine z_callS (av := [.ref 2, .int c1]) (enc' := eV) hc rfl (sCo_passFirst c1 _) wMX0_156 hpyX0_passFirst hmyX0_passFirst (rm_ok hRm (Nat.le_of_ble_eq_true rfl) (Nat.le_of_ble_eq_true rfl)) (Nat.le_of_ble_eq_true rfl) hRm.2.2 dX0_readPerson_8 (fun c2 u2 f2 => ?_)
  refine z_aload_n hc dX0_readPerson_11 0 rfl rfl ?_
  refine z_aload_n hc dX0_readPerson_12 1 rfl rfl ?_
  refine z_callV (av := [.ref 2]) (enc' := eL) hc rfl (sCo_passNewName r0 _) (ci := 0) (by decide) h1 (zkC h1) rfl wMX0_160 hpyX0_passNewName hmyX0_passNewName (rm_ok hRm (Nat.le_of_ble_eq_true rfl) (Nat.le_of_ble_eq_true rfl)) (Nat.le_of_ble_eq_true rfl) hRm.2.2 dX0_readPerson_13 (fun c3 u3 f3 => ?_)
  refine z_lstore_n (L' := [(2, .long c3), (0, .ref r0), (1, .ref 2)]) hc dX0_readPerson_16 rfl (by decide) rfl rfl ?_
  refine z_aload_n hc dX0_readPerson_17 2 rfl rfl ?_
  refine z_callS (av := [.ref 2]) (enc' := eI) hc rfl (sCo_passKind _) wMX0_199 hpyX0_passKind hmyX0_passKind (rm_ok hRm (Nat.le_of_ble_eq_true rfl) (Nat.le_of_ble_eq_true rfl)) (Nat.le_of_ble_eq_true rfl) hRm.2.2 dX0_readPerson_18 (fun c4 u4 f4 => ?_)
  refine z_istore (L' := [(4, .int c4), (2, .long c3), (0, .ref r0), (1, .ref 2)]) hc dX0_readPerson_21 (by decide) rfl rfl ?_
  refine z_aload_n hc dX0_readPerson_23 3 rfl rfl ?_
  refine z_ldc2 (v := 26990) hc wKX0_203 dX0_readPerson_24 ?_
  refine z_callV (av := [.long 26990]) (enc' := eV) hc rfl (sTa_passWord 26990 _) (ci := 8) (by decide) lC2 (zkC lC2) rfl wMX0_166 hpyX8_passWord hmyX8_passWord (rm_ok hRm (Nat.le_of_ble_eq_true rfl) (Nat.le_of_ble_eq_true rfl)) (Nat.le_of_ble_eq_true rfl) hRm.2.2 dX0_readPerson_27 (fun c5 u5 f5 => ?_)
  refine z_aload_n hc dX0_readPerson_30 3 rfl rfl ?_
  refine z_aload_n hc dX0_readPerson_31 2 rfl rfl ?_
  refine z_getR (x := (r0 + 1)) hc (ci := 0) (k := 0) (by decide) (by decide) zly0 h1 (zkC h1) wFX0_14 rfl dX0_readPerson_32 (rfC_off (off := 1) h1 rfl (by decide)) (Nat.le_add_left_of_le (by decide)) ?_
  refine z_callV (av := [.ref (r0 + 1)]) (enc' := eI) hc rfl (sTa_passTold (r0 + 1) _) (ci := 8) (by decide) lC2 (zkC lC2) rfl wMX0_181 hpyX8_passTold hmyX8_passTold (rm_ok hRm (Nat.le_of_ble_eq_true rfl) (Nat.le_of_ble_eq_true rfl)) (Nat.le_of_ble_eq_true rfl) hRm.2.2 dX0_readPerson_35 (fun c6 u6 f6 => ?_)
  refine z_istore (L' := [(5, .int c6), (4, .int c4), (2, .long c3), (0, .ref r0), (1, .ref 2)]) hc dX0_readPerson_38 (by decide) rfl rfl ?_
  refine z_aload_n hc dX0_readPerson_40 4 rfl rfl ?_
  refine z_bipush (v := 59) hc dX0_readPerson_41 rfl ?_
  refine z_callV (av := [.int 59]) (enc' := eV) hc rfl (sTa_passSign 59 _) (ci := 8) (by decide) lC2 (zkC lC2) rfl wMX0_174 hpyX8_passSign hmyX8_passSign (rm_ok hRm (Nat.le_of_ble_eq_true rfl) (Nat.le_of_ble_eq_true rfl)) (Nat.le_of_ble_eq_true rfl) hRm.2.2 dX0_readPerson_43 (fun c7 u7 f7 => ?_)
  refine z_aload_n hc dX0_readPerson_46 4 rfl rfl ?_
  refine z_callV (av := []) (enc' := eI) hc rfl (sTa_isFine _) (ci := 8) (by decide) lC2 (zkC lC2) rfl wMX0_72 hpyX8_isFine hmyX8_isFine (rm_ok hRm (Nat.le_of_ble_eq_true rfl) (Nat.le_of_ble_eq_true rfl)) (Nat.le_of_ble_eq_true rfl) hRm.2.2 dX0_readPerson_47 (fun c8 u8 f8 => ?_)
  refine z_if_eq (tgt := 64) hc dX0_readPerson_50 (by decide) _ (fun h2 => ?_) (fun h2 => ?_)
  · refine z_iconst (v := (-1)) hc dX0_readPerson_64 rfl ?_
    refine zJ.sub (L' := [(0, .ref r0), (4, .int c4), (5, .int c6)]) [3, 1, 0] rfl ?_
    exact sCo_readPerson_65 hc hRm r0 c4 c6 (-1) _
  · refine z_aload_n hc dX0_readPerson_53 3 rfl rfl ?_
    refine z_getR (x := (r0 + 3)) hc (ci := 0) (k := 1) (by decide) (by decide) zly0 h1 (zkC h1) wFX0_20 rfl dX0_readPerson_54 (rfC_off (off := 3) h1 rfl (by decide)) (Nat.le_add_left_of_le (by decide)) ?_
    refine z_lload_n hc dX0_readPerson_57 2 rfl rfl ?_
    refine z_callV (av := [.long c3]) (enc' := eI) hc rfl (sNa_put (r0 + 3) c3 _) (ci := 3) (by decide) (lyC_10_3 h1) (zkC (lyC_10_3 h1)) rfl wMX0_178 hpyX3_put hmyX3_put (rm_ok hRm (Nat.le_of_ble_eq_true rfl) (Nat.le_of_ble_eq_true rfl)) (Nat.le_of_ble_eq_true rfl) hRm.2.2 dX0_readPerson_58 (fun c9 u9 f9 => ?_)
    refine z_goto (tgt := 65) hc dX0_readPerson_61 (by decide) ?_
    refine zJ.sub (L' := [(0, .ref r0), (4, .int c4), (5, .int c6)]) [3, 1, 0] rfl ?_
    exact sCo_readPerson_65 hc hRm r0 c4 c6 c9 _
set_option maxRecDepth 100000 in
set_option maxHeartbeats 4000000 in
theorem sCo_readOtter_74 {fin : Unit × zM} (hc : zCx p s mi args meth c (wC D b) m0 RX0 cX0_readOtter 7 none) (hRm : R.frames = 4 ∧ R.locals = 86 ∧ R.cells = zc (wC D b) m0 fin.2 ∧ R.slots = zs (wC D b) m0 fin.2) (r0 : Nat) (v4 : Int32) (v5 : Int32) (s0 : Int32) (u : zM) : zJ eV p l e R s mi args below meth c (wC D b) m0 7 fin 74 [(0, .ref r0), (4, .int v4), (5, .int v5)] [.int s0] u (Co_readOtter_74 r0 v4 v5 s0 u) := by
  unfold Co_readOtter_74
  refine zJ.chk _ (fun h1 => ?_)
  refine z_istore (L' := [(6, .int s0), (0, .ref r0), (4, .int v4), (5, .int v5)]) hc dX0_readOtter_74 (by decide) rfl rfl ?_
  refine z_iload hc dX0_readOtter_76 0 rfl ?_
  refine z_iconst (v := (-1)) hc dX0_readOtter_78 rfl ?_
  refine z_icmp_eq (tgt := 100) hc dX0_readOtter_79 (by decide) _ (fun h2 => ?_) (fun h2 => ?_)
  · exact z_vret hc dX0_readOtter_100
  · refine z_aload_n hc dX0_readOtter_82 1 rfl rfl ?_
    refine z_getR (x := (r0 + 13)) hc (ci := 0) (k := 8) (by decide) (by decide) zly0 h1 (zkC h1) wFX0_42 rfl dX0_readOtter_83 (rfC_off (off := 13) h1 rfl (by decide)) (Nat.le_add_left_of_le (by decide)) ?_
    refine z_iload hc dX0_readOtter_86 0 rfl ?_
    refine z_iload hc dX0_readOtter_88 2 rfl ?_
    refine zJ.chk _ (fun h3 => ?_)
    refine z_iast (k := (ix s0)) hc (lyC_10_13 h1) (zkC (lyC_10_13 h1)) h3 rfl dX0_readOtter_90 ?_
    refine zJ.letM (fun u1 e1 => ?_)
    refine z_aload_n hc dX0_readOtter_91 1 rfl rfl ?_
    refine z_getR (x := (r0 + 14)) hc (ci := 0) (k := 9) (by decide) (by decide) zly0 h1 (zkC h1) wFX0_45 rfl dX0_readOtter_92 (rfC_off (off := 14) h1 rfl (by decide)) (Nat.le_add_left_of_le (by decide)) ?_
    refine z_iload hc dX0_readOtter_95 0 rfl ?_
    refine z_iload hc dX0_readOtter_97 3 rfl ?_
    refine zJ.chk _ (fun h4 => ?_)
    refine z_iast (k := (ix s0)) hc (lyC_10_14 h1) (zkC (lyC_10_14 h1)) h4 rfl dX0_readOtter_99 ?_
    refine zJ.letM (fun u2 e2 => ?_)
    exact z_vret hc dX0_readOtter_100
set_option maxRecDepth 100000 in
set_option maxHeartbeats 4000000 in
theorem sCo_readOtter : ∀ (r0 : Nat) (u : zM) r m1, Co_readOtter r0 u = some (r, m1) → zMet l (wC D b) 4 86 yX0_readOtter cX0_readOtter 7 none [.ref r0, .ref 2] u (eV r) m1 := by
  intro r0 u
  refine zMet.of (L := [(0, .ref r0), (1, .ref 2)]) RX0 (by decide +kernel) rfl (Nat.le_of_ble_eq_true rfl) (fun h => by cases h) rfl (fun p e s mi args below meth c R fin hc hin hRm => ?_)
  unfold Co_readOtter
  refine zJ.chk _ (fun h1 => ?_)
  refine z_aload_n hc dX0_readOtter_0 1 rfl rfl ?_
  refine z_aload_n hc dX0_readOtter_1 0 rfl rfl ?_
  refine z_getR (x := (r0 + 5)) hc (ci := 0) (k := 2) (by decide) (by decide) zly0 h1 (zkC h1) wFX0_23 rfl dX0_readOtter_2 (rfC_off (off := 5) h1 rfl (by decide)) (Nat.le_add_left_of_le (by decide)) ?_
  refine z_callV (av := []) (enc' := eI) hc rfl (sNa_isFull (r0 + 5) _) (ci := 3) (by decide) (lyC_10_5 h1) (zkC (lyC_10_5 h1)) rfl wMX0_153 hpyX3_isFull hmyX3_isFull (rm_ok hRm (Nat.le_of_ble_eq_true rfl) (Nat.le_of_ble_eq_true rfl)) (Nat.le_of_ble_eq_true rfl) hRm.2.2 dX0_readOtter_5 (fun c1 u1 f1 => ?_)
  refine z_callS (av := [.ref 2, .int c1]) (enc' := eV) hc rfl (sCo_passFirst c1 _) wMX0_156 hpyX0_passFirst hmyX0_passFirst (rm_ok hRm (Nat.le_of_ble_eq_true rfl) (Nat.le_of_ble_eq_true rfl)) (Nat.le_of_ble_eq_true rfl) hRm.2.2 dX0_readOtter_8 (fun c2 u2 f2 => ?_)
  refine z_aload_n hc dX0_readOtter_11 0 rfl rfl ?_
  refine z_aload_n hc dX0_readOtter_12 1 rfl rfl ?_
  refine z_callV (av := [.ref 2]) (enc' := eL) hc rfl (sCo_passNewName r0 _) (ci := 0) (by decide) h1 (zkC h1) rfl wMX0_160 hpyX0_passNewName hmyX0_passNewName (rm_ok hRm (Nat.le_of_ble_eq_true rfl) (Nat.le_of_ble_eq_true rfl)) (Nat.le_of_ble_eq_true rfl) hRm.2.2 dX0_readOtter_13 (fun c3 u3 f3 => ?_)
  refine z_lstore_n (L' := [(2, .long c3), (0, .ref r0), (1, .ref 2)]) hc dX0_readOtter_16 rfl (by decide) rfl rfl ?_
  refine z_aload_n hc dX0_readOtter_17 2 rfl rfl ?_
  refine z_ldc2 (v := 26990) hc wKX0_203 dX0_readOtter_18 ?_
  refine z_callV (av := [.long 26990]) (enc' := eV) hc rfl (sTa_passWord 26990 _) (ci := 8) (by decide) lC2 (zkC lC2) rfl wMX0_166 hpyX8_passWord hmyX8_passWord (rm_ok hRm (Nat.le_of_ble_eq_true rfl) (Nat.le_of_ble_eq_true rfl)) (Nat.le_of_ble_eq_true rfl) hRm.2.2 dX0_readOtter_21 (fun c4 u4 f4 => ?_)
  refine z_aload_n hc dX0_readOtter_24 2 rfl rfl ?_
  refine z_aload_n hc dX0_readOtter_25 1 rfl rfl ?_
  refine z_getR (x := (r0 + 1)) hc (ci := 0) (k := 0) (by decide) (by decide) zly0 h1 (zkC h1) wFX0_14 rfl dX0_readOtter_26 (rfC_off (off := 1) h1 rfl (by decide)) (Nat.le_add_left_of_le (by decide)) ?_
  refine z_callV (av := [.ref (r0 + 1)]) (enc' := eI) hc rfl (sTa_passTold (r0 + 1) _) (ci := 8) (by decide) lC2 (zkC lC2) rfl wMX0_181 hpyX8_passTold hmyX8_passTold (rm_ok hRm (Nat.le_of_ble_eq_true rfl) (Nat.le_of_ble_eq_true rfl)) (Nat.le_of_ble_eq_true rfl) hRm.2.2 dX0_readOtter_29 (fun c5 u5 f5 => ?_)
  refine z_istore (L' := [(4, .int c5), (2, .long c3), (0, .ref r0), (1, .ref 2)]) hc dX0_readOtter_32 (by decide) rfl rfl ?_
  refine z_aload_n hc dX0_readOtter_34 3 rfl rfl ?_
  refine z_ldc2 (v := 1885430629) hc wKX0_213 dX0_readOtter_35 ?_
  refine z_callV (av := [.long 1885430629]) (enc' := eV) hc rfl (sTa_passWord 1885430629 _) (ci := 8) (by decide) lC2 (zkC lC2) rfl wMX0_166 hpyX8_passWord hmyX8_passWord (rm_ok hRm (Nat.le_of_ble_eq_true rfl) (Nat.le_of_ble_eq_true rfl)) (Nat.le_of_ble_eq_true rfl) hRm.2.2 dX0_readOtter_38 (fun c6 u6 f6 => ?_)
  refine z_aload_n hc dX0_readOtter_41 3 rfl rfl ?_
  refine z_iconst (v := 1) hc dX0_readOtter_42 rfl ?_
  refine z_iconst (v := 3) hc dX0_readOtter_43 rfl ?_
  refine z_callV (av := [.int 1, .int 3]) (enc' := eI) hc rfl (sTa_passNumber 1 3 _) (ci := 8) (by decide) lC2 (zkC lC2) rfl wMX0_170 hpyX8_passNumber hmyX8_passNumber (rm_ok hRm (Nat.le_of_ble_eq_true rfl) (Nat.le_of_ble_eq_true rfl)) (Nat.le_of_ble_eq_true rfl) hRm.2.2 dX0_readOtter_44 (fun c7 u7 f7 => ?_)
  refine z_istore (L' := [(5, .int c7), (4, .int c5), (2, .long c3), (0, .ref r0), (1, .ref 2)]) hc dX0_readOtter_47 (by decide) rfl rfl ?_
  refine z_aload_n hc dX0_readOtter_49 4 rfl rfl ?_
  refine z_bipush (v := 59) hc dX0_readOtter_50 rfl ?_
  refine z_callV (av := [.int 59]) (enc' := eV) hc rfl (sTa_passSign 59 _) (ci := 8) (by decide) lC2 (zkC lC2) rfl wMX0_174 hpyX8_passSign hmyX8_passSign (rm_ok hRm (Nat.le_of_ble_eq_true rfl) (Nat.le_of_ble_eq_true rfl)) (Nat.le_of_ble_eq_true rfl) hRm.2.2 dX0_readOtter_52 (fun c8 u8 f8 => ?_)
  refine z_aload_n hc dX0_readOtter_55 4 rfl rfl ?_
  refine z_callV (av := []) (enc' := eI) hc rfl (sTa_isFine _) (ci := 8) (by decide) lC2 (zkC lC2) rfl wMX0_72 hpyX8_isFine hmyX8_isFine (rm_ok hRm (Nat.le_of_ble_eq_true rfl) (Nat.le_of_ble_eq_true rfl)) (Nat.le_of_ble_eq_true rfl) hRm.2.2 dX0_readOtter_56 (fun c9 u9 f9 => ?_)
  refine z_if_eq (tgt := 73) hc dX0_readOtter_59 (by decide) _ (fun h2 => ?_) (fun h2 => ?_)
  · refine z_iconst (v := (-1)) hc dX0_readOtter_73 rfl ?_
    refine zJ.sub (L' := [(0, .ref r0), (4, .int c5), (5, .int c7)]) [3, 1, 0] rfl ?_
    exact sCo_readOtter_74 hc hRm r0 c5 c7 (-1) _
  · refine z_aload_n hc dX0_readOtter_62 3 rfl rfl ?_
    refine z_getR (x := (r0 + 5)) hc (ci := 0) (k := 2) (by decide) (by decide) zly0 h1 (zkC h1) wFX0_23 rfl dX0_readOtter_63 (rfC_off (off := 5) h1 rfl (by decide)) (Nat.le_add_left_of_le (by decide)) ?_
    refine z_lload_n hc dX0_readOtter_66 2 rfl rfl ?_
    refine z_callV (av := [.long c3]) (enc' := eI) hc rfl (sNa_put (r0 + 5) c3 _) (ci := 3) (by decide) (lyC_10_5 h1) (zkC (lyC_10_5 h1)) rfl wMX0_178 hpyX3_put hmyX3_put (rm_ok hRm (Nat.le_of_ble_eq_true rfl) (Nat.le_of_ble_eq_true rfl)) (Nat.le_of_ble_eq_true rfl) hRm.2.2 dX0_readOtter_67 (fun c10 u10 f10 => ?_)
    refine z_goto (tgt := 74) hc dX0_readOtter_70 (by decide) ?_
    refine zJ.sub (L' := [(0, .ref r0), (4, .int c5), (5, .int c7)]) [3, 1, 0] rfl ?_
    exact sCo_readOtter_74 hc hRm r0 c5 c7 c10 _
set_option maxRecDepth 100000 in
set_option maxHeartbeats 4000000 in
theorem sCo_readWrit_75 {fin : Unit × zM} (hc : zCx p s mi args meth c (wC D b) m0 RX0 cX0_readWrit 7 none) (hRm : R.frames = 4 ∧ R.locals = 86 ∧ R.cells = zc (wC D b) m0 fin.2 ∧ R.slots = zs (wC D b) m0 fin.2) (r0 : Nat) (v4 : Int32) (v5 : Int32) (s0 : Int32) (u : zM) : zJ eV p l e R s mi args below meth c (wC D b) m0 7 fin 75 [(0, .ref r0), (4, .int v4), (5, .int v5)] [.int s0] u (Co_readWrit_75 r0 v4 v5 s0 u) := by
  unfold Co_readWrit_75
  refine zJ.chk _ (fun h1 => ?_)
  refine z_istore (L' := [(6, .int s0), (0, .ref r0), (4, .int v4), (5, .int v5)]) hc dX0_readWrit_75 (by decide) rfl rfl ?_
  refine z_iload hc dX0_readWrit_77 0 rfl ?_
  refine z_iconst (v := (-1)) hc dX0_readWrit_79 rfl ?_
  refine z_icmp_eq (tgt := 101) hc dX0_readWrit_80 (by decide) _ (fun h2 => ?_) (fun h2 => ?_)
  · exact z_vret hc dX0_readWrit_101
  · refine z_aload_n hc dX0_readWrit_83 1 rfl rfl ?_
    refine z_getR (x := (r0 + 15)) hc (ci := 0) (k := 10) (by decide) (by decide) zly0 h1 (zkC h1) wFX0_48 rfl dX0_readWrit_84 (rfC_off (off := 15) h1 rfl (by decide)) (Nat.le_add_left_of_le (by decide)) ?_
    refine z_iload hc dX0_readWrit_87 0 rfl ?_
    refine z_iload hc dX0_readWrit_89 2 rfl ?_
    refine zJ.chk _ (fun h3 => ?_)
    refine z_iast (k := (ix s0)) hc (lyC_10_15 h1) (zkC (lyC_10_15 h1)) h3 rfl dX0_readWrit_91 ?_
    refine zJ.letM (fun u1 e1 => ?_)
    refine z_aload_n hc dX0_readWrit_92 1 rfl rfl ?_
    refine z_getR (x := (r0 + 16)) hc (ci := 0) (k := 11) (by decide) (by decide) zly0 h1 (zkC h1) wFX0_51 rfl dX0_readWrit_93 (rfC_off (off := 16) h1 rfl (by decide)) (Nat.le_add_left_of_le (by decide)) ?_
    refine z_iload hc dX0_readWrit_96 0 rfl ?_
    refine z_iload hc dX0_readWrit_98 3 rfl ?_
    refine zJ.chk _ (fun h4 => ?_)
    refine z_iast (k := (ix s0)) hc (lyC_10_16 h1) (zkC (lyC_10_16 h1)) h4 rfl dX0_readWrit_100 ?_
    refine zJ.letM (fun u2 e2 => ?_)
    exact z_vret hc dX0_readWrit_101
set_option maxRecDepth 100000 in
set_option maxHeartbeats 4000000 in
theorem sCo_readWrit : ∀ (r0 : Nat) (u : zM) r m1, Co_readWrit r0 u = some (r, m1) → zMet l (wC D b) 4 86 yX0_readWrit cX0_readWrit 7 none [.ref r0, .ref 2] u (eV r) m1 := by
  intro r0 u
  refine zMet.of (L := [(0, .ref r0), (1, .ref 2)]) RX0 (by decide +kernel) rfl (Nat.le_of_ble_eq_true rfl) (fun h => by cases h) rfl (fun p e s mi args below meth c R fin hc hin hRm => ?_)
  unfold Co_readWrit
  refine zJ.chk _ (fun h1 => ?_)
  refine z_aload_n hc dX0_readWrit_0 1 rfl rfl ?_
  refine z_aload_n hc dX0_readWrit_1 0 rfl rfl ?_
  refine z_getR (x := (r0 + 7)) hc (ci := 0) (k := 3) (by decide) (by decide) zly0 h1 (zkC h1) wFX0_26 rfl dX0_readWrit_2 (rfC_off (off := 7) h1 rfl (by decide)) (Nat.le_add_left_of_le (by decide)) ?_
  refine z_callV (av := []) (enc' := eI) hc rfl (sNa_isFull (r0 + 7) _) (ci := 3) (by decide) (lyC_10_7 h1) (zkC (lyC_10_7 h1)) rfl wMX0_153 hpyX3_isFull hmyX3_isFull (rm_ok hRm (Nat.le_of_ble_eq_true rfl) (Nat.le_of_ble_eq_true rfl)) (Nat.le_of_ble_eq_true rfl) hRm.2.2 dX0_readWrit_5 (fun c1 u1 f1 => ?_)
  refine z_callS (av := [.ref 2, .int c1]) (enc' := eV) hc rfl (sCo_passFirst c1 _) wMX0_156 hpyX0_passFirst hmyX0_passFirst (rm_ok hRm (Nat.le_of_ble_eq_true rfl) (Nat.le_of_ble_eq_true rfl)) (Nat.le_of_ble_eq_true rfl) hRm.2.2 dX0_readWrit_8 (fun c2 u2 f2 => ?_)
  refine z_aload_n hc dX0_readWrit_11 0 rfl rfl ?_
  refine z_aload_n hc dX0_readWrit_12 1 rfl rfl ?_
  refine z_callV (av := [.ref 2]) (enc' := eL) hc rfl (sCo_passNewName r0 _) (ci := 0) (by decide) h1 (zkC h1) rfl wMX0_160 hpyX0_passNewName hmyX0_passNewName (rm_ok hRm (Nat.le_of_ble_eq_true rfl) (Nat.le_of_ble_eq_true rfl)) (Nat.le_of_ble_eq_true rfl) hRm.2.2 dX0_readWrit_13 (fun c3 u3 f3 => ?_)
  refine z_lstore_n (L' := [(2, .long c3), (0, .ref r0), (1, .ref 2)]) hc dX0_readWrit_16 rfl (by decide) rfl rfl ?_
  refine z_aload_n hc dX0_readWrit_17 2 rfl rfl ?_
  refine z_ldc2 (v := 6713202) hc wKX0_215 dX0_readWrit_18 ?_
  refine z_callV (av := [.long 6713202]) (enc' := eV) hc rfl (sTa_passWord 6713202 _) (ci := 8) (by decide) lC2 (zkC lC2) rfl wMX0_166 hpyX8_passWord hmyX8_passWord (rm_ok hRm (Nat.le_of_ble_eq_true rfl) (Nat.le_of_ble_eq_true rfl)) (Nat.le_of_ble_eq_true rfl) hRm.2.2 dX0_readWrit_21 (fun c4 u4 f4 => ?_)
  refine z_aload_n hc dX0_readWrit_24 2 rfl rfl ?_
  refine z_aload_n hc dX0_readWrit_25 1 rfl rfl ?_
  refine z_getR (x := (r0 + 3)) hc (ci := 0) (k := 1) (by decide) (by decide) zly0 h1 (zkC h1) wFX0_20 rfl dX0_readWrit_26 (rfC_off (off := 3) h1 rfl (by decide)) (Nat.le_add_left_of_le (by decide)) ?_
  refine z_callV (av := [.ref (r0 + 3)]) (enc' := eI) hc rfl (sTa_passTold (r0 + 3) _) (ci := 8) (by decide) lC2 (zkC lC2) rfl wMX0_181 hpyX8_passTold hmyX8_passTold (rm_ok hRm (Nat.le_of_ble_eq_true rfl) (Nat.le_of_ble_eq_true rfl)) (Nat.le_of_ble_eq_true rfl) hRm.2.2 dX0_readWrit_29 (fun c5 u5 f5 => ?_)
  refine z_istore (L' := [(4, .int c5), (2, .long c3), (0, .ref r0), (1, .ref 2)]) hc dX0_readWrit_32 (by decide) rfl rfl ?_
  refine z_aload_n hc dX0_readWrit_34 3 rfl rfl ?_
  refine z_ldc2 (v := 25209) hc wKX0_217 dX0_readWrit_35 ?_
  refine z_callV (av := [.long 25209]) (enc' := eV) hc rfl (sTa_passWord 25209 _) (ci := 8) (by decide) lC2 (zkC lC2) rfl wMX0_166 hpyX8_passWord hmyX8_passWord (rm_ok hRm (Nat.le_of_ble_eq_true rfl) (Nat.le_of_ble_eq_true rfl)) (Nat.le_of_ble_eq_true rfl) hRm.2.2 dX0_readWrit_38 (fun c6 u6 f6 => ?_)
  refine z_aload_n hc dX0_readWrit_41 3 rfl rfl ?_
  refine z_iconst (v := 0) hc dX0_readWrit_42 rfl ?_
  refine z_bipush (v := 60) hc dX0_readWrit_43 rfl ?_
  refine z_callV (av := [.int 0, .int 60]) (enc' := eI) hc rfl (sTa_passNumber 0 60 _) (ci := 8) (by decide) lC2 (zkC lC2) rfl wMX0_170 hpyX8_passNumber hmyX8_passNumber (rm_ok hRm (Nat.le_of_ble_eq_true rfl) (Nat.le_of_ble_eq_true rfl)) (Nat.le_of_ble_eq_true rfl) hRm.2.2 dX0_readWrit_45 (fun c7 u7 f7 => ?_)
  refine z_istore (L' := [(5, .int c7), (4, .int c5), (2, .long c3), (0, .ref r0), (1, .ref 2)]) hc dX0_readWrit_48 (by decide) rfl rfl ?_
  refine z_aload_n hc dX0_readWrit_50 4 rfl rfl ?_
  refine z_bipush (v := 59) hc dX0_readWrit_51 rfl ?_
  refine z_callV (av := [.int 59]) (enc' := eV) hc rfl (sTa_passSign 59 _) (ci := 8) (by decide) lC2 (zkC lC2) rfl wMX0_174 hpyX8_passSign hmyX8_passSign (rm_ok hRm (Nat.le_of_ble_eq_true rfl) (Nat.le_of_ble_eq_true rfl)) (Nat.le_of_ble_eq_true rfl) hRm.2.2 dX0_readWrit_53 (fun c8 u8 f8 => ?_)
  refine z_aload_n hc dX0_readWrit_56 4 rfl rfl ?_
  refine z_callV (av := []) (enc' := eI) hc rfl (sTa_isFine _) (ci := 8) (by decide) lC2 (zkC lC2) rfl wMX0_72 hpyX8_isFine hmyX8_isFine (rm_ok hRm (Nat.le_of_ble_eq_true rfl) (Nat.le_of_ble_eq_true rfl)) (Nat.le_of_ble_eq_true rfl) hRm.2.2 dX0_readWrit_57 (fun c9 u9 f9 => ?_)
  refine z_if_eq (tgt := 74) hc dX0_readWrit_60 (by decide) _ (fun h2 => ?_) (fun h2 => ?_)
  · refine z_iconst (v := (-1)) hc dX0_readWrit_74 rfl ?_
    refine zJ.sub (L' := [(0, .ref r0), (4, .int c5), (5, .int c7)]) [3, 1, 0] rfl ?_
    exact sCo_readWrit_75 hc hRm r0 c5 c7 (-1) _
  · refine z_aload_n hc dX0_readWrit_63 3 rfl rfl ?_
    refine z_getR (x := (r0 + 7)) hc (ci := 0) (k := 3) (by decide) (by decide) zly0 h1 (zkC h1) wFX0_26 rfl dX0_readWrit_64 (rfC_off (off := 7) h1 rfl (by decide)) (Nat.le_add_left_of_le (by decide)) ?_
    refine z_lload_n hc dX0_readWrit_67 2 rfl rfl ?_
    refine z_callV (av := [.long c3]) (enc' := eI) hc rfl (sNa_put (r0 + 7) c3 _) (ci := 3) (by decide) (lyC_10_7 h1) (zkC (lyC_10_7 h1)) rfl wMX0_178 hpyX3_put hmyX3_put (rm_ok hRm (Nat.le_of_ble_eq_true rfl) (Nat.le_of_ble_eq_true rfl)) (Nat.le_of_ble_eq_true rfl) hRm.2.2 dX0_readWrit_68 (fun c10 u10 f10 => ?_)
    refine z_goto (tgt := 75) hc dX0_readWrit_71 (by decide) ?_
    refine zJ.sub (L' := [(0, .ref r0), (4, .int c5), (5, .int c7)]) [3, 1, 0] rfl ?_
    exact sCo_readWrit_75 hc hRm r0 c5 c7 c10 _
set_option maxRecDepth 100000 in
set_option maxHeartbeats 4000000 in
theorem sCo_readMoreRain : ∀ (r0 : Nat) (u : zM) r m1, Co_readMoreRain r0 u = some (r, m1) → zMet l (wC D b) 3 66 yX0_readMoreRain cX0_readMoreRain 4 none [.ref r0, .ref 2] u (eV r) m1 := by
  intro r0 u
  refine zMet.of (L := [(0, .ref r0), (1, .ref 2)]) RX0 (by decide +kernel) rfl (Nat.le_of_ble_eq_true rfl) (fun h => by cases h) rfl (fun p e s mi args below meth c R fin hc hin hRm => ?_)
  unfold Co_readMoreRain
  refine zJ.chk _ (fun h1 => ?_)
  refine z_aload_n hc dX0_readMoreRain_0 1 rfl rfl ?_
  refine z_getI hc (ci := 8) (k := 3) (by decide) (by decide) zly8 lC2 (zkC lC2) wFX0_185 rfl dX0_readMoreRain_1 ?_
  refine zJ.letI (fun x1 e1 => ?_)
  refine z_istore_n (L' := [(2, .int x1), (0, .ref r0), (1, .ref 2)]) hc dX0_readMoreRain_4 rfl (by decide) rfl rfl ?_
  refine z_aload_n hc dX0_readMoreRain_5 2 rfl rfl ?_
  refine z_iconst (v := 0) hc dX0_readMoreRain_6 rfl ?_
  refine z_bipush (v := 9) hc dX0_readMoreRain_7 rfl ?_
  refine z_callV (av := [.int 0, .int 9]) (enc' := eI) hc rfl (sTa_passNumber 0 9 _) (ci := 8) (by decide) lC2 (zkC lC2) rfl wMX0_170 hpyX8_passNumber hmyX8_passNumber (rm_ok hRm (Nat.le_of_ble_eq_true rfl) (Nat.le_of_ble_eq_true rfl)) (Nat.le_of_ble_eq_true rfl) hRm.2.2 dX0_readMoreRain_9 (fun c1 u1 f1 => ?_)
  refine z_istore_n (L' := [(3, .int c1), (2, .int x1), (0, .ref r0), (1, .ref 2)]) hc dX0_readMoreRain_12 rfl (by decide) rfl rfl ?_
  refine z_aload_n hc dX0_readMoreRain_13 3 rfl rfl ?_
  refine z_callV (av := []) (enc' := eI) hc rfl (sTa_isFine _) (ci := 8) (by decide) lC2 (zkC lC2) rfl wMX0_72 hpyX8_isFine hmyX8_isFine (rm_ok hRm (Nat.le_of_ble_eq_true rfl) (Nat.le_of_ble_eq_true rfl)) (Nat.le_of_ble_eq_true rfl) hRm.2.2 dX0_readMoreRain_14 (fun c2 u2 f2 => ?_)
  refine z_if_ne (tgt := 21) hc dX0_readMoreRain_17 (by decide) _ (fun h2 => ?_) (fun h2 => ?_)
  · refine z_aload_n hc dX0_readMoreRain_21 2 rfl rfl ?_
    refine z_getI hc (ci := 0) (k := 14) (by decide) (by decide) zly0 h1 (zkC h1) wFX0_87 rfl dX0_readMoreRain_22 ?_
    refine z_bipush (v := 12) hc dX0_readMoreRain_25 rfl ?_
    refine z_icmp_lt (tgt := 39) hc dX0_readMoreRain_27 (by decide) _ (fun h3 => ?_) (fun h3 => ?_)
    · refine z_aload_n hc dX0_readMoreRain_39 2 rfl rfl ?_
      refine z_getR (x := (r0 + 17)) hc (ci := 0) (k := 12) (by decide) (by decide) zly0 h1 (zkC h1) wFX0_54 rfl dX0_readMoreRain_40 (rfC_off (off := 17) h1 rfl (by decide)) (Nat.le_add_left_of_le (by decide)) ?_
      refine z_aload_n hc dX0_readMoreRain_43 2 rfl rfl ?_
      refine z_getI hc (ci := 0) (k := 14) (by decide) (by decide) zly0 h1 (zkC h1) wFX0_87 rfl dX0_readMoreRain_44 ?_
      refine z_iload_n hc dX0_readMoreRain_47 0 rfl rfl ?_
      refine zJ.chk _ (fun h4 => ?_)
      refine z_iast (k := (ix (gI u2 r0 14))) hc (lyC_10_17 h1) (zkC (lyC_10_17 h1)) h4 rfl dX0_readMoreRain_48 ?_
      refine zJ.letM (fun u3 e2 => ?_)
      refine z_aload_n hc dX0_readMoreRain_49 2 rfl rfl ?_
      refine z_dup hc dX0_readMoreRain_50 rfl ?_
      refine z_getI hc (ci := 0) (k := 14) (by decide) (by decide) zly0 h1 (zkC h1) wFX0_87 rfl dX0_readMoreRain_51 ?_
      refine z_iconst (v := 1) hc dX0_readMoreRain_54 rfl ?_
      refine z_iadd hc dX0_readMoreRain_55 ?_
      refine z_putI hc (ci := 0) (k := 14) (by decide) (by decide) zly0 h1 (zkC h1) wFX0_87 rfl rfl rfl rfl dX0_readMoreRain_56 ?_
      refine zJ.letM (fun u4 e3 => ?_)
      exact z_vret hc dX0_readMoreRain_59
    · refine z_aload_n hc dX0_readMoreRain_30 3 rfl rfl ?_
      refine z_iconst (v := 5) hc dX0_readMoreRain_31 rfl ?_
      refine z_iload_n hc dX0_readMoreRain_32 1 rfl rfl ?_
      refine z_callV (av := [.int 5, .int x1]) (enc' := eV) hc rfl (sTa_failAt 5 x1 _) (ci := 8) (by decide) lC2 (zkC lC2) rfl wMX0_192 hpyX8_failAt hmyX8_failAt (rm_ok hRm (Nat.le_of_ble_eq_true rfl) (Nat.le_of_ble_eq_true rfl)) (Nat.le_of_ble_eq_true rfl) hRm.2.2 dX0_readMoreRain_33 (fun c3 u5 f3 => ?_)
      refine z_goto (tgt := 59) hc dX0_readMoreRain_36 (by decide) ?_
      exact z_vret hc dX0_readMoreRain_59
  · exact z_vret hc dX0_readMoreRain_20
set_option maxRecDepth 100000 in
set_option maxHeartbeats 4000000 in
theorem sCo_readRain_37b {fin : Unit × zM} (hc : zCx p s mi args meth c (wC D b) m0 RX0 cX0_readRain 3 none) (hRm : R.frames = 4 ∧ R.locals = 89 ∧ R.cells = zc (wC D b) m0 fin.2 ∧ R.slots = zs (wC D b) m0 fin.2) {zr37 : Nat → Int32 → zM → Option (Unit × zM)} (hr37 : ∀ (r0 : Nat) (v2 : Int32) (u : zM), zJ eV p l e R s mi args below meth c (wC D b) m0 3 fin 37 [(0, .ref r0), (1, .ref 2), (2, .int v2)] [] u (zr37 r0 v2 u)) (r0 : Nat) (v2 : Int32) (u : zM) : zJ eV p l e R s mi args below meth c (wC D b) m0 3 fin 37 [(0, .ref r0), (1, .ref 2), (2, .int v2)] [] u (Co_readRain_37b zr37 r0 v2 u) := by
  unfold Co_readRain_37b
  refine zJ.chk _ (fun h1 => ?_)
  refine z_iload_n hc dX0_readRain_37 2 rfl rfl ?_
  refine z_bipush (v := 12) hc dX0_readRain_38 rfl ?_
  refine z_icmp_gt (tgt := 61) hc dX0_readRain_40 (by decide) _ (fun h2 => ?_) (fun h2 => ?_)
  · refine z_aload_n hc dX0_readRain_61 1 rfl rfl ?_
    refine z_bipush (v := 59) hc dX0_readRain_62 rfl ?_
    refine z_callV (av := [.int 59]) (enc' := eV) hc rfl (sTa_passSign 59 _) (ci := 8) (by decide) lC2 (zkC lC2) rfl wMX0_174 hpyX8_passSign hmyX8_passSign (rm_ok hRm (Nat.le_of_ble_eq_true rfl) (Nat.le_of_ble_eq_true rfl)) (Nat.le_of_ble_eq_true rfl) hRm.2.2 dX0_readRain_64 (fun c1 u1 f1 => ?_)
    exact z_vret hc dX0_readRain_67
  · refine z_aload_n hc dX0_readRain_43 1 rfl rfl ?_
    refine z_callV (av := []) (enc' := eI) hc rfl (sTa_atNumber _) (ci := 8) (by decide) lC2 (zkC lC2) rfl wMX0_219 hpyX8_atNumber hmyX8_atNumber (rm_ok hRm (Nat.le_of_ble_eq_true rfl) (Nat.le_of_ble_eq_true rfl)) (Nat.le_of_ble_eq_true rfl) hRm.2.2 dX0_readRain_44 (fun c2 u2 f2 => ?_)
    refine z_if_eq (tgt := 61) hc dX0_readRain_47 (by decide) _ (fun h3 => ?_) (fun h3 => ?_)
    · refine z_aload_n hc dX0_readRain_61 1 rfl rfl ?_
      refine z_bipush (v := 59) hc dX0_readRain_62 rfl ?_
      refine z_callV (av := [.int 59]) (enc' := eV) hc rfl (sTa_passSign 59 _) (ci := 8) (by decide) lC2 (zkC lC2) rfl wMX0_174 hpyX8_passSign hmyX8_passSign (rm_ok hRm (Nat.le_of_ble_eq_true rfl) (Nat.le_of_ble_eq_true rfl)) (Nat.le_of_ble_eq_true rfl) hRm.2.2 dX0_readRain_64 (fun c3 u3 f3 => ?_)
      exact z_vret hc dX0_readRain_67
    · refine z_aload_n hc dX0_readRain_50 0 rfl rfl ?_
      refine z_aload_n hc dX0_readRain_51 1 rfl rfl ?_
      refine z_callV (av := [.ref 2]) (enc' := eV) hc rfl (sCo_readMoreRain r0 _) (ci := 0) (by decide) h1 (zkC h1) rfl wMX0_222 hpyX0_readMoreRain hmyX0_readMoreRain (rm_ok hRm (Nat.le_of_ble_eq_true rfl) (Nat.le_of_ble_eq_true rfl)) (Nat.le_of_ble_eq_true rfl) hRm.2.2 dX0_readRain_52 (fun c4 u4 f4 => ?_)
      refine z_iinc (L' := [(2, .int (v2 + 1)), (0, .ref r0), (1, .ref 2)]) hc dX0_readRain_55 2 rfl (v := (v2 + 1)) rfl (by decide) rfl rfl ?_
      refine z_goto (tgt := 37) hc dX0_readRain_58 (by decide) ?_
      refine zJ.sub (L' := [(0, .ref r0), (1, .ref 2), (2, .int (v2 + 1))]) [1, 2, 0] rfl ?_
      exact hr37 r0 (v2 + 1) _
set_option maxRecDepth 100000 in
set_option maxHeartbeats 4000000 in
theorem sCo_readRain_37 {fin : Unit × zM} (hc : zCx p s mi args meth c (wC D b) m0 RX0 cX0_readRain 3 none) (hRm : R.frames = 4 ∧ R.locals = 89 ∧ R.cells = zc (wC D b) m0 fin.2 ∧ R.slots = zs (wC D b) m0 fin.2) : ∀ (zf : Nat) (r0 : Nat) (v2 : Int32) (u : zM), zJ eV p l e R s mi args below meth c (wC D b) m0 3 fin 37 [(0, .ref r0), (1, .ref 2), (2, .int v2)] [] u (Co_readRain_37 zf r0 v2 u) := by
  intro zf
  induction zf with
  | zero => intro r0 v2 u; exact zJ.nil
  | succ zf ih => intro r0 v2 u; exact sCo_readRain_37b hc hRm ih r0 v2 u
set_option maxRecDepth 100000 in
set_option maxHeartbeats 4000000 in
theorem sCo_readRain : ∀ (r0 : Nat) (u : zM) r m1, Co_readRain r0 u = some (r, m1) → zMet l (wC D b) 4 89 yX0_readRain cX0_readRain 3 none [.ref r0, .ref 2] u (eV r) m1 := by
  intro r0 u
  refine zMet.of (L := [(0, .ref r0), (1, .ref 2)]) RX0 (by decide +kernel) rfl (Nat.le_of_ble_eq_true rfl) (fun h => by cases h) rfl (fun p e s mi args below meth c R fin hc hin hRm => ?_)
  unfold Co_readRain
  refine zJ.chk _ (fun h1 => ?_)
  refine z_aload_n hc dX0_readRain_0 0 rfl rfl ?_
  refine z_getI hc (ci := 0) (k := 14) (by decide) (by decide) zly0 h1 (zkC h1) wFX0_87 rfl dX0_readRain_1 ?_
  refine z_if_le (tgt := 13) hc dX0_readRain_4 (by decide) _ (fun h2 => ?_) (fun h2 => ?_)
  · refine z_aload_n hc dX0_readRain_13 1 rfl rfl ?_
    refine z_callV (av := []) (enc' := eV) hc rfl (sTa_step _) (ci := 8) (by decide) lC2 (zkC lC2) rfl wMX0_136 hpyX8_step hmyX8_step (rm_ok hRm (Nat.le_of_ble_eq_true rfl) (Nat.le_of_ble_eq_true rfl)) (Nat.le_of_ble_eq_true rfl) hRm.2.2 dX0_readRain_14 (fun c1 u1 f1 => ?_)
    refine z_aload_n hc dX0_readRain_17 0 rfl rfl ?_
    refine z_getR (x := (r0 + 17)) hc (ci := 0) (k := 12) (by decide) (by decide) zly0 h1 (zkC h1) wFX0_54 rfl dX0_readRain_18 (rfC_off (off := 17) h1 rfl (by decide)) (Nat.le_add_left_of_le (by decide)) ?_
    refine z_iconst (v := 0) hc dX0_readRain_21 rfl ?_
    refine z_aload_n hc dX0_readRain_22 1 rfl rfl ?_
    refine z_iconst (v := 0) hc dX0_readRain_23 rfl ?_
    refine z_bipush (v := 9) hc dX0_readRain_24 rfl ?_
    refine z_callV (av := [.int 0, .int 9]) (enc' := eI) hc rfl (sTa_passNumber 0 9 _) (ci := 8) (by decide) lC2 (zkC lC2) rfl wMX0_170 hpyX8_passNumber hmyX8_passNumber (rm_ok hRm (Nat.le_of_ble_eq_true rfl) (Nat.le_of_ble_eq_true rfl)) (Nat.le_of_ble_eq_true rfl) hRm.2.2 dX0_readRain_26 (fun c2 u2 f2 => ?_)
    refine z_iast (k := 0) hc (lyC_10_17 h1) (zkC (lyC_10_17 h1)) rfl rfl dX0_readRain_29 ?_
    refine zJ.letM (fun u3 e1 => ?_)
    refine z_aload_n hc dX0_readRain_30 0 rfl rfl ?_
    refine z_iconst (v := 1) hc dX0_readRain_31 rfl ?_
    refine z_putI hc (ci := 0) (k := 14) (by decide) (by decide) zly0 h1 (zkC h1) wFX0_87 rfl rfl rfl rfl dX0_readRain_32 ?_
    refine zJ.letM (fun u4 e2 => ?_)
    refine z_iconst (v := 1) hc dX0_readRain_35 rfl ?_
    refine z_istore_n (L' := [(2, .int 1), (0, .ref r0), (1, .ref 2)]) hc dX0_readRain_36 rfl (by decide) rfl rfl ?_
    refine zJ.sub (L' := [(0, .ref r0), (1, .ref 2), (2, .int 1)]) [1, 2, 0] rfl ?_
    exact sCo_readRain_37 hc hRm zF r0 1 _
  · refine z_aload_n hc dX0_readRain_7 1 rfl rfl ?_
    refine z_iconst (v := 3) hc dX0_readRain_8 rfl ?_
    refine z_callV (av := [.int 3]) (enc' := eV) hc rfl (sTa_fail 3 _) (ci := 8) (by decide) lC2 (zkC lC2) rfl wMX0_133 hpyX8_fail hmyX8_fail (rm_ok hRm (Nat.le_of_ble_eq_true rfl) (Nat.le_of_ble_eq_true rfl)) (Nat.le_of_ble_eq_true rfl) hRm.2.2 dX0_readRain_9 (fun c3 u5 f3 => ?_)
    exact z_vret hc dX0_readRain_12
set_option maxRecDepth 100000 in
set_option maxHeartbeats 4000000 in
theorem sLa_simpleStep : ∀ (u : zM) r m1, La_simpleStep u = some (r, m1) → zMet l (wC D b) 1 22 yX1_simpleStep cX1_simpleStep 1 (some .int) [.ref 2] u (eI r) m1 := by
  intro u
  refine zMet.of (L := [(0, .ref 2)]) RX1 (by decide +kernel) rfl (Nat.le_of_ble_eq_true rfl) (fun h => by cases h) rfl (fun p e s mi args below meth c R fin hc hin hRm => ?_)
  unfold La_simpleStep
  refine z_aload_n hc dX1_simpleStep_0 0 rfl rfl ?_
  refine z_callV (av := []) (enc' := eI) hc rfl (sTa_atNumber _) (ci := 8) (by decide) lC2 (zkC lC2) rfl wMX1_72 hpyX8_atNumber hmyX8_atNumber (rm_ok hRm (Nat.le_of_ble_eq_true rfl) (Nat.le_of_ble_eq_true rfl)) (Nat.le_of_ble_eq_true rfl) hRm.2.2 dX1_simpleStep_1 (fun c1 u1 f1 => ?_)
  refine z_if_eq (tgt := 13) hc dX1_simpleStep_4 (by decide) _ (fun h1 => ?_) (fun h1 => ?_)
  · refine z_aload_n hc dX1_simpleStep_13 0 rfl rfl ?_
    refine z_ldc2 (v := 465558725996) hc wKX1_80 dX1_simpleStep_14 ?_
    refine z_callV (av := [.long 465558725996]) (enc' := eI) hc rfl (sTa_atWord 465558725996 _) (ci := 8) (by decide) lC2 (zkC lC2) rfl wMX1_28 hpyX8_atWord hmyX8_atWord (rm_ok hRm (Nat.le_of_ble_eq_true rfl) (Nat.le_of_ble_eq_true rfl)) (Nat.le_of_ble_eq_true rfl) hRm.2.2 dX1_simpleStep_17 (fun c2 u2 f2 => ?_)
    refine z_if_eq (tgt := 25) hc dX1_simpleStep_20 (by decide) _ (fun h2 => ?_) (fun h2 => ?_)
    · refine z_aload_n hc dX1_simpleStep_25 0 rfl rfl ?_
      refine z_ldc2 (v := 439721159795) hc wKX1_82 dX1_simpleStep_26 ?_
      refine z_callV (av := [.long 439721159795]) (enc' := eI) hc rfl (sTa_atWord 439721159795 _) (ci := 8) (by decide) lC2 (zkC lC2) rfl wMX1_28 hpyX8_atWord hmyX8_atWord (rm_ok hRm (Nat.le_of_ble_eq_true rfl) (Nat.le_of_ble_eq_true rfl)) (Nat.le_of_ble_eq_true rfl) hRm.2.2 dX1_simpleStep_29 (fun c3 u3 f3 => ?_)
      refine z_if_eq (tgt := 38) hc dX1_simpleStep_32 (by decide) _ (fun h3 => ?_) (fun h3 => ?_)
      · refine z_aload_n hc dX1_simpleStep_38 0 rfl rfl ?_
        refine z_ldc2 (v := 2002876787) hc wKX1_84 dX1_simpleStep_39 ?_
        refine z_callV (av := [.long 2002876787]) (enc' := eI) hc rfl (sTa_atWord 2002876787 _) (ci := 8) (by decide) lC2 (zkC lC2) rfl wMX1_28 hpyX8_atWord hmyX8_atWord (rm_ok hRm (Nat.le_of_ble_eq_true rfl) (Nat.le_of_ble_eq_true rfl)) (Nat.le_of_ble_eq_true rfl) hRm.2.2 dX1_simpleStep_42 (fun c4 u4 f4 => ?_)
        refine z_if_eq (tgt := 51) hc dX1_simpleStep_45 (by decide) _ (fun h4 => ?_) (fun h4 => ?_)
        · refine z_aload_n hc dX1_simpleStep_51 0 rfl rfl ?_
          refine z_ldc2 (v := 1684108389) hc wKX1_86 dX1_simpleStep_52 ?_
          refine z_callV (av := [.long 1684108389]) (enc' := eI) hc rfl (sTa_atWord 1684108389 _) (ci := 8) (by decide) lC2 (zkC lC2) rfl wMX1_28 hpyX8_atWord hmyX8_atWord (rm_ok hRm (Nat.le_of_ble_eq_true rfl) (Nat.le_of_ble_eq_true rfl)) (Nat.le_of_ble_eq_true rfl) hRm.2.2 dX1_simpleStep_55 (fun c5 u5 f5 => ?_)
          refine z_if_eq (tgt := 66) hc dX1_simpleStep_58 (by decide) _ (fun h5 => ?_) (fun h5 => ?_)
          · refine z_bipush (v := (-13)) hc dX1_simpleStep_66 rfl ?_
            exact z_iret hc dX1_simpleStep_68
          · refine z_bipush (v := (-4)) hc dX1_simpleStep_61 rfl ?_
            refine z_goto (tgt := 68) hc dX1_simpleStep_63 (by decide) ?_
            exact z_iret hc dX1_simpleStep_68
        · refine z_bipush (v := (-3)) hc dX1_simpleStep_48 rfl ?_
          exact z_iret hc dX1_simpleStep_50
      · refine z_bipush (v := (-2)) hc dX1_simpleStep_35 rfl ?_
        exact z_iret hc dX1_simpleStep_37
    · refine z_iconst (v := (-1)) hc dX1_simpleStep_23 rfl ?_
      exact z_iret hc dX1_simpleStep_24
  · refine z_aload_n hc dX1_simpleStep_7 0 rfl rfl ?_
    refine z_getL hc (ci := 8) (k := 5) (by decide) (by decide) zly8 lC2 (zkC lC2) wFX1_76 rfl dX1_simpleStep_8 ?_
    refine z_l2i hc dX1_simpleStep_11 ?_
    exact z_iret hc dX1_simpleStep_12
set_option maxRecDepth 100000 in
set_option maxHeartbeats 4000000 in
theorem sLa_put : ∀ (r0 : Nat) (v1 : Int32) (u : zM) r m1, La_put r0 v1 u = some (r, m1) → zMet l (wC D b) 0 0 yX1_put cX1_put 2 none [.ref r0, .int v1] u (eV r) m1 := by
  intro r0 v1 u
  refine zMet.of (L := [(0, .ref r0), (1, .int v1)]) RX1 (by decide +kernel) rfl (Nat.le_of_ble_eq_true rfl) (fun h => by cases h) rfl (fun p e s mi args below meth c R fin hc hin hRm => ?_)
  unfold La_put
  refine zJ.chk _ (fun h1 => ?_)
  refine z_aload_n hc dX1_put_0 0 rfl rfl ?_
  refine z_getI hc (ci := 1) (k := 2) (by decide) (by decide) zly1 h1 (zkC h1) wFX1_18 rfl dX1_put_1 ?_
  refine z_sipush (v := 1000) hc dX1_put_4 rfl ?_
  refine z_icmp_ge (tgt := 30) hc dX1_put_7 (by decide) _ (fun h2 => ?_) (fun h2 => ?_)
  · exact z_vret hc dX1_put_30
  · refine z_aload_n hc dX1_put_10 0 rfl rfl ?_
    refine z_getR (x := (r0 + 1)) hc (ci := 1) (k := 0) (by decide) (by decide) zly1 h1 (zkC h1) wFX1_9 rfl dX1_put_11 (rfC_off (off := 1) h1 rfl (by decide)) (Nat.le_add_left_of_le (by decide)) ?_
    refine z_aload_n hc dX1_put_14 0 rfl rfl ?_
    refine z_getI hc (ci := 1) (k := 2) (by decide) (by decide) zly1 h1 (zkC h1) wFX1_18 rfl dX1_put_15 ?_
    refine z_iload_n hc dX1_put_18 1 rfl rfl ?_
    refine zJ.chk _ (fun h3 => ?_)
    refine z_iast (k := (ix (gI u r0 2))) hc (lyC_11_1 h1) (zkC (lyC_11_1 h1)) h3 rfl dX1_put_19 ?_
    refine zJ.letM (fun u1 e1 => ?_)
    refine z_aload_n hc dX1_put_20 0 rfl rfl ?_
    refine z_dup hc dX1_put_21 rfl ?_
    refine z_getI hc (ci := 1) (k := 2) (by decide) (by decide) zly1 h1 (zkC h1) wFX1_18 rfl dX1_put_22 ?_
    refine z_iconst (v := 1) hc dX1_put_25 rfl ?_
    refine z_iadd hc dX1_put_26 ?_
    refine z_putI hc (ci := 1) (k := 2) (by decide) (by decide) zly1 h1 (zkC h1) wFX1_18 rfl rfl rfl rfl dX1_put_27 ?_
    refine zJ.letM (fun u2 e2 => ?_)
    exact z_vret hc dX1_put_30
set_option maxRecDepth 100000 in
set_option maxHeartbeats 4000000 in
theorem sLa_readPart_44 {zn : Nat} {fin : Unit × zM} (hc : zCx p s mi args meth c (wC D b) m0 RX1 cX1_readPart 6 none) (hRm : R.frames = 3 + (zn + 1) ∧ R.locals = 64 + (zn + 1) * 25 ∧ R.cells = zc (wC D b) m0 fin.2 ∧ R.slots = zs (wC D b) m0 fin.2) {zq : Nat → Nat → Int32 → zM → Option (Unit × zM)} (hzq0 : ∀ (r0 : Nat) (v2 : Int32) (u : zM) r m1, zq 0 r0 v2 u = some (r, m1) → zMet l (wC D b) (3 + zn) (64 + zn * 25) yX1_readExpression cX1_readExpression 5 none [.ref r0, .ref 2, .int v2] u (eV r) m1) (hzq1 : ∀ (r0 : Nat) (v2 : Int32) (u : zM) r m1, zq 1 r0 v2 u = some (r, m1) → zMet l (wC D b) (3 + zn) (64 + zn * 25) yX1_readTest cX1_readTest 4 none [.ref r0, .ref 2, .int v2] u (eV r) m1) (hzq2 : ∀ (r0 : Nat) (v2 : Int32) (u : zM) r m1, zq 2 r0 v2 u = some (r, m1) → zMet l (wC D b) (3 + zn) (64 + zn * 25) yX1_readSum cX1_readSum 5 none [.ref r0, .ref 2, .int v2] u (eV r) m1) (hzq3 : ∀ (r0 : Nat) (v2 : Int32) (u : zM) r m1, zq 3 r0 v2 u = some (r, m1) → zMet l (wC D b) (3 + zn) (64 + zn * 25) yX1_readProduct cX1_readProduct 4 none [.ref r0, .ref 2, .int v2] u (eV r) m1) (hzq4 : ∀ (r0 : Nat) (v2 : Int32) (u : zM) r m1, zq 4 r0 v2 u = some (r, m1) → zMet l (wC D b) (3 + zn) (64 + zn * 25) yX1_readPart cX1_readPart 6 none [.ref r0, .ref 2, .int v2] u (eV r) m1) (r0 : Nat) (v2 : Int32) (v3 : Int32) (v4 : Int32) (v5 : Int32) (u : zM) : zJ eV p l e R s mi args below meth c (wC D b) m0 6 fin 44 [(0, .ref r0), (1, .ref 2), (2, .int v2), (3, .int v3), (4, .int v4), (5, .int v5)] [] u (La_readPart_44 zq r0 v2 v3 v4 v5 u) := by
  unfold La_readPart_44
  refine zJ.chk _ (fun h1 => ?_)
  refine z_iload_n hc dX1_readPart_44 2 rfl rfl ?_
  refine z_iconst (v := 5) hc dX1_readPart_45 rfl ?_
  refine z_icmp_lt (tgt := 55) hc dX1_readPart_46 (by decide) _ (fun h2 => ?_) (fun h2 => ?_)
  · refine z_aload_n hc dX1_readPart_55 1 rfl rfl ?_
    refine z_callV (av := []) (enc' := eV) hc rfl (sTa_step _) (ci := 8) (by decide) lC2 (zkC lC2) rfl wMX1_36 hpyX8_step hmyX8_step (rm_ok hRm (by omega) (by omega)) (Nat.le_of_ble_eq_true rfl) hRm.2.2 dX1_readPart_56 (fun c1 u1 f1 => ?_)
    refine z_iload_n hc dX1_readPart_59 3 rfl rfl ?_
    refine z_if_eq (tgt := 80) hc dX1_readPart_60 (by decide) _ (fun h3 => ?_) (fun h3 => ?_)
    · refine z_iload hc dX1_readPart_80 4 rfl ?_
      refine z_if_eq (tgt := 102) hc dX1_readPart_82 (by decide) _ (fun h4 => ?_) (fun h4 => ?_)
      · refine z_aload_n hc dX1_readPart_102 0 rfl rfl ?_
        refine z_iload hc dX1_readPart_103 5 rfl ?_
        refine z_callV (av := [.int v5]) (enc' := eV) hc rfl (sLa_put r0 v5 _) (ci := 1) (by decide) h1 (zkC h1) rfl wMX1_39 hpyX1_put hmyX1_put (rm_ok hRm (by omega) (by omega)) (Nat.le_of_ble_eq_true rfl) hRm.2.2 dX1_readPart_105 (fun c2 u2 f2 => ?_)
        exact z_vret hc dX1_readPart_108
      · refine z_aload_n hc dX1_readPart_85 0 rfl rfl ?_
        refine z_aload_n hc dX1_readPart_86 1 rfl rfl ?_
        refine z_iload_n hc dX1_readPart_87 2 rfl rfl ?_
        refine z_iconst (v := 1) hc dX1_readPart_88 rfl ?_
        refine z_iadd hc dX1_readPart_89 ?_
        refine z_callV (av := [.ref 2, .int (v2 + 1)]) (enc' := eV) hc rfl (hzq0 r0 (v2 + 1) _) (ci := 1) (by decide) h1 (zkC h1) rfl wMX1_65 hpyX1_readExpression hmyX1_readExpression (rm_ok hRm (by omega) (by omega)) (Nat.le_of_ble_eq_true rfl) hRm.2.2 dX1_readPart_90 (fun c3 u3 f3 => ?_)
        refine z_aload_n hc dX1_readPart_93 1 rfl rfl ?_
        refine z_bipush (v := 41) hc dX1_readPart_94 rfl ?_
        refine z_callV (av := [.int 41]) (enc' := eV) hc rfl (sTa_passSign 41 _) (ci := 8) (by decide) lC2 (zkC lC2) rfl wMX1_68 hpyX8_passSign hmyX8_passSign (rm_ok hRm (by omega) (by omega)) (Nat.le_of_ble_eq_true rfl) hRm.2.2 dX1_readPart_96 (fun c4 u4 f4 => ?_)
        refine z_goto (tgt := 108) hc dX1_readPart_99 (by decide) ?_
        exact z_vret hc dX1_readPart_108
    · refine z_aload_n hc dX1_readPart_63 0 rfl rfl ?_
      refine z_aload_n hc dX1_readPart_64 1 rfl rfl ?_
      refine z_iload_n hc dX1_readPart_65 2 rfl rfl ?_
      refine z_iconst (v := 1) hc dX1_readPart_66 rfl ?_
      refine z_iadd hc dX1_readPart_67 ?_
      refine z_callV (av := [.ref 2, .int (v2 + 1)]) (enc' := eV) hc rfl (hzq4 r0 (v2 + 1) _) (ci := 1) (by decide) h1 (zkC h1) rfl wMX1_53 hpyX1_readPart hmyX1_readPart (rm_ok hRm (by omega) (by omega)) (Nat.le_of_ble_eq_true rfl) hRm.2.2 dX1_readPart_68 (fun c5 u5 f5 => ?_)
      refine z_aload_n hc dX1_readPart_71 0 rfl rfl ?_
      refine z_bipush (v := (-5)) hc dX1_readPart_72 rfl ?_
      refine z_callV (av := [.int (-5)]) (enc' := eV) hc rfl (sLa_put r0 (-5) _) (ci := 1) (by decide) h1 (zkC h1) rfl wMX1_39 hpyX1_put hmyX1_put (rm_ok hRm (by omega) (by omega)) (Nat.le_of_ble_eq_true rfl) hRm.2.2 dX1_readPart_74 (fun c6 u6 f6 => ?_)
      refine z_goto (tgt := 108) hc dX1_readPart_77 (by decide) ?_
      exact z_vret hc dX1_readPart_108
  · refine z_aload_n hc dX1_readPart_49 1 rfl rfl ?_
    refine z_iconst (v := 5) hc dX1_readPart_50 rfl ?_
    refine z_callV (av := [.int 5]) (enc' := eV) hc rfl (sTa_fail 5 _) (ci := 8) (by decide) lC2 (zkC lC2) rfl wMX1_62 hpyX8_fail hmyX8_fail (rm_ok hRm (by omega) (by omega)) (Nat.le_of_ble_eq_true rfl) hRm.2.2 dX1_readPart_51 (fun c7 u7 f7 => ?_)
    exact z_vret hc dX1_readPart_54
set_option maxRecDepth 100000 in
set_option maxHeartbeats 4000000 in
theorem sLa_readPart_b {zn : Nat} {zq : Nat → Nat → Int32 → zM → Option (Unit × zM)} (hzq0 : ∀ (r0 : Nat) (v2 : Int32) (u : zM) r m1, zq 0 r0 v2 u = some (r, m1) → zMet l (wC D b) (3 + zn) (64 + zn * 25) yX1_readExpression cX1_readExpression 5 none [.ref r0, .ref 2, .int v2] u (eV r) m1) (hzq1 : ∀ (r0 : Nat) (v2 : Int32) (u : zM) r m1, zq 1 r0 v2 u = some (r, m1) → zMet l (wC D b) (3 + zn) (64 + zn * 25) yX1_readTest cX1_readTest 4 none [.ref r0, .ref 2, .int v2] u (eV r) m1) (hzq2 : ∀ (r0 : Nat) (v2 : Int32) (u : zM) r m1, zq 2 r0 v2 u = some (r, m1) → zMet l (wC D b) (3 + zn) (64 + zn * 25) yX1_readSum cX1_readSum 5 none [.ref r0, .ref 2, .int v2] u (eV r) m1) (hzq3 : ∀ (r0 : Nat) (v2 : Int32) (u : zM) r m1, zq 3 r0 v2 u = some (r, m1) → zMet l (wC D b) (3 + zn) (64 + zn * 25) yX1_readProduct cX1_readProduct 4 none [.ref r0, .ref 2, .int v2] u (eV r) m1) (hzq4 : ∀ (r0 : Nat) (v2 : Int32) (u : zM) r m1, zq 4 r0 v2 u = some (r, m1) → zMet l (wC D b) (3 + zn) (64 + zn * 25) yX1_readPart cX1_readPart 6 none [.ref r0, .ref 2, .int v2] u (eV r) m1) : ∀ (r0 : Nat) (v2 : Int32) (u : zM) r m1, La_readPart zq r0 v2 u = some (r, m1) → zMet l (wC D b) (3 + (zn + 1)) (64 + (zn + 1) * 25) yX1_readPart cX1_readPart 6 none [.ref r0, .ref 2, .int v2] u (eV r) m1 := by
  intro r0 v2 u
  refine zMet.of (L := [(0, .ref r0), (1, .ref 2), (2, .int v2)]) RX1 (by decide +kernel) rfl (Nat.le_of_ble_eq_true rfl) (fun h => by cases h) rfl (fun p e s mi args below meth c R fin hc hin hRm => ?_)
  unfold La_readPart
  refine zJ.chk _ (fun h1 => ?_)
  refine z_aload_n hc dX1_readPart_0 1 rfl rfl ?_
  refine z_ldc2 (v := 7237492) hc wKX1_56 dX1_readPart_1 ?_
  refine z_callV (av := [.long 7237492]) (enc' := eI) hc rfl (sTa_atWord 7237492 _) (ci := 8) (by decide) lC2 (zkC lC2) rfl wMX1_28 hpyX8_atWord hmyX8_atWord (rm_ok hRm (by omega) (by omega)) (Nat.le_of_ble_eq_true rfl) hRm.2.2 dX1_readPart_4 (fun c1 u1 f1 => ?_)
  refine z_istore_n (L' := [(3, .int c1), (0, .ref r0), (1, .ref 2), (2, .int v2)]) hc dX1_readPart_7 rfl (by decide) rfl rfl ?_
  refine z_aload_n hc dX1_readPart_8 2 rfl rfl ?_
  refine z_bipush (v := 40) hc dX1_readPart_9 rfl ?_
  refine z_callV (av := [.int 40]) (enc' := eI) hc rfl (sTa_atSign 40 _) (ci := 8) (by decide) lC2 (zkC lC2) rfl wMX1_46 hpyX8_atSign hmyX8_atSign (rm_ok hRm (by omega) (by omega)) (Nat.le_of_ble_eq_true rfl) hRm.2.2 dX1_readPart_11 (fun c2 u2 f2 => ?_)
  refine z_istore (L' := [(4, .int c2), (3, .int c1), (0, .ref r0), (1, .ref 2), (2, .int v2)]) hc dX1_readPart_14 (by decide) rfl rfl ?_
  refine z_aload_n hc dX1_readPart_16 3 rfl rfl ?_
  refine z_callS (av := [.ref 2]) (enc' := eI) hc rfl (sLa_simpleStep _) wMX1_58 hpyX1_simpleStep hmyX1_simpleStep (rm_ok hRm (by omega) (by omega)) (Nat.le_of_ble_eq_true rfl) hRm.2.2 dX1_readPart_17 (fun c3 u3 f3 => ?_)
  refine z_istore (L' := [(5, .int c3), (4, .int c2), (3, .int c1), (0, .ref r0), (1, .ref 2), (2, .int v2)]) hc dX1_readPart_20 (by decide) rfl rfl ?_
  refine z_iload_n hc dX1_readPart_22 2 rfl rfl ?_
  refine z_if_ne (tgt := 44) hc dX1_readPart_23 (by decide) _ (fun h2 => ?_) (fun h2 => ?_)
  · refine zJ.sub (L' := [(0, .ref r0), (1, .ref 2), (2, .int v2), (3, .int c1), (4, .int c2), (5, .int c3)]) [3, 4, 5, 2, 1, 0] rfl ?_
    exact sLa_readPart_44 hc hRm hzq0 hzq1 hzq2 hzq3 hzq4 r0 v2 c1 c2 c3 _
  · refine z_iload hc dX1_readPart_26 1 rfl ?_
    refine z_if_ne (tgt := 44) hc dX1_readPart_28 (by decide) _ (fun h3 => ?_) (fun h3 => ?_)
    · refine zJ.sub (L' := [(0, .ref r0), (1, .ref 2), (2, .int v2), (3, .int c1), (4, .int c2), (5, .int c3)]) [3, 4, 5, 2, 1, 0] rfl ?_
      exact sLa_readPart_44 hc hRm hzq0 hzq1 hzq2 hzq3 hzq4 r0 v2 c1 c2 c3 _
    · refine z_iload hc dX1_readPart_31 0 rfl ?_
      refine z_bipush (v := (-13)) hc dX1_readPart_33 rfl ?_
      refine z_icmp_ne (tgt := 44) hc dX1_readPart_35 (by decide) _ (fun h4 => ?_) (fun h4 => ?_)
      · refine zJ.sub (L' := [(0, .ref r0), (1, .ref 2), (2, .int v2), (3, .int c1), (4, .int c2), (5, .int c3)]) [3, 4, 5, 2, 1, 0] rfl ?_
        exact sLa_readPart_44 hc hRm hzq0 hzq1 hzq2 hzq3 hzq4 r0 v2 c1 c2 c3 _
      · refine z_aload_n hc dX1_readPart_38 4 rfl rfl ?_
        refine z_iconst (v := 1) hc dX1_readPart_39 rfl ?_
        refine z_callV (av := [.int 1]) (enc' := eV) hc rfl (sTa_fail 1 _) (ci := 8) (by decide) lC2 (zkC lC2) rfl wMX1_62 hpyX8_fail hmyX8_fail (rm_ok hRm (by omega) (by omega)) (Nat.le_of_ble_eq_true rfl) hRm.2.2 dX1_readPart_40 (fun c4 u4 f4 => ?_)
        exact z_vret hc dX1_readPart_43
set_option maxRecDepth 100000 in
set_option maxHeartbeats 4000000 in
theorem sLa_readProduct_8b {zn : Nat} {fin : Unit × zM} (hc : zCx p s mi args meth c (wC D b) m0 RX1 cX1_readProduct 4 none) (hRm : R.frames = 3 + (zn + 1) ∧ R.locals = 64 + (zn + 1) * 25 ∧ R.cells = zc (wC D b) m0 fin.2 ∧ R.slots = zs (wC D b) m0 fin.2) {zq : Nat → Nat → Int32 → zM → Option (Unit × zM)} (hzq0 : ∀ (r0 : Nat) (v2 : Int32) (u : zM) r m1, zq 0 r0 v2 u = some (r, m1) → zMet l (wC D b) (3 + zn) (64 + zn * 25) yX1_readExpression cX1_readExpression 5 none [.ref r0, .ref 2, .int v2] u (eV r) m1) (hzq1 : ∀ (r0 : Nat) (v2 : Int32) (u : zM) r m1, zq 1 r0 v2 u = some (r, m1) → zMet l (wC D b) (3 + zn) (64 + zn * 25) yX1_readTest cX1_readTest 4 none [.ref r0, .ref 2, .int v2] u (eV r) m1) (hzq2 : ∀ (r0 : Nat) (v2 : Int32) (u : zM) r m1, zq 2 r0 v2 u = some (r, m1) → zMet l (wC D b) (3 + zn) (64 + zn * 25) yX1_readSum cX1_readSum 5 none [.ref r0, .ref 2, .int v2] u (eV r) m1) (hzq3 : ∀ (r0 : Nat) (v2 : Int32) (u : zM) r m1, zq 3 r0 v2 u = some (r, m1) → zMet l (wC D b) (3 + zn) (64 + zn * 25) yX1_readProduct cX1_readProduct 4 none [.ref r0, .ref 2, .int v2] u (eV r) m1) (hzq4 : ∀ (r0 : Nat) (v2 : Int32) (u : zM) r m1, zq 4 r0 v2 u = some (r, m1) → zMet l (wC D b) (3 + zn) (64 + zn * 25) yX1_readPart cX1_readPart 6 none [.ref r0, .ref 2, .int v2] u (eV r) m1) {zr8 : Nat → Int32 → Int32 → zM → Option (Unit × zM)} (hr8 : ∀ (r0 : Nat) (v2 : Int32) (v3 : Int32) (u : zM), zJ eV p l e R s mi args below meth c (wC D b) m0 4 fin 8 [(0, .ref r0), (1, .ref 2), (2, .int v2), (3, .int v3)] [] u (zr8 r0 v2 v3 u)) (r0 : Nat) (v2 : Int32) (v3 : Int32) (u : zM) : zJ eV p l e R s mi args below meth c (wC D b) m0 4 fin 8 [(0, .ref r0), (1, .ref 2), (2, .int v2), (3, .int v3)] [] u (La_readProduct_8b zq zr8 r0 v2 v3 u) := by
  unfold La_readProduct_8b
  refine zJ.chk _ (fun h1 => ?_)
  refine z_iload_n hc dX1_readProduct_8 3 rfl rfl ?_
  refine z_sipush (v := 1000) hc dX1_readProduct_9 rfl ?_
  refine z_icmp_ge (tgt := 46) hc dX1_readProduct_12 (by decide) _ (fun h2 => ?_) (fun h2 => ?_)
  · exact z_vret hc dX1_readProduct_46
  · refine z_aload_n hc dX1_readProduct_15 1 rfl rfl ?_
    refine z_bipush (v := 42) hc dX1_readProduct_16 rfl ?_
    refine z_callV (av := [.int 42]) (enc' := eI) hc rfl (sTa_atSign 42 _) (ci := 8) (by decide) lC2 (zkC lC2) rfl wMX1_46 hpyX8_atSign hmyX8_atSign (rm_ok hRm (by omega) (by omega)) (Nat.le_of_ble_eq_true rfl) hRm.2.2 dX1_readProduct_18 (fun c1 u1 f1 => ?_)
    refine z_if_eq (tgt := 46) hc dX1_readProduct_21 (by decide) _ (fun h3 => ?_) (fun h3 => ?_)
    · exact z_vret hc dX1_readProduct_46
    · refine z_aload_n hc dX1_readProduct_24 1 rfl rfl ?_
      refine z_callV (av := []) (enc' := eV) hc rfl (sTa_step _) (ci := 8) (by decide) lC2 (zkC lC2) rfl wMX1_36 hpyX8_step hmyX8_step (rm_ok hRm (by omega) (by omega)) (Nat.le_of_ble_eq_true rfl) hRm.2.2 dX1_readProduct_25 (fun c2 u2 f2 => ?_)
      refine z_aload_n hc dX1_readProduct_28 0 rfl rfl ?_
      refine z_aload_n hc dX1_readProduct_29 1 rfl rfl ?_
      refine z_iload_n hc dX1_readProduct_30 2 rfl rfl ?_
      refine z_callV (av := [.ref 2, .int v2]) (enc' := eV) hc rfl (hzq4 r0 v2 _) (ci := 1) (by decide) h1 (zkC h1) rfl wMX1_53 hpyX1_readPart hmyX1_readPart (rm_ok hRm (by omega) (by omega)) (Nat.le_of_ble_eq_true rfl) hRm.2.2 dX1_readProduct_31 (fun c3 u3 f3 => ?_)
      refine z_aload_n hc dX1_readProduct_34 0 rfl rfl ?_
      refine z_bipush (v := (-12)) hc dX1_readProduct_35 rfl ?_
      refine z_callV (av := [.int (-12)]) (enc' := eV) hc rfl (sLa_put r0 (-12) _) (ci := 1) (by decide) h1 (zkC h1) rfl wMX1_39 hpyX1_put hmyX1_put (rm_ok hRm (by omega) (by omega)) (Nat.le_of_ble_eq_true rfl) hRm.2.2 dX1_readProduct_37 (fun c4 u4 f4 => ?_)
      refine z_iinc (L' := [(3, .int (v3 + 1)), (0, .ref r0), (1, .ref 2), (2, .int v2)]) hc dX1_readProduct_40 3 rfl (v := (v3 + 1)) rfl (by decide) rfl rfl ?_
      refine z_goto (tgt := 8) hc dX1_readProduct_43 (by decide) ?_
      refine zJ.sub (L' := [(0, .ref r0), (1, .ref 2), (2, .int v2), (3, .int (v3 + 1))]) [1, 2, 3, 0] rfl ?_
      exact hr8 r0 v2 (v3 + 1) _
set_option maxRecDepth 100000 in
set_option maxHeartbeats 4000000 in
theorem sLa_readProduct_8 {zn : Nat} {fin : Unit × zM} (hc : zCx p s mi args meth c (wC D b) m0 RX1 cX1_readProduct 4 none) (hRm : R.frames = 3 + (zn + 1) ∧ R.locals = 64 + (zn + 1) * 25 ∧ R.cells = zc (wC D b) m0 fin.2 ∧ R.slots = zs (wC D b) m0 fin.2) {zq : Nat → Nat → Int32 → zM → Option (Unit × zM)} (hzq0 : ∀ (r0 : Nat) (v2 : Int32) (u : zM) r m1, zq 0 r0 v2 u = some (r, m1) → zMet l (wC D b) (3 + zn) (64 + zn * 25) yX1_readExpression cX1_readExpression 5 none [.ref r0, .ref 2, .int v2] u (eV r) m1) (hzq1 : ∀ (r0 : Nat) (v2 : Int32) (u : zM) r m1, zq 1 r0 v2 u = some (r, m1) → zMet l (wC D b) (3 + zn) (64 + zn * 25) yX1_readTest cX1_readTest 4 none [.ref r0, .ref 2, .int v2] u (eV r) m1) (hzq2 : ∀ (r0 : Nat) (v2 : Int32) (u : zM) r m1, zq 2 r0 v2 u = some (r, m1) → zMet l (wC D b) (3 + zn) (64 + zn * 25) yX1_readSum cX1_readSum 5 none [.ref r0, .ref 2, .int v2] u (eV r) m1) (hzq3 : ∀ (r0 : Nat) (v2 : Int32) (u : zM) r m1, zq 3 r0 v2 u = some (r, m1) → zMet l (wC D b) (3 + zn) (64 + zn * 25) yX1_readProduct cX1_readProduct 4 none [.ref r0, .ref 2, .int v2] u (eV r) m1) (hzq4 : ∀ (r0 : Nat) (v2 : Int32) (u : zM) r m1, zq 4 r0 v2 u = some (r, m1) → zMet l (wC D b) (3 + zn) (64 + zn * 25) yX1_readPart cX1_readPart 6 none [.ref r0, .ref 2, .int v2] u (eV r) m1) : ∀ (zf : Nat) (r0 : Nat) (v2 : Int32) (v3 : Int32) (u : zM), zJ eV p l e R s mi args below meth c (wC D b) m0 4 fin 8 [(0, .ref r0), (1, .ref 2), (2, .int v2), (3, .int v3)] [] u (La_readProduct_8 zf zq r0 v2 v3 u) := by
  intro zf
  induction zf with
  | zero => intro r0 v2 v3 u; exact zJ.nil
  | succ zf ih => intro r0 v2 v3 u; exact sLa_readProduct_8b hc hRm hzq0 hzq1 hzq2 hzq3 hzq4 ih r0 v2 v3 u
set_option maxRecDepth 100000 in
set_option maxHeartbeats 4000000 in
theorem sLa_readProduct_b {zn : Nat} {zq : Nat → Nat → Int32 → zM → Option (Unit × zM)} (hzq0 : ∀ (r0 : Nat) (v2 : Int32) (u : zM) r m1, zq 0 r0 v2 u = some (r, m1) → zMet l (wC D b) (3 + zn) (64 + zn * 25) yX1_readExpression cX1_readExpression 5 none [.ref r0, .ref 2, .int v2] u (eV r) m1) (hzq1 : ∀ (r0 : Nat) (v2 : Int32) (u : zM) r m1, zq 1 r0 v2 u = some (r, m1) → zMet l (wC D b) (3 + zn) (64 + zn * 25) yX1_readTest cX1_readTest 4 none [.ref r0, .ref 2, .int v2] u (eV r) m1) (hzq2 : ∀ (r0 : Nat) (v2 : Int32) (u : zM) r m1, zq 2 r0 v2 u = some (r, m1) → zMet l (wC D b) (3 + zn) (64 + zn * 25) yX1_readSum cX1_readSum 5 none [.ref r0, .ref 2, .int v2] u (eV r) m1) (hzq3 : ∀ (r0 : Nat) (v2 : Int32) (u : zM) r m1, zq 3 r0 v2 u = some (r, m1) → zMet l (wC D b) (3 + zn) (64 + zn * 25) yX1_readProduct cX1_readProduct 4 none [.ref r0, .ref 2, .int v2] u (eV r) m1) (hzq4 : ∀ (r0 : Nat) (v2 : Int32) (u : zM) r m1, zq 4 r0 v2 u = some (r, m1) → zMet l (wC D b) (3 + zn) (64 + zn * 25) yX1_readPart cX1_readPart 6 none [.ref r0, .ref 2, .int v2] u (eV r) m1) : ∀ (r0 : Nat) (v2 : Int32) (u : zM) r m1, La_readProduct zq r0 v2 u = some (r, m1) → zMet l (wC D b) (3 + (zn + 1)) (64 + (zn + 1) * 25) yX1_readProduct cX1_readProduct 4 none [.ref r0, .ref 2, .int v2] u (eV r) m1 := by
  intro r0 v2 u
  refine zMet.of (L := [(0, .ref r0), (1, .ref 2), (2, .int v2)]) RX1 (by decide +kernel) rfl (Nat.le_of_ble_eq_true rfl) (fun h => by cases h) rfl (fun p e s mi args below meth c R fin hc hin hRm => ?_)
  unfold La_readProduct
  refine zJ.chk _ (fun h1 => ?_)
  refine z_aload_n hc dX1_readProduct_0 0 rfl rfl ?_
  refine z_aload_n hc dX1_readProduct_1 1 rfl rfl ?_
  refine z_iload_n hc dX1_readProduct_2 2 rfl rfl ?_
  refine z_callV (av := [.ref 2, .int v2]) (enc' := eV) hc rfl (hzq4 r0 v2 _) (ci := 1) (by decide) h1 (zkC h1) rfl wMX1_53 hpyX1_readPart hmyX1_readPart (rm_ok hRm (by omega) (by omega)) (Nat.le_of_ble_eq_true rfl) hRm.2.2 dX1_readProduct_3 (fun c1 u1 f1 => ?_)
  refine z_iconst (v := 0) hc dX1_readProduct_6 rfl ?_
  refine z_istore_n (L' := [(3, .int 0), (0, .ref r0), (1, .ref 2), (2, .int v2)]) hc dX1_readProduct_7 rfl (by decide) rfl rfl ?_
  refine zJ.sub (L' := [(0, .ref r0), (1, .ref 2), (2, .int v2), (3, .int 0)]) [1, 2, 3, 0] rfl ?_
  exact sLa_readProduct_8 hc hRm hzq0 hzq1 hzq2 hzq3 hzq4 zF r0 v2 0 _
set_option maxRecDepth 100000 in
set_option maxHeartbeats 4000000 in
theorem sLa_readSum_49 {zn : Nat} {fin : Unit × zM} (hc : zCx p s mi args meth c (wC D b) m0 RX1 cX1_readSum 5 none) (hRm : R.frames = 3 + (zn + 1) ∧ R.locals = 64 + (zn + 1) * 25 ∧ R.cells = zc (wC D b) m0 fin.2 ∧ R.slots = zs (wC D b) m0 fin.2) {zq : Nat → Nat → Int32 → zM → Option (Unit × zM)} (hzq0 : ∀ (r0 : Nat) (v2 : Int32) (u : zM) r m1, zq 0 r0 v2 u = some (r, m1) → zMet l (wC D b) (3 + zn) (64 + zn * 25) yX1_readExpression cX1_readExpression 5 none [.ref r0, .ref 2, .int v2] u (eV r) m1) (hzq1 : ∀ (r0 : Nat) (v2 : Int32) (u : zM) r m1, zq 1 r0 v2 u = some (r, m1) → zMet l (wC D b) (3 + zn) (64 + zn * 25) yX1_readTest cX1_readTest 4 none [.ref r0, .ref 2, .int v2] u (eV r) m1) (hzq2 : ∀ (r0 : Nat) (v2 : Int32) (u : zM) r m1, zq 2 r0 v2 u = some (r, m1) → zMet l (wC D b) (3 + zn) (64 + zn * 25) yX1_readSum cX1_readSum 5 none [.ref r0, .ref 2, .int v2] u (eV r) m1) (hzq3 : ∀ (r0 : Nat) (v2 : Int32) (u : zM) r m1, zq 3 r0 v2 u = some (r, m1) → zMet l (wC D b) (3 + zn) (64 + zn * 25) yX1_readProduct cX1_readProduct 4 none [.ref r0, .ref 2, .int v2] u (eV r) m1) (hzq4 : ∀ (r0 : Nat) (v2 : Int32) (u : zM) r m1, zq 4 r0 v2 u = some (r, m1) → zMet l (wC D b) (3 + zn) (64 + zn * 25) yX1_readPart cX1_readPart 6 none [.ref r0, .ref 2, .int v2] u (eV r) m1) {zr8 : Nat → Int32 → Int32 → zM → Option (Unit × zM)} (hr8 : ∀ (r0 : Nat) (v2 : Int32) (v3 : Int32) (u : zM), zJ eV p l e R s mi args below meth c (wC D b) m0 5 fin 8 [(0, .ref r0), (1, .ref 2), (2, .int v2), (3, .int v3)] [] u (zr8 r0 v2 v3 u)) (r0 : Nat) (v2 : Int32) (v3 : Int32) (s0 : Int32) (u : zM) : zJ eV p l e R s mi args below meth c (wC D b) m0 5 fin 49 [(0, .ref r0), (1, .ref 2), (2, .int v2), (3, .int v3)] [.int s0] u (La_readSum_49 zq zr8 r0 v2 v3 s0 u) := by
  unfold La_readSum_49
  refine zJ.chk _ (fun h1 => ?_)
  refine z_istore (L' := [(4, .int s0), (0, .ref r0), (1, .ref 2), (2, .int v2), (3, .int v3)]) hc dX1_readSum_49 (by decide) rfl rfl ?_
  refine z_aload_n hc dX1_readSum_51 2 rfl rfl ?_
  refine z_callV (av := []) (enc' := eV) hc rfl (sTa_step _) (ci := 8) (by decide) lC2 (zkC lC2) rfl wMX1_36 hpyX8_step hmyX8_step (rm_ok hRm (by omega) (by omega)) (Nat.le_of_ble_eq_true rfl) hRm.2.2 dX1_readSum_52 (fun c1 u1 f1 => ?_)
  refine z_aload_n hc dX1_readSum_55 1 rfl rfl ?_
  refine z_aload_n hc dX1_readSum_56 2 rfl rfl ?_
  refine z_iload_n hc dX1_readSum_57 3 rfl rfl ?_
  refine z_callV (av := [.ref 2, .int v2]) (enc' := eV) hc rfl (hzq3 r0 v2 _) (ci := 1) (by decide) h1 (zkC h1) rfl wMX1_50 hpyX1_readProduct hmyX1_readProduct (rm_ok hRm (by omega) (by omega)) (Nat.le_of_ble_eq_true rfl) hRm.2.2 dX1_readSum_58 (fun c2 u2 f2 => ?_)
  refine z_aload_n hc dX1_readSum_61 1 rfl rfl ?_
  refine z_iload hc dX1_readSum_62 0 rfl ?_
  refine z_callV (av := [.int s0]) (enc' := eV) hc rfl (sLa_put r0 s0 _) (ci := 1) (by decide) h1 (zkC h1) rfl wMX1_39 hpyX1_put hmyX1_put (rm_ok hRm (by omega) (by omega)) (Nat.le_of_ble_eq_true rfl) hRm.2.2 dX1_readSum_64 (fun c3 u3 f3 => ?_)
  refine z_iinc (L' := [(3, .int (v3 + 1)), (4, .int s0), (0, .ref r0), (1, .ref 2), (2, .int v2)]) hc dX1_readSum_67 4 rfl (v := (v3 + 1)) rfl (by decide) rfl rfl ?_
  refine z_goto (tgt := 8) hc dX1_readSum_70 (by decide) ?_
  refine zJ.sub (L' := [(0, .ref r0), (1, .ref 2), (2, .int v2), (3, .int (v3 + 1))]) [2, 3, 4, 0] rfl ?_
  exact hr8 r0 v2 (v3 + 1) _
set_option maxRecDepth 100000 in
set_option maxHeartbeats 4000000 in
theorem sLa_readSum_33 {zn : Nat} {fin : Unit × zM} (hc : zCx p s mi args meth c (wC D b) m0 RX1 cX1_readSum 5 none) (hRm : R.frames = 3 + (zn + 1) ∧ R.locals = 64 + (zn + 1) * 25 ∧ R.cells = zc (wC D b) m0 fin.2 ∧ R.slots = zs (wC D b) m0 fin.2) {zq : Nat → Nat → Int32 → zM → Option (Unit × zM)} (hzq0 : ∀ (r0 : Nat) (v2 : Int32) (u : zM) r m1, zq 0 r0 v2 u = some (r, m1) → zMet l (wC D b) (3 + zn) (64 + zn * 25) yX1_readExpression cX1_readExpression 5 none [.ref r0, .ref 2, .int v2] u (eV r) m1) (hzq1 : ∀ (r0 : Nat) (v2 : Int32) (u : zM) r m1, zq 1 r0 v2 u = some (r, m1) → zMet l (wC D b) (3 + zn) (64 + zn * 25) yX1_readTest cX1_readTest 4 none [.ref r0, .ref 2, .int v2] u (eV r) m1) (hzq2 : ∀ (r0 : Nat) (v2 : Int32) (u : zM) r m1, zq 2 r0 v2 u = some (r, m1) → zMet l (wC D b) (3 + zn) (64 + zn * 25) yX1_readSum cX1_readSum 5 none [.ref r0, .ref 2, .int v2] u (eV r) m1) (hzq3 : ∀ (r0 : Nat) (v2 : Int32) (u : zM) r m1, zq 3 r0 v2 u = some (r, m1) → zMet l (wC D b) (3 + zn) (64 + zn * 25) yX1_readProduct cX1_readProduct 4 none [.ref r0, .ref 2, .int v2] u (eV r) m1) (hzq4 : ∀ (r0 : Nat) (v2 : Int32) (u : zM) r m1, zq 4 r0 v2 u = some (r, m1) → zMet l (wC D b) (3 + zn) (64 + zn * 25) yX1_readPart cX1_readPart 6 none [.ref r0, .ref 2, .int v2] u (eV r) m1) {zr8 : Nat → Int32 → Int32 → zM → Option (Unit × zM)} (hr8 : ∀ (r0 : Nat) (v2 : Int32) (v3 : Int32) (u : zM), zJ eV p l e R s mi args below meth c (wC D b) m0 5 fin 8 [(0, .ref r0), (1, .ref 2), (2, .int v2), (3, .int v3)] [] u (zr8 r0 v2 v3 u)) (r0 : Nat) (v2 : Int32) (v3 : Int32) (u : zM) : zJ eV p l e R s mi args below meth c (wC D b) m0 5 fin 33 [(0, .ref r0), (1, .ref 2), (2, .int v2), (3, .int v3)] [] u (La_readSum_33 zq zr8 r0 v2 v3 u) := by
  unfold La_readSum_33
  refine zJ.chk _ (fun h1 => ?_)
  refine z_aload_n hc dX1_readSum_33 1 rfl rfl ?_
  refine z_bipush (v := 43) hc dX1_readSum_34 rfl ?_
  refine z_callV (av := [.int 43]) (enc' := eI) hc rfl (sTa_atSign 43 _) (ci := 8) (by decide) lC2 (zkC lC2) rfl wMX1_46 hpyX8_atSign hmyX8_atSign (rm_ok hRm (by omega) (by omega)) (Nat.le_of_ble_eq_true rfl) hRm.2.2 dX1_readSum_36 (fun c1 u1 f1 => ?_)
  refine z_if_eq (tgt := 47) hc dX1_readSum_39 (by decide) _ (fun h2 => ?_) (fun h2 => ?_)
  · refine z_bipush (v := (-11)) hc dX1_readSum_47 rfl ?_
    exact sLa_readSum_49 hc hRm hzq0 hzq1 hzq2 hzq3 hzq4 hr8 r0 v2 v3 (-11) _
  · refine z_bipush (v := (-10)) hc dX1_readSum_42 rfl ?_
    refine z_goto (tgt := 49) hc dX1_readSum_44 (by decide) ?_
    exact sLa_readSum_49 hc hRm hzq0 hzq1 hzq2 hzq3 hzq4 hr8 r0 v2 v3 (-10) _
set_option maxRecDepth 100000 in
set_option maxHeartbeats 4000000 in
theorem sLa_readSum_8b {zn : Nat} {fin : Unit × zM} (hc : zCx p s mi args meth c (wC D b) m0 RX1 cX1_readSum 5 none) (hRm : R.frames = 3 + (zn + 1) ∧ R.locals = 64 + (zn + 1) * 25 ∧ R.cells = zc (wC D b) m0 fin.2 ∧ R.slots = zs (wC D b) m0 fin.2) {zq : Nat → Nat → Int32 → zM → Option (Unit × zM)} (hzq0 : ∀ (r0 : Nat) (v2 : Int32) (u : zM) r m1, zq 0 r0 v2 u = some (r, m1) → zMet l (wC D b) (3 + zn) (64 + zn * 25) yX1_readExpression cX1_readExpression 5 none [.ref r0, .ref 2, .int v2] u (eV r) m1) (hzq1 : ∀ (r0 : Nat) (v2 : Int32) (u : zM) r m1, zq 1 r0 v2 u = some (r, m1) → zMet l (wC D b) (3 + zn) (64 + zn * 25) yX1_readTest cX1_readTest 4 none [.ref r0, .ref 2, .int v2] u (eV r) m1) (hzq2 : ∀ (r0 : Nat) (v2 : Int32) (u : zM) r m1, zq 2 r0 v2 u = some (r, m1) → zMet l (wC D b) (3 + zn) (64 + zn * 25) yX1_readSum cX1_readSum 5 none [.ref r0, .ref 2, .int v2] u (eV r) m1) (hzq3 : ∀ (r0 : Nat) (v2 : Int32) (u : zM) r m1, zq 3 r0 v2 u = some (r, m1) → zMet l (wC D b) (3 + zn) (64 + zn * 25) yX1_readProduct cX1_readProduct 4 none [.ref r0, .ref 2, .int v2] u (eV r) m1) (hzq4 : ∀ (r0 : Nat) (v2 : Int32) (u : zM) r m1, zq 4 r0 v2 u = some (r, m1) → zMet l (wC D b) (3 + zn) (64 + zn * 25) yX1_readPart cX1_readPart 6 none [.ref r0, .ref 2, .int v2] u (eV r) m1) {zr8 : Nat → Int32 → Int32 → zM → Option (Unit × zM)} (hr8 : ∀ (r0 : Nat) (v2 : Int32) (v3 : Int32) (u : zM), zJ eV p l e R s mi args below meth c (wC D b) m0 5 fin 8 [(0, .ref r0), (1, .ref 2), (2, .int v2), (3, .int v3)] [] u (zr8 r0 v2 v3 u)) (r0 : Nat) (v2 : Int32) (v3 : Int32) (u : zM) : zJ eV p l e R s mi args below meth c (wC D b) m0 5 fin 8 [(0, .ref r0), (1, .ref 2), (2, .int v2), (3, .int v3)] [] u (La_readSum_8b zq zr8 r0 v2 v3 u) := by
  unfold La_readSum_8b
  refine zJ.chk _ (fun h1 => ?_)
  refine z_iload_n hc dX1_readSum_8 3 rfl rfl ?_
  refine z_sipush (v := 1000) hc dX1_readSum_9 rfl ?_
  refine z_icmp_ge (tgt := 73) hc dX1_readSum_12 (by decide) _ (fun h2 => ?_) (fun h2 => ?_)
  · exact z_vret hc dX1_readSum_73
  · refine z_aload_n hc dX1_readSum_15 1 rfl rfl ?_
    refine z_bipush (v := 43) hc dX1_readSum_16 rfl ?_
    refine z_callV (av := [.int 43]) (enc' := eI) hc rfl (sTa_atSign 43 _) (ci := 8) (by decide) lC2 (zkC lC2) rfl wMX1_46 hpyX8_atSign hmyX8_atSign (rm_ok hRm (by omega) (by omega)) (Nat.le_of_ble_eq_true rfl) hRm.2.2 dX1_readSum_18 (fun c1 u1 f1 => ?_)
    refine z_if_ne (tgt := 33) hc dX1_readSum_21 (by decide) _ (fun h3 => ?_) (fun h3 => ?_)
    · exact sLa_readSum_33 hc hRm hzq0 hzq1 hzq2 hzq3 hzq4 hr8 r0 v2 v3 _
    · refine z_aload_n hc dX1_readSum_24 1 rfl rfl ?_
      refine z_bipush (v := 45) hc dX1_readSum_25 rfl ?_
      refine z_callV (av := [.int 45]) (enc' := eI) hc rfl (sTa_atSign 45 _) (ci := 8) (by decide) lC2 (zkC lC2) rfl wMX1_46 hpyX8_atSign hmyX8_atSign (rm_ok hRm (by omega) (by omega)) (Nat.le_of_ble_eq_true rfl) hRm.2.2 dX1_readSum_27 (fun c2 u2 f2 => ?_)
      refine z_if_eq (tgt := 73) hc dX1_readSum_30 (by decide) _ (fun h4 => ?_) (fun h4 => ?_)
      · exact z_vret hc dX1_readSum_73
      · exact sLa_readSum_33 hc hRm hzq0 hzq1 hzq2 hzq3 hzq4 hr8 r0 v2 v3 _
set_option maxRecDepth 100000 in
set_option maxHeartbeats 4000000 in
theorem sLa_readSum_8 {zn : Nat} {fin : Unit × zM} (hc : zCx p s mi args meth c (wC D b) m0 RX1 cX1_readSum 5 none) (hRm : R.frames = 3 + (zn + 1) ∧ R.locals = 64 + (zn + 1) * 25 ∧ R.cells = zc (wC D b) m0 fin.2 ∧ R.slots = zs (wC D b) m0 fin.2) {zq : Nat → Nat → Int32 → zM → Option (Unit × zM)} (hzq0 : ∀ (r0 : Nat) (v2 : Int32) (u : zM) r m1, zq 0 r0 v2 u = some (r, m1) → zMet l (wC D b) (3 + zn) (64 + zn * 25) yX1_readExpression cX1_readExpression 5 none [.ref r0, .ref 2, .int v2] u (eV r) m1) (hzq1 : ∀ (r0 : Nat) (v2 : Int32) (u : zM) r m1, zq 1 r0 v2 u = some (r, m1) → zMet l (wC D b) (3 + zn) (64 + zn * 25) yX1_readTest cX1_readTest 4 none [.ref r0, .ref 2, .int v2] u (eV r) m1) (hzq2 : ∀ (r0 : Nat) (v2 : Int32) (u : zM) r m1, zq 2 r0 v2 u = some (r, m1) → zMet l (wC D b) (3 + zn) (64 + zn * 25) yX1_readSum cX1_readSum 5 none [.ref r0, .ref 2, .int v2] u (eV r) m1) (hzq3 : ∀ (r0 : Nat) (v2 : Int32) (u : zM) r m1, zq 3 r0 v2 u = some (r, m1) → zMet l (wC D b) (3 + zn) (64 + zn * 25) yX1_readProduct cX1_readProduct 4 none [.ref r0, .ref 2, .int v2] u (eV r) m1) (hzq4 : ∀ (r0 : Nat) (v2 : Int32) (u : zM) r m1, zq 4 r0 v2 u = some (r, m1) → zMet l (wC D b) (3 + zn) (64 + zn * 25) yX1_readPart cX1_readPart 6 none [.ref r0, .ref 2, .int v2] u (eV r) m1) : ∀ (zf : Nat) (r0 : Nat) (v2 : Int32) (v3 : Int32) (u : zM), zJ eV p l e R s mi args below meth c (wC D b) m0 5 fin 8 [(0, .ref r0), (1, .ref 2), (2, .int v2), (3, .int v3)] [] u (La_readSum_8 zf zq r0 v2 v3 u) := by
  intro zf
  induction zf with
  | zero => intro r0 v2 v3 u; exact zJ.nil
  | succ zf ih => intro r0 v2 v3 u; exact sLa_readSum_8b hc hRm hzq0 hzq1 hzq2 hzq3 hzq4 ih r0 v2 v3 u
set_option maxRecDepth 100000 in
set_option maxHeartbeats 4000000 in
theorem sLa_readSum_b {zn : Nat} {zq : Nat → Nat → Int32 → zM → Option (Unit × zM)} (hzq0 : ∀ (r0 : Nat) (v2 : Int32) (u : zM) r m1, zq 0 r0 v2 u = some (r, m1) → zMet l (wC D b) (3 + zn) (64 + zn * 25) yX1_readExpression cX1_readExpression 5 none [.ref r0, .ref 2, .int v2] u (eV r) m1) (hzq1 : ∀ (r0 : Nat) (v2 : Int32) (u : zM) r m1, zq 1 r0 v2 u = some (r, m1) → zMet l (wC D b) (3 + zn) (64 + zn * 25) yX1_readTest cX1_readTest 4 none [.ref r0, .ref 2, .int v2] u (eV r) m1) (hzq2 : ∀ (r0 : Nat) (v2 : Int32) (u : zM) r m1, zq 2 r0 v2 u = some (r, m1) → zMet l (wC D b) (3 + zn) (64 + zn * 25) yX1_readSum cX1_readSum 5 none [.ref r0, .ref 2, .int v2] u (eV r) m1) (hzq3 : ∀ (r0 : Nat) (v2 : Int32) (u : zM) r m1, zq 3 r0 v2 u = some (r, m1) → zMet l (wC D b) (3 + zn) (64 + zn * 25) yX1_readProduct cX1_readProduct 4 none [.ref r0, .ref 2, .int v2] u (eV r) m1) (hzq4 : ∀ (r0 : Nat) (v2 : Int32) (u : zM) r m1, zq 4 r0 v2 u = some (r, m1) → zMet l (wC D b) (3 + zn) (64 + zn * 25) yX1_readPart cX1_readPart 6 none [.ref r0, .ref 2, .int v2] u (eV r) m1) : ∀ (r0 : Nat) (v2 : Int32) (u : zM) r m1, La_readSum zq r0 v2 u = some (r, m1) → zMet l (wC D b) (3 + (zn + 1)) (64 + (zn + 1) * 25) yX1_readSum cX1_readSum 5 none [.ref r0, .ref 2, .int v2] u (eV r) m1 := by
  intro r0 v2 u
  refine zMet.of (L := [(0, .ref r0), (1, .ref 2), (2, .int v2)]) RX1 (by decide +kernel) rfl (Nat.le_of_ble_eq_true rfl) (fun h => by cases h) rfl (fun p e s mi args below meth c R fin hc hin hRm => ?_)
  unfold La_readSum
  refine zJ.chk _ (fun h1 => ?_)
  refine z_aload_n hc dX1_readSum_0 0 rfl rfl ?_
  refine z_aload_n hc dX1_readSum_1 1 rfl rfl ?_
  refine z_iload_n hc dX1_readSum_2 2 rfl rfl ?_
  refine z_callV (av := [.ref 2, .int v2]) (enc' := eV) hc rfl (hzq3 r0 v2 _) (ci := 1) (by decide) h1 (zkC h1) rfl wMX1_50 hpyX1_readProduct hmyX1_readProduct (rm_ok hRm (by omega) (by omega)) (Nat.le_of_ble_eq_true rfl) hRm.2.2 dX1_readSum_3 (fun c1 u1 f1 => ?_)
  refine z_iconst (v := 0) hc dX1_readSum_6 rfl ?_
  refine z_istore_n (L' := [(3, .int 0), (0, .ref r0), (1, .ref 2), (2, .int v2)]) hc dX1_readSum_7 rfl (by decide) rfl rfl ?_
  refine zJ.sub (L' := [(0, .ref r0), (1, .ref 2), (2, .int v2), (3, .int 0)]) [1, 2, 3, 0] rfl ?_
  exact sLa_readSum_8 hc hRm hzq0 hzq1 hzq2 hzq3 hzq4 zF r0 v2 0 _
set_option maxRecDepth 100000 in
set_option maxHeartbeats 4000000 in
theorem sLa_readTest_40 {zn : Nat} {fin : Unit × zM} (hc : zCx p s mi args meth c (wC D b) m0 RX1 cX1_readTest 4 none) (hRm : R.frames = 3 + (zn + 1) ∧ R.locals = 64 + (zn + 1) * 25 ∧ R.cells = zc (wC D b) m0 fin.2 ∧ R.slots = zs (wC D b) m0 fin.2) {zq : Nat → Nat → Int32 → zM → Option (Unit × zM)} (hzq0 : ∀ (r0 : Nat) (v2 : Int32) (u : zM) r m1, zq 0 r0 v2 u = some (r, m1) → zMet l (wC D b) (3 + zn) (64 + zn * 25) yX1_readExpression cX1_readExpression 5 none [.ref r0, .ref 2, .int v2] u (eV r) m1) (hzq1 : ∀ (r0 : Nat) (v2 : Int32) (u : zM) r m1, zq 1 r0 v2 u = some (r, m1) → zMet l (wC D b) (3 + zn) (64 + zn * 25) yX1_readTest cX1_readTest 4 none [.ref r0, .ref 2, .int v2] u (eV r) m1) (hzq2 : ∀ (r0 : Nat) (v2 : Int32) (u : zM) r m1, zq 2 r0 v2 u = some (r, m1) → zMet l (wC D b) (3 + zn) (64 + zn * 25) yX1_readSum cX1_readSum 5 none [.ref r0, .ref 2, .int v2] u (eV r) m1) (hzq3 : ∀ (r0 : Nat) (v2 : Int32) (u : zM) r m1, zq 3 r0 v2 u = some (r, m1) → zMet l (wC D b) (3 + zn) (64 + zn * 25) yX1_readProduct cX1_readProduct 4 none [.ref r0, .ref 2, .int v2] u (eV r) m1) (hzq4 : ∀ (r0 : Nat) (v2 : Int32) (u : zM) r m1, zq 4 r0 v2 u = some (r, m1) → zMet l (wC D b) (3 + zn) (64 + zn * 25) yX1_readPart cX1_readPart 6 none [.ref r0, .ref 2, .int v2] u (eV r) m1) (r0 : Nat) (v2 : Int32) (s0 : Int32) (u : zM) : zJ eV p l e R s mi args below meth c (wC D b) m0 4 fin 40 [(0, .ref r0), (1, .ref 2), (2, .int v2)] [.int s0] u (La_readTest_40 zq r0 v2 s0 u) := by
  unfold La_readTest_40
  refine zJ.chk _ (fun h1 => ?_)
  refine z_istore_n (L' := [(3, .int s0), (0, .ref r0), (1, .ref 2), (2, .int v2)]) hc dX1_readTest_40 rfl (by decide) rfl rfl ?_
  refine z_aload_n hc dX1_readTest_41 2 rfl rfl ?_
  refine z_callV (av := []) (enc' := eV) hc rfl (sTa_step _) (ci := 8) (by decide) lC2 (zkC lC2) rfl wMX1_36 hpyX8_step hmyX8_step (rm_ok hRm (by omega) (by omega)) (Nat.le_of_ble_eq_true rfl) hRm.2.2 dX1_readTest_42 (fun c1 u1 f1 => ?_)
  refine z_aload_n hc dX1_readTest_45 1 rfl rfl ?_
  refine z_aload_n hc dX1_readTest_46 2 rfl rfl ?_
  refine z_iload_n hc dX1_readTest_47 3 rfl rfl ?_
  refine z_callV (av := [.ref 2, .int v2]) (enc' := eV) hc rfl (hzq2 r0 v2 _) (ci := 1) (by decide) h1 (zkC h1) rfl wMX1_43 hpyX1_readSum hmyX1_readSum (rm_ok hRm (by omega) (by omega)) (Nat.le_of_ble_eq_true rfl) hRm.2.2 dX1_readTest_48 (fun c2 u2 f2 => ?_)
  refine z_aload_n hc dX1_readTest_51 1 rfl rfl ?_
  refine z_iload_n hc dX1_readTest_52 0 rfl rfl ?_
  refine z_callV (av := [.int s0]) (enc' := eV) hc rfl (sLa_put r0 s0 _) (ci := 1) (by decide) h1 (zkC h1) rfl wMX1_39 hpyX1_put hmyX1_put (rm_ok hRm (by omega) (by omega)) (Nat.le_of_ble_eq_true rfl) hRm.2.2 dX1_readTest_53 (fun c3 u3 f3 => ?_)
  exact z_vret hc dX1_readTest_56
set_option maxRecDepth 100000 in
set_option maxHeartbeats 4000000 in
theorem sLa_readTest_24 {zn : Nat} {fin : Unit × zM} (hc : zCx p s mi args meth c (wC D b) m0 RX1 cX1_readTest 4 none) (hRm : R.frames = 3 + (zn + 1) ∧ R.locals = 64 + (zn + 1) * 25 ∧ R.cells = zc (wC D b) m0 fin.2 ∧ R.slots = zs (wC D b) m0 fin.2) {zq : Nat → Nat → Int32 → zM → Option (Unit × zM)} (hzq0 : ∀ (r0 : Nat) (v2 : Int32) (u : zM) r m1, zq 0 r0 v2 u = some (r, m1) → zMet l (wC D b) (3 + zn) (64 + zn * 25) yX1_readExpression cX1_readExpression 5 none [.ref r0, .ref 2, .int v2] u (eV r) m1) (hzq1 : ∀ (r0 : Nat) (v2 : Int32) (u : zM) r m1, zq 1 r0 v2 u = some (r, m1) → zMet l (wC D b) (3 + zn) (64 + zn * 25) yX1_readTest cX1_readTest 4 none [.ref r0, .ref 2, .int v2] u (eV r) m1) (hzq2 : ∀ (r0 : Nat) (v2 : Int32) (u : zM) r m1, zq 2 r0 v2 u = some (r, m1) → zMet l (wC D b) (3 + zn) (64 + zn * 25) yX1_readSum cX1_readSum 5 none [.ref r0, .ref 2, .int v2] u (eV r) m1) (hzq3 : ∀ (r0 : Nat) (v2 : Int32) (u : zM) r m1, zq 3 r0 v2 u = some (r, m1) → zMet l (wC D b) (3 + zn) (64 + zn * 25) yX1_readProduct cX1_readProduct 4 none [.ref r0, .ref 2, .int v2] u (eV r) m1) (hzq4 : ∀ (r0 : Nat) (v2 : Int32) (u : zM) r m1, zq 4 r0 v2 u = some (r, m1) → zMet l (wC D b) (3 + zn) (64 + zn * 25) yX1_readPart cX1_readPart 6 none [.ref r0, .ref 2, .int v2] u (eV r) m1) (r0 : Nat) (v2 : Int32) (u : zM) : zJ eV p l e R s mi args below meth c (wC D b) m0 4 fin 24 [(0, .ref r0), (1, .ref 2), (2, .int v2)] [] u (La_readTest_24 zq r0 v2 u) := by
  unfold La_readTest_24
  refine zJ.chk _ (fun h1 => ?_)
  refine z_aload_n hc dX1_readTest_24 1 rfl rfl ?_
  refine z_bipush (v := 60) hc dX1_readTest_25 rfl ?_
  refine z_callV (av := [.int 60]) (enc' := eI) hc rfl (sTa_atSign 60 _) (ci := 8) (by decide) lC2 (zkC lC2) rfl wMX1_46 hpyX8_atSign hmyX8_atSign (rm_ok hRm (by omega) (by omega)) (Nat.le_of_ble_eq_true rfl) hRm.2.2 dX1_readTest_27 (fun c1 u1 f1 => ?_)
  refine z_if_eq (tgt := 38) hc dX1_readTest_30 (by decide) _ (fun h2 => ?_) (fun h2 => ?_)
  · refine z_bipush (v := (-9)) hc dX1_readTest_38 rfl ?_
    exact sLa_readTest_40 hc hRm hzq0 hzq1 hzq2 hzq3 hzq4 r0 v2 (-9) _
  · refine z_bipush (v := (-8)) hc dX1_readTest_33 rfl ?_
    refine z_goto (tgt := 40) hc dX1_readTest_35 (by decide) ?_
    exact sLa_readTest_40 hc hRm hzq0 hzq1 hzq2 hzq3 hzq4 r0 v2 (-8) _
set_option maxRecDepth 100000 in
set_option maxHeartbeats 4000000 in
theorem sLa_readTest_b {zn : Nat} {zq : Nat → Nat → Int32 → zM → Option (Unit × zM)} (hzq0 : ∀ (r0 : Nat) (v2 : Int32) (u : zM) r m1, zq 0 r0 v2 u = some (r, m1) → zMet l (wC D b) (3 + zn) (64 + zn * 25) yX1_readExpression cX1_readExpression 5 none [.ref r0, .ref 2, .int v2] u (eV r) m1) (hzq1 : ∀ (r0 : Nat) (v2 : Int32) (u : zM) r m1, zq 1 r0 v2 u = some (r, m1) → zMet l (wC D b) (3 + zn) (64 + zn * 25) yX1_readTest cX1_readTest 4 none [.ref r0, .ref 2, .int v2] u (eV r) m1) (hzq2 : ∀ (r0 : Nat) (v2 : Int32) (u : zM) r m1, zq 2 r0 v2 u = some (r, m1) → zMet l (wC D b) (3 + zn) (64 + zn * 25) yX1_readSum cX1_readSum 5 none [.ref r0, .ref 2, .int v2] u (eV r) m1) (hzq3 : ∀ (r0 : Nat) (v2 : Int32) (u : zM) r m1, zq 3 r0 v2 u = some (r, m1) → zMet l (wC D b) (3 + zn) (64 + zn * 25) yX1_readProduct cX1_readProduct 4 none [.ref r0, .ref 2, .int v2] u (eV r) m1) (hzq4 : ∀ (r0 : Nat) (v2 : Int32) (u : zM) r m1, zq 4 r0 v2 u = some (r, m1) → zMet l (wC D b) (3 + zn) (64 + zn * 25) yX1_readPart cX1_readPart 6 none [.ref r0, .ref 2, .int v2] u (eV r) m1) : ∀ (r0 : Nat) (v2 : Int32) (u : zM) r m1, La_readTest zq r0 v2 u = some (r, m1) → zMet l (wC D b) (3 + (zn + 1)) (64 + (zn + 1) * 25) yX1_readTest cX1_readTest 4 none [.ref r0, .ref 2, .int v2] u (eV r) m1 := by
  intro r0 v2 u
  refine zMet.of (L := [(0, .ref r0), (1, .ref 2), (2, .int v2)]) RX1 (by decide +kernel) rfl (Nat.le_of_ble_eq_true rfl) (fun h => by cases h) rfl (fun p e s mi args below meth c R fin hc hin hRm => ?_)
  unfold La_readTest
  refine zJ.chk _ (fun h1 => ?_)
  refine z_aload_n hc dX1_readTest_0 0 rfl rfl ?_
  refine z_aload_n hc dX1_readTest_1 1 rfl rfl ?_
  refine z_iload_n hc dX1_readTest_2 2 rfl rfl ?_
  refine z_callV (av := [.ref 2, .int v2]) (enc' := eV) hc rfl (hzq2 r0 v2 _) (ci := 1) (by decide) h1 (zkC h1) rfl wMX1_43 hpyX1_readSum hmyX1_readSum (rm_ok hRm (by omega) (by omega)) (Nat.le_of_ble_eq_true rfl) hRm.2.2 dX1_readTest_3 (fun c1 u1 f1 => ?_)
  refine z_aload_n hc dX1_readTest_6 1 rfl rfl ?_
  refine z_bipush (v := 60) hc dX1_readTest_7 rfl ?_
  refine z_callV (av := [.int 60]) (enc' := eI) hc rfl (sTa_atSign 60 _) (ci := 8) (by decide) lC2 (zkC lC2) rfl wMX1_46 hpyX8_atSign hmyX8_atSign (rm_ok hRm (by omega) (by omega)) (Nat.le_of_ble_eq_true rfl) hRm.2.2 dX1_readTest_9 (fun c2 u2 f2 => ?_)
  refine z_if_ne (tgt := 24) hc dX1_readTest_12 (by decide) _ (fun h2 => ?_) (fun h2 => ?_)
  · exact sLa_readTest_24 hc hRm hzq0 hzq1 hzq2 hzq3 hzq4 r0 v2 _
  · refine z_aload_n hc dX1_readTest_15 1 rfl rfl ?_
    refine z_bipush (v := 61) hc dX1_readTest_16 rfl ?_
    refine z_callV (av := [.int 61]) (enc' := eI) hc rfl (sTa_atSign 61 _) (ci := 8) (by decide) lC2 (zkC lC2) rfl wMX1_46 hpyX8_atSign hmyX8_atSign (rm_ok hRm (by omega) (by omega)) (Nat.le_of_ble_eq_true rfl) hRm.2.2 dX1_readTest_18 (fun c3 u3 f3 => ?_)
    refine z_if_eq (tgt := 56) hc dX1_readTest_21 (by decide) _ (fun h3 => ?_) (fun h3 => ?_)
    · exact z_vret hc dX1_readTest_56
    · exact sLa_readTest_24 hc hRm hzq0 hzq1 hzq2 hzq3 hzq4 r0 v2 _
set_option maxRecDepth 100000 in
set_option maxHeartbeats 4000000 in
theorem sLa_readExpression_52 {zn : Nat} {fin : Unit × zM} (hc : zCx p s mi args meth c (wC D b) m0 RX1 cX1_readExpression 5 none) (hRm : R.frames = 3 + (zn + 1) ∧ R.locals = 64 + (zn + 1) * 25 ∧ R.cells = zc (wC D b) m0 fin.2 ∧ R.slots = zs (wC D b) m0 fin.2) {zq : Nat → Nat → Int32 → zM → Option (Unit × zM)} (hzq0 : ∀ (r0 : Nat) (v2 : Int32) (u : zM) r m1, zq 0 r0 v2 u = some (r, m1) → zMet l (wC D b) (3 + zn) (64 + zn * 25) yX1_readExpression cX1_readExpression 5 none [.ref r0, .ref 2, .int v2] u (eV r) m1) (hzq1 : ∀ (r0 : Nat) (v2 : Int32) (u : zM) r m1, zq 1 r0 v2 u = some (r, m1) → zMet l (wC D b) (3 + zn) (64 + zn * 25) yX1_readTest cX1_readTest 4 none [.ref r0, .ref 2, .int v2] u (eV r) m1) (hzq2 : ∀ (r0 : Nat) (v2 : Int32) (u : zM) r m1, zq 2 r0 v2 u = some (r, m1) → zMet l (wC D b) (3 + zn) (64 + zn * 25) yX1_readSum cX1_readSum 5 none [.ref r0, .ref 2, .int v2] u (eV r) m1) (hzq3 : ∀ (r0 : Nat) (v2 : Int32) (u : zM) r m1, zq 3 r0 v2 u = some (r, m1) → zMet l (wC D b) (3 + zn) (64 + zn * 25) yX1_readProduct cX1_readProduct 4 none [.ref r0, .ref 2, .int v2] u (eV r) m1) (hzq4 : ∀ (r0 : Nat) (v2 : Int32) (u : zM) r m1, zq 4 r0 v2 u = some (r, m1) → zMet l (wC D b) (3 + zn) (64 + zn * 25) yX1_readPart cX1_readPart 6 none [.ref r0, .ref 2, .int v2] u (eV r) m1) {zr8 : Nat → Int32 → Int32 → zM → Option (Unit × zM)} (hr8 : ∀ (r0 : Nat) (v2 : Int32) (v3 : Int32) (u : zM), zJ eV p l e R s mi args below meth c (wC D b) m0 5 fin 8 [(0, .ref r0), (1, .ref 2), (2, .int v2), (3, .int v3)] [] u (zr8 r0 v2 v3 u)) (r0 : Nat) (v2 : Int32) (v3 : Int32) (s0 : Int32) (u : zM) : zJ eV p l e R s mi args below meth c (wC D b) m0 5 fin 52 [(0, .ref r0), (1, .ref 2), (2, .int v2), (3, .int v3)] [.int s0] u (La_readExpression_52 zq zr8 r0 v2 v3 s0 u) := by
  unfold La_readExpression_52
  refine zJ.chk _ (fun h1 => ?_)
  refine z_istore (L' := [(4, .int s0), (0, .ref r0), (1, .ref 2), (2, .int v2), (3, .int v3)]) hc dX1_readExpression_52 (by decide) rfl rfl ?_
  refine z_aload_n hc dX1_readExpression_54 2 rfl rfl ?_
  refine z_callV (av := []) (enc' := eV) hc rfl (sTa_step _) (ci := 8) (by decide) lC2 (zkC lC2) rfl wMX1_36 hpyX8_step hmyX8_step (rm_ok hRm (by omega) (by omega)) (Nat.le_of_ble_eq_true rfl) hRm.2.2 dX1_readExpression_55 (fun c1 u1 f1 => ?_)
  refine z_aload_n hc dX1_readExpression_58 1 rfl rfl ?_
  refine z_aload_n hc dX1_readExpression_59 2 rfl rfl ?_
  refine z_iload_n hc dX1_readExpression_60 3 rfl rfl ?_
  refine z_callV (av := [.ref 2, .int v2]) (enc' := eV) hc rfl (hzq1 r0 v2 _) (ci := 1) (by decide) h1 (zkC h1) rfl wMX1_22 hpyX1_readTest hmyX1_readTest (rm_ok hRm (by omega) (by omega)) (Nat.le_of_ble_eq_true rfl) hRm.2.2 dX1_readExpression_61 (fun c2 u2 f2 => ?_)
  refine z_aload_n hc dX1_readExpression_64 1 rfl rfl ?_
  refine z_iload hc dX1_readExpression_65 0 rfl ?_
  refine z_callV (av := [.int s0]) (enc' := eV) hc rfl (sLa_put r0 s0 _) (ci := 1) (by decide) h1 (zkC h1) rfl wMX1_39 hpyX1_put hmyX1_put (rm_ok hRm (by omega) (by omega)) (Nat.le_of_ble_eq_true rfl) hRm.2.2 dX1_readExpression_67 (fun c3 u3 f3 => ?_)
  refine z_iinc (L' := [(3, .int (v3 + 1)), (4, .int s0), (0, .ref r0), (1, .ref 2), (2, .int v2)]) hc dX1_readExpression_70 4 rfl (v := (v3 + 1)) rfl (by decide) rfl rfl ?_
  refine z_goto (tgt := 8) hc dX1_readExpression_73 (by decide) ?_
  refine zJ.sub (L' := [(0, .ref r0), (1, .ref 2), (2, .int v2), (3, .int (v3 + 1))]) [2, 3, 4, 0] rfl ?_
  exact hr8 r0 v2 (v3 + 1) _
set_option maxRecDepth 100000 in
set_option maxHeartbeats 4000000 in
theorem sLa_readExpression_35 {zn : Nat} {fin : Unit × zM} (hc : zCx p s mi args meth c (wC D b) m0 RX1 cX1_readExpression 5 none) (hRm : R.frames = 3 + (zn + 1) ∧ R.locals = 64 + (zn + 1) * 25 ∧ R.cells = zc (wC D b) m0 fin.2 ∧ R.slots = zs (wC D b) m0 fin.2) {zq : Nat → Nat → Int32 → zM → Option (Unit × zM)} (hzq0 : ∀ (r0 : Nat) (v2 : Int32) (u : zM) r m1, zq 0 r0 v2 u = some (r, m1) → zMet l (wC D b) (3 + zn) (64 + zn * 25) yX1_readExpression cX1_readExpression 5 none [.ref r0, .ref 2, .int v2] u (eV r) m1) (hzq1 : ∀ (r0 : Nat) (v2 : Int32) (u : zM) r m1, zq 1 r0 v2 u = some (r, m1) → zMet l (wC D b) (3 + zn) (64 + zn * 25) yX1_readTest cX1_readTest 4 none [.ref r0, .ref 2, .int v2] u (eV r) m1) (hzq2 : ∀ (r0 : Nat) (v2 : Int32) (u : zM) r m1, zq 2 r0 v2 u = some (r, m1) → zMet l (wC D b) (3 + zn) (64 + zn * 25) yX1_readSum cX1_readSum 5 none [.ref r0, .ref 2, .int v2] u (eV r) m1) (hzq3 : ∀ (r0 : Nat) (v2 : Int32) (u : zM) r m1, zq 3 r0 v2 u = some (r, m1) → zMet l (wC D b) (3 + zn) (64 + zn * 25) yX1_readProduct cX1_readProduct 4 none [.ref r0, .ref 2, .int v2] u (eV r) m1) (hzq4 : ∀ (r0 : Nat) (v2 : Int32) (u : zM) r m1, zq 4 r0 v2 u = some (r, m1) → zMet l (wC D b) (3 + zn) (64 + zn * 25) yX1_readPart cX1_readPart 6 none [.ref r0, .ref 2, .int v2] u (eV r) m1) {zr8 : Nat → Int32 → Int32 → zM → Option (Unit × zM)} (hr8 : ∀ (r0 : Nat) (v2 : Int32) (v3 : Int32) (u : zM), zJ eV p l e R s mi args below meth c (wC D b) m0 5 fin 8 [(0, .ref r0), (1, .ref 2), (2, .int v2), (3, .int v3)] [] u (zr8 r0 v2 v3 u)) (r0 : Nat) (v2 : Int32) (v3 : Int32) (u : zM) : zJ eV p l e R s mi args below meth c (wC D b) m0 5 fin 35 [(0, .ref r0), (1, .ref 2), (2, .int v2), (3, .int v3)] [] u (La_readExpression_35 zq zr8 r0 v2 v3 u) := by
  unfold La_readExpression_35
  refine zJ.chk _ (fun h1 => ?_)
  refine z_aload_n hc dX1_readExpression_35 1 rfl rfl ?_
  refine z_ldc2 (v := 6385252) hc wKX1_26 dX1_readExpression_36 ?_
  refine z_callV (av := [.long 6385252]) (enc' := eI) hc rfl (sTa_atWord 6385252 _) (ci := 8) (by decide) lC2 (zkC lC2) rfl wMX1_28 hpyX8_atWord hmyX8_atWord (rm_ok hRm (by omega) (by omega)) (Nat.le_of_ble_eq_true rfl) hRm.2.2 dX1_readExpression_39 (fun c1 u1 f1 => ?_)
  refine z_if_eq (tgt := 50) hc dX1_readExpression_42 (by decide) _ (fun h2 => ?_) (fun h2 => ?_)
  · refine z_bipush (v := (-7)) hc dX1_readExpression_50 rfl ?_
    exact sLa_readExpression_52 hc hRm hzq0 hzq1 hzq2 hzq3 hzq4 hr8 r0 v2 v3 (-7) _
  · refine z_bipush (v := (-6)) hc dX1_readExpression_45 rfl ?_
    refine z_goto (tgt := 52) hc dX1_readExpression_47 (by decide) ?_
    exact sLa_readExpression_52 hc hRm hzq0 hzq1 hzq2 hzq3 hzq4 hr8 r0 v2 v3 (-6) _
set_option maxRecDepth 100000 in
set_option maxHeartbeats 4000000 in
theorem sLa_readExpression_8b {zn : Nat} {fin : Unit × zM} (hc : zCx p s mi args meth c (wC D b) m0 RX1 cX1_readExpression 5 none) (hRm : R.frames = 3 + (zn + 1) ∧ R.locals = 64 + (zn + 1) * 25 ∧ R.cells = zc (wC D b) m0 fin.2 ∧ R.slots = zs (wC D b) m0 fin.2) {zq : Nat → Nat → Int32 → zM → Option (Unit × zM)} (hzq0 : ∀ (r0 : Nat) (v2 : Int32) (u : zM) r m1, zq 0 r0 v2 u = some (r, m1) → zMet l (wC D b) (3 + zn) (64 + zn * 25) yX1_readExpression cX1_readExpression 5 none [.ref r0, .ref 2, .int v2] u (eV r) m1) (hzq1 : ∀ (r0 : Nat) (v2 : Int32) (u : zM) r m1, zq 1 r0 v2 u = some (r, m1) → zMet l (wC D b) (3 + zn) (64 + zn * 25) yX1_readTest cX1_readTest 4 none [.ref r0, .ref 2, .int v2] u (eV r) m1) (hzq2 : ∀ (r0 : Nat) (v2 : Int32) (u : zM) r m1, zq 2 r0 v2 u = some (r, m1) → zMet l (wC D b) (3 + zn) (64 + zn * 25) yX1_readSum cX1_readSum 5 none [.ref r0, .ref 2, .int v2] u (eV r) m1) (hzq3 : ∀ (r0 : Nat) (v2 : Int32) (u : zM) r m1, zq 3 r0 v2 u = some (r, m1) → zMet l (wC D b) (3 + zn) (64 + zn * 25) yX1_readProduct cX1_readProduct 4 none [.ref r0, .ref 2, .int v2] u (eV r) m1) (hzq4 : ∀ (r0 : Nat) (v2 : Int32) (u : zM) r m1, zq 4 r0 v2 u = some (r, m1) → zMet l (wC D b) (3 + zn) (64 + zn * 25) yX1_readPart cX1_readPart 6 none [.ref r0, .ref 2, .int v2] u (eV r) m1) {zr8 : Nat → Int32 → Int32 → zM → Option (Unit × zM)} (hr8 : ∀ (r0 : Nat) (v2 : Int32) (v3 : Int32) (u : zM), zJ eV p l e R s mi args below meth c (wC D b) m0 5 fin 8 [(0, .ref r0), (1, .ref 2), (2, .int v2), (3, .int v3)] [] u (zr8 r0 v2 v3 u)) (r0 : Nat) (v2 : Int32) (v3 : Int32) (u : zM) : zJ eV p l e R s mi args below meth c (wC D b) m0 5 fin 8 [(0, .ref r0), (1, .ref 2), (2, .int v2), (3, .int v3)] [] u (La_readExpression_8b zq zr8 r0 v2 v3 u) := by
  unfold La_readExpression_8b
  refine zJ.chk _ (fun h1 => ?_)
  refine z_iload_n hc dX1_readExpression_8 3 rfl rfl ?_
  refine z_sipush (v := 1000) hc dX1_readExpression_9 rfl ?_
  refine z_icmp_ge (tgt := 76) hc dX1_readExpression_12 (by decide) _ (fun h2 => ?_) (fun h2 => ?_)
  · exact z_vret hc dX1_readExpression_76
  · refine z_aload_n hc dX1_readExpression_15 1 rfl rfl ?_
    refine z_ldc2 (v := 6385252) hc wKX1_26 dX1_readExpression_16 ?_
    refine z_callV (av := [.long 6385252]) (enc' := eI) hc rfl (sTa_atWord 6385252 _) (ci := 8) (by decide) lC2 (zkC lC2) rfl wMX1_28 hpyX8_atWord hmyX8_atWord (rm_ok hRm (by omega) (by omega)) (Nat.le_of_ble_eq_true rfl) hRm.2.2 dX1_readExpression_19 (fun c1 u1 f1 => ?_)
    refine z_if_ne (tgt := 35) hc dX1_readExpression_22 (by decide) _ (fun h3 => ?_) (fun h3 => ?_)
    · exact sLa_readExpression_35 hc hRm hzq0 hzq1 hzq2 hzq3 hzq4 hr8 r0 v2 v3 _
    · refine z_aload_n hc dX1_readExpression_25 1 rfl rfl ?_
      refine z_ldc2 (v := 28530) hc wKX1_34 dX1_readExpression_26 ?_
      refine z_callV (av := [.long 28530]) (enc' := eI) hc rfl (sTa_atWord 28530 _) (ci := 8) (by decide) lC2 (zkC lC2) rfl wMX1_28 hpyX8_atWord hmyX8_atWord (rm_ok hRm (by omega) (by omega)) (Nat.le_of_ble_eq_true rfl) hRm.2.2 dX1_readExpression_29 (fun c2 u2 f2 => ?_)
      refine z_if_eq (tgt := 76) hc dX1_readExpression_32 (by decide) _ (fun h4 => ?_) (fun h4 => ?_)
      · exact z_vret hc dX1_readExpression_76
      · exact sLa_readExpression_35 hc hRm hzq0 hzq1 hzq2 hzq3 hzq4 hr8 r0 v2 v3 _
set_option maxRecDepth 100000 in
set_option maxHeartbeats 4000000 in
theorem sLa_readExpression_8 {zn : Nat} {fin : Unit × zM} (hc : zCx p s mi args meth c (wC D b) m0 RX1 cX1_readExpression 5 none) (hRm : R.frames = 3 + (zn + 1) ∧ R.locals = 64 + (zn + 1) * 25 ∧ R.cells = zc (wC D b) m0 fin.2 ∧ R.slots = zs (wC D b) m0 fin.2) {zq : Nat → Nat → Int32 → zM → Option (Unit × zM)} (hzq0 : ∀ (r0 : Nat) (v2 : Int32) (u : zM) r m1, zq 0 r0 v2 u = some (r, m1) → zMet l (wC D b) (3 + zn) (64 + zn * 25) yX1_readExpression cX1_readExpression 5 none [.ref r0, .ref 2, .int v2] u (eV r) m1) (hzq1 : ∀ (r0 : Nat) (v2 : Int32) (u : zM) r m1, zq 1 r0 v2 u = some (r, m1) → zMet l (wC D b) (3 + zn) (64 + zn * 25) yX1_readTest cX1_readTest 4 none [.ref r0, .ref 2, .int v2] u (eV r) m1) (hzq2 : ∀ (r0 : Nat) (v2 : Int32) (u : zM) r m1, zq 2 r0 v2 u = some (r, m1) → zMet l (wC D b) (3 + zn) (64 + zn * 25) yX1_readSum cX1_readSum 5 none [.ref r0, .ref 2, .int v2] u (eV r) m1) (hzq3 : ∀ (r0 : Nat) (v2 : Int32) (u : zM) r m1, zq 3 r0 v2 u = some (r, m1) → zMet l (wC D b) (3 + zn) (64 + zn * 25) yX1_readProduct cX1_readProduct 4 none [.ref r0, .ref 2, .int v2] u (eV r) m1) (hzq4 : ∀ (r0 : Nat) (v2 : Int32) (u : zM) r m1, zq 4 r0 v2 u = some (r, m1) → zMet l (wC D b) (3 + zn) (64 + zn * 25) yX1_readPart cX1_readPart 6 none [.ref r0, .ref 2, .int v2] u (eV r) m1) : ∀ (zf : Nat) (r0 : Nat) (v2 : Int32) (v3 : Int32) (u : zM), zJ eV p l e R s mi args below meth c (wC D b) m0 5 fin 8 [(0, .ref r0), (1, .ref 2), (2, .int v2), (3, .int v3)] [] u (La_readExpression_8 zf zq r0 v2 v3 u) := by
  intro zf
  induction zf with
  | zero => intro r0 v2 v3 u; exact zJ.nil
  | succ zf ih => intro r0 v2 v3 u; exact sLa_readExpression_8b hc hRm hzq0 hzq1 hzq2 hzq3 hzq4 ih r0 v2 v3 u
set_option maxRecDepth 100000 in
set_option maxHeartbeats 4000000 in
theorem sLa_readExpression_b {zn : Nat} {zq : Nat → Nat → Int32 → zM → Option (Unit × zM)} (hzq0 : ∀ (r0 : Nat) (v2 : Int32) (u : zM) r m1, zq 0 r0 v2 u = some (r, m1) → zMet l (wC D b) (3 + zn) (64 + zn * 25) yX1_readExpression cX1_readExpression 5 none [.ref r0, .ref 2, .int v2] u (eV r) m1) (hzq1 : ∀ (r0 : Nat) (v2 : Int32) (u : zM) r m1, zq 1 r0 v2 u = some (r, m1) → zMet l (wC D b) (3 + zn) (64 + zn * 25) yX1_readTest cX1_readTest 4 none [.ref r0, .ref 2, .int v2] u (eV r) m1) (hzq2 : ∀ (r0 : Nat) (v2 : Int32) (u : zM) r m1, zq 2 r0 v2 u = some (r, m1) → zMet l (wC D b) (3 + zn) (64 + zn * 25) yX1_readSum cX1_readSum 5 none [.ref r0, .ref 2, .int v2] u (eV r) m1) (hzq3 : ∀ (r0 : Nat) (v2 : Int32) (u : zM) r m1, zq 3 r0 v2 u = some (r, m1) → zMet l (wC D b) (3 + zn) (64 + zn * 25) yX1_readProduct cX1_readProduct 4 none [.ref r0, .ref 2, .int v2] u (eV r) m1) (hzq4 : ∀ (r0 : Nat) (v2 : Int32) (u : zM) r m1, zq 4 r0 v2 u = some (r, m1) → zMet l (wC D b) (3 + zn) (64 + zn * 25) yX1_readPart cX1_readPart 6 none [.ref r0, .ref 2, .int v2] u (eV r) m1) : ∀ (r0 : Nat) (v2 : Int32) (u : zM) r m1, La_readExpression zq r0 v2 u = some (r, m1) → zMet l (wC D b) (3 + (zn + 1)) (64 + (zn + 1) * 25) yX1_readExpression cX1_readExpression 5 none [.ref r0, .ref 2, .int v2] u (eV r) m1 := by
  intro r0 v2 u
  refine zMet.of (L := [(0, .ref r0), (1, .ref 2), (2, .int v2)]) RX1 (by decide +kernel) rfl (Nat.le_of_ble_eq_true rfl) (fun h => by cases h) rfl (fun p e s mi args below meth c R fin hc hin hRm => ?_)
  unfold La_readExpression
  refine zJ.chk _ (fun h1 => ?_)
  refine z_aload_n hc dX1_readExpression_0 0 rfl rfl ?_
  refine z_aload_n hc dX1_readExpression_1 1 rfl rfl ?_
  refine z_iload_n hc dX1_readExpression_2 2 rfl rfl ?_
  refine z_callV (av := [.ref 2, .int v2]) (enc' := eV) hc rfl (hzq1 r0 v2 _) (ci := 1) (by decide) h1 (zkC h1) rfl wMX1_22 hpyX1_readTest hmyX1_readTest (rm_ok hRm (by omega) (by omega)) (Nat.le_of_ble_eq_true rfl) hRm.2.2 dX1_readExpression_3 (fun c1 u1 f1 => ?_)
  refine z_iconst (v := 0) hc dX1_readExpression_6 rfl ?_
  refine z_istore_n (L' := [(3, .int 0), (0, .ref r0), (1, .ref 2), (2, .int v2)]) hc dX1_readExpression_7 rfl (by decide) rfl rfl ?_
  refine zJ.sub (L' := [(0, .ref r0), (1, .ref 2), (2, .int v2), (3, .int 0)]) [1, 2, 3, 0] rfl ?_
  exact sLa_readExpression_8 hc hRm hzq0 hzq1 hzq2 hzq3 hzq4 zF r0 v2 0 _
theorem sLa_rd : ∀ zn : Nat, (∀ (r0 : Nat) (v2 : Int32) (u : zM) r m1, La_rd zn 0 r0 v2 u = some (r, m1) → zMet l (wC D b) (3 + zn) (64 + zn * 25) yX1_readExpression cX1_readExpression 5 none [.ref r0, .ref 2, .int v2] u (eV r) m1) ∧ (∀ (r0 : Nat) (v2 : Int32) (u : zM) r m1, La_rd zn 1 r0 v2 u = some (r, m1) → zMet l (wC D b) (3 + zn) (64 + zn * 25) yX1_readTest cX1_readTest 4 none [.ref r0, .ref 2, .int v2] u (eV r) m1) ∧ (∀ (r0 : Nat) (v2 : Int32) (u : zM) r m1, La_rd zn 2 r0 v2 u = some (r, m1) → zMet l (wC D b) (3 + zn) (64 + zn * 25) yX1_readSum cX1_readSum 5 none [.ref r0, .ref 2, .int v2] u (eV r) m1) ∧ (∀ (r0 : Nat) (v2 : Int32) (u : zM) r m1, La_rd zn 3 r0 v2 u = some (r, m1) → zMet l (wC D b) (3 + zn) (64 + zn * 25) yX1_readProduct cX1_readProduct 4 none [.ref r0, .ref 2, .int v2] u (eV r) m1) ∧ (∀ (r0 : Nat) (v2 : Int32) (u : zM) r m1, La_rd zn 4 r0 v2 u = some (r, m1) → zMet l (wC D b) (3 + zn) (64 + zn * 25) yX1_readPart cX1_readPart 6 none [.ref r0, .ref 2, .int v2] u (eV r) m1) := by
  intro zn
  induction zn with
  | zero => exact ⟨(fun _ _ _ _ _ h => nomatch h), (fun _ _ _ _ _ h => nomatch h), (fun _ _ _ _ _ h => nomatch h), (fun _ _ _ _ _ h => nomatch h), (fun _ _ _ _ _ h => nomatch h)⟩
  | succ zn ih =>
    obtain ⟨h0, h1, h2, h3, h4⟩ := ih
    exact ⟨sLa_readExpression_b h0 h1 h2 h3 h4, sLa_readTest_b h0 h1 h2 h3 h4, sLa_readSum_b h0 h1 h2 h3 h4, sLa_readProduct_b h0 h1 h2 h3 h4, sLa_readPart_b h0 h1 h2 h3 h4⟩
set_option maxRecDepth 100000 in
set_option maxHeartbeats 4000000 in
theorem sCo_readWets : ∀ (r0 : Nat) (u : zM) r m1, Co_readWets r0 u = some (r, m1) → zMet l (wC D b) 45 1113 yX0_readWets cX0_readWets 2 none [.ref r0, .ref 2] u (eV r) m1 := by
  intro r0 u
  refine zMet.of (L := [(0, .ref r0), (1, .ref 2)]) RX0 (by decide +kernel) rfl (Nat.le_of_ble_eq_true rfl) (fun h => by cases h) rfl (fun p e s mi args below meth c R fin hc hin hRm => ?_)
  unfold Co_readWets
  refine zJ.chk _ (fun h1 => ?_)
  refine z_aload_n hc dX0_readWets_0 0 rfl rfl ?_
  refine z_getR (x := (r0 + 18)) hc (ci := 0) (k := 13) (by decide) (by decide) zly0 h1 (zkC h1) wFX0_60 rfl dX0_readWets_1 (rfC_off (off := 18) h1 rfl (by decide)) (Nat.le_add_left_of_le (by decide)) ?_
  refine z_getI hc (ci := 1) (k := 2) (by decide) (by decide) zly1 (lyC_10_18 h1) (zkC (lyC_10_18 h1)) wFX0_93 rfl dX0_readWets_4 ?_
  refine z_if_le (tgt := 16) hc dX0_readWets_7 (by decide) _ (fun h2 => ?_) (fun h2 => ?_)
  · refine z_aload_n hc dX0_readWets_16 1 rfl rfl ?_
    refine z_callV (av := []) (enc' := eV) hc rfl (sTa_step _) (ci := 8) (by decide) lC2 (zkC lC2) rfl wMX0_136 hpyX8_step hmyX8_step (rm_ok hRm (Nat.le_of_ble_eq_true rfl) (Nat.le_of_ble_eq_true rfl)) (Nat.le_of_ble_eq_true rfl) hRm.2.2 dX0_readWets_17 (fun c1 u1 f1 => ?_)
    refine z_aload_n hc dX0_readWets_20 0 rfl rfl ?_
    refine z_getR (x := (r0 + 18)) hc (ci := 0) (k := 13) (by decide) (by decide) zly0 h1 (zkC h1) wFX0_60 rfl dX0_readWets_21 (rfC_off (off := 18) h1 rfl (by decide)) (Nat.le_add_left_of_le (by decide)) ?_
    refine z_aload_n hc dX0_readWets_24 1 rfl rfl ?_
    refine z_iconst (v := 0) hc dX0_readWets_25 rfl ?_
    refine z_callVN (av := [.ref 2, .int 0]) (enc' := eV) hc rfl ((sLa_rd 40).1 (r0 + 18) 0 _) (ci := 1) (by decide) (lyC_10_18 h1) (zkC (lyC_10_18 h1)) (host := "OtterWrits") (by decide +kernel) wMX0_225 hpyX1_readExpression hmyX1_readExpression (rm_ok hRm (Nat.le_of_ble_eq_true rfl) (Nat.le_of_ble_eq_true rfl)) (Nat.le_of_ble_eq_true rfl) hRm.2.2 dX0_readWets_26 (fun c2 u2 f2 => ?_)
    refine z_aload_n hc dX0_readWets_29 1 rfl rfl ?_
    refine z_bipush (v := 59) hc dX0_readWets_30 rfl ?_
    refine z_callV (av := [.int 59]) (enc' := eV) hc rfl (sTa_passSign 59 _) (ci := 8) (by decide) lC2 (zkC lC2) rfl wMX0_174 hpyX8_passSign hmyX8_passSign (rm_ok hRm (Nat.le_of_ble_eq_true rfl) (Nat.le_of_ble_eq_true rfl)) (Nat.le_of_ble_eq_true rfl) hRm.2.2 dX0_readWets_32 (fun c3 u3 f3 => ?_)
    exact z_vret hc dX0_readWets_35
  · refine z_aload_n hc dX0_readWets_10 1 rfl rfl ?_
    refine z_iconst (v := 3) hc dX0_readWets_11 rfl ?_
    refine z_callV (av := [.int 3]) (enc' := eV) hc rfl (sTa_fail 3 _) (ci := 8) (by decide) lC2 (zkC lC2) rfl wMX0_133 hpyX8_fail hmyX8_fail (rm_ok hRm (Nat.le_of_ble_eq_true rfl) (Nat.le_of_ble_eq_true rfl)) (Nat.le_of_ble_eq_true rfl) hRm.2.2 dX0_readWets_12 (fun c4 u4 f4 => ?_)
    exact z_vret hc dX0_readWets_15
set_option maxRecDepth 100000 in
set_option maxHeartbeats 4000000 in
theorem sCo_readStatement : ∀ (r0 : Nat) (u : zM) r m1, Co_readStatement r0 u = some (r, m1) → zMet l (wC D b) 46 1134 yX0_readStatement cX0_readStatement 2 none [.ref r0, .ref 2] u (eV r) m1 := by
  intro r0 u
  refine zMet.of (L := [(0, .ref r0), (1, .ref 2)]) RX0 (by decide +kernel) rfl (Nat.le_of_ble_eq_true rfl) (fun h => by cases h) rfl (fun p e s mi args below meth c R fin hc hin hRm => ?_)
  unfold Co_readStatement
  refine zJ.chk _ (fun h1 => ?_)
  refine z_aload_n hc dX0_readStatement_0 1 rfl rfl ?_
  refine z_ldc2 (v := 482854658917) hc wKX0_94 dX0_readStatement_1 ?_
  refine z_callV (av := [.long 482854658917]) (enc' := eI) hc rfl (sTa_atWord 482854658917 _) (ci := 8) (by decide) lC2 (zkC lC2) rfl wMX0_96 hpyX8_atWord hmyX8_atWord (rm_ok hRm (Nat.le_of_ble_eq_true rfl) (Nat.le_of_ble_eq_true rfl)) (Nat.le_of_ble_eq_true rfl) hRm.2.2 dX0_readStatement_4 (fun c1 u1 f1 => ?_)
  refine z_if_eq (tgt := 18) hc dX0_readStatement_7 (by decide) _ (fun h2 => ?_) (fun h2 => ?_)
  · refine z_aload_n hc dX0_readStatement_18 1 rfl rfl ?_
    refine z_ldc2 (v := 126943972647277) hc wKX0_103 dX0_readStatement_19 ?_
    refine z_callV (av := [.long 126943972647277]) (enc' := eI) hc rfl (sTa_atWord 126943972647277 _) (ci := 8) (by decide) lC2 (zkC lC2) rfl wMX0_96 hpyX8_atWord hmyX8_atWord (rm_ok hRm (Nat.le_of_ble_eq_true rfl) (Nat.le_of_ble_eq_true rfl)) (Nat.le_of_ble_eq_true rfl) hRm.2.2 dX0_readStatement_22 (fun c2 u2 f2 => ?_)
    refine z_if_eq (tgt := 36) hc dX0_readStatement_25 (by decide) _ (fun h3 => ?_) (fun h3 => ?_)
    · refine z_aload_n hc dX0_readStatement_36 1 rfl rfl ?_
      refine z_ldc2 (v := 123581014175598) hc wKX0_108 dX0_readStatement_37 ?_
      refine z_callV (av := [.long 123581014175598]) (enc' := eI) hc rfl (sTa_atWord 123581014175598 _) (ci := 8) (by decide) lC2 (zkC lC2) rfl wMX0_96 hpyX8_atWord hmyX8_atWord (rm_ok hRm (Nat.le_of_ble_eq_true rfl) (Nat.le_of_ble_eq_true rfl)) (Nat.le_of_ble_eq_true rfl) hRm.2.2 dX0_readStatement_40 (fun c3 u3 f3 => ?_)
      refine z_if_eq (tgt := 54) hc dX0_readStatement_43 (by decide) _ (fun h4 => ?_) (fun h4 => ?_)
      · refine z_aload_n hc dX0_readStatement_54 1 rfl rfl ?_
        refine z_ldc2 (v := 478695155058) hc wKX0_113 dX0_readStatement_55 ?_
        refine z_callV (av := [.long 478695155058]) (enc' := eI) hc rfl (sTa_atWord 478695155058 _) (ci := 8) (by decide) lC2 (zkC lC2) rfl wMX0_96 hpyX8_atWord hmyX8_atWord (rm_ok hRm (Nat.le_of_ble_eq_true rfl) (Nat.le_of_ble_eq_true rfl)) (Nat.le_of_ble_eq_true rfl) hRm.2.2 dX0_readStatement_58 (fun c4 u4 f4 => ?_)
        refine z_if_eq (tgt := 72) hc dX0_readStatement_61 (by decide) _ (fun h5 => ?_) (fun h5 => ?_)
        · refine z_aload_n hc dX0_readStatement_72 1 rfl rfl ?_
          refine z_ldc2 (v := 2003986804) hc wKX0_118 dX0_readStatement_73 ?_
          refine z_callV (av := [.long 2003986804]) (enc' := eI) hc rfl (sTa_atWord 2003986804 _) (ci := 8) (by decide) lC2 (zkC lC2) rfl wMX0_96 hpyX8_atWord hmyX8_atWord (rm_ok hRm (Nat.le_of_ble_eq_true rfl) (Nat.le_of_ble_eq_true rfl)) (Nat.le_of_ble_eq_true rfl) hRm.2.2 dX0_readStatement_76 (fun c5 u5 f5 => ?_)
          refine z_if_eq (tgt := 90) hc dX0_readStatement_79 (by decide) _ (fun h6 => ?_) (fun h6 => ?_)
          · refine z_aload_n hc dX0_readStatement_90 1 rfl rfl ?_
            refine z_ldc2 (v := 1918986606) hc wKX0_123 dX0_readStatement_91 ?_
            refine z_callV (av := [.long 1918986606]) (enc' := eI) hc rfl (sTa_atWord 1918986606 _) (ci := 8) (by decide) lC2 (zkC lC2) rfl wMX0_96 hpyX8_atWord hmyX8_atWord (rm_ok hRm (Nat.le_of_ble_eq_true rfl) (Nat.le_of_ble_eq_true rfl)) (Nat.le_of_ble_eq_true rfl) hRm.2.2 dX0_readStatement_94 (fun c6 u6 f6 => ?_)
            refine z_if_eq (tgt := 108) hc dX0_readStatement_97 (by decide) _ (fun h7 => ?_) (fun h7 => ?_)
            · refine z_aload_n hc dX0_readStatement_108 1 rfl rfl ?_
              refine z_ldc2 (v := 2003137651) hc wKX0_128 dX0_readStatement_109 ?_
              refine z_callV (av := [.long 2003137651]) (enc' := eI) hc rfl (sTa_atWord 2003137651 _) (ci := 8) (by decide) lC2 (zkC lC2) rfl wMX0_96 hpyX8_atWord hmyX8_atWord (rm_ok hRm (Nat.le_of_ble_eq_true rfl) (Nat.le_of_ble_eq_true rfl)) (Nat.le_of_ble_eq_true rfl) hRm.2.2 dX0_readStatement_112 (fun c7 u7 f7 => ?_)
              refine z_if_eq (tgt := 126) hc dX0_readStatement_115 (by decide) _ (fun h8 => ?_) (fun h8 => ?_)
              · refine z_aload_n hc dX0_readStatement_126 1 rfl rfl ?_
                refine z_iconst (v := 1) hc dX0_readStatement_127 rfl ?_
                refine z_callV (av := [.int 1]) (enc' := eV) hc rfl (sTa_fail 1 _) (ci := 8) (by decide) lC2 (zkC lC2) rfl wMX0_133 hpyX8_fail hmyX8_fail (rm_ok hRm (Nat.le_of_ble_eq_true rfl) (Nat.le_of_ble_eq_true rfl)) (Nat.le_of_ble_eq_true rfl) hRm.2.2 dX0_readStatement_128 (fun c8 u8 f8 => ?_)
                exact z_vret hc dX0_readStatement_131
              · refine z_aload_n hc dX0_readStatement_118 0 rfl rfl ?_
                refine z_aload_n hc dX0_readStatement_119 1 rfl rfl ?_
                refine z_callV (av := [.ref 2]) (enc' := eV) hc rfl (sCo_readWets r0 _) (ci := 0) (by decide) h1 (zkC h1) rfl wMX0_130 hpyX0_readWets hmyX0_readWets (rm_ok hRm (Nat.le_of_ble_eq_true rfl) (Nat.le_of_ble_eq_true rfl)) (Nat.le_of_ble_eq_true rfl) hRm.2.2 dX0_readStatement_120 (fun c9 u9 f9 => ?_)
                refine z_goto (tgt := 131) hc dX0_readStatement_123 (by decide) ?_
                exact z_vret hc dX0_readStatement_131
            · refine z_aload_n hc dX0_readStatement_100 0 rfl rfl ?_
              refine z_aload_n hc dX0_readStatement_101 1 rfl rfl ?_
              refine z_callV (av := [.ref 2]) (enc' := eV) hc rfl (sCo_readRain r0 _) (ci := 0) (by decide) h1 (zkC h1) rfl wMX0_125 hpyX0_readRain hmyX0_readRain (rm_ok hRm (Nat.le_of_ble_eq_true rfl) (Nat.le_of_ble_eq_true rfl)) (Nat.le_of_ble_eq_true rfl) hRm.2.2 dX0_readStatement_102 (fun c10 u10 f10 => ?_)
              refine z_goto (tgt := 131) hc dX0_readStatement_105 (by decide) ?_
              exact z_vret hc dX0_readStatement_131
          · refine z_aload_n hc dX0_readStatement_82 0 rfl rfl ?_
            refine z_aload_n hc dX0_readStatement_83 1 rfl rfl ?_
            refine z_callV (av := [.ref 2]) (enc' := eV) hc rfl (sCo_readWrit r0 _) (ci := 0) (by decide) h1 (zkC h1) rfl wMX0_120 hpyX0_readWrit hmyX0_readWrit (rm_ok hRm (Nat.le_of_ble_eq_true rfl) (Nat.le_of_ble_eq_true rfl)) (Nat.le_of_ble_eq_true rfl) hRm.2.2 dX0_readStatement_84 (fun c11 u11 f11 => ?_)
            refine z_goto (tgt := 131) hc dX0_readStatement_87 (by decide) ?_
            exact z_vret hc dX0_readStatement_131
        · refine z_aload_n hc dX0_readStatement_64 0 rfl rfl ?_
          refine z_aload_n hc dX0_readStatement_65 1 rfl rfl ?_
          refine z_callV (av := [.ref 2]) (enc' := eV) hc rfl (sCo_readOtter r0 _) (ci := 0) (by decide) h1 (zkC h1) rfl wMX0_115 hpyX0_readOtter hmyX0_readOtter (rm_ok hRm (Nat.le_of_ble_eq_true rfl) (Nat.le_of_ble_eq_true rfl)) (Nat.le_of_ble_eq_true rfl) hRm.2.2 dX0_readStatement_66 (fun c12 u12 f12 => ?_)
          refine z_goto (tgt := 131) hc dX0_readStatement_69 (by decide) ?_
          exact z_vret hc dX0_readStatement_131
      · refine z_aload_n hc dX0_readStatement_46 0 rfl rfl ?_
        refine z_aload_n hc dX0_readStatement_47 1 rfl rfl ?_
        refine z_callV (av := [.ref 2]) (enc' := eV) hc rfl (sCo_readPerson r0 _) (ci := 0) (by decide) h1 (zkC h1) rfl wMX0_110 hpyX0_readPerson hmyX0_readPerson (rm_ok hRm (Nat.le_of_ble_eq_true rfl) (Nat.le_of_ble_eq_true rfl)) (Nat.le_of_ble_eq_true rfl) hRm.2.2 dX0_readStatement_48 (fun c13 u13 f13 => ?_)
        refine z_goto (tgt := 131) hc dX0_readStatement_51 (by decide) ?_
        exact z_vret hc dX0_readStatement_131
    · refine z_aload_n hc dX0_readStatement_28 0 rfl rfl ?_
      refine z_aload_n hc dX0_readStatement_29 1 rfl rfl ?_
      refine z_callV (av := [.ref 2]) (enc' := eV) hc rfl (sCo_readStream r0 _) (ci := 0) (by decide) h1 (zkC h1) rfl wMX0_105 hpyX0_readStream hmyX0_readStream (rm_ok hRm (Nat.le_of_ble_eq_true rfl) (Nat.le_of_ble_eq_true rfl)) (Nat.le_of_ble_eq_true rfl) hRm.2.2 dX0_readStatement_30 (fun c14 u14 f14 => ?_)
      refine z_goto (tgt := 131) hc dX0_readStatement_33 (by decide) ?_
      exact z_vret hc dX0_readStatement_131
  · refine z_aload_n hc dX0_readStatement_10 0 rfl rfl ?_
    refine z_aload_n hc dX0_readStatement_11 1 rfl rfl ?_
    refine z_callV (av := [.ref 2]) (enc' := eV) hc rfl (sCo_readPlace r0 _) (ci := 0) (by decide) h1 (zkC h1) rfl wMX0_100 hpyX0_readPlace hmyX0_readPlace (rm_ok hRm (Nat.le_of_ble_eq_true rfl) (Nat.le_of_ble_eq_true rfl)) (Nat.le_of_ble_eq_true rfl) hRm.2.2 dX0_readStatement_12 (fun c15 u15 f15 => ?_)
    refine z_goto (tgt := 131) hc dX0_readStatement_15 (by decide) ?_
    exact z_vret hc dX0_readStatement_131
set_option maxRecDepth 100000 in
set_option maxHeartbeats 4000000 in
theorem sCo_read_10b {fin : Unit × zM} (hc : zCx p s mi args meth c (wC D b) m0 RX0 cX0_read 3 none) (hRm : R.frames = 47 ∧ R.locals = 1155 ∧ R.cells = zc (wC D b) m0 fin.2 ∧ R.slots = zs (wC D b) m0 fin.2) {zr10 : Nat → Int32 → zM → Option (Unit × zM)} (hr10 : ∀ (r0 : Nat) (v2 : Int32) (u : zM), zJ eV p l e R s mi args below meth c (wC D b) m0 3 fin 10 [(0, .ref r0), (1, .ref 2), (2, .int v2)] [] u (zr10 r0 v2 u)) (r0 : Nat) (v2 : Int32) (u : zM) : zJ eV p l e R s mi args below meth c (wC D b) m0 3 fin 10 [(0, .ref r0), (1, .ref 2), (2, .int v2)] [] u (Co_read_10b zr10 r0 v2 u) := by
  unfold Co_read_10b
  refine zJ.chk _ (fun h1 => ?_)
  refine z_iload_n hc dX0_read_10 2 rfl rfl ?_
  refine z_sipush (v := 1000) hc dX0_read_11 rfl ?_
  refine z_icmp_ge (tgt := 42) hc dX0_read_14 (by decide) _ (fun h2 => ?_) (fun h2 => ?_)
  · exact z_vret hc dX0_read_42
  · refine z_aload_n hc dX0_read_17 1 rfl rfl ?_
    refine z_callV (av := []) (enc' := eI) hc rfl (sTa_isFine _) (ci := 8) (by decide) lC2 (zkC lC2) rfl wMX0_72 hpyX8_isFine hmyX8_isFine (rm_ok hRm (Nat.le_of_ble_eq_true rfl) (Nat.le_of_ble_eq_true rfl)) (Nat.le_of_ble_eq_true rfl) hRm.2.2 dX0_read_18 (fun c1 u1 f1 => ?_)
    refine z_if_eq (tgt := 42) hc dX0_read_21 (by decide) _ (fun h3 => ?_) (fun h3 => ?_)
    · exact z_vret hc dX0_read_42
    · refine z_aload_n hc dX0_read_24 1 rfl rfl ?_
      refine z_getI hc (ci := 8) (k := 4) (by decide) (by decide) zly8 lC2 (zkC lC2) wFX0_76 rfl dX0_read_25 ?_
      refine z_if_eq (tgt := 42) hc dX0_read_28 (by decide) _ (fun h4 => ?_) (fun h4 => ?_)
      · exact z_vret hc dX0_read_42
      · refine z_aload_n hc dX0_read_31 0 rfl rfl ?_
        refine z_aload_n hc dX0_read_32 1 rfl rfl ?_
        refine z_callV (av := [.ref 2]) (enc' := eV) hc rfl (sCo_readStatement r0 _) (ci := 0) (by decide) h1 (zkC h1) rfl wMX0_80 hpyX0_readStatement hmyX0_readStatement (rm_ok hRm (Nat.le_of_ble_eq_true rfl) (Nat.le_of_ble_eq_true rfl)) (Nat.le_of_ble_eq_true rfl) hRm.2.2 dX0_read_33 (fun c2 u2 f2 => ?_)
        refine z_iinc (L' := [(2, .int (v2 + 1)), (0, .ref r0), (1, .ref 2)]) hc dX0_read_36 2 rfl (v := (v2 + 1)) rfl (by decide) rfl rfl ?_
        refine z_goto (tgt := 10) hc dX0_read_39 (by decide) ?_
        refine zJ.sub (L' := [(0, .ref r0), (1, .ref 2), (2, .int (v2 + 1))]) [1, 2, 0] rfl ?_
        exact hr10 r0 (v2 + 1) _
set_option maxRecDepth 100000 in
set_option maxHeartbeats 4000000 in
theorem sCo_read_10 {fin : Unit × zM} (hc : zCx p s mi args meth c (wC D b) m0 RX0 cX0_read 3 none) (hRm : R.frames = 47 ∧ R.locals = 1155 ∧ R.cells = zc (wC D b) m0 fin.2 ∧ R.slots = zs (wC D b) m0 fin.2) : ∀ (zf : Nat) (r0 : Nat) (v2 : Int32) (u : zM), zJ eV p l e R s mi args below meth c (wC D b) m0 3 fin 10 [(0, .ref r0), (1, .ref 2), (2, .int v2)] [] u (Co_read_10 zf r0 v2 u) := by
  intro zf
  induction zf with
  | zero => intro r0 v2 u; exact zJ.nil
  | succ zf ih => intro r0 v2 u; exact sCo_read_10b hc hRm ih r0 v2 u
set_option maxRecDepth 100000 in
set_option maxHeartbeats 4000000 in
theorem sCo_read : ∀ (r0 : Nat) (u : zM) r m1, Co_read r0 u = some (r, m1) → zMet l (wC D b) 47 1155 yX0_read cX0_read 3 none [.ref r0, .ref 2] u (eV r) m1 := by
  intro r0 u
  refine zMet.of (L := [(0, .ref r0), (1, .ref 2)]) RX0 (by decide +kernel) rfl (Nat.le_of_ble_eq_true rfl) (fun h => by cases h) rfl (fun p e s mi args below meth c R fin hc hin hRm => ?_)
  unfold Co_read
  refine zJ.chk _ (fun h1 => ?_)
  refine z_aload_n hc dX0_read_0 0 rfl rfl ?_
  refine z_callV (av := []) (enc' := eV) hc rfl (sCo_clear r0 _) (ci := 0) (by decide) h1 (zkC h1) rfl wMX0_64 hpyX0_clear hmyX0_clear (rm_ok hRm (Nat.le_of_ble_eq_true rfl) (Nat.le_of_ble_eq_true rfl)) (Nat.le_of_ble_eq_true rfl) hRm.2.2 dX0_read_1 (fun c1 u1 f1 => ?_)
  refine z_aload_n hc dX0_read_4 1 rfl rfl ?_
  refine z_callV (av := []) (enc' := eV) hc rfl (sTa_begin _) (ci := 8) (by decide) lC2 (zkC lC2) rfl wMX0_67 hpyX8_begin hmyX8_begin (rm_ok hRm (Nat.le_of_ble_eq_true rfl) (Nat.le_of_ble_eq_true rfl)) (Nat.le_of_ble_eq_true rfl) hRm.2.2 dX0_read_5 (fun c2 u2 f2 => ?_)
  refine z_iconst (v := 0) hc dX0_read_8 rfl ?_
  refine z_istore_n (L' := [(2, .int 0), (0, .ref r0), (1, .ref 2)]) hc dX0_read_9 rfl (by decide) rfl rfl ?_
  refine zJ.sub (L' := [(0, .ref r0), (1, .ref 2), (2, .int 0)]) [1, 2, 0] rfl ?_
  exact sCo_read_10 hc hRm zF r0 0 _
set_option maxRecDepth 100000 in
set_option maxHeartbeats 4000000 in
theorem sCo_allPlaces : ∀ (r0 : Nat) (u : zM) r m1, Co_allPlaces r0 u = some (r, m1) → zMet l (wC D b) 0 0 yX0_allPlaces cX0_allPlaces 1 (some .int) [.ref r0] u (eI r) m1 := by
  intro r0 u
  refine zMet.of (L := [(0, .ref r0)]) RX0 (by decide +kernel) rfl (Nat.le_of_ble_eq_true rfl) (fun h => by cases h) rfl (fun p e s mi args below meth c R fin hc hin hRm => ?_)
  unfold Co_allPlaces
  refine zJ.chk _ (fun h1 => ?_)
  refine z_iconst (v := 1) hc dX0_allPlaces_0 rfl ?_
  refine z_aload_n hc dX0_allPlaces_1 0 rfl rfl ?_
  refine z_getR (x := (r0 + 1)) hc (ci := 0) (k := 0) (by decide) (by decide) zly0 h1 (zkC h1) wFX0_14 rfl dX0_allPlaces_2 (rfC_off (off := 1) h1 rfl (by decide)) (Nat.le_add_left_of_le (by decide)) ?_
  refine z_getI hc (ci := 3) (k := 1) (by decide) (by decide) zly3 (lyC_10_1 h1) (zkC (lyC_10_1 h1)) wFX0_84 rfl dX0_allPlaces_5 ?_
  refine z_ishl hc dX0_allPlaces_8 ?_
  refine z_iconst (v := 1) hc dX0_allPlaces_9 rfl ?_
  refine z_isub hc dX0_allPlaces_10 ?_
  exact z_iret hc dX0_allPlaces_11
set_option maxRecDepth 100000 in
set_option maxHeartbeats 4000000 in
theorem sCo_allWrits : ∀ (r0 : Nat) (u : zM) r m1, Co_allWrits r0 u = some (r, m1) → zMet l (wC D b) 0 0 yX0_allWrits cX0_allWrits 1 (some .int) [.ref r0] u (eI r) m1 := by
  intro r0 u
  refine zMet.of (L := [(0, .ref r0)]) RX0 (by decide +kernel) rfl (Nat.le_of_ble_eq_true rfl) (fun h => by cases h) rfl (fun p e s mi args below meth c R fin hc hin hRm => ?_)
  unfold Co_allWrits
  refine zJ.chk _ (fun h1 => ?_)
  refine z_iconst (v := 1) hc dX0_allWrits_0 rfl ?_
  refine z_aload_n hc dX0_allWrits_1 0 rfl rfl ?_
  refine z_getR (x := (r0 + 7)) hc (ci := 0) (k := 3) (by decide) (by decide) zly0 h1 (zkC h1) wFX0_26 rfl dX0_allWrits_2 (rfC_off (off := 7) h1 rfl (by decide)) (Nat.le_add_left_of_le (by decide)) ?_
  refine z_getI hc (ci := 3) (k := 1) (by decide) (by decide) zly3 (lyC_10_7 h1) (zkC (lyC_10_7 h1)) wFX0_84 rfl dX0_allWrits_5 ?_
  refine z_ishl hc dX0_allWrits_8 ?_
  refine z_iconst (v := 1) hc dX0_allWrits_9 rfl ?_
  refine z_isub hc dX0_allWrits_10 ?_
  exact z_iret hc dX0_allWrits_11
set_option maxRecDepth 100000 in
set_option maxHeartbeats 4000000 in
theorem sJm_floorMod {w : zWd} (htp : w.2.2.2.2.2 = false) : ∀ (v0 : Int32) (v1 : Int32) (u : zM) r m1, Jm_floorMod v0 v1 u = some (r, m1) → zMet l w 0 0 yJ9_floorMod_7cf53 cJ9_floorMod_7cf53 3 (some .int) [.int v0, .int v1] u (eI r) m1 := by
  intro v0 v1 u
  refine zMet.of (L := [(0, .int v0), (1, .int v1)]) RJ9 (by decide +kernel) rfl (Nat.le_of_ble_eq_true rfl) (fun h => by rw [htp] at h; cases h) rfl (fun p e s mi args below meth c R fin hc hin hRm => ?_)
  unfold Jm_floorMod
  refine z_iload_n hc dJ9_floorMod_7cf53_0 0 rfl rfl ?_
  refine z_iload_n hc dJ9_floorMod_7cf53_1 1 rfl rfl ?_
  refine zJ.cut _ (fun _ => zJ.nil) (fun h1 => ?_)
  refine z_irem hc h1 dJ9_floorMod_7cf53_2 ?_
  refine zJ.letI (fun x1 e1 => ?_)
  refine z_istore_n (L' := [(2, .int x1), (0, .int v0), (1, .int v1)]) hc dJ9_floorMod_7cf53_3 rfl (by decide) rfl rfl ?_
  refine z_iload_n hc dJ9_floorMod_7cf53_4 1 rfl rfl ?_
  refine z_iload_n hc dJ9_floorMod_7cf53_5 2 rfl rfl ?_
  refine z_ixor hc dJ9_floorMod_7cf53_6 ?_
  refine z_if_ge (tgt := 18) hc dJ9_floorMod_7cf53_7 (by decide) _ (fun h2 => ?_) (fun h2 => ?_)
  · refine z_iload_n hc dJ9_floorMod_7cf53_18 0 rfl rfl ?_
    exact z_iret hc dJ9_floorMod_7cf53_19
  · refine z_iload_n hc dJ9_floorMod_7cf53_10 0 rfl rfl ?_
    refine z_if_eq (tgt := 18) hc dJ9_floorMod_7cf53_11 (by decide) _ (fun h3 => ?_) (fun h3 => ?_)
    · refine z_iload_n hc dJ9_floorMod_7cf53_18 0 rfl rfl ?_
      exact z_iret hc dJ9_floorMod_7cf53_19
    · refine z_iload_n hc dJ9_floorMod_7cf53_14 0 rfl rfl ?_
      refine z_iload_n hc dJ9_floorMod_7cf53_15 2 rfl rfl ?_
      refine z_iadd hc dJ9_floorMod_7cf53_16 ?_
      exact z_iret hc dJ9_floorMod_7cf53_17
set_option maxRecDepth 100000 in
set_option maxHeartbeats 4000000 in
theorem sCo_rainOf : ∀ (r0 : Nat) (v1 : Int32) (u : zM) r m1, Co_rainOf r0 v1 u = some (r, m1) → zMet l (wC D b) 1 22 yX0_rainOf cX0_rainOf 2 (some .int) [.ref r0, .int v1] u (eI r) m1 := by
  intro r0 v1 u
  refine zMet.of (L := [(0, .ref r0), (1, .int v1)]) RX0 (by decide +kernel) rfl (Nat.le_of_ble_eq_true rfl) (fun h => by cases h) rfl (fun p e s mi args below meth c R fin hc hin hRm => ?_)
  unfold Co_rainOf
  refine zJ.chk _ (fun h1 => ?_)
  refine z_aload_n hc dX0_rainOf_0 0 rfl rfl ?_
  refine z_getI hc (ci := 0) (k := 14) (by decide) (by decide) zly0 h1 (zkC h1) wFX0_87 rfl dX0_rainOf_1 ?_
  refine z_if_le (tgt := 23) hc dX0_rainOf_4 (by decide) _ (fun h2 => ?_) (fun h2 => ?_)
  · refine z_iconst (v := 1) hc dX0_rainOf_23 rfl ?_
    exact z_iret hc dX0_rainOf_24
  · refine z_aload_n hc dX0_rainOf_7 0 rfl rfl ?_
    refine z_getR (x := (r0 + 17)) hc (ci := 0) (k := 12) (by decide) (by decide) zly0 h1 (zkC h1) wFX0_54 rfl dX0_rainOf_8 (rfC_off (off := 17) h1 rfl (by decide)) (Nat.le_add_left_of_le (by decide)) ?_
    refine z_iload_n hc dX0_rainOf_11 1 rfl rfl ?_
    refine z_aload_n hc dX0_rainOf_12 0 rfl rfl ?_
    refine z_getI hc (ci := 0) (k := 14) (by decide) (by decide) zly0 h1 (zkC h1) wFX0_87 rfl dX0_rainOf_13 ?_
    refine z_callS (av := [.int v1, .int (gI u r0 14)]) (enc' := eI) hc rfl (sJm_floorMod (w := wC D b) rfl v1 (gI u r0 14) _) wMX0_229 hpyJ9_floorMod_7cf53 hmyJ9_floorMod_7cf53 (rm_ok hRm (Nat.le_of_ble_eq_true rfl) (Nat.le_of_ble_eq_true rfl)) (Nat.le_of_ble_eq_true rfl) hRm.2.2 dX0_rainOf_16 (fun c1 u1 f1 => ?_)
    refine zJ.chk _ (fun h3 => ?_)
    refine z_iald (k := (ix c1)) hc (lyC_10_17 h1) (zkC (lyC_10_17 h1)) h3 rfl dX0_rainOf_19 ?_
    refine z_goto (tgt := 24) hc dX0_rainOf_20 (by decide) ?_
    exact z_iret hc dX0_rainOf_24
set_option maxRecDepth 100000 in
set_option maxHeartbeats 4000000 in
theorem sJi_bitCount {w : zWd} (htp : w.2.2.2.2.2 = false) : ∀ (v0 : Int32) (u : zM) r m1, Ji_bitCount v0 u = some (r, m1) → zMet l w 0 0 yJ6_bitCount_0f7a4 cJ6_bitCount_0f7a4 1 (some .int) [.int v0] u (eI r) m1 := by
  intro v0 u
  refine zMet.of (L := [(0, .int v0)]) RJ6 (by decide +kernel) rfl (Nat.le_of_ble_eq_true rfl) (fun h => by rw [htp] at h; cases h) rfl (fun p e s mi args below meth c R fin hc hin hRm => ?_)
  unfold Ji_bitCount
  refine z_iload_n hc dJ6_bitCount_0f7a4_0 0 rfl rfl ?_
  refine z_iload_n hc dJ6_bitCount_0f7a4_1 0 rfl rfl ?_
  refine z_iconst (v := 1) hc dJ6_bitCount_0f7a4_2 rfl ?_
  refine z_iushr hc dJ6_bitCount_0f7a4_3 ?_
  refine z_ldcw (v := 1431655765) hc wIJ6_265 dJ6_bitCount_0f7a4_4 ?_
  refine z_iand hc dJ6_bitCount_0f7a4_7 ?_
  refine z_isub hc dJ6_bitCount_0f7a4_8 ?_
  refine zJ.letI (fun x1 e1 => ?_)
  refine z_istore_n (L' := [(0, .int x1)]) hc dJ6_bitCount_0f7a4_9 rfl (by decide) rfl rfl ?_
  refine z_iload_n hc dJ6_bitCount_0f7a4_10 0 rfl rfl ?_
  refine z_ldcw (v := 858993459) hc wIJ6_266 dJ6_bitCount_0f7a4_11 ?_
  refine z_iand hc dJ6_bitCount_0f7a4_14 ?_
  refine z_iload_n hc dJ6_bitCount_0f7a4_15 0 rfl rfl ?_
  refine z_iconst (v := 2) hc dJ6_bitCount_0f7a4_16 rfl ?_
  refine z_iushr hc dJ6_bitCount_0f7a4_17 ?_
  refine z_ldcw (v := 858993459) hc wIJ6_266 dJ6_bitCount_0f7a4_18 ?_
  refine z_iand hc dJ6_bitCount_0f7a4_21 ?_
  refine z_iadd hc dJ6_bitCount_0f7a4_22 ?_
  refine zJ.letI (fun x2 e2 => ?_)
  refine z_istore_n (L' := [(0, .int x2)]) hc dJ6_bitCount_0f7a4_23 rfl (by decide) rfl rfl ?_
  refine z_iload_n hc dJ6_bitCount_0f7a4_24 0 rfl rfl ?_
  refine z_iload_n hc dJ6_bitCount_0f7a4_25 0 rfl rfl ?_
  refine z_iconst (v := 4) hc dJ6_bitCount_0f7a4_26 rfl ?_
  refine z_iushr hc dJ6_bitCount_0f7a4_27 ?_
  refine z_iadd hc dJ6_bitCount_0f7a4_28 ?_
  refine z_ldcw (v := 252645135) hc wIJ6_267 dJ6_bitCount_0f7a4_29 ?_
  refine z_iand hc dJ6_bitCount_0f7a4_32 ?_
  refine zJ.letI (fun x3 e3 => ?_)
  refine z_istore_n (L' := [(0, .int x3)]) hc dJ6_bitCount_0f7a4_33 rfl (by decide) rfl rfl ?_
  refine z_iload_n hc dJ6_bitCount_0f7a4_34 0 rfl rfl ?_
  refine z_iload_n hc dJ6_bitCount_0f7a4_35 0 rfl rfl ?_
  refine z_bipush (v := 8) hc dJ6_bitCount_0f7a4_36 rfl ?_
  refine z_iushr hc dJ6_bitCount_0f7a4_38 ?_
  refine z_iadd hc dJ6_bitCount_0f7a4_39 ?_
  refine zJ.letI (fun x4 e4 => ?_)
  refine z_istore_n (L' := [(0, .int x4)]) hc dJ6_bitCount_0f7a4_40 rfl (by decide) rfl rfl ?_
  refine z_iload_n hc dJ6_bitCount_0f7a4_41 0 rfl rfl ?_
  refine z_iload_n hc dJ6_bitCount_0f7a4_42 0 rfl rfl ?_
  refine z_bipush (v := 16) hc dJ6_bitCount_0f7a4_43 rfl ?_
  refine z_iushr hc dJ6_bitCount_0f7a4_45 ?_
  refine z_iadd hc dJ6_bitCount_0f7a4_46 ?_
  refine zJ.letI (fun x5 e5 => ?_)
  refine z_istore_n (L' := [(0, .int x5)]) hc dJ6_bitCount_0f7a4_47 rfl (by decide) rfl rfl ?_
  refine z_iload_n hc dJ6_bitCount_0f7a4_48 0 rfl rfl ?_
  refine z_bipush (v := 63) hc dJ6_bitCount_0f7a4_49 rfl ?_
  refine z_iand hc dJ6_bitCount_0f7a4_51 ?_
  exact z_iret hc dJ6_bitCount_0f7a4_52
set_option maxRecDepth 100000 in
set_option maxHeartbeats 4000000 in
theorem sLa_simple : ∀ (v0 : Int32) (v1 : Int32) (v2 : Int32) (v3 : Int32) (v4 : Int32) (u : zM) r m1, La_simple v0 v1 v2 v3 v4 u = some (r, m1) → zMet l (wC D b) 0 0 yX1_simple cX1_simple 5 (some .int) [.int v0, .int v1, .int v2, .int v3, .int v4] u (eI r) m1 := by
  intro v0 v1 v2 v3 v4 u
  refine zMet.of (L := [(0, .int v0), (1, .int v1), (2, .int v2), (3, .int v3), (4, .int v4)]) RX1 (by decide +kernel) rfl (Nat.le_of_ble_eq_true rfl) (fun h => by cases h) rfl (fun p e s mi args below meth c R fin hc hin hRm => ?_)
  unfold La_simple
  refine z_iload_n hc dX1_simple_0 0 rfl rfl ?_
  refine zJ.cut _ (fun h1 => ?_) (fun h1 => ?_)
  · refine z_tabIn (v := (-4)) (tgt := 38) hc dX1_simple_1 h1 (by decide) (by decide) rfl (by decide) ?_
    refine z_iload hc dX1_simple_38 4 rfl ?_
    exact z_iret hc dX1_simple_40
  · refine zJ.cut _ (fun h2 => ?_) (fun h2 => ?_)
    · refine z_tabIn (v := (-3)) (tgt := 36) hc dX1_simple_1 h2 (by decide) (by decide) rfl (by decide) ?_
      refine z_iload_n hc dX1_simple_36 3 rfl rfl ?_
      exact z_iret hc dX1_simple_37
    · refine zJ.cut _ (fun h3 => ?_) (fun h3 => ?_)
      · refine z_tabIn (v := (-2)) (tgt := 34) hc dX1_simple_1 h3 (by decide) (by decide) rfl (by decide) ?_
        refine z_iload_n hc dX1_simple_34 2 rfl rfl ?_
        exact z_iret hc dX1_simple_35
      · refine zJ.cut _ (fun h4 => ?_) (fun h4 => ?_)
        · refine z_tabIn (v := (-1)) (tgt := 32) hc dX1_simple_1 h4 (by decide) (by decide) rfl (by decide) ?_
          refine z_iload_n hc dX1_simple_32 1 rfl rfl ?_
          exact z_iret hc dX1_simple_33
        · refine z_tabOut (tgt := 41) hc dX1_simple_1 (tab_out 4 (by decide) (fun j hj => match j, hj with | 0, _ => fun e => h1 e | 1, _ => fun e => h2 e | 2, _ => fun e => h3 e | 3, _ => fun e => h4 e | j + 4, hj => absurd hj (by omega))) (by decide) ?_
          refine z_iload_n hc dX1_simple_41 0 rfl rfl ?_
          exact z_iret hc dX1_simple_42
set_option maxRecDepth 100000 in
set_option maxHeartbeats 4000000 in
theorem sLa_join : ∀ (v0 : Int32) (v1 : Int32) (v2 : Int32) (u : zM) r m1, La_join v0 v1 v2 u = some (r, m1) → zMet l (wC D b) 0 0 yX1_join cX1_join 3 (some .int) [.int v0, .int v1, .int v2] u (eI r) m1 := by
  intro v0 v1 v2 u
  refine zMet.of (L := [(0, .int v0), (1, .int v1), (2, .int v2)]) RX1 (by decide +kernel) rfl (Nat.le_of_ble_eq_true rfl) (fun h => by cases h) rfl (fun p e s mi args below meth c R fin hc hin hRm => ?_)
  unfold La_join
  refine z_iload_n hc dX1_join_0 0 rfl rfl ?_
  refine zJ.cut _ (fun h1 => ?_) (fun h1 => ?_)
  · refine z_tabIn (v := (-11)) (tgt := 94) hc dX1_join_1 h1 (by decide) (by decide) rfl (by decide) ?_
    refine z_iload_n hc dX1_join_94 1 rfl rfl ?_
    refine z_iload_n hc dX1_join_95 2 rfl rfl ?_
    refine z_isub hc dX1_join_96 ?_
    exact z_iret hc dX1_join_97
  · refine zJ.cut _ (fun h2 => ?_) (fun h2 => ?_)
    · refine z_tabIn (v := (-10)) (tgt := 90) hc dX1_join_1 h2 (by decide) (by decide) rfl (by decide) ?_
      refine z_iload_n hc dX1_join_90 1 rfl rfl ?_
      refine z_iload_n hc dX1_join_91 2 rfl rfl ?_
      refine z_iadd hc dX1_join_92 ?_
      exact z_iret hc dX1_join_93
    · refine zJ.cut _ (fun h3 => ?_) (fun h3 => ?_)
      · refine z_tabIn (v := (-9)) (tgt := 79) hc dX1_join_1 h3 (by decide) (by decide) rfl (by decide) ?_
        refine z_iload_n hc dX1_join_79 1 rfl rfl ?_
        refine z_iload_n hc dX1_join_80 2 rfl rfl ?_
        refine z_icmp_ne (tgt := 88) hc dX1_join_81 (by decide) _ (fun h7 => ?_) (fun h7 => ?_)
        · refine z_iconst (v := 0) hc dX1_join_88 rfl ?_
          exact z_iret hc dX1_join_89
        · refine z_iconst (v := 1) hc dX1_join_84 rfl ?_
          refine z_goto (tgt := 89) hc dX1_join_85 (by decide) ?_
          exact z_iret hc dX1_join_89
      · refine zJ.cut _ (fun h4 => ?_) (fun h4 => ?_)
        · refine z_tabIn (v := (-8)) (tgt := 68) hc dX1_join_1 h4 (by decide) (by decide) rfl (by decide) ?_
          refine z_iload_n hc dX1_join_68 1 rfl rfl ?_
          refine z_iload_n hc dX1_join_69 2 rfl rfl ?_
          refine z_icmp_ge (tgt := 77) hc dX1_join_70 (by decide) _ (fun h8 => ?_) (fun h8 => ?_)
          · refine z_iconst (v := 0) hc dX1_join_77 rfl ?_
            exact z_iret hc dX1_join_78
          · refine z_iconst (v := 1) hc dX1_join_73 rfl ?_
            refine z_goto (tgt := 78) hc dX1_join_74 (by decide) ?_
            exact z_iret hc dX1_join_78
        · refine zJ.cut _ (fun h5 => ?_) (fun h5 => ?_)
          · refine z_tabIn (v := (-7)) (tgt := 54) hc dX1_join_1 h5 (by decide) (by decide) rfl (by decide) ?_
            refine z_iload_n hc dX1_join_54 1 rfl rfl ?_
            refine z_if_ne (tgt := 62) hc dX1_join_55 (by decide) _ (fun h9 => ?_) (fun h9 => ?_)
            · refine z_iconst (v := 1) hc dX1_join_62 rfl ?_
              refine z_goto (tgt := 67) hc dX1_join_63 (by decide) ?_
              exact z_iret hc dX1_join_67
            · refine z_iload_n hc dX1_join_58 2 rfl rfl ?_
              refine z_if_eq (tgt := 66) hc dX1_join_59 (by decide) _ (fun h10 => ?_) (fun h10 => ?_)
              · refine z_iconst (v := 0) hc dX1_join_66 rfl ?_
                exact z_iret hc dX1_join_67
              · refine z_iconst (v := 1) hc dX1_join_62 rfl ?_
                refine z_goto (tgt := 67) hc dX1_join_63 (by decide) ?_
                exact z_iret hc dX1_join_67
          · refine zJ.cut _ (fun h6 => ?_) (fun h6 => ?_)
            · refine z_tabIn (v := (-6)) (tgt := 40) hc dX1_join_1 h6 (by decide) (by decide) rfl (by decide) ?_
              refine z_iload_n hc dX1_join_40 1 rfl rfl ?_
              refine z_if_eq (tgt := 52) hc dX1_join_41 (by decide) _ (fun h11 => ?_) (fun h11 => ?_)
              · refine z_iconst (v := 0) hc dX1_join_52 rfl ?_
                exact z_iret hc dX1_join_53
              · refine z_iload_n hc dX1_join_44 2 rfl rfl ?_
                refine z_if_eq (tgt := 52) hc dX1_join_45 (by decide) _ (fun h12 => ?_) (fun h12 => ?_)
                · refine z_iconst (v := 0) hc dX1_join_52 rfl ?_
                  exact z_iret hc dX1_join_53
                · refine z_iconst (v := 1) hc dX1_join_48 rfl ?_
                  refine z_goto (tgt := 53) hc dX1_join_49 (by decide) ?_
                  exact z_iret hc dX1_join_53
            · refine z_tabOut (tgt := 98) hc dX1_join_1 (tab_out 6 (by decide) (fun j hj => match j, hj with | 0, _ => fun e => h1 e | 1, _ => fun e => h2 e | 2, _ => fun e => h3 e | 3, _ => fun e => h4 e | 4, _ => fun e => h5 e | 5, _ => fun e => h6 e | j + 6, hj => absurd hj (by omega))) (by decide) ?_
              refine z_iload_n hc dX1_join_98 1 rfl rfl ?_
              refine z_iload_n hc dX1_join_99 2 rfl rfl ?_
              refine z_imul hc dX1_join_100 ?_
              exact z_iret hc dX1_join_101
set_option maxRecDepth 100000 in
set_option maxHeartbeats 4000000 in
theorem sLa_tells_19b {fin : Int32 × zM} (hc : zCx p s mi args meth c (wC D b) m0 RX1 cX1_tells 8 (some .int)) (hRm : R.frames = 1 ∧ R.locals = 24 ∧ R.cells = zc (wC D b) m0 fin.2 ∧ R.slots = zs (wC D b) m0 fin.2) {zr19 : Nat → Int32 → Int32 → Int32 → Int32 → Int32 → Int32 → zM → Option (Int32 × zM)} (hr19 : ∀ (r0 : Nat) (v1 : Int32) (v2 : Int32) (v3 : Int32) (v4 : Int32) (v5 : Int32) (v6 : Int32) (u : zM), zJ eI p l e R s mi args below meth c (wC D b) m0 8 fin 19 [(0, .ref r0), (1, .int v1), (2, .int v2), (3, .int v3), (4, .int v4), (5, .int v5), (6, .int v6)] [] u (zr19 r0 v1 v2 v3 v4 v5 v6 u)) (r0 : Nat) (v1 : Int32) (v2 : Int32) (v3 : Int32) (v4 : Int32) (v5 : Int32) (v6 : Int32) (u : zM) : zJ eI p l e R s mi args below meth c (wC D b) m0 8 fin 19 [(0, .ref r0), (1, .int v1), (2, .int v2), (3, .int v3), (4, .int v4), (5, .int v5), (6, .int v6)] [] u (La_tells_19b zr19 r0 v1 v2 v3 v4 v5 v6 u) := by
  unfold La_tells_19b
  refine zJ.chk _ (fun h1 => ?_)
  refine z_iload hc dX1_tells_19 6 rfl ?_
  refine z_aload_n hc dX1_tells_21 0 rfl rfl ?_
  refine z_getI hc (ci := 1) (k := 2) (by decide) (by decide) zly1 h1 (zkC h1) wFX1_18 rfl dX1_tells_22 ?_
  refine z_icmp_ge (tgt := 161) hc dX1_tells_25 (by decide) _ (fun h2 => ?_) (fun h2 => ?_)
  · refine z_aload_n hc dX1_tells_161 0 rfl rfl ?_
    refine z_getR (x := (r0 + 2)) hc (ci := 1) (k := 1) (by decide) (by decide) zly1 h1 (zkC h1) wFX1_15 rfl dX1_tells_162 (rfC_off (off := 2) h1 rfl (by decide)) (Nat.le_add_left_of_le (by decide)) ?_
    refine z_iconst (v := 0) hc dX1_tells_165 rfl ?_
    refine z_iald (k := 0) hc (lyC_11_2 h1) (zkC (lyC_11_2 h1)) rfl rfl dX1_tells_166 ?_
    exact z_iret hc dX1_tells_167
  · refine z_aload_n hc dX1_tells_28 0 rfl rfl ?_
    refine z_getR (x := (r0 + 1)) hc (ci := 1) (k := 0) (by decide) (by decide) zly1 h1 (zkC h1) wFX1_9 rfl dX1_tells_29 (rfC_off (off := 1) h1 rfl (by decide)) (Nat.le_add_left_of_le (by decide)) ?_
    refine z_iload hc dX1_tells_32 6 rfl ?_
    refine zJ.chk _ (fun h3 => ?_)
    refine z_iald (k := (ix v6)) hc (lyC_11_1 h1) (zkC (lyC_11_1 h1)) h3 rfl dX1_tells_34 ?_
    refine zJ.letI (fun x1 e1 => ?_)
    refine z_istore (L' := [(7, .int x1), (0, .ref r0), (1, .int v1), (2, .int v2), (3, .int v3), (4, .int v4), (5, .int v5), (6, .int v6)]) hc dX1_tells_35 (by decide) rfl rfl ?_
    refine z_iload hc dX1_tells_37 0 rfl ?_
    refine z_bipush (v := (-5)) hc dX1_tells_39 rfl ?_
    refine z_icmp_le (tgt := 74) hc dX1_tells_41 (by decide) _ (fun h4 => ?_) (fun h4 => ?_)
    · refine z_iload hc dX1_tells_74 0 rfl ?_
      refine z_bipush (v := (-5)) hc dX1_tells_76 rfl ?_
      refine z_icmp_ne (tgt := 116) hc dX1_tells_78 (by decide) _ (fun h5 => ?_) (fun h5 => ?_)
      · refine z_iload hc dX1_tells_116 6 rfl ?_
        refine z_iconst (v := 2) hc dX1_tells_118 rfl ?_
        refine z_icmp_lt (tgt := 155) hc dX1_tells_119 (by decide) _ (fun h6 => ?_) (fun h6 => ?_)
        · refine z_iinc (L' := [(6, .int (v6 + 1)), (7, .int x1), (0, .ref r0), (1, .int v1), (2, .int v2), (3, .int v3), (4, .int v4), (5, .int v5)]) hc dX1_tells_155 7 rfl (v := (v6 + 1)) rfl (by decide) rfl rfl ?_
          refine z_goto (tgt := 19) hc dX1_tells_158 (by decide) ?_
          refine zJ.sub (L' := [(0, .ref r0), (1, .int v1), (2, .int v2), (3, .int v3), (4, .int v4), (5, .int v5), (6, .int (v6 + 1))]) [2, 3, 4, 5, 6, 7, 0] rfl ?_
          exact hr19 r0 v1 v2 v3 v4 v5 (v6 + 1) _
        · refine z_iinc (L' := [(5, .int (v5 + (-1))), (7, .int x1), (0, .ref r0), (1, .int v1), (2, .int v2), (3, .int v3), (4, .int v4), (6, .int v6)]) hc dX1_tells_122 6 rfl (v := (v5 + (-1))) rfl (by decide) rfl rfl ?_
          refine z_aload_n hc dX1_tells_125 2 rfl rfl ?_
          refine z_getR (x := (r0 + 2)) hc (ci := 1) (k := 1) (by decide) (by decide) zly1 h1 (zkC h1) wFX1_15 rfl dX1_tells_126 (rfC_off (off := 2) h1 rfl (by decide)) (Nat.le_add_left_of_le (by decide)) ?_
          refine z_iload hc dX1_tells_129 0 rfl ?_
          refine z_iconst (v := 1) hc dX1_tells_131 rfl ?_
          refine z_isub hc dX1_tells_132 ?_
          refine z_iload hc dX1_tells_133 1 rfl ?_
          refine z_aload_n hc dX1_tells_135 2 rfl rfl ?_
          refine z_getR (x := (r0 + 2)) hc (ci := 1) (k := 1) (by decide) (by decide) zly1 h1 (zkC h1) wFX1_15 rfl dX1_tells_136 (rfC_off (off := 2) h1 rfl (by decide)) (Nat.le_add_left_of_le (by decide)) ?_
          refine z_iload hc dX1_tells_139 0 rfl ?_
          refine z_iconst (v := 1) hc dX1_tells_141 rfl ?_
          refine z_isub hc dX1_tells_142 ?_
          refine zJ.chk _ (fun h7 => ?_)
          refine z_iald (k := (ix ((v5 + (-1)) - 1))) hc (lyC_11_2 h1) (zkC (lyC_11_2 h1)) h7 rfl dX1_tells_143 ?_
          refine z_aload_n hc dX1_tells_144 2 rfl rfl ?_
          refine z_getR (x := (r0 + 2)) hc (ci := 1) (k := 1) (by decide) (by decide) zly1 h1 (zkC h1) wFX1_15 rfl dX1_tells_145 (rfC_off (off := 2) h1 rfl (by decide)) (Nat.le_add_left_of_le (by decide)) ?_
          refine z_iload hc dX1_tells_148 0 rfl ?_
          refine zJ.chk _ (fun h8 => ?_)
          refine z_iald (k := (ix (v5 + (-1)))) hc (lyC_11_2 h1) (zkC (lyC_11_2 h1)) h8 rfl dX1_tells_150 ?_
          refine z_callS (av := [.int x1, .int (gI u (r0 + 2) (ix ((v5 + (-1)) - 1))), .int (gI u (r0 + 2) (ix (v5 + (-1))))]) (enc' := eI) hc rfl (sLa_join x1 (gI u (r0 + 2) (ix ((v5 + (-1)) - 1))) (gI u (r0 + 2) (ix (v5 + (-1)))) _) wMX1_92 hpyX1_join hmyX1_join (rm_ok hRm (Nat.le_of_ble_eq_true rfl) (Nat.le_of_ble_eq_true rfl)) (Nat.le_of_ble_eq_true rfl) hRm.2.2 dX1_tells_151 (fun c1 u1 f1 => ?_)
          refine zJ.chk _ (fun h9 => ?_)
          refine z_iast (k := (ix ((v5 + (-1)) - 1))) hc (lyC_11_2 h1) (zkC (lyC_11_2 h1)) h9 rfl dX1_tells_154 ?_
          refine zJ.letM (fun u2 e2 => ?_)
          refine z_iinc (L' := [(6, .int (v6 + 1)), (5, .int (v5 + (-1))), (7, .int x1), (0, .ref r0), (1, .int v1), (2, .int v2), (3, .int v3), (4, .int v4)]) hc dX1_tells_155 7 rfl (v := (v6 + 1)) rfl (by decide) rfl rfl ?_
          refine z_goto (tgt := 19) hc dX1_tells_158 (by decide) ?_
          refine zJ.sub (L' := [(0, .ref r0), (1, .int v1), (2, .int v2), (3, .int v3), (4, .int v4), (5, .int (v5 + (-1))), (6, .int (v6 + 1))]) [3, 4, 5, 6, 7, 1, 0] rfl ?_
          exact hr19 r0 v1 v2 v3 v4 (v5 + (-1)) (v6 + 1) _
      · refine z_iload hc dX1_tells_81 6 rfl ?_
        refine z_iconst (v := 1) hc dX1_tells_83 rfl ?_
        refine z_icmp_lt (tgt := 155) hc dX1_tells_84 (by decide) _ (fun h10 => ?_) (fun h10 => ?_)
        · refine z_iinc (L' := [(6, .int (v6 + 1)), (7, .int x1), (0, .ref r0), (1, .int v1), (2, .int v2), (3, .int v3), (4, .int v4), (5, .int v5)]) hc dX1_tells_155 7 rfl (v := (v6 + 1)) rfl (by decide) rfl rfl ?_
          refine z_goto (tgt := 19) hc dX1_tells_158 (by decide) ?_
          refine zJ.sub (L' := [(0, .ref r0), (1, .int v1), (2, .int v2), (3, .int v3), (4, .int v4), (5, .int v5), (6, .int (v6 + 1))]) [2, 3, 4, 5, 6, 7, 0] rfl ?_
          exact hr19 r0 v1 v2 v3 v4 v5 (v6 + 1) _
        · refine z_aload_n hc dX1_tells_87 1 rfl rfl ?_
          refine z_getR (x := (r0 + 2)) hc (ci := 1) (k := 1) (by decide) (by decide) zly1 h1 (zkC h1) wFX1_15 rfl dX1_tells_88 (rfC_off (off := 2) h1 rfl (by decide)) (Nat.le_add_left_of_le (by decide)) ?_
          refine z_iload hc dX1_tells_91 6 rfl ?_
          refine z_iconst (v := 1) hc dX1_tells_93 rfl ?_
          refine z_isub hc dX1_tells_94 ?_
          refine z_aload_n hc dX1_tells_95 1 rfl rfl ?_
          refine z_getR (x := (r0 + 2)) hc (ci := 1) (k := 1) (by decide) (by decide) zly1 h1 (zkC h1) wFX1_15 rfl dX1_tells_96 (rfC_off (off := 2) h1 rfl (by decide)) (Nat.le_add_left_of_le (by decide)) ?_
          refine z_iload hc dX1_tells_99 6 rfl ?_
          refine z_iconst (v := 1) hc dX1_tells_101 rfl ?_
          refine z_isub hc dX1_tells_102 ?_
          refine zJ.chk _ (fun h11 => ?_)
          refine z_iald (k := (ix (v5 - 1))) hc (lyC_11_2 h1) (zkC (lyC_11_2 h1)) h11 rfl dX1_tells_103 ?_
          refine z_if_ne (tgt := 111) hc dX1_tells_104 (by decide) _ (fun h12 => ?_) (fun h12 => ?_)
          · refine z_iconst (v := 0) hc dX1_tells_111 rfl ?_
            refine zJ.chk _ (fun h13 => ?_)
            refine z_iast (k := (ix (v5 - 1))) hc (lyC_11_2 h1) (zkC (lyC_11_2 h1)) h13 rfl dX1_tells_112 ?_
            refine zJ.letM (fun u3 e3 => ?_)
            refine z_goto (tgt := 155) hc dX1_tells_113 (by decide) ?_
            refine z_iinc (L' := [(6, .int (v6 + 1)), (7, .int x1), (0, .ref r0), (1, .int v1), (2, .int v2), (3, .int v3), (4, .int v4), (5, .int v5)]) hc dX1_tells_155 7 rfl (v := (v6 + 1)) rfl (by decide) rfl rfl ?_
            refine z_goto (tgt := 19) hc dX1_tells_158 (by decide) ?_
            refine zJ.sub (L' := [(0, .ref r0), (1, .int v1), (2, .int v2), (3, .int v3), (4, .int v4), (5, .int v5), (6, .int (v6 + 1))]) [2, 3, 4, 5, 6, 7, 0] rfl ?_
            exact hr19 r0 v1 v2 v3 v4 v5 (v6 + 1) _
          · refine z_iconst (v := 1) hc dX1_tells_107 rfl ?_
            refine z_goto (tgt := 112) hc dX1_tells_108 (by decide) ?_
            refine zJ.chk _ (fun h14 => ?_)
            refine z_iast (k := (ix (v5 - 1))) hc (lyC_11_2 h1) (zkC (lyC_11_2 h1)) h14 rfl dX1_tells_112 ?_
            refine zJ.letM (fun u4 e4 => ?_)
            refine z_goto (tgt := 155) hc dX1_tells_113 (by decide) ?_
            refine z_iinc (L' := [(6, .int (v6 + 1)), (7, .int x1), (0, .ref r0), (1, .int v1), (2, .int v2), (3, .int v3), (4, .int v4), (5, .int v5)]) hc dX1_tells_155 7 rfl (v := (v6 + 1)) rfl (by decide) rfl rfl ?_
            refine z_goto (tgt := 19) hc dX1_tells_158 (by decide) ?_
            refine zJ.sub (L' := [(0, .ref r0), (1, .int v1), (2, .int v2), (3, .int v3), (4, .int v4), (5, .int v5), (6, .int (v6 + 1))]) [2, 3, 4, 5, 6, 7, 0] rfl ?_
            exact hr19 r0 v1 v2 v3 v4 v5 (v6 + 1) _
    · refine z_iload hc dX1_tells_44 6 rfl ?_
      refine z_bipush (v := 32) hc dX1_tells_46 rfl ?_
      refine z_icmp_ge (tgt := 155) hc dX1_tells_48 (by decide) _ (fun h15 => ?_) (fun h15 => ?_)
      · refine z_iinc (L' := [(6, .int (v6 + 1)), (7, .int x1), (0, .ref r0), (1, .int v1), (2, .int v2), (3, .int v3), (4, .int v4), (5, .int v5)]) hc dX1_tells_155 7 rfl (v := (v6 + 1)) rfl (by decide) rfl rfl ?_
        refine z_goto (tgt := 19) hc dX1_tells_158 (by decide) ?_
        refine zJ.sub (L' := [(0, .ref r0), (1, .int v1), (2, .int v2), (3, .int v3), (4, .int v4), (5, .int v5), (6, .int (v6 + 1))]) [2, 3, 4, 5, 6, 7, 0] rfl ?_
        exact hr19 r0 v1 v2 v3 v4 v5 (v6 + 1) _
      · refine z_aload_n hc dX1_tells_51 1 rfl rfl ?_
        refine z_getR (x := (r0 + 2)) hc (ci := 1) (k := 1) (by decide) (by decide) zly1 h1 (zkC h1) wFX1_15 rfl dX1_tells_52 (rfC_off (off := 2) h1 rfl (by decide)) (Nat.le_add_left_of_le (by decide)) ?_
        refine z_iload hc dX1_tells_55 6 rfl ?_
        refine z_iload hc dX1_tells_57 0 rfl ?_
        refine z_iload_n hc dX1_tells_59 2 rfl rfl ?_
        refine z_iload_n hc dX1_tells_60 3 rfl rfl ?_
        refine z_iload_n hc dX1_tells_61 4 rfl rfl ?_
        refine z_iload hc dX1_tells_62 5 rfl ?_
        refine z_callS (av := [.int x1, .int v1, .int v2, .int v3, .int v4]) (enc' := eI) hc rfl (sLa_simple x1 v1 v2 v3 v4 _) wMX1_88 hpyX1_simple hmyX1_simple (rm_ok hRm (Nat.le_of_ble_eq_true rfl) (Nat.le_of_ble_eq_true rfl)) (Nat.le_of_ble_eq_true rfl) hRm.2.2 dX1_tells_64 (fun c2 u5 f2 => ?_)
        refine zJ.chk _ (fun h16 => ?_)
        refine z_iast (k := (ix v5)) hc (lyC_11_2 h1) (zkC (lyC_11_2 h1)) h16 rfl dX1_tells_67 ?_
        refine zJ.letM (fun u6 e5 => ?_)
        refine z_iinc (L' := [(5, .int (v5 + 1)), (7, .int x1), (0, .ref r0), (1, .int v1), (2, .int v2), (3, .int v3), (4, .int v4), (6, .int v6)]) hc dX1_tells_68 6 rfl (v := (v5 + 1)) rfl (by decide) rfl rfl ?_
        refine z_goto (tgt := 155) hc dX1_tells_71 (by decide) ?_
        refine z_iinc (L' := [(6, .int (v6 + 1)), (5, .int (v5 + 1)), (7, .int x1), (0, .ref r0), (1, .int v1), (2, .int v2), (3, .int v3), (4, .int v4)]) hc dX1_tells_155 7 rfl (v := (v6 + 1)) rfl (by decide) rfl rfl ?_
        refine z_goto (tgt := 19) hc dX1_tells_158 (by decide) ?_
        refine zJ.sub (L' := [(0, .ref r0), (1, .int v1), (2, .int v2), (3, .int v3), (4, .int v4), (5, .int (v5 + 1)), (6, .int (v6 + 1))]) [3, 4, 5, 6, 7, 1, 0] rfl ?_
        exact hr19 r0 v1 v2 v3 v4 (v5 + 1) (v6 + 1) _
set_option maxRecDepth 100000 in
set_option maxHeartbeats 4000000 in
theorem sLa_tells_19 {fin : Int32 × zM} (hc : zCx p s mi args meth c (wC D b) m0 RX1 cX1_tells 8 (some .int)) (hRm : R.frames = 1 ∧ R.locals = 24 ∧ R.cells = zc (wC D b) m0 fin.2 ∧ R.slots = zs (wC D b) m0 fin.2) : ∀ (zf : Nat) (r0 : Nat) (v1 : Int32) (v2 : Int32) (v3 : Int32) (v4 : Int32) (v5 : Int32) (v6 : Int32) (u : zM), zJ eI p l e R s mi args below meth c (wC D b) m0 8 fin 19 [(0, .ref r0), (1, .int v1), (2, .int v2), (3, .int v3), (4, .int v4), (5, .int v5), (6, .int v6)] [] u (La_tells_19 zf r0 v1 v2 v3 v4 v5 v6 u) := by
  intro zf
  induction zf with
  | zero => intro r0 v1 v2 v3 v4 v5 v6 u; exact zJ.nil
  | succ zf ih => intro r0 v1 v2 v3 v4 v5 v6 u; exact sLa_tells_19b hc hRm ih r0 v1 v2 v3 v4 v5 v6 u
set_option maxRecDepth 100000 in
set_option maxHeartbeats 4000000 in
theorem sLa_tells : ∀ (r0 : Nat) (v1 : Int32) (v2 : Int32) (v3 : Int32) (v4 : Int32) (u : zM) r m1, La_tells r0 v1 v2 v3 v4 u = some (r, m1) → zMet l (wC D b) 1 24 yX1_tells cX1_tells 8 (some .int) [.ref r0, .int v1, .int v2, .int v3, .int v4] u (eI r) m1 := by
  intro r0 v1 v2 v3 v4 u
  refine zMet.of (L := [(0, .ref r0), (1, .int v1), (2, .int v2), (3, .int v3), (4, .int v4)]) RX1 (by decide +kernel) rfl (Nat.le_of_ble_eq_true rfl) (fun h => by cases h) rfl (fun p e s mi args below meth c R fin hc hin hRm => ?_)
  unfold La_tells
  refine zJ.chk _ (fun h1 => ?_)
  refine z_aload_n hc dX1_tells_0 0 rfl rfl ?_
  refine z_getI hc (ci := 1) (k := 2) (by decide) (by decide) zly1 h1 (zkC h1) wFX1_18 rfl dX1_tells_1 ?_
  refine z_if_ne (tgt := 13) hc dX1_tells_4 (by decide) _ (fun h2 => ?_) (fun h2 => ?_)
  · refine z_iconst (v := 0) hc dX1_tells_13 rfl ?_
    refine z_istore (L' := [(5, .int 0), (0, .ref r0), (1, .int v1), (2, .int v2), (3, .int v3), (4, .int v4)]) hc dX1_tells_14 (by decide) rfl rfl ?_
    refine z_iconst (v := 0) hc dX1_tells_16 rfl ?_
    refine z_istore (L' := [(6, .int 0), (5, .int 0), (0, .ref r0), (1, .int v1), (2, .int v2), (3, .int v3), (4, .int v4)]) hc dX1_tells_17 (by decide) rfl rfl ?_
    refine zJ.sub (L' := [(0, .ref r0), (1, .int v1), (2, .int v2), (3, .int v3), (4, .int v4), (5, .int 0), (6, .int 0)]) [2, 3, 4, 5, 6, 1, 0] rfl ?_
    exact sLa_tells_19 hc hRm zF r0 v1 v2 v3 v4 0 0 _
  · refine z_iload_n hc dX1_tells_7 1 rfl rfl ?_
    refine z_iload_n hc dX1_tells_8 2 rfl rfl ?_
    refine z_iadd hc dX1_tells_9 ?_
    refine z_iconst (v := 1) hc dX1_tells_10 rfl ?_
    refine z_isub hc dX1_tells_11 ?_
    exact z_iret hc dX1_tells_12
set_option maxRecDepth 100000 in
set_option maxHeartbeats 4000000 in
theorem sJm_min {w : zWd} (htp : w.2.2.2.2.2 = false) : ∀ (v0 : Int32) (v1 : Int32) (u : zM) r m1, Jm_min v0 v1 u = some (r, m1) → zMet l w 0 0 yJ9_min_7cf53 cJ9_min_7cf53 2 (some .int) [.int v0, .int v1] u (eI r) m1 := by
  intro v0 v1 u
  refine zMet.of (L := [(0, .int v0), (1, .int v1)]) RJ9 (by decide +kernel) rfl (Nat.le_of_ble_eq_true rfl) (fun h => by rw [htp] at h; cases h) rfl (fun p e s mi args below meth c R fin hc hin hRm => ?_)
  unfold Jm_min
  refine z_iload_n hc dJ9_min_7cf53_0 0 rfl rfl ?_
  refine z_iload_n hc dJ9_min_7cf53_1 1 rfl rfl ?_
  refine z_icmp_gt (tgt := 9) hc dJ9_min_7cf53_2 (by decide) _ (fun h1 => ?_) (fun h1 => ?_)
  · refine z_iload_n hc dJ9_min_7cf53_9 1 rfl rfl ?_
    exact z_iret hc dJ9_min_7cf53_10
  · refine z_iload_n hc dJ9_min_7cf53_5 0 rfl rfl ?_
    refine z_goto (tgt := 10) hc dJ9_min_7cf53_6 (by decide) ?_
    exact z_iret hc dJ9_min_7cf53_10
set_option maxRecDepth 100000 in
set_option maxHeartbeats 4000000 in
theorem sJm_max {w : zWd} (htp : w.2.2.2.2.2 = false) : ∀ (v0 : Int32) (v1 : Int32) (u : zM) r m1, Jm_max v0 v1 u = some (r, m1) → zMet l w 0 0 yJ9_max_7cf53 cJ9_max_7cf53 2 (some .int) [.int v0, .int v1] u (eI r) m1 := by
  intro v0 v1 u
  refine zMet.of (L := [(0, .int v0), (1, .int v1)]) RJ9 (by decide +kernel) rfl (Nat.le_of_ble_eq_true rfl) (fun h => by rw [htp] at h; cases h) rfl (fun p e s mi args below meth c R fin hc hin hRm => ?_)
  unfold Jm_max
  refine z_iload_n hc dJ9_max_7cf53_0 0 rfl rfl ?_
  refine z_iload_n hc dJ9_max_7cf53_1 1 rfl rfl ?_
  refine z_icmp_lt (tgt := 9) hc dJ9_max_7cf53_2 (by decide) _ (fun h1 => ?_) (fun h1 => ?_)
  · refine z_iload_n hc dJ9_max_7cf53_9 1 rfl rfl ?_
    exact z_iret hc dJ9_max_7cf53_10
  · refine z_iload_n hc dJ9_max_7cf53_5 0 rfl rfl ?_
    refine z_goto (tgt := 10) hc dJ9_max_7cf53_6 (by decide) ?_
    exact z_iret hc dJ9_max_7cf53_10
set_option maxRecDepth 100000 in
set_option maxHeartbeats 4000000 in
theorem sCo_waterBehind : ∀ (r0 : Nat) (v1 : Int32) (v2 : Int32) (v3 : Int32) (v4 : Int32) (u : zM) r m1, Co_waterBehind r0 v1 v2 v3 v4 u = some (r, m1) → zMet l (wC D b) 2 51 yX0_waterBehind cX0_waterBehind 6 (some .int) [.ref r0, .int v1, .int v2, .int v3, .int v4] u (eI r) m1 := by
  intro r0 v1 v2 v3 v4 u
  refine zMet.of (L := [(0, .ref r0), (1, .int v1), (2, .int v2), (3, .int v3), (4, .int v4)]) RX0 (by decide +kernel) rfl (Nat.le_of_ble_eq_true rfl) (fun h => by cases h) rfl (fun p e s mi args below meth c R fin hc hin hRm => ?_)
  unfold Co_waterBehind
  refine zJ.chk _ (fun h1 => ?_)
  refine z_aload_n hc dX0_waterBehind_0 0 rfl rfl ?_
  refine z_getR (x := (r0 + 18)) hc (ci := 0) (k := 13) (by decide) (by decide) zly0 h1 (zkC h1) wFX0_60 rfl dX0_waterBehind_1 (rfC_off (off := 18) h1 rfl (by decide)) (Nat.le_add_left_of_le (by decide)) ?_
  refine z_iload_n hc dX0_waterBehind_4 2 rfl rfl ?_
  refine z_iload_n hc dX0_waterBehind_5 3 rfl rfl ?_
  refine z_aload_n hc dX0_waterBehind_6 0 rfl rfl ?_
  refine z_getR (x := (r0 + 10)) hc (ci := 0) (k := 5) (by decide) (by decide) zly0 h1 (zkC h1) wFX0_33 rfl dX0_waterBehind_7 (rfC_off (off := 10) h1 rfl (by decide)) (Nat.le_add_left_of_le (by decide)) ?_
  refine z_iload_n hc dX0_waterBehind_10 1 rfl rfl ?_
  refine zJ.chk _ (fun h2 => ?_)
  refine z_iald (k := (ix v1)) hc (lyC_10_10 h1) (zkC (lyC_10_10 h1)) h2 rfl dX0_waterBehind_11 ?_
  refine z_callS (av := [.int (gI u (r0 + 10) (ix v1))]) (enc' := eI) hc rfl (sJi_bitCount (w := wC D b) rfl (gI u (r0 + 10) (ix v1)) _) wMX0_234 hpyJ6_bitCount_0f7a4 hmyJ6_bitCount_0f7a4 (rm_ok hRm (Nat.le_of_ble_eq_true rfl) (Nat.le_of_ble_eq_true rfl)) (Nat.le_of_ble_eq_true rfl) hRm.2.2 dX0_waterBehind_12 (fun c1 u1 f1 => ?_)
  refine z_iload hc dX0_waterBehind_15 4 rfl ?_
  refine z_callV (av := [.int v2, .int v3, .int c1, .int v4]) (enc' := eI) hc rfl (sLa_tells (r0 + 18) v2 v3 c1 v4 _) (ci := 1) (by decide) (lyC_10_18 h1) (zkC (lyC_10_18 h1)) rfl wMX0_240 hpyX1_tells hmyX1_tells (rm_ok hRm (Nat.le_of_ble_eq_true rfl) (Nat.le_of_ble_eq_true rfl)) (Nat.le_of_ble_eq_true rfl) hRm.2.2 dX0_waterBehind_17 (fun c2 u2 f2 => ?_)
  refine z_istore (L' := [(5, .int c2), (0, .ref r0), (1, .int v1), (2, .int v2), (3, .int v3), (4, .int v4)]) hc dX0_waterBehind_20 (by decide) rfl rfl ?_
  refine z_iconst (v := 0) hc dX0_waterBehind_22 rfl ?_
  refine z_bipush (v := 9) hc dX0_waterBehind_23 rfl ?_
  refine z_iload hc dX0_waterBehind_25 0 rfl ?_
  refine z_callS (av := [.int 9, .int c2]) (enc' := eI) hc rfl (sJm_min (w := wC D b) rfl 9 c2 _) wMX0_244 hpyJ9_min_7cf53 hmyJ9_min_7cf53 (rm_ok hRm (Nat.le_of_ble_eq_true rfl) (Nat.le_of_ble_eq_true rfl)) (Nat.le_of_ble_eq_true rfl) hRm.2.2 dX0_waterBehind_27 (fun c3 u3 f3 => ?_)
  refine z_callS (av := [.int 0, .int c3]) (enc' := eI) hc rfl (sJm_max (w := wC D b) rfl 0 c3 _) wMX0_247 hpyJ9_max_7cf53 hmyJ9_max_7cf53 (rm_ok hRm (Nat.le_of_ble_eq_true rfl) (Nat.le_of_ble_eq_true rfl)) (Nat.le_of_ble_eq_true rfl) hRm.2.2 dX0_waterBehind_30 (fun c4 u4 f4 => ?_)
  exact z_iret hc dX0_waterBehind_33
set_option maxRecDepth 100000 in
set_option maxHeartbeats 4000000 in
theorem sCo_spread_5b {fin : Int32 × zM} (hc : zCx p s mi args meth c (wC D b) m0 RX0 cX0_spread 5 (some .int)) (hRm : R.frames = 0 ∧ R.locals = 0 ∧ R.cells = zc (wC D b) m0 fin.2 ∧ R.slots = zs (wC D b) m0 fin.2) {zr5 : Nat → Int32 → Int32 → Int32 → Int32 → zM → Option (Int32 × zM)} (hr5 : ∀ (r0 : Nat) (v1 : Int32) (v2 : Int32) (v3 : Int32) (v4 : Int32) (u : zM), zJ eI p l e R s mi args below meth c (wC D b) m0 5 fin 5 [(0, .ref r0), (1, .int v1), (2, .int v2), (3, .int v3), (4, .int v4)] [] u (zr5 r0 v1 v2 v3 v4 u)) (r0 : Nat) (v1 : Int32) (v2 : Int32) (v3 : Int32) (v4 : Int32) (u : zM) : zJ eI p l e R s mi args below meth c (wC D b) m0 5 fin 5 [(0, .ref r0), (1, .int v1), (2, .int v2), (3, .int v3), (4, .int v4)] [] u (Co_spread_5b zr5 r0 v1 v2 v3 v4 u) := by
  unfold Co_spread_5b
  refine zJ.chk _ (fun h1 => ?_)
  refine z_iload hc dX0_spread_5 4 rfl ?_
  refine z_aload_n hc dX0_spread_7 0 rfl rfl ?_
  refine z_getR (x := (r0 + 1)) hc (ci := 0) (k := 0) (by decide) (by decide) zly0 h1 (zkC h1) wFX0_14 rfl dX0_spread_8 (rfC_off (off := 1) h1 rfl (by decide)) (Nat.le_add_left_of_le (by decide)) ?_
  refine z_getI hc (ci := 3) (k := 1) (by decide) (by decide) zly3 (lyC_10_1 h1) (zkC (lyC_10_1 h1)) wFX0_84 rfl dX0_spread_11 ?_
  refine z_icmp_ge (tgt := 46) hc dX0_spread_14 (by decide) _ (fun h2 => ?_) (fun h2 => ?_)
  · refine z_iload_n hc dX0_spread_46 3 rfl rfl ?_
    exact z_iret hc dX0_spread_47
  · refine z_iload_n hc dX0_spread_17 1 rfl rfl ?_
    refine z_iload_n hc dX0_spread_18 2 rfl rfl ?_
    refine z_iand hc dX0_spread_19 ?_
    refine z_iconst (v := 1) hc dX0_spread_20 rfl ?_
    refine z_iload hc dX0_spread_21 4 rfl ?_
    refine z_ishl hc dX0_spread_23 ?_
    refine z_iand hc dX0_spread_24 ?_
    refine z_if_eq (tgt := 40) hc dX0_spread_25 (by decide) _ (fun h3 => ?_) (fun h3 => ?_)
    · refine z_iinc (L' := [(4, .int (v4 + 1)), (0, .ref r0), (1, .int v1), (2, .int v2), (3, .int v3)]) hc dX0_spread_40 4 rfl (v := (v4 + 1)) rfl (by decide) rfl rfl ?_
      refine z_goto (tgt := 5) hc dX0_spread_43 (by decide) ?_
      refine zJ.sub (L' := [(0, .ref r0), (1, .int v1), (2, .int v2), (3, .int v3), (4, .int (v4 + 1))]) [1, 2, 3, 4, 0] rfl ?_
      exact hr5 r0 v1 v2 v3 (v4 + 1) _
    · refine z_iload_n hc dX0_spread_28 3 rfl rfl ?_
      refine z_aload_n hc dX0_spread_29 0 rfl rfl ?_
      refine z_getR (x := (r0 + 10)) hc (ci := 0) (k := 5) (by decide) (by decide) zly0 h1 (zkC h1) wFX0_33 rfl dX0_spread_30 (rfC_off (off := 10) h1 rfl (by decide)) (Nat.le_add_left_of_le (by decide)) ?_
      refine z_iload hc dX0_spread_33 4 rfl ?_
      refine zJ.chk _ (fun h4 => ?_)
      refine z_iald (k := (ix v4)) hc (lyC_10_10 h1) (zkC (lyC_10_10 h1)) h4 rfl dX0_spread_35 ?_
      refine z_iload_n hc dX0_spread_36 2 rfl rfl ?_
      refine z_iand hc dX0_spread_37 ?_
      refine z_ior hc dX0_spread_38 ?_
      refine zJ.letI (fun x1 e1 => ?_)
      refine z_istore_n (L' := [(3, .int x1), (0, .ref r0), (1, .int v1), (2, .int v2), (4, .int v4)]) hc dX0_spread_39 rfl (by decide) rfl rfl ?_
      refine z_iinc (L' := [(4, .int (v4 + 1)), (3, .int x1), (0, .ref r0), (1, .int v1), (2, .int v2)]) hc dX0_spread_40 4 rfl (v := (v4 + 1)) rfl (by decide) rfl rfl ?_
      refine z_goto (tgt := 5) hc dX0_spread_43 (by decide) ?_
      refine zJ.sub (L' := [(0, .ref r0), (1, .int v1), (2, .int v2), (3, .int x1), (4, .int (v4 + 1))]) [2, 3, 4, 1, 0] rfl ?_
      exact hr5 r0 v1 v2 x1 (v4 + 1) _
set_option maxRecDepth 100000 in
set_option maxHeartbeats 4000000 in
theorem sCo_spread_5 {fin : Int32 × zM} (hc : zCx p s mi args meth c (wC D b) m0 RX0 cX0_spread 5 (some .int)) (hRm : R.frames = 0 ∧ R.locals = 0 ∧ R.cells = zc (wC D b) m0 fin.2 ∧ R.slots = zs (wC D b) m0 fin.2) : ∀ (zf : Nat) (r0 : Nat) (v1 : Int32) (v2 : Int32) (v3 : Int32) (v4 : Int32) (u : zM), zJ eI p l e R s mi args below meth c (wC D b) m0 5 fin 5 [(0, .ref r0), (1, .int v1), (2, .int v2), (3, .int v3), (4, .int v4)] [] u (Co_spread_5 zf r0 v1 v2 v3 v4 u) := by
  intro zf
  induction zf with
  | zero => intro r0 v1 v2 v3 v4 u; exact zJ.nil
  | succ zf ih => intro r0 v1 v2 v3 v4 u; exact sCo_spread_5b hc hRm ih r0 v1 v2 v3 v4 u
set_option maxRecDepth 100000 in
set_option maxHeartbeats 4000000 in
theorem sCo_spread : ∀ (r0 : Nat) (v1 : Int32) (v2 : Int32) (u : zM) r m1, Co_spread r0 v1 v2 u = some (r, m1) → zMet l (wC D b) 0 0 yX0_spread cX0_spread 5 (some .int) [.ref r0, .int v1, .int v2] u (eI r) m1 := by
  intro r0 v1 v2 u
  refine zMet.of (L := [(0, .ref r0), (1, .int v1), (2, .int v2)]) RX0 (by decide +kernel) rfl (Nat.le_of_ble_eq_true rfl) (fun h => by cases h) rfl (fun p e s mi args below meth c R fin hc hin hRm => ?_)
  unfold Co_spread
  refine zJ.chk _ (fun h1 => ?_)
  refine z_iload_n hc dX0_spread_0 1 rfl rfl ?_
  refine z_istore_n (L' := [(3, .int v1), (0, .ref r0), (1, .int v1), (2, .int v2)]) hc dX0_spread_1 rfl (by decide) rfl rfl ?_
  refine z_iconst (v := 0) hc dX0_spread_2 rfl ?_
  refine z_istore (L' := [(4, .int 0), (3, .int v1), (0, .ref r0), (1, .int v1), (2, .int v2)]) hc dX0_spread_3 (by decide) rfl rfl ?_
  refine zJ.sub (L' := [(0, .ref r0), (1, .int v1), (2, .int v2), (3, .int v1), (4, .int 0)]) [2, 3, 4, 1, 0] rfl ?_
  exact sCo_spread_5 hc hRm zF r0 v1 v2 v1 0 _
end ZS
