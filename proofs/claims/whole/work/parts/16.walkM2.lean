section ZS
variable {p : Program} {l : Launch} {e : Env} {R : Room} {s : State} {mi : MethodId} {args : Array Value} {below : List Frame} {meth : Method} {c : Code} {D : zD} {b : Nat} {m0 : zM}
set_option maxRecDepth 100000 in
set_option maxHeartbeats 4000000 in
theorem sMo_shifts_2b {fin : Unit × zM} (hc : zCx p s mi args meth c (wM D b) m0 RX10 cX10_shifts 3 none) (hRm : R.frames = 0 ∧ R.locals = 0 ∧ R.cells = zc (wM D b) m0 fin.2 ∧ R.slots = zs (wM D b) m0 fin.2) {zr2 : Nat → Int32 → Int32 → zM → Option (Unit × zM)} (hr2 : ∀ (r0 : Nat) (v1 : Int32) (v2 : Int32) (u : zM), zJ eV p l e R s mi args below meth c (wM D b) m0 3 fin 2 [(0, .ref r0), (1, .int v1), (2, .int v2)] [] u (zr2 r0 v1 v2 u)) (r0 : Nat) (v1 : Int32) (v2 : Int32) (u : zM) : zJ eV p l e R s mi args below meth c (wM D b) m0 3 fin 2 [(0, .ref r0), (1, .int v1), (2, .int v2)] [] u (Mo_shifts_2b zr2 r0 v1 v2 u) := by
  unfold Mo_shifts_2b
  refine zJ.chk _ (fun h1 => ?_)
  refine z_iload_n hc dX10_shifts_2 2 rfl rfl ?_
  refine z_iload_n hc dX10_shifts_3 1 rfl rfl ?_
  refine z_icmp_ge (tgt := 21) hc dX10_shifts_4 (by decide) _ (fun h2 => ?_) (fun h2 => ?_)
  · exact z_vret hc dX10_shifts_21
  · refine z_aload_n hc dX10_shifts_7 0 rfl rfl ?_
    refine z_iload_n hc dX10_shifts_8 2 rfl rfl ?_
    refine z_aload_n hc dX10_shifts_9 0 rfl rfl ?_
    refine z_iload_n hc dX10_shifts_10 1 rfl rfl ?_
    refine z_iload_n hc dX10_shifts_11 2 rfl rfl ?_
    refine z_iadd hc dX10_shifts_12 ?_
    refine zJ.chk _ (fun h3 => ?_)
    refine z_iald (k := (ix (v1 + v2))) hc (lyM h1) (zkM (lyM h1)) h3 rfl dX10_shifts_13 ?_
    refine zJ.chk _ (fun h4 => ?_)
    refine z_iast (k := (ix v2)) hc (lyM h1) (zkM (lyM h1)) h4 rfl dX10_shifts_14 ?_
    refine zJ.letM (fun u1 e1 => ?_)
    refine z_iinc (L' := [(2, .int (v2 + 1)), (0, .ref r0), (1, .int v1)]) hc dX10_shifts_15 2 rfl (v := (v2 + 1)) rfl (by decide) rfl rfl ?_
    refine z_goto (tgt := 2) hc dX10_shifts_18 (by decide) ?_
    refine zJ.sub (L' := [(0, .ref r0), (1, .int v1), (2, .int (v2 + 1))]) [1, 2, 0] rfl ?_
    exact hr2 r0 v1 (v2 + 1) _
set_option maxRecDepth 100000 in
set_option maxHeartbeats 4000000 in
theorem sMo_shifts_2 {fin : Unit × zM} (hc : zCx p s mi args meth c (wM D b) m0 RX10 cX10_shifts 3 none) (hRm : R.frames = 0 ∧ R.locals = 0 ∧ R.cells = zc (wM D b) m0 fin.2 ∧ R.slots = zs (wM D b) m0 fin.2) : ∀ (zf : Nat) (r0 : Nat) (v1 : Int32) (v2 : Int32) (u : zM), zJ eV p l e R s mi args below meth c (wM D b) m0 3 fin 2 [(0, .ref r0), (1, .int v1), (2, .int v2)] [] u (Mo_shifts_2 zf r0 v1 v2 u) := by
  intro zf
  induction zf with
  | zero => intro r0 v1 v2 u; exact zJ.nil
  | succ zf ih => intro r0 v1 v2 u; exact sMo_shifts_2b hc hRm ih r0 v1 v2 u
set_option maxRecDepth 100000 in
set_option maxHeartbeats 4000000 in
theorem sMo_shifts : ∀ (r0 : Nat) (v1 : Int32) (u : zM) r m1, Mo_shifts r0 v1 u = some (r, m1) → zMet l (wM D b) 0 0 yX10_shifts cX10_shifts 3 none [.ref r0, .int v1] u (eV r) m1 := by
  intro r0 v1 u
  refine zMet.of (L := [(0, .ref r0), (1, .int v1)]) RX10 (by decide +kernel) rfl (Nat.le_of_ble_eq_true rfl) (fun h => by cases h) rfl (fun p e s mi args below meth c R fin hc hin hRm => ?_)
  unfold Mo_shifts
  refine zJ.chk _ (fun h1 => ?_)
  refine z_iconst (v := 0) hc dX10_shifts_0 rfl ?_
  refine z_istore_n (L' := [(2, .int 0), (0, .ref r0), (1, .int v1)]) hc dX10_shifts_1 rfl (by decide) rfl rfl ?_
  refine zJ.sub (L' := [(0, .ref r0), (1, .int v1), (2, .int 0)]) [1, 2, 0] rfl ?_
  exact sMo_shifts_2 hc hRm zF r0 v1 0 _
set_option maxRecDepth 100000 in
set_option maxHeartbeats 4000000 in
theorem sMo_shiftsNames_2b {fin : Unit × zM} (hc : zCx p s mi args meth c (wM D b) m0 RX10 cX10_shiftsNames 3 none) (hRm : R.frames = 0 ∧ R.locals = 0 ∧ R.cells = zc (wM D b) m0 fin.2 ∧ R.slots = zs (wM D b) m0 fin.2) {zr2 : Nat → Int32 → Int32 → zM → Option (Unit × zM)} (hr2 : ∀ (r0 : Nat) (v1 : Int32) (v2 : Int32) (u : zM), zJ eV p l e R s mi args below meth c (wM D b) m0 3 fin 2 [(0, .ref r0), (1, .int v1), (2, .int v2)] [] u (zr2 r0 v1 v2 u)) (r0 : Nat) (v1 : Int32) (v2 : Int32) (u : zM) : zJ eV p l e R s mi args below meth c (wM D b) m0 3 fin 2 [(0, .ref r0), (1, .int v1), (2, .int v2)] [] u (Mo_shiftsNames_2b zr2 r0 v1 v2 u) := by
  unfold Mo_shiftsNames_2b
  refine zJ.chk _ (fun h1 => ?_)
  refine z_iload_n hc dX10_shiftsNames_2 2 rfl rfl ?_
  refine z_iload_n hc dX10_shiftsNames_3 1 rfl rfl ?_
  refine z_icmp_ge (tgt := 21) hc dX10_shiftsNames_4 (by decide) _ (fun h2 => ?_) (fun h2 => ?_)
  · exact z_vret hc dX10_shiftsNames_21
  · refine z_aload_n hc dX10_shiftsNames_7 0 rfl rfl ?_
    refine z_iload_n hc dX10_shiftsNames_8 2 rfl rfl ?_
    refine z_aload_n hc dX10_shiftsNames_9 0 rfl rfl ?_
    refine z_iload_n hc dX10_shiftsNames_10 1 rfl rfl ?_
    refine z_iload_n hc dX10_shiftsNames_11 2 rfl rfl ?_
    refine z_iadd hc dX10_shiftsNames_12 ?_
    refine zJ.chk _ (fun h3 => ?_)
    refine z_lald (k := (ix (v1 + v2))) hc (lyM h1) (zkM (lyM h1)) h3 rfl dX10_shiftsNames_13 ?_
    refine zJ.chk _ (fun h4 => ?_)
    refine z_last (k := (ix v2)) hc (lyM h1) (zkM (lyM h1)) h4 rfl dX10_shiftsNames_14 ?_
    refine zJ.letM (fun u1 e1 => ?_)
    refine z_iinc (L' := [(2, .int (v2 + 1)), (0, .ref r0), (1, .int v1)]) hc dX10_shiftsNames_15 2 rfl (v := (v2 + 1)) rfl (by decide) rfl rfl ?_
    refine z_goto (tgt := 2) hc dX10_shiftsNames_18 (by decide) ?_
    refine zJ.sub (L' := [(0, .ref r0), (1, .int v1), (2, .int (v2 + 1))]) [1, 2, 0] rfl ?_
    exact hr2 r0 v1 (v2 + 1) _
set_option maxRecDepth 100000 in
set_option maxHeartbeats 4000000 in
theorem sMo_shiftsNames_2 {fin : Unit × zM} (hc : zCx p s mi args meth c (wM D b) m0 RX10 cX10_shiftsNames 3 none) (hRm : R.frames = 0 ∧ R.locals = 0 ∧ R.cells = zc (wM D b) m0 fin.2 ∧ R.slots = zs (wM D b) m0 fin.2) : ∀ (zf : Nat) (r0 : Nat) (v1 : Int32) (v2 : Int32) (u : zM), zJ eV p l e R s mi args below meth c (wM D b) m0 3 fin 2 [(0, .ref r0), (1, .int v1), (2, .int v2)] [] u (Mo_shiftsNames_2 zf r0 v1 v2 u) := by
  intro zf
  induction zf with
  | zero => intro r0 v1 v2 u; exact zJ.nil
  | succ zf ih => intro r0 v1 v2 u; exact sMo_shiftsNames_2b hc hRm ih r0 v1 v2 u
set_option maxRecDepth 100000 in
set_option maxHeartbeats 4000000 in
theorem sMo_shiftsNames : ∀ (r0 : Nat) (v1 : Int32) (u : zM) r m1, Mo_shiftsNames r0 v1 u = some (r, m1) → zMet l (wM D b) 0 0 yX10_shiftsNames cX10_shiftsNames 3 none [.ref r0, .int v1] u (eV r) m1 := by
  intro r0 v1 u
  refine zMet.of (L := [(0, .ref r0), (1, .int v1)]) RX10 (by decide +kernel) rfl (Nat.le_of_ble_eq_true rfl) (fun h => by cases h) rfl (fun p e s mi args below meth c R fin hc hin hRm => ?_)
  unfold Mo_shiftsNames
  refine zJ.chk _ (fun h1 => ?_)
  refine z_iconst (v := 0) hc dX10_shiftsNames_0 rfl ?_
  refine z_istore_n (L' := [(2, .int 0), (0, .ref r0), (1, .int v1)]) hc dX10_shiftsNames_1 rfl (by decide) rfl rfl ?_
  refine zJ.sub (L' := [(0, .ref r0), (1, .int v1), (2, .int 0)]) [1, 2, 0] rfl ?_
  exact sMo_shiftsNames_2 hc hRm zF r0 v1 0 _
set_option maxRecDepth 100000 in
set_option maxHeartbeats 4000000 in
theorem sMo_lays : ∀ (u : zM) r m1, Mo_lays u = some (r, m1) → zMet l (wM D b) 1 22 yX10_lays cX10_lays 1 none [.ref 1] u (eV r) m1 := by
  intro u
  refine zMet.of (L := [(0, .ref 1)]) RX10 (by decide +kernel) rfl (Nat.le_of_ble_eq_true rfl) (fun h => by cases h) rfl (fun p e s mi args below meth c R fin hc hin hRm => ?_)
  unfold Mo_lays
  refine z_aload_n hc dX10_lays_0 0 rfl rfl ?_
  refine z_getR (x := 3) hc (ci := 10) (k := 10) (by decide) (by decide) zly10 lM1 (zkM lM1) wFX10_13 rfl dX10_lays_1 rfl (by decide) ?_
  refine z_bipush (v := 6) hc dX10_lays_4 rfl ?_
  refine z_callS (av := [.ref 3, .int 6]) (enc' := eV) hc rfl (sMo_shifts 3 6 _) wMX10_369 hpyX10_shifts hmyX10_shifts (rm_ok hRm (Nat.le_of_ble_eq_true rfl) (Nat.le_of_ble_eq_true rfl)) (Nat.le_of_ble_eq_true rfl) hRm.2.2 dX10_lays_6 (fun c1 u1 f1 => ?_)
  refine z_aload_n hc dX10_lays_9 0 rfl rfl ?_
  refine z_getR (x := 4) hc (ci := 10) (k := 11) (by decide) (by decide) zly10 lM1 (zkM lM1) wFX10_16 rfl dX10_lays_10 rfl (by decide) ?_
  refine z_bipush (v := 7) hc dX10_lays_13 rfl ?_
  refine z_callS (av := [.ref 4, .int 7]) (enc' := eV) hc rfl (sMo_shiftsNames 4 7 _) wMX10_373 hpyX10_shiftsNames hmyX10_shiftsNames (rm_ok hRm (Nat.le_of_ble_eq_true rfl) (Nat.le_of_ble_eq_true rfl)) (Nat.le_of_ble_eq_true rfl) hRm.2.2 dX10_lays_15 (fun c2 u2 f2 => ?_)
  refine z_aload_n hc dX10_lays_18 0 rfl rfl ?_
  refine z_getR (x := 5) hc (ci := 10) (k := 12) (by decide) (by decide) zly10 lM1 (zkM lM1) wFX10_20 rfl dX10_lays_19 rfl (by decide) ?_
  refine z_iconst (v := 5) hc dX10_lays_22 rfl ?_
  refine z_callS (av := [.ref 5, .int 5]) (enc' := eV) hc rfl (sMo_shiftsNames 5 5 _) wMX10_373 hpyX10_shiftsNames hmyX10_shiftsNames (rm_ok hRm (Nat.le_of_ble_eq_true rfl) (Nat.le_of_ble_eq_true rfl)) (Nat.le_of_ble_eq_true rfl) hRm.2.2 dX10_lays_23 (fun c3 u3 f3 => ?_)
  refine z_aload_n hc dX10_lays_26 0 rfl rfl ?_
  refine z_getR (x := 6) hc (ci := 10) (k := 13) (by decide) (by decide) zly10 lM1 (zkM lM1) wFX10_23 rfl dX10_lays_27 rfl (by decide) ?_
  refine z_iconst (v := 3) hc dX10_lays_30 rfl ?_
  refine z_callS (av := [.ref 6, .int 3]) (enc' := eV) hc rfl (sMo_shiftsNames 6 3 _) wMX10_373 hpyX10_shiftsNames hmyX10_shiftsNames (rm_ok hRm (Nat.le_of_ble_eq_true rfl) (Nat.le_of_ble_eq_true rfl)) (Nat.le_of_ble_eq_true rfl) hRm.2.2 dX10_lays_31 (fun c4 u4 f4 => ?_)
  refine z_aload_n hc dX10_lays_34 0 rfl rfl ?_
  refine z_getR (x := 7) hc (ci := 10) (k := 14) (by decide) (by decide) zly10 lM1 (zkM lM1) wFX10_26 rfl dX10_lays_35 rfl (by decide) ?_
  refine z_bipush (v := 6) hc dX10_lays_38 rfl ?_
  refine z_callS (av := [.ref 7, .int 6]) (enc' := eV) hc rfl (sMo_shiftsNames 7 6 _) wMX10_373 hpyX10_shiftsNames hmyX10_shiftsNames (rm_ok hRm (Nat.le_of_ble_eq_true rfl) (Nat.le_of_ble_eq_true rfl)) (Nat.le_of_ble_eq_true rfl) hRm.2.2 dX10_lays_40 (fun c5 u5 f5 => ?_)
  refine z_aload_n hc dX10_lays_43 0 rfl rfl ?_
  refine z_getR (x := 8) hc (ci := 10) (k := 15) (by decide) (by decide) zly10 lM1 (zkM lM1) wFX10_29 rfl dX10_lays_44 rfl (by decide) ?_
  refine z_bipush (v := 7) hc dX10_lays_47 rfl ?_
  refine z_callS (av := [.ref 8, .int 7]) (enc' := eV) hc rfl (sMo_shifts 8 7 _) wMX10_369 hpyX10_shifts hmyX10_shifts (rm_ok hRm (Nat.le_of_ble_eq_true rfl) (Nat.le_of_ble_eq_true rfl)) (Nat.le_of_ble_eq_true rfl) hRm.2.2 dX10_lays_49 (fun c6 u6 f6 => ?_)
  refine z_aload_n hc dX10_lays_52 0 rfl rfl ?_
  refine z_getR (x := 9) hc (ci := 10) (k := 16) (by decide) (by decide) zly10 lM1 (zkM lM1) wFX10_32 rfl dX10_lays_53 rfl (by decide) ?_
  refine z_bipush (v := 7) hc dX10_lays_56 rfl ?_
  refine z_callS (av := [.ref 9, .int 7]) (enc' := eV) hc rfl (sMo_shifts 9 7 _) wMX10_369 hpyX10_shifts hmyX10_shifts (rm_ok hRm (Nat.le_of_ble_eq_true rfl) (Nat.le_of_ble_eq_true rfl)) (Nat.le_of_ble_eq_true rfl) hRm.2.2 dX10_lays_58 (fun c7 u7 f7 => ?_)
  refine z_aload_n hc dX10_lays_61 0 rfl rfl ?_
  refine z_getR (x := 10) hc (ci := 10) (k := 17) (by decide) (by decide) zly10 lM1 (zkM lM1) wFX10_35 rfl dX10_lays_62 rfl (by decide) ?_
  refine z_iconst (v := 5) hc dX10_lays_65 rfl ?_
  refine z_callS (av := [.ref 10, .int 5]) (enc' := eV) hc rfl (sMo_shifts 10 5 _) wMX10_369 hpyX10_shifts hmyX10_shifts (rm_ok hRm (Nat.le_of_ble_eq_true rfl) (Nat.le_of_ble_eq_true rfl)) (Nat.le_of_ble_eq_true rfl) hRm.2.2 dX10_lays_66 (fun c8 u8 f8 => ?_)
  refine z_aload_n hc dX10_lays_69 0 rfl rfl ?_
  refine z_getR (x := 11) hc (ci := 10) (k := 18) (by decide) (by decide) zly10 lM1 (zkM lM1) wFX10_38 rfl dX10_lays_70 rfl (by decide) ?_
  refine z_iconst (v := 5) hc dX10_lays_73 rfl ?_
  refine z_callS (av := [.ref 11, .int 5]) (enc' := eV) hc rfl (sMo_shifts 11 5 _) wMX10_369 hpyX10_shifts hmyX10_shifts (rm_ok hRm (Nat.le_of_ble_eq_true rfl) (Nat.le_of_ble_eq_true rfl)) (Nat.le_of_ble_eq_true rfl) hRm.2.2 dX10_lays_74 (fun c9 u9 f9 => ?_)
  refine z_aload_n hc dX10_lays_77 0 rfl rfl ?_
  refine z_getR (x := 12) hc (ci := 10) (k := 19) (by decide) (by decide) zly10 lM1 (zkM lM1) wFX10_41 rfl dX10_lays_78 rfl (by decide) ?_
  refine z_iconst (v := 3) hc dX10_lays_81 rfl ?_
  refine z_callS (av := [.ref 12, .int 3]) (enc' := eV) hc rfl (sMo_shifts 12 3 _) wMX10_369 hpyX10_shifts hmyX10_shifts (rm_ok hRm (Nat.le_of_ble_eq_true rfl) (Nat.le_of_ble_eq_true rfl)) (Nat.le_of_ble_eq_true rfl) hRm.2.2 dX10_lays_82 (fun c10 u10 f10 => ?_)
  refine z_aload_n hc dX10_lays_85 0 rfl rfl ?_
  refine z_getR (x := 13) hc (ci := 10) (k := 20) (by decide) (by decide) zly10 lM1 (zkM lM1) wFX10_44 rfl dX10_lays_86 rfl (by decide) ?_
  refine z_iconst (v := 3) hc dX10_lays_89 rfl ?_
  refine z_callS (av := [.ref 13, .int 3]) (enc' := eV) hc rfl (sMo_shifts 13 3 _) wMX10_369 hpyX10_shifts hmyX10_shifts (rm_ok hRm (Nat.le_of_ble_eq_true rfl) (Nat.le_of_ble_eq_true rfl)) (Nat.le_of_ble_eq_true rfl) hRm.2.2 dX10_lays_90 (fun c11 u11 f11 => ?_)
  refine z_aload_n hc dX10_lays_93 0 rfl rfl ?_
  refine z_getR (x := 14) hc (ci := 10) (k := 21) (by decide) (by decide) zly10 lM1 (zkM lM1) wFX10_47 rfl dX10_lays_94 rfl (by decide) ?_
  refine z_bipush (v := 6) hc dX10_lays_97 rfl ?_
  refine z_callS (av := [.ref 14, .int 6]) (enc' := eV) hc rfl (sMo_shifts 14 6 _) wMX10_369 hpyX10_shifts hmyX10_shifts (rm_ok hRm (Nat.le_of_ble_eq_true rfl) (Nat.le_of_ble_eq_true rfl)) (Nat.le_of_ble_eq_true rfl) hRm.2.2 dX10_lays_99 (fun c12 u12 f12 => ?_)
  refine z_aload_n hc dX10_lays_102 0 rfl rfl ?_
  refine z_getR (x := 15) hc (ci := 10) (k := 22) (by decide) (by decide) zly10 lM1 (zkM lM1) wFX10_50 rfl dX10_lays_103 rfl (by decide) ?_
  refine z_bipush (v := 6) hc dX10_lays_106 rfl ?_
  refine z_callS (av := [.ref 15, .int 6]) (enc' := eV) hc rfl (sMo_shifts 15 6 _) wMX10_369 hpyX10_shifts hmyX10_shifts (rm_ok hRm (Nat.le_of_ble_eq_true rfl) (Nat.le_of_ble_eq_true rfl)) (Nat.le_of_ble_eq_true rfl) hRm.2.2 dX10_lays_108 (fun c13 u13 f13 => ?_)
  refine z_aload_n hc dX10_lays_111 0 rfl rfl ?_
  refine z_getR (x := 16) hc (ci := 10) (k := 23) (by decide) (by decide) zly10 lM1 (zkM lM1) wFX10_53 rfl dX10_lays_112 rfl (by decide) ?_
  refine z_bipush (v := 12) hc dX10_lays_115 rfl ?_
  refine z_callS (av := [.ref 16, .int 12]) (enc' := eV) hc rfl (sMo_shifts 16 12 _) wMX10_369 hpyX10_shifts hmyX10_shifts (rm_ok hRm (Nat.le_of_ble_eq_true rfl) (Nat.le_of_ble_eq_true rfl)) (Nat.le_of_ble_eq_true rfl) hRm.2.2 dX10_lays_117 (fun c14 u14 f14 => ?_)
  refine z_aload_n hc dX10_lays_120 0 rfl rfl ?_
  refine z_getR (x := 19) hc (ci := 10) (k := 26) (by decide) (by decide) zly10 lM1 (zkM lM1) wFX10_62 rfl dX10_lays_121 rfl (by decide) ?_
  refine z_sipush (v := 1000) hc dX10_lays_124 rfl ?_
  refine z_callS (av := [.ref 19, .int 1000]) (enc' := eV) hc rfl (sMo_shifts 19 1000 _) wMX10_369 hpyX10_shifts hmyX10_shifts (rm_ok hRm (Nat.le_of_ble_eq_true rfl) (Nat.le_of_ble_eq_true rfl)) (Nat.le_of_ble_eq_true rfl) hRm.2.2 dX10_lays_127 (fun c15 u15 f15 => ?_)
  refine z_aload_n hc dX10_lays_130 0 rfl rfl ?_
  refine z_getR (x := 17) hc (ci := 10) (k := 24) (by decide) (by decide) zly10 lM1 (zkM lM1) wFX10_56 rfl dX10_lays_131 rfl (by decide) ?_
  refine z_iconst (v := 0) hc dX10_lays_134 rfl ?_
  refine z_aload_n hc dX10_lays_135 0 rfl rfl ?_
  refine z_getR (x := 17) hc (ci := 10) (k := 24) (by decide) (by decide) zly10 lM1 (zkM lM1) wFX10_56 rfl dX10_lays_136 rfl (by decide) ?_
  refine z_iconst (v := 1) hc dX10_lays_139 rfl ?_
  refine z_iald (k := 1) hc lM17 (zkM lM17) rfl rfl dX10_lays_140 ?_
  refine z_sipush (v := 1000) hc dX10_lays_141 rfl ?_
  refine z_isub hc dX10_lays_144 ?_
  refine z_iast (k := 0) hc lM17 (zkM lM17) rfl rfl dX10_lays_145 ?_
  refine zJ.letM (fun u16 e1 => ?_)
  refine z_aload_n hc dX10_lays_146 0 rfl rfl ?_
  refine z_getR (x := 18) hc (ci := 10) (k := 25) (by decide) (by decide) zly10 lM1 (zkM lM1) wFX10_59 rfl dX10_lays_147 rfl (by decide) ?_
  refine z_iconst (v := 0) hc dX10_lays_150 rfl ?_
  refine z_aload_n hc dX10_lays_151 0 rfl rfl ?_
  refine z_getR (x := 18) hc (ci := 10) (k := 25) (by decide) (by decide) zly10 lM1 (zkM lM1) wFX10_59 rfl dX10_lays_152 rfl (by decide) ?_
  refine z_iconst (v := 1) hc dX10_lays_155 rfl ?_
  refine z_iald (k := 1) hc lM18 (zkM lM18) rfl rfl dX10_lays_156 ?_
  refine z_sipush (v := 1000) hc dX10_lays_157 rfl ?_
  refine z_isub hc dX10_lays_160 ?_
  refine z_iast (k := 0) hc lM18 (zkM lM18) rfl rfl dX10_lays_161 ?_
  refine zJ.letM (fun u17 e2 => ?_)
  exact z_vret hc dX10_lays_162
set_option maxRecDepth 100000 in
set_option maxHeartbeats 4000000 in
theorem sMo_copies_3b {fin : Unit × zM} (hc : zCx p s mi args meth c (wM D b) m0 RX10 cX10_copies 5 none) (hRm : R.frames = 0 ∧ R.locals = 0 ∧ R.cells = zc (wM D b) m0 fin.2 ∧ R.slots = zs (wM D b) m0 fin.2) {zr3 : Nat → Int32 → Nat → Int32 → Int32 → zM → Option (Unit × zM)} (hr3 : ∀ (r0 : Nat) (v1 : Int32) (r2 : Nat) (v3 : Int32) (v4 : Int32) (u : zM), zJ eV p l e R s mi args below meth c (wM D b) m0 5 fin 3 [(0, .ref r0), (1, .int v1), (2, .ref r2), (3, .int v3), (4, .int v4)] [] u (zr3 r0 v1 r2 v3 v4 u)) (r0 : Nat) (v1 : Int32) (r2 : Nat) (v3 : Int32) (v4 : Int32) (u : zM) : zJ eV p l e R s mi args below meth c (wM D b) m0 5 fin 3 [(0, .ref r0), (1, .int v1), (2, .ref r2), (3, .int v3), (4, .int v4)] [] u (Mo_copies_3b zr3 r0 v1 r2 v3 v4 u) := by
  unfold Mo_copies_3b
  refine zJ.chk _ (fun h1 => ?_)
  refine zJ.chk _ (fun h2 => ?_)
  refine z_iload hc dX10_copies_3 4 rfl ?_
  refine z_bipush (v := 25) hc dX10_copies_5 rfl ?_
  refine z_icmp_ge (tgt := 28) hc dX10_copies_7 (by decide) _ (fun h3 => ?_) (fun h3 => ?_)
  · exact z_vret hc dX10_copies_28
  · refine z_aload_n hc dX10_copies_10 2 rfl rfl ?_
    refine z_iload_n hc dX10_copies_11 3 rfl rfl ?_
    refine z_iload hc dX10_copies_12 4 rfl ?_
    refine z_iadd hc dX10_copies_14 ?_
    refine z_aload_n hc dX10_copies_15 0 rfl rfl ?_
    refine z_iload_n hc dX10_copies_16 1 rfl rfl ?_
    refine z_iload hc dX10_copies_17 4 rfl ?_
    refine z_iadd hc dX10_copies_19 ?_
    refine zJ.chk _ (fun h4 => ?_)
    refine z_iald (k := (ix (v1 + v4))) hc (lyM h1) (zkM (lyM h1)) h4 rfl dX10_copies_20 ?_
    refine zJ.chk _ (fun h5 => ?_)
    refine z_iast (k := (ix (v3 + v4))) hc (lyM h2) (zkM (lyM h2)) h5 rfl dX10_copies_21 ?_
    refine zJ.letM (fun u1 e1 => ?_)
    refine z_iinc (L' := [(4, .int (v4 + 1)), (0, .ref r0), (1, .int v1), (2, .ref r2), (3, .int v3)]) hc dX10_copies_22 4 rfl (v := (v4 + 1)) rfl (by decide) rfl rfl ?_
    refine z_goto (tgt := 3) hc dX10_copies_25 (by decide) ?_
    refine zJ.sub (L' := [(0, .ref r0), (1, .int v1), (2, .ref r2), (3, .int v3), (4, .int (v4 + 1))]) [1, 2, 3, 4, 0] rfl ?_
    exact hr3 r0 v1 r2 v3 (v4 + 1) _
set_option maxRecDepth 100000 in
set_option maxHeartbeats 4000000 in
theorem sMo_copies_3 {fin : Unit × zM} (hc : zCx p s mi args meth c (wM D b) m0 RX10 cX10_copies 5 none) (hRm : R.frames = 0 ∧ R.locals = 0 ∧ R.cells = zc (wM D b) m0 fin.2 ∧ R.slots = zs (wM D b) m0 fin.2) : ∀ (zf : Nat) (r0 : Nat) (v1 : Int32) (r2 : Nat) (v3 : Int32) (v4 : Int32) (u : zM), zJ eV p l e R s mi args below meth c (wM D b) m0 5 fin 3 [(0, .ref r0), (1, .int v1), (2, .ref r2), (3, .int v3), (4, .int v4)] [] u (Mo_copies_3 zf r0 v1 r2 v3 v4 u) := by
  intro zf
  induction zf with
  | zero => intro r0 v1 r2 v3 v4 u; exact zJ.nil
  | succ zf ih => intro r0 v1 r2 v3 v4 u; exact sMo_copies_3b hc hRm ih r0 v1 r2 v3 v4 u
set_option maxRecDepth 100000 in
set_option maxHeartbeats 4000000 in
theorem sMo_copies : ∀ (r0 : Nat) (v1 : Int32) (r2 : Nat) (v3 : Int32) (u : zM) r m1, Mo_copies r0 v1 r2 v3 u = some (r, m1) → zMet l (wM D b) 0 0 yX10_copies cX10_copies 5 none [.ref r0, .int v1, .ref r2, .int v3] u (eV r) m1 := by
  intro r0 v1 r2 v3 u
  refine zMet.of (L := [(0, .ref r0), (1, .int v1), (2, .ref r2), (3, .int v3)]) RX10 (by decide +kernel) rfl (Nat.le_of_ble_eq_true rfl) (fun h => by cases h) rfl (fun p e s mi args below meth c R fin hc hin hRm => ?_)
  unfold Mo_copies
  refine zJ.chk _ (fun h1 => ?_)
  refine zJ.chk _ (fun h2 => ?_)
  refine z_iconst (v := 0) hc dX10_copies_0 rfl ?_
  refine z_istore (L' := [(4, .int 0), (0, .ref r0), (1, .int v1), (2, .ref r2), (3, .int v3)]) hc dX10_copies_1 (by decide) rfl rfl ?_
  refine zJ.sub (L' := [(0, .ref r0), (1, .int v1), (2, .ref r2), (3, .int v3), (4, .int 0)]) [1, 2, 3, 4, 0] rfl ?_
  exact sMo_copies_3 hc hRm zF r0 v1 r2 v3 0 _
set_option maxRecDepth 100000 in
set_option maxHeartbeats 4000000 in
theorem sMo_readsLine_182 {fin : Int32 × zM} (hc : zCx p s mi args meth c (wM D b) m0 RX10 cX10_readsLine 3 (some .boolean)) (hRm : R.frames = 3 ∧ R.locals = 63 ∧ R.cells = zc (wM D b) m0 fin.2 ∧ R.slots = zs (wM D b) m0 fin.2) (u : zM) : zJ eI p l e R s mi args below meth c (wM D b) m0 3 fin 182 [(0, .ref 1)] [] u (Mo_readsLine_182 u) := by
  unfold Mo_readsLine_182
  refine z_aload_n hc dX10_readsLine_182 0 rfl rfl ?_
  refine z_getR (x := 32) hc (ci := 10) (k := 42) (by decide) (by decide) zly10 lM1 (zkM lM1) wFX10_102 rfl dX10_readsLine_183 rfl (by decide) ?_
  refine z_iconst (v := 5) hc dX10_readsLine_186 rfl ?_
  refine z_dup2 hc dX10_readsLine_187 rfl rfl ?_
  refine z_iald (k := 5) hc lM32 (zkM lM32) rfl rfl dX10_readsLine_188 ?_
  refine z_iconst (v := 1) hc dX10_readsLine_189 rfl ?_
  refine z_iadd hc dX10_readsLine_190 ?_
  refine z_iast (k := 5) hc lM32 (zkM lM32) rfl rfl dX10_readsLine_191 ?_
  refine zJ.letM (fun u1 e1 => ?_)
  refine z_aload_n hc dX10_readsLine_192 0 rfl rfl ?_
  refine z_callV (av := []) (enc' := eI) hc rfl (sMo_closes _) (ci := 10) (by decide) lM1 (zkM lM1) rfl wMX10_336 hpyX10_closes hmyX10_closes (rm_ok hRm (Nat.le_of_ble_eq_true rfl) (Nat.le_of_ble_eq_true rfl)) (Nat.le_of_ble_eq_true rfl) hRm.2.2 dX10_readsLine_193 (fun c1 u2 f1 => ?_)
  exact z_zretC hc dX10_readsLine_196
set_option maxRecDepth 100000 in
set_option maxHeartbeats 4000000 in
theorem sMo_readsLine_164 {fin : Int32 × zM} (hc : zCx p s mi args meth c (wM D b) m0 RX10 cX10_readsLine 3 (some .boolean)) (hRm : R.frames = 3 ∧ R.locals = 63 ∧ R.cells = zc (wM D b) m0 fin.2 ∧ R.slots = zs (wM D b) m0 fin.2) (v2 : Int32) (s1 : Int32) (u : zM) : zJ eI p l e R s mi args below meth c (wM D b) m0 3 fin 164 [(0, .ref 1), (2, .int v2)] [.int s1, .ref 1] u (Mo_readsLine_164 v2 s1 u) := by
  unfold Mo_readsLine_164
  refine z_callV (av := [.int s1]) (enc' := eI) hc rfl (sMo_passesFound s1 _) (ci := 10) (by decide) lM1 (zkM lM1) rfl wMX10_339 hpyX10_passesFound hmyX10_passesFound (rm_ok hRm (Nat.le_of_ble_eq_true rfl) (Nat.le_of_ble_eq_true rfl)) (Nat.le_of_ble_eq_true rfl) hRm.2.2 dX10_readsLine_164 (fun c1 u1 f1 => ?_)
  refine z_if_ne (tgt := 172) hc dX10_readsLine_167 (by decide) _ (fun h1 => ?_) (fun h1 => ?_)
  · refine z_aload_n hc dX10_readsLine_172 0 rfl rfl ?_
    refine z_getR (x := 35) hc (ci := 10) (k := 45) (by decide) (by decide) zly10 lM1 (zkM lM1) wFX10_111 rfl dX10_readsLine_173 rfl (by decide) ?_
    refine z_iload_n hc dX10_readsLine_176 1 rfl rfl ?_
    refine z_aload_n hc dX10_readsLine_177 0 rfl rfl ?_
    refine z_getI hc (ci := 10) (k := 40) (by decide) (by decide) zly10 lM1 (zkM lM1) wFX10_297 rfl dX10_readsLine_178 ?_
    refine zJ.chk _ (fun h2 => ?_)
    refine z_iast (k := (ix v2)) hc lM35 (zkM lM35) h2 rfl dX10_readsLine_181 ?_
    refine zJ.letM (fun u2 e1 => ?_)
    refine zJ.sub (L' := [(0, .ref 1)]) [0] rfl ?_
    exact sMo_readsLine_182 hc hRm _
  · refine z_iconst (v := 0) hc dX10_readsLine_170 rfl ?_
    exact z_zret hc rfl dX10_readsLine_171
set_option maxRecDepth 100000 in
set_option maxHeartbeats 4000000 in
theorem sMo_readsLine_141 {fin : Int32 × zM} (hc : zCx p s mi args meth c (wM D b) m0 RX10 cX10_readsLine 3 (some .boolean)) (hRm : R.frames = 3 ∧ R.locals = 63 ∧ R.cells = zc (wM D b) m0 fin.2 ∧ R.slots = zs (wM D b) m0 fin.2) (v1 : Int32) (v2 : Int32) (u : zM) : zJ eI p l e R s mi args below meth c (wM D b) m0 3 fin 141 [(0, .ref 1), (1, .int v1), (2, .int v2)] [] u (Mo_readsLine_141 v1 v2 u) := by
  unfold Mo_readsLine_141
  refine z_iload_n hc dX10_readsLine_141 1 rfl rfl ?_
  refine z_if_eq (tgt := 182) hc dX10_readsLine_142 (by decide) _ (fun h1 => ?_) (fun h1 => ?_)
  · refine zJ.sub (L' := [(0, .ref 1)]) [0] rfl ?_
    exact sMo_readsLine_182 hc hRm _
  · refine z_aload_n hc dX10_readsLine_145 0 rfl rfl ?_
    refine z_iload_n hc dX10_readsLine_146 1 rfl rfl ?_
    refine z_iconst (v := 2) hc dX10_readsLine_147 rfl ?_
    refine z_icmp_ne (tgt := 159) hc dX10_readsLine_148 (by decide) _ (fun h2 => ?_) (fun h2 => ?_)
    · refine z_aload_n hc dX10_readsLine_159 0 rfl rfl ?_
      refine z_iconst (v := 0) hc dX10_readsLine_160 rfl ?_
      refine z_callV (av := [.int 0]) (enc' := eI) hc rfl (sMo_writNamed 0 _) (ci := 10) (by decide) lM1 (zkM lM1) rfl wMX10_320 hpyX10_writNamed hmyX10_writNamed (rm_ok hRm (Nat.le_of_ble_eq_true rfl) (Nat.le_of_ble_eq_true rfl)) (Nat.le_of_ble_eq_true rfl) hRm.2.2 dX10_readsLine_161 (fun c1 u1 f1 => ?_)
      refine zJ.sub (L' := [(0, .ref 1), (2, .int v2)]) [0, 2] rfl ?_
      exact sMo_readsLine_164 hc hRm v2 c1 _
    · refine z_aload_n hc dX10_readsLine_151 0 rfl rfl ?_
      refine z_iconst (v := 0) hc dX10_readsLine_152 rfl ?_
      refine z_callV (av := [.int 0]) (enc' := eI) hc rfl (sMo_placeNamed 0 _) (ci := 10) (by decide) lM1 (zkM lM1) rfl wMX10_311 hpyX10_placeNamed hmyX10_placeNamed (rm_ok hRm (Nat.le_of_ble_eq_true rfl) (Nat.le_of_ble_eq_true rfl)) (Nat.le_of_ble_eq_true rfl) hRm.2.2 dX10_readsLine_153 (fun c2 u2 f2 => ?_)
      refine z_goto (tgt := 164) hc dX10_readsLine_156 (by decide) ?_
      refine zJ.sub (L' := [(0, .ref 1), (2, .int v2)]) [0, 2] rfl ?_
      exact sMo_readsLine_164 hc hRm v2 c2 _
set_option maxRecDepth 100000 in
set_option maxHeartbeats 4000000 in
theorem sMo_readsLine_117 {fin : Int32 × zM} (hc : zCx p s mi args meth c (wM D b) m0 RX10 cX10_readsLine 3 (some .boolean)) (hRm : R.frames = 3 ∧ R.locals = 63 ∧ R.cells = zc (wM D b) m0 fin.2 ∧ R.slots = zs (wM D b) m0 fin.2) (v1 : Int32) (v2 : Int32) (u : zM) : zJ eI p l e R s mi args below meth c (wM D b) m0 3 fin 117 [(0, .ref 1), (1, .int v1), (2, .int v2)] [] u (Mo_readsLine_117 v1 v2 u) := by
  unfold Mo_readsLine_117
  refine z_aload_n hc dX10_readsLine_117 0 rfl rfl ?_
  refine z_aload_n hc dX10_readsLine_118 0 rfl rfl ?_
  refine z_iconst (v := 0) hc dX10_readsLine_119 rfl ?_
  refine z_callV (av := [.int 0]) (enc' := eI) hc rfl (sMo_otterNamed 0 _) (ci := 10) (by decide) lM1 (zkM lM1) rfl wMX10_317 hpyX10_otterNamed hmyX10_otterNamed (rm_ok hRm (Nat.le_of_ble_eq_true rfl) (Nat.le_of_ble_eq_true rfl)) (Nat.le_of_ble_eq_true rfl) hRm.2.2 dX10_readsLine_120 (fun c1 u1 f1 => ?_)
  refine z_callV (av := [.int c1]) (enc' := eI) hc rfl (sMo_passesFound c1 _) (ci := 10) (by decide) lM1 (zkM lM1) rfl wMX10_339 hpyX10_passesFound hmyX10_passesFound (rm_ok hRm (Nat.le_of_ble_eq_true rfl) (Nat.le_of_ble_eq_true rfl)) (Nat.le_of_ble_eq_true rfl) hRm.2.2 dX10_readsLine_123 (fun c2 u2 f2 => ?_)
  refine z_if_ne (tgt := 131) hc dX10_readsLine_126 (by decide) _ (fun h1 => ?_) (fun h1 => ?_)
  · refine z_aload_n hc dX10_readsLine_131 0 rfl rfl ?_
    refine z_getR (x := 34) hc (ci := 10) (k := 44) (by decide) (by decide) zly10 lM1 (zkM lM1) wFX10_108 rfl dX10_readsLine_132 rfl (by decide) ?_
    refine z_iload_n hc dX10_readsLine_135 2 rfl rfl ?_
    refine z_aload_n hc dX10_readsLine_136 0 rfl rfl ?_
    refine z_getI hc (ci := 10) (k := 40) (by decide) (by decide) zly10 lM1 (zkM lM1) wFX10_297 rfl dX10_readsLine_137 ?_
    refine zJ.chk _ (fun h2 => ?_)
    refine z_iast (k := (ix v2)) hc lM34 (zkM lM34) h2 rfl dX10_readsLine_140 ?_
    refine zJ.letM (fun u3 e1 => ?_)
    exact sMo_readsLine_141 hc hRm v1 v2 _
  · refine z_iconst (v := 0) hc dX10_readsLine_129 rfl ?_
    exact z_zret hc rfl dX10_readsLine_130
set_option maxRecDepth 100000 in
set_option maxHeartbeats 4000000 in
theorem sMo_readsLine_57 {fin : Int32 × zM} (hc : zCx p s mi args meth c (wM D b) m0 RX10 cX10_readsLine 3 (some .boolean)) (hRm : R.frames = 3 ∧ R.locals = 63 ∧ R.cells = zc (wM D b) m0 fin.2 ∧ R.slots = zs (wM D b) m0 fin.2) (s0 : Int32) (u : zM) : zJ eI p l e R s mi args below meth c (wM D b) m0 3 fin 57 [(0, .ref 1)] [.int s0] u (Mo_readsLine_57 s0 u) := by
  unfold Mo_readsLine_57
  refine z_istore_n (L' := [(1, .int s0), (0, .ref 1)]) hc dX10_readsLine_57 rfl (by decide) rfl rfl ?_
  refine z_iload_n hc dX10_readsLine_58 0 rfl rfl ?_
  refine z_if_ge (tgt := 68) hc dX10_readsLine_59 (by decide) _ (fun h1 => ?_) (fun h1 => ?_)
  · refine z_aload_n hc dX10_readsLine_68 1 rfl rfl ?_
    refine z_getR (x := 32) hc (ci := 10) (k := 42) (by decide) (by decide) zly10 lM1 (zkM lM1) wFX10_102 rfl dX10_readsLine_69 rfl (by decide) ?_
    refine z_iconst (v := 5) hc dX10_readsLine_72 rfl ?_
    refine z_iald (k := 5) hc lM32 (zkM lM32) rfl rfl dX10_readsLine_73 ?_
    refine z_bipush (v := 40) hc dX10_readsLine_74 rfl ?_
    refine z_icmp_ne (tgt := 85) hc dX10_readsLine_76 (by decide) _ (fun h2 => ?_) (fun h2 => ?_)
    · refine z_aload_n hc dX10_readsLine_85 1 rfl rfl ?_
      refine z_callV (av := []) (enc' := eV) hc rfl (sMo_nextToken _) (ci := 10) (by decide) lM1 (zkM lM1) rfl wMX10_233 hpyX10_nextToken hmyX10_nextToken (rm_ok hRm (Nat.le_of_ble_eq_true rfl) (Nat.le_of_ble_eq_true rfl)) (Nat.le_of_ble_eq_true rfl) hRm.2.2 dX10_readsLine_86 (fun c1 u1 f1 => ?_)
      refine z_sipush (v := 200) hc dX10_readsLine_89 rfl ?_
      refine z_aload_n hc dX10_readsLine_92 1 rfl rfl ?_
      refine z_getR (x := 32) hc (ci := 10) (k := 42) (by decide) (by decide) zly10 lM1 (zkM lM1) wFX10_102 rfl dX10_readsLine_93 rfl (by decide) ?_
      refine z_iconst (v := 5) hc dX10_readsLine_96 rfl ?_
      refine z_iald (k := 5) hc lM32 (zkM lM32) rfl rfl dX10_readsLine_97 ?_
      refine z_iadd hc dX10_readsLine_98 ?_
      refine zJ.letI (fun x1 e1 => ?_)
      refine z_istore_n (L' := [(2, .int x1), (1, .int s0), (0, .ref 1)]) hc dX10_readsLine_99 rfl (by decide) rfl rfl ?_
      refine z_aload_n hc dX10_readsLine_100 2 rfl rfl ?_
      refine z_getR (x := 33) hc (ci := 10) (k := 43) (by decide) (by decide) zly10 lM1 (zkM lM1) wFX10_105 rfl dX10_readsLine_101 rfl (by decide) ?_
      refine z_iload_n hc dX10_readsLine_104 0 rfl rfl ?_
      refine z_iload_n hc dX10_readsLine_105 1 rfl rfl ?_
      refine zJ.chk _ (fun h3 => ?_)
      refine z_iast (k := (ix x1)) hc lM33 (zkM lM33) h3 rfl dX10_readsLine_106 ?_
      refine zJ.letM (fun u2 e2 => ?_)
      refine z_iload_n hc dX10_readsLine_107 1 rfl rfl ?_
      refine z_iconst (v := 1) hc dX10_readsLine_108 rfl ?_
      refine z_icmp_eq (tgt := 117) hc dX10_readsLine_109 (by decide) _ (fun h4 => ?_) (fun h4 => ?_)
      · refine zJ.sub (L' := [(0, .ref 1), (1, .int s0), (2, .int x1)]) [2, 1, 0] rfl ?_
        exact sMo_readsLine_117 hc hRm s0 x1 _
      · refine z_iload_n hc dX10_readsLine_112 1 rfl rfl ?_
        refine z_iconst (v := 2) hc dX10_readsLine_113 rfl ?_
        refine z_icmp_ne (tgt := 141) hc dX10_readsLine_114 (by decide) _ (fun h5 => ?_) (fun h5 => ?_)
        · refine zJ.sub (L' := [(0, .ref 1), (1, .int s0), (2, .int x1)]) [2, 1, 0] rfl ?_
          exact sMo_readsLine_141 hc hRm s0 x1 _
        · refine zJ.sub (L' := [(0, .ref 1), (1, .int s0), (2, .int x1)]) [2, 1, 0] rfl ?_
          exact sMo_readsLine_117 hc hRm s0 x1 _
    · refine z_aload_n hc dX10_readsLine_79 1 rfl rfl ?_
      refine z_iconst (v := 5) hc dX10_readsLine_80 rfl ?_
      refine z_callV (av := [.int 5]) (enc' := eI) hc rfl (sMo_fails 5 _) (ci := 10) (by decide) lM1 (zkM lM1) rfl wMX10_226 hpyX10_fails hmyX10_fails (rm_ok hRm (Nat.le_of_ble_eq_true rfl) (Nat.le_of_ble_eq_true rfl)) (Nat.le_of_ble_eq_true rfl) hRm.2.2 dX10_readsLine_81 (fun c2 u3 f2 => ?_)
      exact z_zretC hc dX10_readsLine_84
  · refine z_aload_n hc dX10_readsLine_62 1 rfl rfl ?_
    refine z_iconst (v := 1) hc dX10_readsLine_63 rfl ?_
    refine z_callV (av := [.int 1]) (enc' := eI) hc rfl (sMo_fails 1 _) (ci := 10) (by decide) lM1 (zkM lM1) rfl wMX10_226 hpyX10_fails hmyX10_fails (rm_ok hRm (Nat.le_of_ble_eq_true rfl) (Nat.le_of_ble_eq_true rfl)) (Nat.le_of_ble_eq_true rfl) hRm.2.2 dX10_readsLine_64 (fun c3 u4 f3 => ?_)
    exact z_zretC hc dX10_readsLine_67
set_option maxRecDepth 100000 in
set_option maxHeartbeats 4000000 in
theorem sMo_readsLine : ∀ (u : zM) r m1, Mo_readsLine u = some (r, m1) → zMet l (wM D b) 3 63 yX10_readsLine cX10_readsLine 3 (some .boolean) [.ref 1] u (eI r) m1 := by
  intro u
  refine zMet.of (L := [(0, .ref 1)]) RX10 (by decide +kernel) rfl (Nat.le_of_ble_eq_true rfl) (fun h => by cases h) rfl (fun p e s mi args below meth c R fin hc hin hRm => ?_)
  unfold Mo_readsLine
  refine z_aload_n hc dX10_readsLine_0 0 rfl rfl ?_
  refine z_ldc2 (v := 2968) hc wKX10_273 dX10_readsLine_1 ?_
  refine z_callV (av := [.long 2968]) (enc' := eI) hc rfl (sMo_isWord 2968 _) (ci := 10) (by decide) lM1 (zkM lM1) rfl wMX10_218 hpyX10_isWord hmyX10_isWord (rm_ok hRm (Nat.le_of_ble_eq_true rfl) (Nat.le_of_ble_eq_true rfl)) (Nat.le_of_ble_eq_true rfl) hRm.2.2 dX10_readsLine_4 (fun c1 u1 f1 => ?_)
  refine z_if_eq (tgt := 14) hc dX10_readsLine_7 (by decide) _ (fun h1 => ?_) (fun h1 => ?_)
  · refine z_aload_n hc dX10_readsLine_14 0 rfl rfl ?_
    refine z_ldc2 (v := 394691) hc wKX10_275 dX10_readsLine_15 ?_
    refine z_callV (av := [.long 394691]) (enc' := eI) hc rfl (sMo_isWord 394691 _) (ci := 10) (by decide) lM1 (zkM lM1) rfl wMX10_218 hpyX10_isWord hmyX10_isWord (rm_ok hRm (Nat.le_of_ble_eq_true rfl) (Nat.le_of_ble_eq_true rfl)) (Nat.le_of_ble_eq_true rfl) hRm.2.2 dX10_readsLine_18 (fun c2 u2 f2 => ?_)
    refine z_if_eq (tgt := 28) hc dX10_readsLine_21 (by decide) _ (fun h2 => ?_) (fun h2 => ?_)
    · refine z_aload_n hc dX10_readsLine_28 0 rfl rfl ?_
      refine z_ldc2 (v := 391000) hc wKX10_277 dX10_readsLine_29 ?_
      refine z_callV (av := [.long 391000]) (enc' := eI) hc rfl (sMo_isWord 391000 _) (ci := 10) (by decide) lM1 (zkM lM1) rfl wMX10_218 hpyX10_isWord hmyX10_isWord (rm_ok hRm (Nat.le_of_ble_eq_true rfl) (Nat.le_of_ble_eq_true rfl)) (Nat.le_of_ble_eq_true rfl) hRm.2.2 dX10_readsLine_32 (fun c3 u3 f3 => ?_)
      refine z_if_eq (tgt := 42) hc dX10_readsLine_35 (by decide) _ (fun h3 => ?_) (fun h3 => ?_)
      · refine z_aload_n hc dX10_readsLine_42 0 rfl rfl ?_
        refine z_ldc2 (v := 10209515) hc wKX10_279 dX10_readsLine_43 ?_
        refine z_callV (av := [.long 10209515]) (enc' := eI) hc rfl (sMo_isWord 10209515 _) (ci := 10) (by decide) lM1 (zkM lM1) rfl wMX10_218 hpyX10_isWord hmyX10_isWord (rm_ok hRm (Nat.le_of_ble_eq_true rfl) (Nat.le_of_ble_eq_true rfl)) (Nat.le_of_ble_eq_true rfl) hRm.2.2 dX10_readsLine_46 (fun c4 u4 f4 => ?_)
        refine z_if_eq (tgt := 56) hc dX10_readsLine_49 (by decide) _ (fun h4 => ?_) (fun h4 => ?_)
        · refine z_iconst (v := (-1)) hc dX10_readsLine_56 rfl ?_
          exact sMo_readsLine_57 hc hRm (-1) _
        · refine z_iconst (v := 3) hc dX10_readsLine_52 rfl ?_
          refine z_goto (tgt := 57) hc dX10_readsLine_53 (by decide) ?_
          exact sMo_readsLine_57 hc hRm 3 _
      · refine z_iconst (v := 2) hc dX10_readsLine_38 rfl ?_
        refine z_goto (tgt := 57) hc dX10_readsLine_39 (by decide) ?_
        exact sMo_readsLine_57 hc hRm 2 _
    · refine z_iconst (v := 1) hc dX10_readsLine_24 rfl ?_
      refine z_goto (tgt := 57) hc dX10_readsLine_25 (by decide) ?_
      exact sMo_readsLine_57 hc hRm 1 _
  · refine z_iconst (v := 0) hc dX10_readsLine_10 rfl ?_
    refine z_goto (tgt := 57) hc dX10_readsLine_11 (by decide) ?_
    exact sMo_readsLine_57 hc hRm 0 _
set_option maxRecDepth 100000 in
set_option maxHeartbeats 4000000 in
theorem sMo_laysLines_14b {fin : Unit × zM} (hc : zCx p s mi args meth c (wM D b) m0 RX10 cX10_laysLines 4 none) (hRm : R.frames = 0 ∧ R.locals = 0 ∧ R.cells = zc (wM D b) m0 fin.2 ∧ R.slots = zs (wM D b) m0 fin.2) {zr14 : Int32 → Int32 → Int32 → zM → Option (Unit × zM)} (hr14 : ∀ (v1 : Int32) (v2 : Int32) (v3 : Int32) (u : zM), zJ eV p l e R s mi args below meth c (wM D b) m0 4 fin 14 [(0, .ref 1), (1, .int v1), (2, .int v2), (3, .int v3)] [] u (zr14 v1 v2 v3 u)) (v1 : Int32) (v2 : Int32) (v3 : Int32) (u : zM) : zJ eV p l e R s mi args below meth c (wM D b) m0 4 fin 14 [(0, .ref 1), (1, .int v1), (2, .int v2), (3, .int v3)] [] u (Mo_laysLines_14b zr14 v1 v2 v3 u) := by
  unfold Mo_laysLines_14b
  refine z_iload_n hc dX10_laysLines_14 3 rfl rfl ?_
  refine z_bipush (v := 40) hc dX10_laysLines_15 rfl ?_
  refine z_icmp_ge (tgt := 92) hc dX10_laysLines_17 (by decide) _ (fun h1 => ?_) (fun h1 => ?_)
  · exact z_vret hc dX10_laysLines_92
  · refine z_aload_n hc dX10_laysLines_20 0 rfl rfl ?_
    refine z_getR (x := 33) hc (ci := 10) (k := 43) (by decide) (by decide) zly10 lM1 (zkM lM1) wFX10_105 rfl dX10_laysLines_21 rfl (by decide) ?_
    refine z_bipush (v := 40) hc dX10_laysLines_24 rfl ?_
    refine z_iload_n hc dX10_laysLines_26 2 rfl rfl ?_
    refine z_imul hc dX10_laysLines_27 ?_
    refine z_iload_n hc dX10_laysLines_28 3 rfl rfl ?_
    refine z_iadd hc dX10_laysLines_29 ?_
    refine z_aload_n hc dX10_laysLines_30 0 rfl rfl ?_
    refine z_getR (x := 33) hc (ci := 10) (k := 43) (by decide) (by decide) zly10 lM1 (zkM lM1) wFX10_105 rfl dX10_laysLines_31 rfl (by decide) ?_
    refine z_bipush (v := 40) hc dX10_laysLines_34 rfl ?_
    refine z_iload_n hc dX10_laysLines_36 1 rfl rfl ?_
    refine z_imul hc dX10_laysLines_37 ?_
    refine z_iload_n hc dX10_laysLines_38 3 rfl rfl ?_
    refine z_iadd hc dX10_laysLines_39 ?_
    refine zJ.chk _ (fun h2 => ?_)
    refine z_iald (k := (ix ((40 * v1) + v3))) hc lM33 (zkM lM33) h2 rfl dX10_laysLines_40 ?_
    refine zJ.chk _ (fun h3 => ?_)
    refine z_iast (k := (ix ((40 * v2) + v3))) hc lM33 (zkM lM33) h3 rfl dX10_laysLines_41 ?_
    refine zJ.letM (fun u1 e1 => ?_)
    refine z_aload_n hc dX10_laysLines_42 0 rfl rfl ?_
    refine z_getR (x := 34) hc (ci := 10) (k := 44) (by decide) (by decide) zly10 lM1 (zkM lM1) wFX10_108 rfl dX10_laysLines_43 rfl (by decide) ?_
    refine z_bipush (v := 40) hc dX10_laysLines_46 rfl ?_
    refine z_iload_n hc dX10_laysLines_48 2 rfl rfl ?_
    refine z_imul hc dX10_laysLines_49 ?_
    refine z_iload_n hc dX10_laysLines_50 3 rfl rfl ?_
    refine z_iadd hc dX10_laysLines_51 ?_
    refine z_aload_n hc dX10_laysLines_52 0 rfl rfl ?_
    refine z_getR (x := 34) hc (ci := 10) (k := 44) (by decide) (by decide) zly10 lM1 (zkM lM1) wFX10_108 rfl dX10_laysLines_53 rfl (by decide) ?_
    refine z_bipush (v := 40) hc dX10_laysLines_56 rfl ?_
    refine z_iload_n hc dX10_laysLines_58 1 rfl rfl ?_
    refine z_imul hc dX10_laysLines_59 ?_
    refine z_iload_n hc dX10_laysLines_60 3 rfl rfl ?_
    refine z_iadd hc dX10_laysLines_61 ?_
    refine zJ.chk _ (fun h4 => ?_)
    refine z_iald (k := (ix ((40 * v1) + v3))) hc lM34 (zkM lM34) h4 rfl dX10_laysLines_62 ?_
    refine zJ.chk _ (fun h5 => ?_)
    refine z_iast (k := (ix ((40 * v2) + v3))) hc lM34 (zkM lM34) h5 rfl dX10_laysLines_63 ?_
    refine zJ.letM (fun u2 e2 => ?_)
    refine z_aload_n hc dX10_laysLines_64 0 rfl rfl ?_
    refine z_getR (x := 35) hc (ci := 10) (k := 45) (by decide) (by decide) zly10 lM1 (zkM lM1) wFX10_111 rfl dX10_laysLines_65 rfl (by decide) ?_
    refine z_bipush (v := 40) hc dX10_laysLines_68 rfl ?_
    refine z_iload_n hc dX10_laysLines_70 2 rfl rfl ?_
    refine z_imul hc dX10_laysLines_71 ?_
    refine z_iload_n hc dX10_laysLines_72 3 rfl rfl ?_
    refine z_iadd hc dX10_laysLines_73 ?_
    refine z_aload_n hc dX10_laysLines_74 0 rfl rfl ?_
    refine z_getR (x := 35) hc (ci := 10) (k := 45) (by decide) (by decide) zly10 lM1 (zkM lM1) wFX10_111 rfl dX10_laysLines_75 rfl (by decide) ?_
    refine z_bipush (v := 40) hc dX10_laysLines_78 rfl ?_
    refine z_iload_n hc dX10_laysLines_80 1 rfl rfl ?_
    refine z_imul hc dX10_laysLines_81 ?_
    refine z_iload_n hc dX10_laysLines_82 3 rfl rfl ?_
    refine z_iadd hc dX10_laysLines_83 ?_
    refine zJ.chk _ (fun h6 => ?_)
    refine z_iald (k := (ix ((40 * v1) + v3))) hc lM35 (zkM lM35) h6 rfl dX10_laysLines_84 ?_
    refine zJ.chk _ (fun h7 => ?_)
    refine z_iast (k := (ix ((40 * v2) + v3))) hc lM35 (zkM lM35) h7 rfl dX10_laysLines_85 ?_
    refine zJ.letM (fun u3 e3 => ?_)
    refine z_iinc (L' := [(3, .int (v3 + 1)), (0, .ref 1), (1, .int v1), (2, .int v2)]) hc dX10_laysLines_86 3 rfl (v := (v3 + 1)) rfl (by decide) rfl rfl ?_
    refine z_goto (tgt := 14) hc dX10_laysLines_89 (by decide) ?_
    refine zJ.sub (L' := [(0, .ref 1), (1, .int v1), (2, .int v2), (3, .int (v3 + 1))]) [1, 2, 3, 0] rfl ?_
    exact hr14 v1 v2 (v3 + 1) _
set_option maxRecDepth 100000 in
set_option maxHeartbeats 4000000 in
theorem sMo_laysLines_14 {fin : Unit × zM} (hc : zCx p s mi args meth c (wM D b) m0 RX10 cX10_laysLines 4 none) (hRm : R.frames = 0 ∧ R.locals = 0 ∧ R.cells = zc (wM D b) m0 fin.2 ∧ R.slots = zs (wM D b) m0 fin.2) : ∀ (zf : Nat) (v1 : Int32) (v2 : Int32) (v3 : Int32) (u : zM), zJ eV p l e R s mi args below meth c (wM D b) m0 4 fin 14 [(0, .ref 1), (1, .int v1), (2, .int v2), (3, .int v3)] [] u (Mo_laysLines_14 zf v1 v2 v3 u) := by
  intro zf
  induction zf with
  | zero => intro v1 v2 v3 u; exact zJ.nil
  | succ zf ih => intro v1 v2 v3 u; exact sMo_laysLines_14b hc hRm ih v1 v2 v3 u
set_option maxRecDepth 100000 in
set_option maxHeartbeats 4000000 in
theorem sMo_laysLines : ∀ (v1 : Int32) (v2 : Int32) (u : zM) r m1, Mo_laysLines v1 v2 u = some (r, m1) → zMet l (wM D b) 0 0 yX10_laysLines cX10_laysLines 4 none [.ref 1, .int v1, .int v2] u (eV r) m1 := by
  intro v1 v2 u
  refine zMet.of (L := [(0, .ref 1), (1, .int v1), (2, .int v2)]) RX10 (by decide +kernel) rfl (Nat.le_of_ble_eq_true rfl) (fun h => by cases h) rfl (fun p e s mi args below meth c R fin hc hin hRm => ?_)
  unfold Mo_laysLines
  refine z_aload_n hc dX10_laysLines_0 0 rfl rfl ?_
  refine z_getR (x := 32) hc (ci := 10) (k := 42) (by decide) (by decide) zly10 lM1 (zkM lM1) wFX10_102 rfl dX10_laysLines_1 rfl (by decide) ?_
  refine z_iload_n hc dX10_laysLines_4 2 rfl rfl ?_
  refine z_aload_n hc dX10_laysLines_5 0 rfl rfl ?_
  refine z_getR (x := 32) hc (ci := 10) (k := 42) (by decide) (by decide) zly10 lM1 (zkM lM1) wFX10_102 rfl dX10_laysLines_6 rfl (by decide) ?_
  refine z_iload_n hc dX10_laysLines_9 1 rfl rfl ?_
  refine zJ.chk _ (fun h1 => ?_)
  refine z_iald (k := (ix v1)) hc lM32 (zkM lM32) h1 rfl dX10_laysLines_10 ?_
  refine zJ.chk _ (fun h2 => ?_)
  refine z_iast (k := (ix v2)) hc lM32 (zkM lM32) h2 rfl dX10_laysLines_11 ?_
  refine zJ.letM (fun u1 e1 => ?_)
  refine z_iconst (v := 0) hc dX10_laysLines_12 rfl ?_
  refine z_istore_n (L' := [(3, .int 0), (0, .ref 1), (1, .int v1), (2, .int v2)]) hc dX10_laysLines_13 rfl (by decide) rfl rfl ?_
  refine zJ.sub (L' := [(0, .ref 1), (1, .int v1), (2, .int v2), (3, .int 0)]) [1, 2, 3, 0] rfl ?_
  exact sMo_laysLines_14 hc hRm zF v1 v2 0 _
set_option maxRecDepth 100000 in
set_option maxHeartbeats 4000000 in
theorem sMo_laysSeen_14b {fin : Unit × zM} (hc : zCx p s mi args meth c (wM D b) m0 RX10 cX10_laysSeen 4 none) (hRm : R.frames = 0 ∧ R.locals = 0 ∧ R.cells = zc (wM D b) m0 fin.2 ∧ R.slots = zs (wM D b) m0 fin.2) {zr14 : Int32 → Int32 → Int32 → zM → Option (Unit × zM)} (hr14 : ∀ (v1 : Int32) (v2 : Int32) (v3 : Int32) (u : zM), zJ eV p l e R s mi args below meth c (wM D b) m0 4 fin 14 [(0, .ref 1), (1, .int v1), (2, .int v2), (3, .int v3)] [] u (zr14 v1 v2 v3 u)) (v1 : Int32) (v2 : Int32) (v3 : Int32) (u : zM) : zJ eV p l e R s mi args below meth c (wM D b) m0 4 fin 14 [(0, .ref 1), (1, .int v1), (2, .int v2), (3, .int v3)] [] u (Mo_laysSeen_14b zr14 v1 v2 v3 u) := by
  unfold Mo_laysSeen_14b
  refine z_iload_n hc dX10_laysSeen_14 3 rfl rfl ?_
  refine z_bipush (v := 8) hc dX10_laysSeen_15 rfl ?_
  refine z_icmp_ge (tgt := 92) hc dX10_laysSeen_17 (by decide) _ (fun h1 => ?_) (fun h1 => ?_)
  · exact z_vret hc dX10_laysSeen_92
  · refine z_aload_n hc dX10_laysSeen_20 0 rfl rfl ?_
    refine z_getR (x := 37) hc (ci := 10) (k := 47) (by decide) (by decide) zly10 lM1 (zkM lM1) wFX10_117 rfl dX10_laysSeen_21 rfl (by decide) ?_
    refine z_bipush (v := 8) hc dX10_laysSeen_24 rfl ?_
    refine z_iload_n hc dX10_laysSeen_26 2 rfl rfl ?_
    refine z_imul hc dX10_laysSeen_27 ?_
    refine z_iload_n hc dX10_laysSeen_28 3 rfl rfl ?_
    refine z_iadd hc dX10_laysSeen_29 ?_
    refine z_aload_n hc dX10_laysSeen_30 0 rfl rfl ?_
    refine z_getR (x := 37) hc (ci := 10) (k := 47) (by decide) (by decide) zly10 lM1 (zkM lM1) wFX10_117 rfl dX10_laysSeen_31 rfl (by decide) ?_
    refine z_bipush (v := 8) hc dX10_laysSeen_34 rfl ?_
    refine z_iload_n hc dX10_laysSeen_36 1 rfl rfl ?_
    refine z_imul hc dX10_laysSeen_37 ?_
    refine z_iload_n hc dX10_laysSeen_38 3 rfl rfl ?_
    refine z_iadd hc dX10_laysSeen_39 ?_
    refine zJ.chk _ (fun h2 => ?_)
    refine z_iald (k := (ix ((8 * v1) + v3))) hc lM37 (zkM lM37) h2 rfl dX10_laysSeen_40 ?_
    refine zJ.chk _ (fun h3 => ?_)
    refine z_iast (k := (ix ((8 * v2) + v3))) hc lM37 (zkM lM37) h3 rfl dX10_laysSeen_41 ?_
    refine zJ.letM (fun u1 e1 => ?_)
    refine z_aload_n hc dX10_laysSeen_42 0 rfl rfl ?_
    refine z_getR (x := 38) hc (ci := 10) (k := 48) (by decide) (by decide) zly10 lM1 (zkM lM1) wFX10_120 rfl dX10_laysSeen_43 rfl (by decide) ?_
    refine z_bipush (v := 8) hc dX10_laysSeen_46 rfl ?_
    refine z_iload_n hc dX10_laysSeen_48 2 rfl rfl ?_
    refine z_imul hc dX10_laysSeen_49 ?_
    refine z_iload_n hc dX10_laysSeen_50 3 rfl rfl ?_
    refine z_iadd hc dX10_laysSeen_51 ?_
    refine z_aload_n hc dX10_laysSeen_52 0 rfl rfl ?_
    refine z_getR (x := 38) hc (ci := 10) (k := 48) (by decide) (by decide) zly10 lM1 (zkM lM1) wFX10_120 rfl dX10_laysSeen_53 rfl (by decide) ?_
    refine z_bipush (v := 8) hc dX10_laysSeen_56 rfl ?_
    refine z_iload_n hc dX10_laysSeen_58 1 rfl rfl ?_
    refine z_imul hc dX10_laysSeen_59 ?_
    refine z_iload_n hc dX10_laysSeen_60 3 rfl rfl ?_
    refine z_iadd hc dX10_laysSeen_61 ?_
    refine zJ.chk _ (fun h4 => ?_)
    refine z_iald (k := (ix ((8 * v1) + v3))) hc lM38 (zkM lM38) h4 rfl dX10_laysSeen_62 ?_
    refine zJ.chk _ (fun h5 => ?_)
    refine z_iast (k := (ix ((8 * v2) + v3))) hc lM38 (zkM lM38) h5 rfl dX10_laysSeen_63 ?_
    refine zJ.letM (fun u2 e2 => ?_)
    refine z_aload_n hc dX10_laysSeen_64 0 rfl rfl ?_
    refine z_getR (x := 39) hc (ci := 10) (k := 49) (by decide) (by decide) zly10 lM1 (zkM lM1) wFX10_123 rfl dX10_laysSeen_65 rfl (by decide) ?_
    refine z_bipush (v := 8) hc dX10_laysSeen_68 rfl ?_
    refine z_iload_n hc dX10_laysSeen_70 2 rfl rfl ?_
    refine z_imul hc dX10_laysSeen_71 ?_
    refine z_iload_n hc dX10_laysSeen_72 3 rfl rfl ?_
    refine z_iadd hc dX10_laysSeen_73 ?_
    refine z_aload_n hc dX10_laysSeen_74 0 rfl rfl ?_
    refine z_getR (x := 39) hc (ci := 10) (k := 49) (by decide) (by decide) zly10 lM1 (zkM lM1) wFX10_123 rfl dX10_laysSeen_75 rfl (by decide) ?_
    refine z_bipush (v := 8) hc dX10_laysSeen_78 rfl ?_
    refine z_iload_n hc dX10_laysSeen_80 1 rfl rfl ?_
    refine z_imul hc dX10_laysSeen_81 ?_
    refine z_iload_n hc dX10_laysSeen_82 3 rfl rfl ?_
    refine z_iadd hc dX10_laysSeen_83 ?_
    refine zJ.chk _ (fun h6 => ?_)
    refine z_zald (k := (ix ((8 * v1) + v3))) hc lM39 (zkM lM39) h6 rfl dX10_laysSeen_84 ?_
    refine zJ.chk _ (fun h7 => ?_)
    refine z_zast (k := (ix ((8 * v2) + v3))) hc lM39 (zkM lM39) h7 rfl dX10_laysSeen_85 ?_
    refine zJ.letM (fun u3 e3 => ?_)
    refine z_iinc (L' := [(3, .int (v3 + 1)), (0, .ref 1), (1, .int v1), (2, .int v2)]) hc dX10_laysSeen_86 3 rfl (v := (v3 + 1)) rfl (by decide) rfl rfl ?_
    refine z_goto (tgt := 14) hc dX10_laysSeen_89 (by decide) ?_
    refine zJ.sub (L' := [(0, .ref 1), (1, .int v1), (2, .int v2), (3, .int (v3 + 1))]) [1, 2, 3, 0] rfl ?_
    exact hr14 v1 v2 (v3 + 1) _
set_option maxRecDepth 100000 in
set_option maxHeartbeats 4000000 in
theorem sMo_laysSeen_14 {fin : Unit × zM} (hc : zCx p s mi args meth c (wM D b) m0 RX10 cX10_laysSeen 4 none) (hRm : R.frames = 0 ∧ R.locals = 0 ∧ R.cells = zc (wM D b) m0 fin.2 ∧ R.slots = zs (wM D b) m0 fin.2) : ∀ (zf : Nat) (v1 : Int32) (v2 : Int32) (v3 : Int32) (u : zM), zJ eV p l e R s mi args below meth c (wM D b) m0 4 fin 14 [(0, .ref 1), (1, .int v1), (2, .int v2), (3, .int v3)] [] u (Mo_laysSeen_14 zf v1 v2 v3 u) := by
  intro zf
  induction zf with
  | zero => intro v1 v2 v3 u; exact zJ.nil
  | succ zf ih => intro v1 v2 v3 u; exact sMo_laysSeen_14b hc hRm ih v1 v2 v3 u
set_option maxRecDepth 100000 in
set_option maxHeartbeats 4000000 in
theorem sMo_laysSeen : ∀ (v1 : Int32) (v2 : Int32) (u : zM) r m1, Mo_laysSeen v1 v2 u = some (r, m1) → zMet l (wM D b) 0 0 yX10_laysSeen cX10_laysSeen 4 none [.ref 1, .int v1, .int v2] u (eV r) m1 := by
  intro v1 v2 u
  refine zMet.of (L := [(0, .ref 1), (1, .int v1), (2, .int v2)]) RX10 (by decide +kernel) rfl (Nat.le_of_ble_eq_true rfl) (fun h => by cases h) rfl (fun p e s mi args below meth c R fin hc hin hRm => ?_)
  unfold Mo_laysSeen
  refine z_aload_n hc dX10_laysSeen_0 0 rfl rfl ?_
  refine z_getR (x := 36) hc (ci := 10) (k := 46) (by decide) (by decide) zly10 lM1 (zkM lM1) wFX10_114 rfl dX10_laysSeen_1 rfl (by decide) ?_
  refine z_iload_n hc dX10_laysSeen_4 2 rfl rfl ?_
  refine z_aload_n hc dX10_laysSeen_5 0 rfl rfl ?_
  refine z_getR (x := 36) hc (ci := 10) (k := 46) (by decide) (by decide) zly10 lM1 (zkM lM1) wFX10_114 rfl dX10_laysSeen_6 rfl (by decide) ?_
  refine z_iload_n hc dX10_laysSeen_9 1 rfl rfl ?_
  refine zJ.chk _ (fun h1 => ?_)
  refine z_iald (k := (ix v1)) hc lM36 (zkM lM36) h1 rfl dX10_laysSeen_10 ?_
  refine zJ.chk _ (fun h2 => ?_)
  refine z_iast (k := (ix v2)) hc lM36 (zkM lM36) h2 rfl dX10_laysSeen_11 ?_
  refine zJ.letM (fun u1 e1 => ?_)
  refine z_iconst (v := 0) hc dX10_laysSeen_12 rfl ?_
  refine z_istore_n (L' := [(3, .int 0), (0, .ref 1), (1, .int v1), (2, .int v2)]) hc dX10_laysSeen_13 rfl (by decide) rfl rfl ?_
  refine zJ.sub (L' := [(0, .ref 1), (1, .int v1), (2, .int v2), (3, .int 0)]) [1, 2, 3, 0] rfl ?_
  exact sMo_laysSeen_14 hc hRm zF v1 v2 0 _
set_option maxRecDepth 100000 in
set_option maxHeartbeats 4000000 in
theorem sMo_fresh0_25 {fin : Unit × zM} (hc : zCx p s mi args meth c (wM D b) m0 RX10 cX10_fresh0 2 none) (hRm : R.frames = 0 ∧ R.locals = 0 ∧ R.cells = zc (wM D b) m0 fin.2 ∧ R.slots = zs (wM D b) m0 fin.2) {zr2 : Int32 → zM → Option (Unit × zM)} (hr2 : ∀ (v1 : Int32) (u : zM), zJ eV p l e R s mi args below meth c (wM D b) m0 2 fin 2 [(0, .ref 1), (1, .int v1)] [] u (zr2 v1 u)) (v1 : Int32) (s1 : Int32) (u : zM) : zJ eV p l e R s mi args below meth c (wM D b) m0 2 fin 25 [(0, .ref 1), (1, .int v1)] [.int s1, .ref 40] u (Mo_fresh0_25 zr2 v1 s1 u) := by
  unfold Mo_fresh0_25
  refine z_iload_n hc dX10_fresh0_25 1 rfl rfl ?_
  refine z_bipush (v := 19) hc dX10_fresh0_26 rfl ?_
  refine z_icmp_lt (tgt := 35) hc dX10_fresh0_28 (by decide) _ (fun h1 => ?_) (fun h1 => ?_)
  · refine z_iconst (v := 0) hc dX10_fresh0_35 rfl ?_
    refine zJ.chk _ (fun h2 => ?_)
    refine z_iast (k := (ix s1)) hc lM40 (zkM lM40) h2 rfl dX10_fresh0_36 ?_
    refine zJ.letM (fun u1 e1 => ?_)
    refine z_iinc (L' := [(1, .int (v1 + 1)), (0, .ref 1)]) hc dX10_fresh0_37 1 rfl (v := (v1 + 1)) rfl (by decide) rfl rfl ?_
    refine z_goto (tgt := 2) hc dX10_fresh0_40 (by decide) ?_
    refine zJ.sub (L' := [(0, .ref 1), (1, .int (v1 + 1))]) [1, 0] rfl ?_
    exact hr2 (v1 + 1) _
  · refine z_iconst (v := (-1)) hc dX10_fresh0_31 rfl ?_
    refine z_goto (tgt := 36) hc dX10_fresh0_32 (by decide) ?_
    refine zJ.chk _ (fun h3 => ?_)
    refine z_iast (k := (ix s1)) hc lM40 (zkM lM40) h3 rfl dX10_fresh0_36 ?_
    refine zJ.letM (fun u2 e2 => ?_)
    refine z_iinc (L' := [(1, .int (v1 + 1)), (0, .ref 1)]) hc dX10_fresh0_37 1 rfl (v := (v1 + 1)) rfl (by decide) rfl rfl ?_
    refine z_goto (tgt := 2) hc dX10_fresh0_40 (by decide) ?_
    refine zJ.sub (L' := [(0, .ref 1), (1, .int (v1 + 1))]) [1, 0] rfl ?_
    exact hr2 (v1 + 1) _
set_option maxRecDepth 100000 in
set_option maxHeartbeats 4000000 in
theorem sMo_fresh0_110b {fin : Unit × zM} (hc : zCx p s mi args meth c (wM D b) m0 RX10 cX10_fresh0 2 none) (hRm : R.frames = 0 ∧ R.locals = 0 ∧ R.cells = zc (wM D b) m0 fin.2 ∧ R.slots = zs (wM D b) m0 fin.2) {zr110 : Int32 → zM → Option (Unit × zM)} (hr110 : ∀ (v1 : Int32) (u : zM), zJ eV p l e R s mi args below meth c (wM D b) m0 2 fin 110 [(0, .ref 1), (1, .int v1)] [] u (zr110 v1 u)) (v1 : Int32) (u : zM) : zJ eV p l e R s mi args below meth c (wM D b) m0 2 fin 110 [(0, .ref 1), (1, .int v1)] [] u (Mo_fresh0_110b zr110 v1 u) := by
  unfold Mo_fresh0_110b
  refine z_iload_n hc dX10_fresh0_110 1 rfl rfl ?_
  refine z_aload_n hc dX10_fresh0_111 0 rfl rfl ?_
  refine z_getR (x := 3) hc (ci := 10) (k := 10) (by decide) (by decide) zly10 lM1 (zkM lM1) wFX10_13 rfl dX10_fresh0_112 rfl (by decide) ?_
  refine z_iconst (v := 3) hc dX10_fresh0_115 rfl ?_
  refine z_iald (k := 3) hc lM3 (zkM lM3) rfl rfl dX10_fresh0_116 ?_
  refine z_icmp_ge (tgt := 141) hc dX10_fresh0_117 (by decide) _ (fun h1 => ?_) (fun h1 => ?_)
  · exact z_vret hc dX10_fresh0_141
  · refine z_aload_n hc dX10_fresh0_120 0 rfl rfl ?_
    refine z_getR (x := 40) hc (ci := 10) (k := 50) (by decide) (by decide) zly10 lM1 (zkM lM1) wFX10_126 rfl dX10_fresh0_121 rfl (by decide) ?_
    refine z_bipush (v := 13) hc dX10_fresh0_124 rfl ?_
    refine z_iload_n hc dX10_fresh0_126 1 rfl rfl ?_
    refine z_iadd hc dX10_fresh0_127 ?_
    refine z_aload_n hc dX10_fresh0_128 0 rfl rfl ?_
    refine z_getR (x := 12) hc (ci := 10) (k := 19) (by decide) (by decide) zly10 lM1 (zkM lM1) wFX10_41 rfl dX10_fresh0_129 rfl (by decide) ?_
    refine z_iload_n hc dX10_fresh0_132 1 rfl rfl ?_
    refine zJ.chk _ (fun h2 => ?_)
    refine z_iald (k := (ix v1)) hc lM12 (zkM lM12) h2 rfl dX10_fresh0_133 ?_
    refine zJ.chk _ (fun h3 => ?_)
    refine z_iast (k := (ix (13 + v1))) hc lM40 (zkM lM40) h3 rfl dX10_fresh0_134 ?_
    refine zJ.letM (fun u1 e1 => ?_)
    refine z_iinc (L' := [(1, .int (v1 + 1)), (0, .ref 1)]) hc dX10_fresh0_135 1 rfl (v := (v1 + 1)) rfl (by decide) rfl rfl ?_
    refine z_goto (tgt := 110) hc dX10_fresh0_138 (by decide) ?_
    refine zJ.sub (L' := [(0, .ref 1), (1, .int (v1 + 1))]) [1, 0] rfl ?_
    exact hr110 (v1 + 1) _
set_option maxRecDepth 100000 in
set_option maxHeartbeats 4000000 in
theorem sMo_fresh0_110 {fin : Unit × zM} (hc : zCx p s mi args meth c (wM D b) m0 RX10 cX10_fresh0 2 none) (hRm : R.frames = 0 ∧ R.locals = 0 ∧ R.cells = zc (wM D b) m0 fin.2 ∧ R.slots = zs (wM D b) m0 fin.2) : ∀ (zf : Nat) (v1 : Int32) (u : zM), zJ eV p l e R s mi args below meth c (wM D b) m0 2 fin 110 [(0, .ref 1), (1, .int v1)] [] u (Mo_fresh0_110 zf v1 u) := by
  intro zf
  induction zf with
  | zero => intro v1 u; exact zJ.nil
  | succ zf ih => intro v1 u; exact sMo_fresh0_110b hc hRm ih v1 u
set_option maxRecDepth 100000 in
set_option maxHeartbeats 4000000 in
theorem sMo_fresh0_77b {fin : Unit × zM} (hc : zCx p s mi args meth c (wM D b) m0 RX10 cX10_fresh0 2 none) (hRm : R.frames = 0 ∧ R.locals = 0 ∧ R.cells = zc (wM D b) m0 fin.2 ∧ R.slots = zs (wM D b) m0 fin.2) {zr77 : Int32 → zM → Option (Unit × zM)} (hr77 : ∀ (v1 : Int32) (u : zM), zJ eV p l e R s mi args below meth c (wM D b) m0 2 fin 77 [(0, .ref 1), (1, .int v1)] [] u (zr77 v1 u)) (v1 : Int32) (u : zM) : zJ eV p l e R s mi args below meth c (wM D b) m0 2 fin 77 [(0, .ref 1), (1, .int v1)] [] u (Mo_fresh0_77b zr77 v1 u) := by
  unfold Mo_fresh0_77b
  refine z_iload_n hc dX10_fresh0_77 1 rfl rfl ?_
  refine z_aload_n hc dX10_fresh0_78 0 rfl rfl ?_
  refine z_getR (x := 3) hc (ci := 10) (k := 10) (by decide) (by decide) zly10 lM1 (zkM lM1) wFX10_13 rfl dX10_fresh0_79 rfl (by decide) ?_
  refine z_iconst (v := 2) hc dX10_fresh0_82 rfl ?_
  refine z_iald (k := 2) hc lM3 (zkM lM3) rfl rfl dX10_fresh0_83 ?_
  refine z_icmp_ge (tgt := 108) hc dX10_fresh0_84 (by decide) _ (fun h1 => ?_) (fun h1 => ?_)
  · refine z_iconst (v := 0) hc dX10_fresh0_108 rfl ?_
    refine z_istore_n (L' := [(1, .int 0), (0, .ref 1)]) hc dX10_fresh0_109 rfl (by decide) rfl rfl ?_
    refine zJ.sub (L' := [(0, .ref 1), (1, .int 0)]) [1, 0] rfl ?_
    exact sMo_fresh0_110 hc hRm zF 0 _
  · refine z_aload_n hc dX10_fresh0_87 0 rfl rfl ?_
    refine z_getR (x := 40) hc (ci := 10) (k := 50) (by decide) (by decide) zly10 lM1 (zkM lM1) wFX10_126 rfl dX10_fresh0_88 rfl (by decide) ?_
    refine z_bipush (v := 8) hc dX10_fresh0_91 rfl ?_
    refine z_iload_n hc dX10_fresh0_93 1 rfl rfl ?_
    refine z_iadd hc dX10_fresh0_94 ?_
    refine z_aload_n hc dX10_fresh0_95 0 rfl rfl ?_
    refine z_getR (x := 11) hc (ci := 10) (k := 18) (by decide) (by decide) zly10 lM1 (zkM lM1) wFX10_38 rfl dX10_fresh0_96 rfl (by decide) ?_
    refine z_iload_n hc dX10_fresh0_99 1 rfl rfl ?_
    refine zJ.chk _ (fun h2 => ?_)
    refine z_iald (k := (ix v1)) hc lM11 (zkM lM11) h2 rfl dX10_fresh0_100 ?_
    refine zJ.chk _ (fun h3 => ?_)
    refine z_iast (k := (ix (8 + v1))) hc lM40 (zkM lM40) h3 rfl dX10_fresh0_101 ?_
    refine zJ.letM (fun u1 e1 => ?_)
    refine z_iinc (L' := [(1, .int (v1 + 1)), (0, .ref 1)]) hc dX10_fresh0_102 1 rfl (v := (v1 + 1)) rfl (by decide) rfl rfl ?_
    refine z_goto (tgt := 77) hc dX10_fresh0_105 (by decide) ?_
    refine zJ.sub (L' := [(0, .ref 1), (1, .int (v1 + 1))]) [1, 0] rfl ?_
    exact hr77 (v1 + 1) _
set_option maxRecDepth 100000 in
set_option maxHeartbeats 4000000 in
theorem sMo_fresh0_77 {fin : Unit × zM} (hc : zCx p s mi args meth c (wM D b) m0 RX10 cX10_fresh0 2 none) (hRm : R.frames = 0 ∧ R.locals = 0 ∧ R.cells = zc (wM D b) m0 fin.2 ∧ R.slots = zs (wM D b) m0 fin.2) : ∀ (zf : Nat) (v1 : Int32) (u : zM), zJ eV p l e R s mi args below meth c (wM D b) m0 2 fin 77 [(0, .ref 1), (1, .int v1)] [] u (Mo_fresh0_77 zf v1 u) := by
  intro zf
  induction zf with
  | zero => intro v1 u; exact zJ.nil
  | succ zf ih => intro v1 u; exact sMo_fresh0_77b hc hRm ih v1 u
set_option maxRecDepth 100000 in
set_option maxHeartbeats 4000000 in
theorem sMo_fresh0_45b {fin : Unit × zM} (hc : zCx p s mi args meth c (wM D b) m0 RX10 cX10_fresh0 2 none) (hRm : R.frames = 0 ∧ R.locals = 0 ∧ R.cells = zc (wM D b) m0 fin.2 ∧ R.slots = zs (wM D b) m0 fin.2) {zr45 : Int32 → zM → Option (Unit × zM)} (hr45 : ∀ (v1 : Int32) (u : zM), zJ eV p l e R s mi args below meth c (wM D b) m0 2 fin 45 [(0, .ref 1), (1, .int v1)] [] u (zr45 v1 u)) (v1 : Int32) (u : zM) : zJ eV p l e R s mi args below meth c (wM D b) m0 2 fin 45 [(0, .ref 1), (1, .int v1)] [] u (Mo_fresh0_45b zr45 v1 u) := by
  unfold Mo_fresh0_45b
  refine z_iload_n hc dX10_fresh0_45 1 rfl rfl ?_
  refine z_aload_n hc dX10_fresh0_46 0 rfl rfl ?_
  refine z_getR (x := 3) hc (ci := 10) (k := 10) (by decide) (by decide) zly10 lM1 (zkM lM1) wFX10_13 rfl dX10_fresh0_47 rfl (by decide) ?_
  refine z_iconst (v := 0) hc dX10_fresh0_50 rfl ?_
  refine z_iald (k := 0) hc lM3 (zkM lM3) rfl rfl dX10_fresh0_51 ?_
  refine z_icmp_ge (tgt := 75) hc dX10_fresh0_52 (by decide) _ (fun h1 => ?_) (fun h1 => ?_)
  · refine z_iconst (v := 0) hc dX10_fresh0_75 rfl ?_
    refine z_istore_n (L' := [(1, .int 0), (0, .ref 1)]) hc dX10_fresh0_76 rfl (by decide) rfl rfl ?_
    refine zJ.sub (L' := [(0, .ref 1), (1, .int 0)]) [1, 0] rfl ?_
    exact sMo_fresh0_77 hc hRm zF 0 _
  · refine z_aload_n hc dX10_fresh0_55 0 rfl rfl ?_
    refine z_getR (x := 40) hc (ci := 10) (k := 50) (by decide) (by decide) zly10 lM1 (zkM lM1) wFX10_126 rfl dX10_fresh0_56 rfl (by decide) ?_
    refine z_iconst (v := 1) hc dX10_fresh0_59 rfl ?_
    refine z_iload_n hc dX10_fresh0_60 1 rfl rfl ?_
    refine z_iadd hc dX10_fresh0_61 ?_
    refine z_aload_n hc dX10_fresh0_62 0 rfl rfl ?_
    refine z_getR (x := 8) hc (ci := 10) (k := 15) (by decide) (by decide) zly10 lM1 (zkM lM1) wFX10_29 rfl dX10_fresh0_63 rfl (by decide) ?_
    refine z_iload_n hc dX10_fresh0_66 1 rfl rfl ?_
    refine zJ.chk _ (fun h2 => ?_)
    refine z_iald (k := (ix v1)) hc lM8 (zkM lM8) h2 rfl dX10_fresh0_67 ?_
    refine zJ.chk _ (fun h3 => ?_)
    refine z_iast (k := (ix (1 + v1))) hc lM40 (zkM lM40) h3 rfl dX10_fresh0_68 ?_
    refine zJ.letM (fun u1 e1 => ?_)
    refine z_iinc (L' := [(1, .int (v1 + 1)), (0, .ref 1)]) hc dX10_fresh0_69 1 rfl (v := (v1 + 1)) rfl (by decide) rfl rfl ?_
    refine z_goto (tgt := 45) hc dX10_fresh0_72 (by decide) ?_
    refine zJ.sub (L' := [(0, .ref 1), (1, .int (v1 + 1))]) [1, 0] rfl ?_
    exact hr45 (v1 + 1) _
set_option maxRecDepth 100000 in
set_option maxHeartbeats 4000000 in
theorem sMo_fresh0_45 {fin : Unit × zM} (hc : zCx p s mi args meth c (wM D b) m0 RX10 cX10_fresh0 2 none) (hRm : R.frames = 0 ∧ R.locals = 0 ∧ R.cells = zc (wM D b) m0 fin.2 ∧ R.slots = zs (wM D b) m0 fin.2) : ∀ (zf : Nat) (v1 : Int32) (u : zM), zJ eV p l e R s mi args below meth c (wM D b) m0 2 fin 45 [(0, .ref 1), (1, .int v1)] [] u (Mo_fresh0_45 zf v1 u) := by
  intro zf
  induction zf with
  | zero => intro v1 u; exact zJ.nil
  | succ zf ih => intro v1 u; exact sMo_fresh0_45b hc hRm ih v1 u
set_option maxRecDepth 100000 in
set_option maxHeartbeats 4000000 in
theorem sMo_fresh0_2b {fin : Unit × zM} (hc : zCx p s mi args meth c (wM D b) m0 RX10 cX10_fresh0 2 none) (hRm : R.frames = 0 ∧ R.locals = 0 ∧ R.cells = zc (wM D b) m0 fin.2 ∧ R.slots = zs (wM D b) m0 fin.2) {zr2 : Int32 → zM → Option (Unit × zM)} (hr2 : ∀ (v1 : Int32) (u : zM), zJ eV p l e R s mi args below meth c (wM D b) m0 2 fin 2 [(0, .ref 1), (1, .int v1)] [] u (zr2 v1 u)) (v1 : Int32) (u : zM) : zJ eV p l e R s mi args below meth c (wM D b) m0 2 fin 2 [(0, .ref 1), (1, .int v1)] [] u (Mo_fresh0_2b zr2 v1 u) := by
  unfold Mo_fresh0_2b
  refine z_iload_n hc dX10_fresh0_2 1 rfl rfl ?_
  refine z_bipush (v := 25) hc dX10_fresh0_3 rfl ?_
  refine z_icmp_ge (tgt := 43) hc dX10_fresh0_5 (by decide) _ (fun h1 => ?_) (fun h1 => ?_)
  · refine z_iconst (v := 0) hc dX10_fresh0_43 rfl ?_
    refine z_istore_n (L' := [(1, .int 0), (0, .ref 1)]) hc dX10_fresh0_44 rfl (by decide) rfl rfl ?_
    refine zJ.sub (L' := [(0, .ref 1), (1, .int 0)]) [1, 0] rfl ?_
    exact sMo_fresh0_45 hc hRm zF 0 _
  · refine z_aload_n hc dX10_fresh0_8 0 rfl rfl ?_
    refine z_getR (x := 40) hc (ci := 10) (k := 50) (by decide) (by decide) zly10 lM1 (zkM lM1) wFX10_126 rfl dX10_fresh0_9 rfl (by decide) ?_
    refine z_iload_n hc dX10_fresh0_12 1 rfl rfl ?_
    refine z_iload_n hc dX10_fresh0_13 1 rfl rfl ?_
    refine z_bipush (v := 8) hc dX10_fresh0_14 rfl ?_
    refine z_icmp_lt (tgt := 25) hc dX10_fresh0_16 (by decide) _ (fun h2 => ?_) (fun h2 => ?_)
    · exact sMo_fresh0_25 hc hRm hr2 v1 v1 _
    · refine z_iload_n hc dX10_fresh0_19 1 rfl rfl ?_
      refine z_bipush (v := 16) hc dX10_fresh0_20 rfl ?_
      refine z_icmp_lt (tgt := 31) hc dX10_fresh0_22 (by decide) _ (fun h3 => ?_) (fun h3 => ?_)
      · refine z_iconst (v := (-1)) hc dX10_fresh0_31 rfl ?_
        refine z_goto (tgt := 36) hc dX10_fresh0_32 (by decide) ?_
        refine zJ.chk _ (fun h4 => ?_)
        refine z_iast (k := (ix v1)) hc lM40 (zkM lM40) h4 rfl dX10_fresh0_36 ?_
        refine zJ.letM (fun u1 e1 => ?_)
        refine z_iinc (L' := [(1, .int (v1 + 1)), (0, .ref 1)]) hc dX10_fresh0_37 1 rfl (v := (v1 + 1)) rfl (by decide) rfl rfl ?_
        refine z_goto (tgt := 2) hc dX10_fresh0_40 (by decide) ?_
        refine zJ.sub (L' := [(0, .ref 1), (1, .int (v1 + 1))]) [1, 0] rfl ?_
        exact hr2 (v1 + 1) _
      · exact sMo_fresh0_25 hc hRm hr2 v1 v1 _
set_option maxRecDepth 100000 in
set_option maxHeartbeats 4000000 in
theorem sMo_fresh0_2 {fin : Unit × zM} (hc : zCx p s mi args meth c (wM D b) m0 RX10 cX10_fresh0 2 none) (hRm : R.frames = 0 ∧ R.locals = 0 ∧ R.cells = zc (wM D b) m0 fin.2 ∧ R.slots = zs (wM D b) m0 fin.2) : ∀ (zf : Nat) (v1 : Int32) (u : zM), zJ eV p l e R s mi args below meth c (wM D b) m0 2 fin 2 [(0, .ref 1), (1, .int v1)] [] u (Mo_fresh0_2 zf v1 u) := by
  intro zf
  induction zf with
  | zero => intro v1 u; exact zJ.nil
  | succ zf ih => intro v1 u; exact sMo_fresh0_2b hc hRm ih v1 u
set_option maxRecDepth 100000 in
set_option maxHeartbeats 4000000 in
theorem sMo_fresh0 : ∀ (u : zM) r m1, Mo_fresh0 u = some (r, m1) → zMet l (wM D b) 0 0 yX10_fresh0 cX10_fresh0 2 none [.ref 1] u (eV r) m1 := by
  intro u
  refine zMet.of (L := [(0, .ref 1)]) RX10 (by decide +kernel) rfl (Nat.le_of_ble_eq_true rfl) (fun h => by cases h) rfl (fun p e s mi args below meth c R fin hc hin hRm => ?_)
  unfold Mo_fresh0
  refine z_iconst (v := 0) hc dX10_fresh0_0 rfl ?_
  refine z_istore_n (L' := [(1, .int 0), (0, .ref 1)]) hc dX10_fresh0_1 rfl (by decide) rfl rfl ?_
  refine zJ.sub (L' := [(0, .ref 1), (1, .int 0)]) [1, 0] rfl ?_
  exact sMo_fresh0_2 hc hRm zF 0 _
set_option maxRecDepth 100000 in
set_option maxHeartbeats 4000000 in
theorem sMo_county_46b {fin : Int32 × zM} (hc : zCx p s mi args meth c (wM D b) m0 RX10 cX10_county 2 (some .int)) (hRm : R.frames = 6 ∧ R.locals = 130 ∧ R.cells = zc (wM D b) m0 fin.2 ∧ R.slots = zs (wM D b) m0 fin.2) {zr46 : Int32 → zM → Option (Int32 × zM)} (hr46 : ∀ (v1 : Int32) (u : zM), zJ eI p l e R s mi args below meth c (wM D b) m0 2 fin 46 [(0, .ref 1), (1, .int v1)] [] u (zr46 v1 u)) (v1 : Int32) (u : zM) : zJ eI p l e R s mi args below meth c (wM D b) m0 2 fin 46 [(0, .ref 1), (1, .int v1)] [] u (Mo_county_46b zr46 v1 u) := by
  unfold Mo_county_46b
  refine z_iload_n hc dX10_county_46 1 rfl rfl ?_
  refine z_iconst (v := 4) hc dX10_county_47 rfl ?_
  refine z_icmp_ge (tgt := 64) hc dX10_county_48 (by decide) _ (fun h1 => ?_) (fun h1 => ?_)
  · refine z_iconst (v := 0) hc dX10_county_64 rfl ?_
    exact z_iret hc dX10_county_65
  · refine z_aload_n hc dX10_county_51 0 rfl rfl ?_
    refine z_getR (x := 45) hc (ci := 10) (k := 55) (by decide) (by decide) zly10 lM1 (zkM lM1) wFX10_141 rfl dX10_county_52 rfl (by decide) ?_
    refine z_iload_n hc dX10_county_55 1 rfl rfl ?_
    refine z_iconst (v := 0) hc dX10_county_56 rfl ?_
    refine zJ.chk _ (fun h2 => ?_)
    refine z_zast (k := (ix v1)) hc lM45 (zkM lM45) h2 rfl dX10_county_57 ?_
    refine zJ.letM (fun u1 e1 => ?_)
    refine z_iinc (L' := [(1, .int (v1 + 1)), (0, .ref 1)]) hc dX10_county_58 1 rfl (v := (v1 + 1)) rfl (by decide) rfl rfl ?_
    refine z_goto (tgt := 46) hc dX10_county_61 (by decide) ?_
    refine zJ.sub (L' := [(0, .ref 1), (1, .int (v1 + 1))]) [1, 0] rfl ?_
    exact hr46 (v1 + 1) _
set_option maxRecDepth 100000 in
set_option maxHeartbeats 4000000 in
theorem sMo_county_46 {fin : Int32 × zM} (hc : zCx p s mi args meth c (wM D b) m0 RX10 cX10_county 2 (some .int)) (hRm : R.frames = 6 ∧ R.locals = 130 ∧ R.cells = zc (wM D b) m0 fin.2 ∧ R.slots = zs (wM D b) m0 fin.2) : ∀ (zf : Nat) (v1 : Int32) (u : zM), zJ eI p l e R s mi args below meth c (wM D b) m0 2 fin 46 [(0, .ref 1), (1, .int v1)] [] u (Mo_county_46 zf v1 u) := by
  intro zf
  induction zf with
  | zero => intro v1 u; exact zJ.nil
  | succ zf ih => intro v1 u; exact sMo_county_46b hc hRm ih v1 u
set_option maxRecDepth 100000 in
set_option maxHeartbeats 4000000 in
theorem sMo_county : ∀ (u : zM) r m1, Mo_county u = some (r, m1) → zMet l (wM D b) 6 130 yX10_county cX10_county 2 (some .int) [.ref 1] u (eI r) m1 := by
  intro u
  refine zMet.of (L := [(0, .ref 1)]) RX10 (by decide +kernel) rfl (Nat.le_of_ble_eq_true rfl) (fun h => by cases h) rfl (fun p e s mi args below meth c R fin hc hin hRm => ?_)
  unfold Mo_county
  refine z_aload_n hc dX10_county_0 0 rfl rfl ?_
  refine z_iconst (v := 0) hc dX10_county_1 rfl ?_
  refine z_putI hc (ci := 10) (k := 0) (by decide) (by decide) zly10 lM1 (zkM lM1) wFX10_162 rfl rfl rfl rfl dX10_county_2 ?_
  refine zJ.letM (fun u1 e1 => ?_)
  refine z_aload_n hc dX10_county_5 0 rfl rfl ?_
  refine z_callV (av := []) (enc' := eI) hc rfl (sMo_readsAll _) (ci := 10) (by decide) lM1 (zkM lM1) rfl wMX10_377 hpyX10_readsAll hmyX10_readsAll (rm_ok hRm (Nat.le_of_ble_eq_true rfl) (Nat.le_of_ble_eq_true rfl)) (Nat.le_of_ble_eq_true rfl) hRm.2.2 dX10_county_6 (fun c1 u2 f1 => ?_)
  refine z_if_ne (tgt := 17) hc dX10_county_9 (by decide) _ (fun h1 => ?_) (fun h1 => ?_)
  · refine z_aload_n hc dX10_county_17 0 rfl rfl ?_
    refine z_callV (av := []) (enc' := eV) hc rfl (sMo_lays _) (ci := 10) (by decide) lM1 (zkM lM1) rfl wMX10_380 hpyX10_lays hmyX10_lays (rm_ok hRm (Nat.le_of_ble_eq_true rfl) (Nat.le_of_ble_eq_true rfl)) (Nat.le_of_ble_eq_true rfl) hRm.2.2 dX10_county_18 (fun c2 u3 f2 => ?_)
    refine z_aload_n hc dX10_county_21 0 rfl rfl ?_
    refine z_callV (av := []) (enc' := eV) hc rfl (sMo_fresh0 _) (ci := 10) (by decide) lM1 (zkM lM1) rfl wMX10_159 hpyX10_fresh0 hmyX10_fresh0 (rm_ok hRm (Nat.le_of_ble_eq_true rfl) (Nat.le_of_ble_eq_true rfl)) (Nat.le_of_ble_eq_true rfl) hRm.2.2 dX10_county_22 (fun c3 u4 f3 => ?_)
    refine z_aload_n hc dX10_county_25 0 rfl rfl ?_
    refine z_getR (x := 32) hc (ci := 10) (k := 42) (by decide) (by decide) zly10 lM1 (zkM lM1) wFX10_102 rfl dX10_county_26 rfl (by decide) ?_
    refine z_iconst (v := 0) hc dX10_county_29 rfl ?_
    refine z_iconst (v := 0) hc dX10_county_30 rfl ?_
    refine z_iast (k := 0) hc lM32 (zkM lM32) rfl rfl dX10_county_31 ?_
    refine zJ.letM (fun u5 e2 => ?_)
    refine z_aload_n hc dX10_county_32 0 rfl rfl ?_
    refine z_getR (x := 36) hc (ci := 10) (k := 46) (by decide) (by decide) zly10 lM1 (zkM lM1) wFX10_114 rfl dX10_county_33 rfl (by decide) ?_
    refine z_iconst (v := 0) hc dX10_county_36 rfl ?_
    refine z_iconst (v := 0) hc dX10_county_37 rfl ?_
    refine z_iast (k := 0) hc lM36 (zkM lM36) rfl rfl dX10_county_38 ?_
    refine zJ.letM (fun u6 e3 => ?_)
    refine z_aload_n hc dX10_county_39 0 rfl rfl ?_
    refine z_iconst (v := 0) hc dX10_county_40 rfl ?_
    refine z_putI hc (ci := 10) (k := 56) (by decide) (by decide) zly10 lM1 (zkM lM1) wFX10_383 rfl rfl rfl rfl dX10_county_41 ?_
    refine zJ.letM (fun u7 e4 => ?_)
    refine z_iconst (v := 0) hc dX10_county_44 rfl ?_
    refine z_istore_n (L' := [(1, .int 0), (0, .ref 1)]) hc dX10_county_45 rfl (by decide) rfl rfl ?_
    refine zJ.sub (L' := [(0, .ref 1), (1, .int 0)]) [1, 0] rfl ?_
    exact sMo_county_46 hc hRm zF 0 _
  · refine z_aload_n hc dX10_county_12 0 rfl rfl ?_
    refine z_getI hc (ci := 10) (k := 9) (by decide) (by decide) zly10 lM1 (zkM lM1) wFX10_198 rfl dX10_county_13 ?_
    exact z_iret hc dX10_county_16
set_option maxRecDepth 100000 in
set_option maxHeartbeats 4000000 in
theorem sMo_session_16b {fin : Int32 × zM} (hc : zCx p s mi args meth c (wM D b) m0 RX10 cX10_session 1 (some .int)) (hRm : R.frames = 4 ∧ R.locals = 85 ∧ R.cells = zc (wM D b) m0 fin.2 ∧ R.slots = zs (wM D b) m0 fin.2) {zr16 : zM → Option (Int32 × zM)} (hr16 : ∀ (u : zM), zJ eI p l e R s mi args below meth c (wM D b) m0 1 fin 16 [(0, .ref 1)] [] u (zr16 u)) (u : zM) : zJ eI p l e R s mi args below meth c (wM D b) m0 1 fin 16 [(0, .ref 1)] [] u (Mo_session_16b zr16 u) := by
  unfold Mo_session_16b
  refine z_aload_n hc dX10_session_16 0 rfl rfl ?_
  refine z_getI hc (ci := 10) (k := 6) (by decide) (by decide) zly10 lM1 (zkM lM1) wFX10_187 rfl dX10_session_17 ?_
  refine z_if_eq (tgt := 35) hc dX10_session_20 (by decide) _ (fun h1 => ?_) (fun h1 => ?_)
  · refine z_aload_n hc dX10_session_35 0 rfl rfl ?_
    refine z_iconst (v := 5) hc dX10_session_36 rfl ?_
    refine z_iconst (v := 0) hc dX10_session_37 rfl ?_
    refine z_callV (av := [.int 5, .int 0]) (enc' := eV) hc rfl (sMo_laysLines 5 0 _) (ci := 10) (by decide) lM1 (zkM lM1) rfl wMX10_389 hpyX10_laysLines hmyX10_laysLines (rm_ok hRm (Nat.le_of_ble_eq_true rfl) (Nat.le_of_ble_eq_true rfl)) (Nat.le_of_ble_eq_true rfl) hRm.2.2 dX10_session_38 (fun c1 u1 f1 => ?_)
    refine z_iconst (v := 0) hc dX10_session_41 rfl ?_
    exact z_iret hc dX10_session_42
  · refine z_aload_n hc dX10_session_23 0 rfl rfl ?_
    refine z_callV (av := []) (enc' := eI) hc rfl (sMo_readsLine _) (ci := 10) (by decide) lM1 (zkM lM1) rfl wMX10_386 hpyX10_readsLine hmyX10_readsLine (rm_ok hRm (Nat.le_of_ble_eq_true rfl) (Nat.le_of_ble_eq_true rfl)) (Nat.le_of_ble_eq_true rfl) hRm.2.2 dX10_session_24 (fun c2 u2 f2 => ?_)
    refine z_if_ne (tgt := 16) hc dX10_session_27 (by decide) _ (fun h2 => ?_) (fun h2 => ?_)
    · exact hr16 _
    · refine z_aload_n hc dX10_session_30 0 rfl rfl ?_
      refine z_getI hc (ci := 10) (k := 9) (by decide) (by decide) zly10 lM1 (zkM lM1) wFX10_198 rfl dX10_session_31 ?_
      exact z_iret hc dX10_session_34
set_option maxRecDepth 100000 in
set_option maxHeartbeats 4000000 in
theorem sMo_session_16 {fin : Int32 × zM} (hc : zCx p s mi args meth c (wM D b) m0 RX10 cX10_session 1 (some .int)) (hRm : R.frames = 4 ∧ R.locals = 85 ∧ R.cells = zc (wM D b) m0 fin.2 ∧ R.slots = zs (wM D b) m0 fin.2) : ∀ (zf : Nat) (u : zM), zJ eI p l e R s mi args below meth c (wM D b) m0 1 fin 16 [(0, .ref 1)] [] u (Mo_session_16 zf u) := by
  intro zf
  induction zf with
  | zero => intro u; exact zJ.nil
  | succ zf ih => intro u; exact sMo_session_16b hc hRm ih u
set_option maxRecDepth 100000 in
set_option maxHeartbeats 4000000 in
theorem sMo_session : ∀ (u : zM) r m1, Mo_session u = some (r, m1) → zMet l (wM D b) 4 85 yX10_session cX10_session 1 (some .int) [.ref 1] u (eI r) m1 := by
  intro u
  refine zMet.of (L := [(0, .ref 1)]) RX10 (by decide +kernel) rfl (Nat.le_of_ble_eq_true rfl) (fun h => by cases h) rfl (fun p e s mi args below meth c R fin hc hin hRm => ?_)
  unfold Mo_session
  refine z_aload_n hc dX10_session_0 0 rfl rfl ?_
  refine z_iconst (v := 0) hc dX10_session_1 rfl ?_
  refine z_putI hc (ci := 10) (k := 0) (by decide) (by decide) zly10 lM1 (zkM lM1) wFX10_162 rfl rfl rfl rfl dX10_session_2 ?_
  refine zJ.letM (fun u1 e1 => ?_)
  refine z_aload_n hc dX10_session_5 0 rfl rfl ?_
  refine z_getR (x := 32) hc (ci := 10) (k := 42) (by decide) (by decide) zly10 lM1 (zkM lM1) wFX10_102 rfl dX10_session_6 rfl (by decide) ?_
  refine z_iconst (v := 5) hc dX10_session_9 rfl ?_
  refine z_iconst (v := 0) hc dX10_session_10 rfl ?_
  refine z_iast (k := 5) hc lM32 (zkM lM32) rfl rfl dX10_session_11 ?_
  refine zJ.letM (fun u2 e2 => ?_)
  refine z_aload_n hc dX10_session_12 0 rfl rfl ?_
  refine z_callV (av := []) (enc' := eV) hc rfl (sMo_begins _) (ci := 10) (by decide) lM1 (zkM lM1) rfl wMX10_345 hpyX10_begins hmyX10_begins (rm_ok hRm (Nat.le_of_ble_eq_true rfl) (Nat.le_of_ble_eq_true rfl)) (Nat.le_of_ble_eq_true rfl) hRm.2.2 dX10_session_13 (fun c1 u3 f1 => ?_)
  exact sMo_session_16 hc hRm zF _
set_option maxRecDepth 100000 in
set_option maxHeartbeats 4000000 in
theorem sMo_isPlace : ∀ (v1 : Int32) (u : zM) r m1, Mo_isPlace v1 u = some (r, m1) → zMet l (wM D b) 0 0 yX10_isPlace cX10_isPlace 2 (some .boolean) [.ref 1, .int v1] u (eI r) m1 := by
  intro v1 u
  refine zMet.of (L := [(0, .ref 1), (1, .int v1)]) RX10 (by decide +kernel) rfl (Nat.le_of_ble_eq_true rfl) (fun h => by cases h) rfl (fun p e s mi args below meth c R fin hc hin hRm => ?_)
  unfold Mo_isPlace
  refine z_iload_n hc dX10_isPlace_0 1 rfl rfl ?_
  refine z_if_lt (tgt := 18) hc dX10_isPlace_1 (by decide) _ (fun h1 => ?_) (fun h1 => ?_)
  · refine z_iconst (v := 0) hc dX10_isPlace_18 rfl ?_
    exact z_zret hc rfl dX10_isPlace_19
  · refine z_iload_n hc dX10_isPlace_4 1 rfl rfl ?_
    refine z_aload_n hc dX10_isPlace_5 0 rfl rfl ?_
    refine z_getR (x := 3) hc (ci := 10) (k := 10) (by decide) (by decide) zly10 lM1 (zkM lM1) wFX10_13 rfl dX10_isPlace_6 rfl (by decide) ?_
    refine z_iconst (v := 0) hc dX10_isPlace_9 rfl ?_
    refine z_iald (k := 0) hc lM3 (zkM lM3) rfl rfl dX10_isPlace_10 ?_
    refine z_icmp_ge (tgt := 18) hc dX10_isPlace_11 (by decide) _ (fun h2 => ?_) (fun h2 => ?_)
    · refine z_iconst (v := 0) hc dX10_isPlace_18 rfl ?_
      exact z_zret hc rfl dX10_isPlace_19
    · refine z_iconst (v := 1) hc dX10_isPlace_14 rfl ?_
      refine z_goto (tgt := 19) hc dX10_isPlace_15 (by decide) ?_
      exact z_zret hc rfl dX10_isPlace_19
set_option maxRecDepth 100000 in
set_option maxHeartbeats 4000000 in
theorem sMo_isPerson : ∀ (v1 : Int32) (u : zM) r m1, Mo_isPerson v1 u = some (r, m1) → zMet l (wM D b) 0 0 yX10_isPerson cX10_isPerson 2 (some .boolean) [.ref 1, .int v1] u (eI r) m1 := by
  intro v1 u
  refine zMet.of (L := [(0, .ref 1), (1, .int v1)]) RX10 (by decide +kernel) rfl (Nat.le_of_ble_eq_true rfl) (fun h => by cases h) rfl (fun p e s mi args below meth c R fin hc hin hRm => ?_)
  unfold Mo_isPerson
  refine z_iload_n hc dX10_isPerson_0 1 rfl rfl ?_
  refine z_if_lt (tgt := 18) hc dX10_isPerson_1 (by decide) _ (fun h1 => ?_) (fun h1 => ?_)
  · refine z_iconst (v := 0) hc dX10_isPerson_18 rfl ?_
    exact z_zret hc rfl dX10_isPerson_19
  · refine z_iload_n hc dX10_isPerson_4 1 rfl rfl ?_
    refine z_aload_n hc dX10_isPerson_5 0 rfl rfl ?_
    refine z_getR (x := 3) hc (ci := 10) (k := 10) (by decide) (by decide) zly10 lM1 (zkM lM1) wFX10_13 rfl dX10_isPerson_6 rfl (by decide) ?_
    refine z_iconst (v := 2) hc dX10_isPerson_9 rfl ?_
    refine z_iald (k := 2) hc lM3 (zkM lM3) rfl rfl dX10_isPerson_10 ?_
    refine z_icmp_ge (tgt := 18) hc dX10_isPerson_11 (by decide) _ (fun h2 => ?_) (fun h2 => ?_)
    · refine z_iconst (v := 0) hc dX10_isPerson_18 rfl ?_
      exact z_zret hc rfl dX10_isPerson_19
    · refine z_iconst (v := 1) hc dX10_isPerson_14 rfl ?_
      refine z_goto (tgt := 19) hc dX10_isPerson_15 (by decide) ?_
      exact z_zret hc rfl dX10_isPerson_19
set_option maxRecDepth 100000 in
set_option maxHeartbeats 4000000 in
theorem sMo_isOtter : ∀ (v1 : Int32) (u : zM) r m1, Mo_isOtter v1 u = some (r, m1) → zMet l (wM D b) 0 0 yX10_isOtter cX10_isOtter 2 (some .boolean) [.ref 1, .int v1] u (eI r) m1 := by
  intro v1 u
  refine zMet.of (L := [(0, .ref 1), (1, .int v1)]) RX10 (by decide +kernel) rfl (Nat.le_of_ble_eq_true rfl) (fun h => by cases h) rfl (fun p e s mi args below meth c R fin hc hin hRm => ?_)
  unfold Mo_isOtter
  refine z_iload_n hc dX10_isOtter_0 1 rfl rfl ?_
  refine z_if_lt (tgt := 18) hc dX10_isOtter_1 (by decide) _ (fun h1 => ?_) (fun h1 => ?_)
  · refine z_iconst (v := 0) hc dX10_isOtter_18 rfl ?_
    exact z_zret hc rfl dX10_isOtter_19
  · refine z_iload_n hc dX10_isOtter_4 1 rfl rfl ?_
    refine z_aload_n hc dX10_isOtter_5 0 rfl rfl ?_
    refine z_getR (x := 3) hc (ci := 10) (k := 10) (by decide) (by decide) zly10 lM1 (zkM lM1) wFX10_13 rfl dX10_isOtter_6 rfl (by decide) ?_
    refine z_iconst (v := 3) hc dX10_isOtter_9 rfl ?_
    refine z_iald (k := 3) hc lM3 (zkM lM3) rfl rfl dX10_isOtter_10 ?_
    refine z_icmp_ge (tgt := 18) hc dX10_isOtter_11 (by decide) _ (fun h2 => ?_) (fun h2 => ?_)
    · refine z_iconst (v := 0) hc dX10_isOtter_18 rfl ?_
      exact z_zret hc rfl dX10_isOtter_19
    · refine z_iconst (v := 1) hc dX10_isOtter_14 rfl ?_
      refine z_goto (tgt := 19) hc dX10_isOtter_15 (by decide) ?_
      exact z_zret hc rfl dX10_isOtter_19
set_option maxRecDepth 100000 in
set_option maxHeartbeats 4000000 in
theorem sMo_isWrit : ∀ (v1 : Int32) (u : zM) r m1, Mo_isWrit v1 u = some (r, m1) → zMet l (wM D b) 0 0 yX10_isWrit cX10_isWrit 2 (some .boolean) [.ref 1, .int v1] u (eI r) m1 := by
  intro v1 u
  refine zMet.of (L := [(0, .ref 1), (1, .int v1)]) RX10 (by decide +kernel) rfl (Nat.le_of_ble_eq_true rfl) (fun h => by cases h) rfl (fun p e s mi args below meth c R fin hc hin hRm => ?_)
  unfold Mo_isWrit
  refine z_iload_n hc dX10_isWrit_0 1 rfl rfl ?_
  refine z_if_lt (tgt := 18) hc dX10_isWrit_1 (by decide) _ (fun h1 => ?_) (fun h1 => ?_)
  · refine z_iconst (v := 0) hc dX10_isWrit_18 rfl ?_
    exact z_zret hc rfl dX10_isWrit_19
  · refine z_iload_n hc dX10_isWrit_4 1 rfl rfl ?_
    refine z_aload_n hc dX10_isWrit_5 0 rfl rfl ?_
    refine z_getR (x := 3) hc (ci := 10) (k := 10) (by decide) (by decide) zly10 lM1 (zkM lM1) wFX10_13 rfl dX10_isWrit_6 rfl (by decide) ?_
    refine z_iconst (v := 4) hc dX10_isWrit_9 rfl ?_
    refine z_iald (k := 4) hc lM3 (zkM lM3) rfl rfl dX10_isWrit_10 ?_
    refine z_icmp_ge (tgt := 18) hc dX10_isWrit_11 (by decide) _ (fun h2 => ?_) (fun h2 => ?_)
    · refine z_iconst (v := 0) hc dX10_isWrit_18 rfl ?_
      exact z_zret hc rfl dX10_isWrit_19
    · refine z_iconst (v := 1) hc dX10_isWrit_14 rfl ?_
      refine z_goto (tgt := 19) hc dX10_isWrit_15 (by decide) ?_
      exact z_zret hc rfl dX10_isWrit_19
set_option maxRecDepth 100000 in
set_option maxHeartbeats 4000000 in
theorem sMo_rainOf : ∀ (v1 : Int32) (u : zM) r m1, Mo_rainOf v1 u = some (r, m1) → zMet l (wM D b) 0 0 yX10_rainOf cX10_rainOf 2 (some .int) [.ref 1, .int v1] u (eI r) m1 := by
  intro v1 u
  refine zMet.of (L := [(0, .ref 1), (1, .int v1)]) RX10 (by decide +kernel) rfl (Nat.le_of_ble_eq_true rfl) (fun h => by cases h) rfl (fun p e s mi args below meth c R fin hc hin hRm => ?_)
  unfold Mo_rainOf
  refine z_aload_n hc dX10_rainOf_0 0 rfl rfl ?_
  refine z_getR (x := 3) hc (ci := 10) (k := 10) (by decide) (by decide) zly10 lM1 (zkM lM1) wFX10_13 rfl dX10_rainOf_1 rfl (by decide) ?_
  refine z_iconst (v := 5) hc dX10_rainOf_4 rfl ?_
  refine z_iald (k := 5) hc lM3 (zkM lM3) rfl rfl dX10_rainOf_5 ?_
  refine z_if_ne (tgt := 13) hc dX10_rainOf_6 (by decide) _ (fun h1 => ?_) (fun h1 => ?_)
  · refine z_aload_n hc dX10_rainOf_13 0 rfl rfl ?_
    refine z_getR (x := 16) hc (ci := 10) (k := 23) (by decide) (by decide) zly10 lM1 (zkM lM1) wFX10_53 rfl dX10_rainOf_14 rfl (by decide) ?_
    refine z_iload_n hc dX10_rainOf_17 1 rfl rfl ?_
    refine z_aload_n hc dX10_rainOf_18 0 rfl rfl ?_
    refine z_getR (x := 3) hc (ci := 10) (k := 10) (by decide) (by decide) zly10 lM1 (zkM lM1) wFX10_13 rfl dX10_rainOf_19 rfl (by decide) ?_
    refine z_iconst (v := 5) hc dX10_rainOf_22 rfl ?_
    refine z_iald (k := 5) hc lM3 (zkM lM3) rfl rfl dX10_rainOf_23 ?_
    refine zJ.cut _ (fun _ => zJ.nil) (fun h2 => ?_)
    refine z_irem hc h2 dX10_rainOf_24 ?_
    refine zJ.chk _ (fun h3 => ?_)
    refine z_iald (k := (ix (v1 - v1 / (gI u 3 5) * (gI u 3 5)))) hc lM16 (zkM lM16) h3 rfl dX10_rainOf_25 ?_
    exact z_iret hc dX10_rainOf_26
  · refine z_iconst (v := 1) hc dX10_rainOf_9 rfl ?_
    refine z_goto (tgt := 26) hc dX10_rainOf_10 (by decide) ?_
    exact z_iret hc dX10_rainOf_26
set_option maxRecDepth 100000 in
set_option maxHeartbeats 4000000 in
theorem sMo_wets_4b {fin : Int32 × zM} (hc : zCx p s mi args meth c (wM D b) m0 RX10 cX10_wets 3 (some .int)) (hRm : R.frames = 0 ∧ R.locals = 0 ∧ R.cells = zc (wM D b) m0 fin.2 ∧ R.slots = zs (wM D b) m0 fin.2) {zr4 : Int32 → Int32 → zM → Option (Int32 × zM)} (hr4 : ∀ (v1 : Int32) (v2 : Int32) (u : zM), zJ eI p l e R s mi args below meth c (wM D b) m0 3 fin 4 [(0, .ref 1), (1, .int v1), (2, .int v2)] [] u (zr4 v1 v2 u)) (v1 : Int32) (v2 : Int32) (u : zM) : zJ eI p l e R s mi args below meth c (wM D b) m0 3 fin 4 [(0, .ref 1), (1, .int v1), (2, .int v2)] [] u (Mo_wets_4b zr4 v1 v2 u) := by
  unfold Mo_wets_4b
  refine z_iload_n hc dX10_wets_4 2 rfl rfl ?_
  refine z_aload_n hc dX10_wets_5 0 rfl rfl ?_
  refine z_getR (x := 3) hc (ci := 10) (k := 10) (by decide) (by decide) zly10 lM1 (zkM lM1) wFX10_13 rfl dX10_wets_6 rfl (by decide) ?_
  refine z_iconst (v := 0) hc dX10_wets_9 rfl ?_
  refine z_iald (k := 0) hc lM3 (zkM lM3) rfl rfl dX10_wets_10 ?_
  refine z_icmp_ge (tgt := 41) hc dX10_wets_11 (by decide) _ (fun h1 => ?_) (fun h1 => ?_)
  · refine z_iload_n hc dX10_wets_41 1 rfl rfl ?_
    exact z_iret hc dX10_wets_42
  · refine z_iload_n hc dX10_wets_14 1 rfl rfl ?_
    refine z_aload_n hc dX10_wets_15 0 rfl rfl ?_
    refine z_getR (x := 40) hc (ci := 10) (k := 50) (by decide) (by decide) zly10 lM1 (zkM lM1) wFX10_126 rfl dX10_wets_16 rfl (by decide) ?_
    refine z_iconst (v := 1) hc dX10_wets_19 rfl ?_
    refine z_iload_n hc dX10_wets_20 2 rfl rfl ?_
    refine z_iadd hc dX10_wets_21 ?_
    refine zJ.chk _ (fun h2 => ?_)
    refine z_iald (k := (ix (1 + v2))) hc lM40 (zkM lM40) h2 rfl dX10_wets_22 ?_
    refine z_if_le (tgt := 32) hc dX10_wets_23 (by decide) _ (fun h3 => ?_) (fun h3 => ?_)
    · refine z_iconst (v := 0) hc dX10_wets_32 rfl ?_
      refine z_ior hc dX10_wets_33 ?_
      refine zJ.letI (fun x1 e1 => ?_)
      refine z_istore_n (L' := [(1, .int x1), (0, .ref 1), (2, .int v2)]) hc dX10_wets_34 rfl (by decide) rfl rfl ?_
      refine z_iinc (L' := [(2, .int (v2 + 1)), (1, .int x1), (0, .ref 1)]) hc dX10_wets_35 2 rfl (v := (v2 + 1)) rfl (by decide) rfl rfl ?_
      refine z_goto (tgt := 4) hc dX10_wets_38 (by decide) ?_
      refine zJ.sub (L' := [(0, .ref 1), (1, .int x1), (2, .int (v2 + 1))]) [2, 1, 0] rfl ?_
      exact hr4 x1 (v2 + 1) _
    · refine z_iconst (v := 1) hc dX10_wets_26 rfl ?_
      refine z_iload_n hc dX10_wets_27 2 rfl rfl ?_
      refine z_ishl hc dX10_wets_28 ?_
      refine z_goto (tgt := 33) hc dX10_wets_29 (by decide) ?_
      refine z_ior hc dX10_wets_33 ?_
      refine zJ.letI (fun x2 e2 => ?_)
      refine z_istore_n (L' := [(1, .int x2), (0, .ref 1), (2, .int v2)]) hc dX10_wets_34 rfl (by decide) rfl rfl ?_
      refine z_iinc (L' := [(2, .int (v2 + 1)), (1, .int x2), (0, .ref 1)]) hc dX10_wets_35 2 rfl (v := (v2 + 1)) rfl (by decide) rfl rfl ?_
      refine z_goto (tgt := 4) hc dX10_wets_38 (by decide) ?_
      refine zJ.sub (L' := [(0, .ref 1), (1, .int x2), (2, .int (v2 + 1))]) [2, 1, 0] rfl ?_
      exact hr4 x2 (v2 + 1) _
set_option maxRecDepth 100000 in
set_option maxHeartbeats 4000000 in
theorem sMo_wets_4 {fin : Int32 × zM} (hc : zCx p s mi args meth c (wM D b) m0 RX10 cX10_wets 3 (some .int)) (hRm : R.frames = 0 ∧ R.locals = 0 ∧ R.cells = zc (wM D b) m0 fin.2 ∧ R.slots = zs (wM D b) m0 fin.2) : ∀ (zf : Nat) (v1 : Int32) (v2 : Int32) (u : zM), zJ eI p l e R s mi args below meth c (wM D b) m0 3 fin 4 [(0, .ref 1), (1, .int v1), (2, .int v2)] [] u (Mo_wets_4 zf v1 v2 u) := by
  intro zf
  induction zf with
  | zero => intro v1 v2 u; exact zJ.nil
  | succ zf ih => intro v1 v2 u; exact sMo_wets_4b hc hRm ih v1 v2 u
set_option maxRecDepth 100000 in
set_option maxHeartbeats 4000000 in
theorem sMo_wets : ∀ (u : zM) r m1, Mo_wets u = some (r, m1) → zMet l (wM D b) 0 0 yX10_wets cX10_wets 3 (some .int) [.ref 1] u (eI r) m1 := by
  intro u
  refine zMet.of (L := [(0, .ref 1)]) RX10 (by decide +kernel) rfl (Nat.le_of_ble_eq_true rfl) (fun h => by cases h) rfl (fun p e s mi args below meth c R fin hc hin hRm => ?_)
  unfold Mo_wets
  refine z_iconst (v := 0) hc dX10_wets_0 rfl ?_
  refine z_istore_n (L' := [(1, .int 0), (0, .ref 1)]) hc dX10_wets_1 rfl (by decide) rfl rfl ?_
  refine z_iconst (v := 0) hc dX10_wets_2 rfl ?_
  refine z_istore_n (L' := [(2, .int 0), (1, .int 0), (0, .ref 1)]) hc dX10_wets_3 rfl (by decide) rfl rfl ?_
  refine zJ.sub (L' := [(0, .ref 1), (1, .int 0), (2, .int 0)]) [2, 1, 0] rfl ?_
  exact sMo_wets_4 hc hRm zF 0 0 _
set_option maxRecDepth 100000 in
set_option maxHeartbeats 4000000 in
theorem sMo_wetBy : ∀ (v1 : Int32) (v2 : Int32) (u : zM) r m1, Mo_wetBy v1 v2 u = some (r, m1) → zMet l (wM D b) 3 68 yX10_wetBy cX10_wetBy 4 (some .int) [.ref 1, .int v1, .int v2] u (eI r) m1 := by
  intro v1 v2 u
  refine zMet.of (L := [(0, .ref 1), (1, .int v1), (2, .int v2)]) RX10 (by decide +kernel) rfl (Nat.le_of_ble_eq_true rfl) (fun h => by cases h) rfl (fun p e s mi args below meth c R fin hc hin hRm => ?_)
  unfold Mo_wetBy
  refine z_aload_n hc dX10_wetBy_0 0 rfl rfl ?_
  refine z_getR (x := 40) hc (ci := 10) (k := 50) (by decide) (by decide) zly10 lM1 (zkM lM1) wFX10_126 rfl dX10_wetBy_1 rfl (by decide) ?_
  refine z_iconst (v := 1) hc dX10_wetBy_4 rfl ?_
  refine z_iload_n hc dX10_wetBy_5 1 rfl rfl ?_
  refine z_iadd hc dX10_wetBy_6 ?_
  refine zJ.chk _ (fun h1 => ?_)
  refine z_iald (k := (ix (1 + v1))) hc lM40 (zkM lM40) h1 rfl dX10_wetBy_7 ?_
  refine z_iload_n hc dX10_wetBy_8 2 rfl rfl ?_
  refine z_iadd hc dX10_wetBy_9 ?_
  refine z_iconst (v := 1) hc dX10_wetBy_10 rfl ?_
  refine z_isub hc dX10_wetBy_11 ?_
  refine zJ.letI (fun x1 e1 => ?_)
  refine z_istore_n (L' := [(3, .int x1), (0, .ref 1), (1, .int v1), (2, .int v2)]) hc dX10_wetBy_12 rfl (by decide) rfl rfl ?_
  refine z_aload_n hc dX10_wetBy_13 1 rfl rfl ?_
  refine z_getR (x := 18) hc (ci := 10) (k := 25) (by decide) (by decide) zly10 lM1 (zkM lM1) wFX10_59 rfl dX10_wetBy_14 rfl (by decide) ?_
  refine z_iconst (v := 0) hc dX10_wetBy_17 rfl ?_
  refine z_iald (k := 0) hc lM18 (zkM lM18) rfl rfl dX10_wetBy_18 ?_
  refine z_aload_n hc dX10_wetBy_19 1 rfl rfl ?_
  refine z_getR (x := 17) hc (ci := 10) (k := 24) (by decide) (by decide) zly10 lM1 (zkM lM1) wFX10_56 rfl dX10_wetBy_20 rfl (by decide) ?_
  refine z_iconst (v := 0) hc dX10_wetBy_23 rfl ?_
  refine z_iald (k := 0) hc lM17 (zkM lM17) rfl rfl dX10_wetBy_24 ?_
  refine z_icmp_le (tgt := 82) hc dX10_wetBy_25 (by decide) _ (fun h2 => ?_) (fun h2 => ?_)
  · refine z_iload_n hc dX10_wetBy_82 0 rfl rfl ?_
    refine z_iconst (v := 0) hc dX10_wetBy_83 rfl ?_
    refine z_bipush (v := 9) hc dX10_wetBy_84 rfl ?_
    refine z_callS (av := [.int x1, .int 0, .int 9]) (enc' := eI) hc rfl (sMo_between x1 0 9 _) wMX10_399 hpyX10_between hmyX10_between (rm_ok hRm (Nat.le_of_ble_eq_true rfl) (Nat.le_of_ble_eq_true rfl)) (Nat.le_of_ble_eq_true rfl) hRm.2.2 dX10_wetBy_86 (fun c1 u1 f1 => ?_)
    exact z_iret hc dX10_wetBy_89
  · refine z_aload_n hc dX10_wetBy_28 1 rfl rfl ?_
    refine z_getR (x := 31) hc (ci := 10) (k := 39) (by decide) (by decide) zly10 lM1 (zkM lM1) wFX10_99 rfl dX10_wetBy_29 rfl (by decide) ?_
    refine z_iconst (v := 1) hc dX10_wetBy_32 rfl ?_
    refine z_aload_n hc dX10_wetBy_33 1 rfl rfl ?_
    refine z_getR (x := 40) hc (ci := 10) (k := 50) (by decide) (by decide) zly10 lM1 (zkM lM1) wFX10_126 rfl dX10_wetBy_34 rfl (by decide) ?_
    refine z_iconst (v := 1) hc dX10_wetBy_37 rfl ?_
    refine z_iload_n hc dX10_wetBy_38 2 rfl rfl ?_
    refine z_iadd hc dX10_wetBy_39 ?_
    refine zJ.chk _ (fun h3 => ?_)
    refine z_iald (k := (ix (1 + v1))) hc lM40 (zkM lM40) h3 rfl dX10_wetBy_40 ?_
    refine z_iast (k := 1) hc lM31 (zkM lM31) rfl rfl dX10_wetBy_41 ?_
    refine zJ.letM (fun u2 e2 => ?_)
    refine z_aload_n hc dX10_wetBy_42 1 rfl rfl ?_
    refine z_getR (x := 31) hc (ci := 10) (k := 39) (by decide) (by decide) zly10 lM1 (zkM lM1) wFX10_99 rfl dX10_wetBy_43 rfl (by decide) ?_
    refine z_iconst (v := 2) hc dX10_wetBy_46 rfl ?_
    refine z_iload_n hc dX10_wetBy_47 3 rfl rfl ?_
    refine z_iast (k := 2) hc lM31 (zkM lM31) rfl rfl dX10_wetBy_48 ?_
    refine zJ.letM (fun u3 e3 => ?_)
    refine z_aload_n hc dX10_wetBy_49 1 rfl rfl ?_
    refine z_getR (x := 31) hc (ci := 10) (k := 39) (by decide) (by decide) zly10 lM1 (zkM lM1) wFX10_99 rfl dX10_wetBy_50 rfl (by decide) ?_
    refine z_iconst (v := 3) hc dX10_wetBy_53 rfl ?_
    refine z_aload_n hc dX10_wetBy_54 1 rfl rfl ?_
    refine z_getR (x := 9) hc (ci := 10) (k := 16) (by decide) (by decide) zly10 lM1 (zkM lM1) wFX10_32 rfl dX10_wetBy_55 rfl (by decide) ?_
    refine z_iload_n hc dX10_wetBy_58 2 rfl rfl ?_
    refine zJ.chk _ (fun h4 => ?_)
    refine z_iald (k := (ix v1)) hc lM9 (zkM lM9) h4 rfl dX10_wetBy_59 ?_
    refine z_callS (av := [.int (gI u3 9 (ix v1))]) (enc' := eI) hc rfl (sMo_bits (gI u3 9 (ix v1)) _) wMX10_393 hpyX10_bits hmyX10_bits (rm_ok hRm (Nat.le_of_ble_eq_true rfl) (Nat.le_of_ble_eq_true rfl)) (Nat.le_of_ble_eq_true rfl) hRm.2.2 dX10_wetBy_60 (fun c2 u4 f2 => ?_)
    refine z_iast (k := 3) hc lM31 (zkM lM31) rfl rfl dX10_wetBy_63 ?_
    refine zJ.letM (fun u5 e4 => ?_)
    refine z_aload_n hc dX10_wetBy_64 1 rfl rfl ?_
    refine z_getR (x := 31) hc (ci := 10) (k := 39) (by decide) (by decide) zly10 lM1 (zkM lM1) wFX10_99 rfl dX10_wetBy_65 rfl (by decide) ?_
    refine z_iconst (v := 4) hc dX10_wetBy_68 rfl ?_
    refine z_aload_n hc dX10_wetBy_69 1 rfl rfl ?_
    refine z_getR (x := 40) hc (ci := 10) (k := 50) (by decide) (by decide) zly10 lM1 (zkM lM1) wFX10_126 rfl dX10_wetBy_70 rfl (by decide) ?_
    refine z_iconst (v := 0) hc dX10_wetBy_73 rfl ?_
    refine z_iald (k := 0) hc lM40 (zkM lM40) rfl rfl dX10_wetBy_74 ?_
    refine z_iast (k := 4) hc lM31 (zkM lM31) rfl rfl dX10_wetBy_75 ?_
    refine zJ.letM (fun u6 e5 => ?_)
    refine z_aload_n hc dX10_wetBy_76 1 rfl rfl ?_
    refine z_iconst (v := 0) hc dX10_wetBy_77 rfl ?_
    refine z_callV (av := [.int 0]) (enc' := eI) hc rfl (sMo_worked 0 _) (ci := 10) (by decide) lM1 (zkM lM1) rfl wMX10_396 hpyX10_worked hmyX10_worked (rm_ok hRm (Nat.le_of_ble_eq_true rfl) (Nat.le_of_ble_eq_true rfl)) (Nat.le_of_ble_eq_true rfl) hRm.2.2 dX10_wetBy_78 (fun c3 u7 f3 => ?_)
    refine z_istore_n (L' := [(3, .int c3), (0, .ref 1), (1, .int v1), (2, .int v2)]) hc dX10_wetBy_81 rfl (by decide) rfl rfl ?_
    refine z_iload_n hc dX10_wetBy_82 0 rfl rfl ?_
    refine z_iconst (v := 0) hc dX10_wetBy_83 rfl ?_
    refine z_bipush (v := 9) hc dX10_wetBy_84 rfl ?_
    refine z_callS (av := [.int c3, .int 0, .int 9]) (enc' := eI) hc rfl (sMo_between c3 0 9 _) wMX10_399 hpyX10_between hmyX10_between (rm_ok hRm (Nat.le_of_ble_eq_true rfl) (Nat.le_of_ble_eq_true rfl)) (Nat.le_of_ble_eq_true rfl) hRm.2.2 dX10_wetBy_86 (fun c4 u8 f4 => ?_)
    exact z_iret hc dX10_wetBy_89
set_option maxRecDepth 100000 in
set_option maxHeartbeats 4000000 in
theorem sMo_goesTo_46b {fin : Int32 × zM} (hc : zCx p s mi args meth c (wM D b) m0 RX10 cX10_goesTo 6 (some .int)) (hRm : R.frames = 0 ∧ R.locals = 0 ∧ R.cells = zc (wM D b) m0 fin.2 ∧ R.slots = zs (wM D b) m0 fin.2) {zr46 : Int32 → Int32 → Int32 → Int32 → zM → Option (Int32 × zM)} (hr46 : ∀ (v2 : Int32) (v3 : Int32) (v4 : Int32) (v5 : Int32) (u : zM), zJ eI p l e R s mi args below meth c (wM D b) m0 6 fin 46 [(0, .ref 1), (2, .int v2), (3, .int v3), (4, .int v4), (5, .int v5)] [] u (zr46 v2 v3 v4 v5 u)) (v2 : Int32) (v3 : Int32) (v4 : Int32) (v5 : Int32) (u : zM) : zJ eI p l e R s mi args below meth c (wM D b) m0 6 fin 46 [(0, .ref 1), (2, .int v2), (3, .int v3), (4, .int v4), (5, .int v5)] [] u (Mo_goesTo_46b zr46 v2 v3 v4 v5 u) := by
  unfold Mo_goesTo_46b
  refine z_iload hc dX10_goesTo_46 4 rfl ?_
  refine z_aload_n hc dX10_goesTo_48 0 rfl rfl ?_
  refine z_getR (x := 3) hc (ci := 10) (k := 10) (by decide) (by decide) zly10 lM1 (zkM lM1) wFX10_13 rfl dX10_goesTo_49 rfl (by decide) ?_
  refine z_iconst (v := 0) hc dX10_goesTo_52 rfl ?_
  refine z_iald (k := 0) hc lM3 (zkM lM3) rfl rfl dX10_goesTo_53 ?_
  refine z_icmp_ge (tgt := 111) hc dX10_goesTo_54 (by decide) _ (fun h1 => ?_) (fun h1 => ?_)
  · refine z_iload hc dX10_goesTo_111 3 rfl ?_
    exact z_iret hc dX10_goesTo_113
  · refine z_iload_n hc dX10_goesTo_57 2 rfl rfl ?_
    refine z_if_eq (tgt := 111) hc dX10_goesTo_58 (by decide) _ (fun h2 => ?_) (fun h2 => ?_)
    · refine z_iload hc dX10_goesTo_111 3 rfl ?_
      exact z_iret hc dX10_goesTo_113
    · refine z_aload_n hc dX10_goesTo_61 0 rfl rfl ?_
      refine z_getR (x := 9) hc (ci := 10) (k := 16) (by decide) (by decide) zly10 lM1 (zkM lM1) wFX10_32 rfl dX10_goesTo_62 rfl (by decide) ?_
      refine z_iload_n hc dX10_goesTo_65 1 rfl rfl ?_
      refine zJ.chk _ (fun h3 => ?_)
      refine z_iald (k := (ix v2)) hc lM9 (zkM lM9) h3 rfl dX10_goesTo_66 ?_
      refine z_iload hc dX10_goesTo_67 4 rfl ?_
      refine z_ishr hc dX10_goesTo_69 ?_
      refine z_iconst (v := 1) hc dX10_goesTo_70 rfl ?_
      refine z_iand hc dX10_goesTo_71 ?_
      refine z_iconst (v := 1) hc dX10_goesTo_72 rfl ?_
      refine z_icmp_ne (tgt := 105) hc dX10_goesTo_73 (by decide) _ (fun h4 => ?_) (fun h4 => ?_)
      · refine z_iinc (L' := [(5, .int (v5 + 1)), (0, .ref 1), (2, .int v2), (3, .int v3), (4, .int v4)]) hc dX10_goesTo_105 4 rfl (v := (v5 + 1)) rfl (by decide) rfl rfl ?_
        refine z_goto (tgt := 46) hc dX10_goesTo_108 (by decide) ?_
        refine zJ.sub (L' := [(0, .ref 1), (2, .int v2), (3, .int v3), (4, .int v4), (5, .int (v5 + 1))]) [1, 2, 3, 4, 0] rfl ?_
        exact hr46 v2 v3 v4 (v5 + 1) _
      · refine z_iload_n hc dX10_goesTo_76 2 rfl rfl ?_
        refine z_aload_n hc dX10_goesTo_77 0 rfl rfl ?_
        refine z_getR (x := 40) hc (ci := 10) (k := 50) (by decide) (by decide) zly10 lM1 (zkM lM1) wFX10_126 rfl dX10_goesTo_78 rfl (by decide) ?_
        refine z_iconst (v := 1) hc dX10_goesTo_81 rfl ?_
        refine z_iload hc dX10_goesTo_82 4 rfl ?_
        refine z_iadd hc dX10_goesTo_84 ?_
        refine zJ.chk _ (fun h5 => ?_)
        refine z_iald (k := (ix (1 + v5))) hc lM40 (zkM lM40) h5 rfl dX10_goesTo_85 ?_
        refine z_imul hc dX10_goesTo_86 ?_
        refine z_iload_n hc dX10_goesTo_87 2 rfl rfl ?_
        refine z_aload_n hc dX10_goesTo_88 0 rfl rfl ?_
        refine z_getR (x := 40) hc (ci := 10) (k := 50) (by decide) (by decide) zly10 lM1 (zkM lM1) wFX10_126 rfl dX10_goesTo_89 rfl (by decide) ?_
        refine z_iconst (v := 1) hc dX10_goesTo_92 rfl ?_
        refine z_iload hc dX10_goesTo_93 3 rfl ?_
        refine z_iadd hc dX10_goesTo_95 ?_
        refine zJ.chk _ (fun h6 => ?_)
        refine z_iald (k := (ix (1 + v4))) hc lM40 (zkM lM40) h6 rfl dX10_goesTo_96 ?_
        refine z_imul hc dX10_goesTo_97 ?_
        refine z_icmp_le (tgt := 105) hc dX10_goesTo_98 (by decide) _ (fun h7 => ?_) (fun h7 => ?_)
        · refine z_iinc (L' := [(5, .int (v5 + 1)), (0, .ref 1), (2, .int v2), (3, .int v3), (4, .int v4)]) hc dX10_goesTo_105 4 rfl (v := (v5 + 1)) rfl (by decide) rfl rfl ?_
          refine z_goto (tgt := 46) hc dX10_goesTo_108 (by decide) ?_
          refine zJ.sub (L' := [(0, .ref 1), (2, .int v2), (3, .int v3), (4, .int v4), (5, .int (v5 + 1))]) [1, 2, 3, 4, 0] rfl ?_
          exact hr46 v2 v3 v4 (v5 + 1) _
        · refine z_iload hc dX10_goesTo_101 4 rfl ?_
          refine z_istore (L' := [(4, .int v5), (0, .ref 1), (2, .int v2), (3, .int v3), (5, .int v5)]) hc dX10_goesTo_103 (by decide) rfl rfl ?_
          refine z_iinc (L' := [(5, .int (v5 + 1)), (4, .int v5), (0, .ref 1), (2, .int v2), (3, .int v3)]) hc dX10_goesTo_105 4 rfl (v := (v5 + 1)) rfl (by decide) rfl rfl ?_
          refine z_goto (tgt := 46) hc dX10_goesTo_108 (by decide) ?_
          refine zJ.sub (L' := [(0, .ref 1), (2, .int v2), (3, .int v3), (4, .int v5), (5, .int (v5 + 1))]) [2, 3, 4, 1, 0] rfl ?_
          exact hr46 v2 v3 v5 (v5 + 1) _
set_option maxRecDepth 100000 in
set_option maxHeartbeats 4000000 in
theorem sMo_goesTo_46 {fin : Int32 × zM} (hc : zCx p s mi args meth c (wM D b) m0 RX10 cX10_goesTo 6 (some .int)) (hRm : R.frames = 0 ∧ R.locals = 0 ∧ R.cells = zc (wM D b) m0 fin.2 ∧ R.slots = zs (wM D b) m0 fin.2) : ∀ (zf : Nat) (v2 : Int32) (v3 : Int32) (v4 : Int32) (v5 : Int32) (u : zM), zJ eI p l e R s mi args below meth c (wM D b) m0 6 fin 46 [(0, .ref 1), (2, .int v2), (3, .int v3), (4, .int v4), (5, .int v5)] [] u (Mo_goesTo_46 zf v2 v3 v4 v5 u) := by
  intro zf
  induction zf with
  | zero => intro v2 v3 v4 v5 u; exact zJ.nil
  | succ zf ih => intro v2 v3 v4 v5 u; exact sMo_goesTo_46b hc hRm ih v2 v3 v4 v5 u
set_option maxRecDepth 100000 in
set_option maxHeartbeats 4000000 in
theorem sMo_goesTo : ∀ (v1 : Int32) (u : zM) r m1, Mo_goesTo v1 u = some (r, m1) → zMet l (wM D b) 0 0 yX10_goesTo cX10_goesTo 6 (some .int) [.ref 1, .int v1] u (eI r) m1 := by
  intro v1 u
  refine zMet.of (L := [(0, .ref 1), (1, .int v1)]) RX10 (by decide +kernel) rfl (Nat.le_of_ble_eq_true rfl) (fun h => by cases h) rfl (fun p e s mi args below meth c R fin hc hin hRm => ?_)
  unfold Mo_goesTo
  refine z_aload_n hc dX10_goesTo_0 0 rfl rfl ?_
  refine z_getR (x := 40) hc (ci := 10) (k := 50) (by decide) (by decide) zly10 lM1 (zkM lM1) wFX10_126 rfl dX10_goesTo_1 rfl (by decide) ?_
  refine z_bipush (v := 8) hc dX10_goesTo_4 rfl ?_
  refine z_iload_n hc dX10_goesTo_6 1 rfl rfl ?_
  refine z_iadd hc dX10_goesTo_7 ?_
  refine zJ.chk _ (fun h1 => ?_)
  refine z_iald (k := (ix (8 + v1))) hc lM40 (zkM lM40) h1 rfl dX10_goesTo_8 ?_
  refine zJ.letI (fun x1 e1 => ?_)
  refine z_istore_n (L' := [(2, .int x1), (0, .ref 1), (1, .int v1)]) hc dX10_goesTo_9 rfl (by decide) rfl rfl ?_
  refine z_aload_n hc dX10_goesTo_10 1 rfl rfl ?_
  refine z_getR (x := 10) hc (ci := 10) (k := 17) (by decide) (by decide) zly10 lM1 (zkM lM1) wFX10_35 rfl dX10_goesTo_11 rfl (by decide) ?_
  refine z_iload_n hc dX10_goesTo_14 2 rfl rfl ?_
  refine zJ.chk _ (fun h2 => ?_)
  refine z_iald (k := (ix v1)) hc lM10 (zkM lM10) h2 rfl dX10_goesTo_15 ?_
  refine z_iconst (v := 1) hc dX10_goesTo_16 rfl ?_
  refine z_icmp_ne (tgt := 24) hc dX10_goesTo_17 (by decide) _ (fun h3 => ?_) (fun h3 => ?_)
  · refine z_aload_n hc dX10_goesTo_24 1 rfl rfl ?_
    refine z_getR (x := 10) hc (ci := 10) (k := 17) (by decide) (by decide) zly10 lM1 (zkM lM1) wFX10_35 rfl dX10_goesTo_25 rfl (by decide) ?_
    refine z_iload_n hc dX10_goesTo_28 2 rfl rfl ?_
    refine zJ.chk _ (fun h4 => ?_)
    refine z_iald (k := (ix v1)) hc lM10 (zkM lM10) h4 rfl dX10_goesTo_29 ?_
    refine z_iconst (v := 2) hc dX10_goesTo_30 rfl ?_
    refine z_icmp_ne (tgt := 38) hc dX10_goesTo_31 (by decide) _ (fun h5 => ?_) (fun h5 => ?_)
    · refine z_iconst (v := 0) hc dX10_goesTo_38 rfl ?_
      refine z_istore_n (L' := [(3, .int 0), (2, .int x1), (0, .ref 1), (1, .int v1)]) hc dX10_goesTo_39 rfl (by decide) rfl rfl ?_
      refine z_iload_n hc dX10_goesTo_40 1 rfl rfl ?_
      refine z_istore (L' := [(4, .int x1), (3, .int 0), (2, .int x1), (0, .ref 1), (1, .int v1)]) hc dX10_goesTo_41 (by decide) rfl rfl ?_
      refine z_iconst (v := 0) hc dX10_goesTo_43 rfl ?_
      refine z_istore (L' := [(5, .int 0), (4, .int x1), (3, .int 0), (2, .int x1), (0, .ref 1), (1, .int v1)]) hc dX10_goesTo_44 (by decide) rfl rfl ?_
      refine zJ.sub (L' := [(0, .ref 1), (2, .int x1), (3, .int 0), (4, .int x1), (5, .int 0)]) [4, 3, 2, 1, 0] rfl ?_
      exact sMo_goesTo_46 hc hRm zF x1 0 x1 0 _
    · refine z_iconst (v := 1) hc dX10_goesTo_34 rfl ?_
      refine z_goto (tgt := 39) hc dX10_goesTo_35 (by decide) ?_
      refine z_istore_n (L' := [(3, .int 1), (2, .int x1), (0, .ref 1), (1, .int v1)]) hc dX10_goesTo_39 rfl (by decide) rfl rfl ?_
      refine z_iload_n hc dX10_goesTo_40 1 rfl rfl ?_
      refine z_istore (L' := [(4, .int x1), (3, .int 1), (2, .int x1), (0, .ref 1), (1, .int v1)]) hc dX10_goesTo_41 (by decide) rfl rfl ?_
      refine z_iconst (v := 0) hc dX10_goesTo_43 rfl ?_
      refine z_istore (L' := [(5, .int 0), (4, .int x1), (3, .int 1), (2, .int x1), (0, .ref 1), (1, .int v1)]) hc dX10_goesTo_44 (by decide) rfl rfl ?_
      refine zJ.sub (L' := [(0, .ref 1), (2, .int x1), (3, .int 1), (4, .int x1), (5, .int 0)]) [4, 3, 2, 1, 0] rfl ?_
      exact sMo_goesTo_46 hc hRm zF x1 1 x1 0 _
  · refine z_iconst (v := (-1)) hc dX10_goesTo_20 rfl ?_
    refine z_goto (tgt := 39) hc dX10_goesTo_21 (by decide) ?_
    refine z_istore_n (L' := [(3, .int (-1)), (2, .int x1), (0, .ref 1), (1, .int v1)]) hc dX10_goesTo_39 rfl (by decide) rfl rfl ?_
    refine z_iload_n hc dX10_goesTo_40 1 rfl rfl ?_
    refine z_istore (L' := [(4, .int x1), (3, .int (-1)), (2, .int x1), (0, .ref 1), (1, .int v1)]) hc dX10_goesTo_41 (by decide) rfl rfl ?_
    refine z_iconst (v := 0) hc dX10_goesTo_43 rfl ?_
    refine z_istore (L' := [(5, .int 0), (4, .int x1), (3, .int (-1)), (2, .int x1), (0, .ref 1), (1, .int v1)]) hc dX10_goesTo_44 (by decide) rfl rfl ?_
    refine zJ.sub (L' := [(0, .ref 1), (2, .int x1), (3, .int (-1)), (4, .int x1), (5, .int 0)]) [4, 3, 2, 1, 0] rfl ?_
    exact sMo_goesTo_46 hc hRm zF x1 (-1) x1 0 _
set_option maxRecDepth 100000 in
set_option maxHeartbeats 4000000 in
theorem sMo_passes_96b {fin : Unit × zM} (hc : zCx p s mi args meth c (wM D b) m0 RX10 cX10_passes 3 none) (hRm : R.frames = 4 ∧ R.locals = 91 ∧ R.cells = zc (wM D b) m0 fin.2 ∧ R.slots = zs (wM D b) m0 fin.2) {zr96 : Int32 → zM → Option (Unit × zM)} (hr96 : ∀ (v2 : Int32) (u : zM), zJ eV p l e R s mi args below meth c (wM D b) m0 3 fin 96 [(0, .ref 1), (2, .int v2)] [] u (zr96 v2 u)) (v2 : Int32) (u : zM) : zJ eV p l e R s mi args below meth c (wM D b) m0 3 fin 96 [(0, .ref 1), (2, .int v2)] [] u (Mo_passes_96b zr96 v2 u) := by
  unfold Mo_passes_96b
  refine z_iload_n hc dX10_passes_96 1 rfl rfl ?_
  refine z_iconst (v := 3) hc dX10_passes_97 rfl ?_
  refine z_icmp_ge (tgt := 117) hc dX10_passes_98 (by decide) _ (fun h1 => ?_) (fun h1 => ?_)
  · refine z_aload_n hc dX10_passes_117 0 rfl rfl ?_
    refine z_getR (x := 40) hc (ci := 10) (k := 50) (by decide) (by decide) zly10 lM1 (zkM lM1) wFX10_126 rfl dX10_passes_118 rfl (by decide) ?_
    refine z_iconst (v := 0) hc dX10_passes_121 rfl ?_
    refine z_dup2 hc dX10_passes_122 rfl rfl ?_
    refine z_iald (k := 0) hc lM40 (zkM lM40) rfl rfl dX10_passes_123 ?_
    refine z_iconst (v := 1) hc dX10_passes_124 rfl ?_
    refine z_iadd hc dX10_passes_125 ?_
    refine z_iast (k := 0) hc lM40 (zkM lM40) rfl rfl dX10_passes_126 ?_
    refine zJ.letM (fun u1 e1 => ?_)
    exact z_vret hc dX10_passes_127
  · refine z_aload_n hc dX10_passes_101 0 rfl rfl ?_
    refine z_getR (x := 40) hc (ci := 10) (k := 50) (by decide) (by decide) zly10 lM1 (zkM lM1) wFX10_126 rfl dX10_passes_102 rfl (by decide) ?_
    refine z_bipush (v := 16) hc dX10_passes_105 rfl ?_
    refine z_iload_n hc dX10_passes_107 1 rfl rfl ?_
    refine z_iadd hc dX10_passes_108 ?_
    refine z_iconst (v := 0) hc dX10_passes_109 rfl ?_
    refine zJ.chk _ (fun h2 => ?_)
    refine z_iast (k := (ix (16 + v2))) hc lM40 (zkM lM40) h2 rfl dX10_passes_110 ?_
    refine zJ.letM (fun u2 e2 => ?_)
    refine z_iinc (L' := [(2, .int (v2 + 1)), (0, .ref 1)]) hc dX10_passes_111 1 rfl (v := (v2 + 1)) rfl (by decide) rfl rfl ?_
    refine z_goto (tgt := 96) hc dX10_passes_114 (by decide) ?_
    refine zJ.sub (L' := [(0, .ref 1), (2, .int (v2 + 1))]) [1, 0] rfl ?_
    exact hr96 (v2 + 1) _
set_option maxRecDepth 100000 in
set_option maxHeartbeats 4000000 in
theorem sMo_passes_96 {fin : Unit × zM} (hc : zCx p s mi args meth c (wM D b) m0 RX10 cX10_passes 3 none) (hRm : R.frames = 4 ∧ R.locals = 91 ∧ R.cells = zc (wM D b) m0 fin.2 ∧ R.slots = zs (wM D b) m0 fin.2) : ∀ (zf : Nat) (v2 : Int32) (u : zM), zJ eV p l e R s mi args below meth c (wM D b) m0 3 fin 96 [(0, .ref 1), (2, .int v2)] [] u (Mo_passes_96 zf v2 u) := by
  intro zf
  induction zf with
  | zero => intro v2 u; exact zJ.nil
  | succ zf ih => intro v2 u; exact sMo_passes_96b hc hRm ih v2 u
set_option maxRecDepth 100000 in
set_option maxHeartbeats 4000000 in
theorem sMo_passes_64b {fin : Unit × zM} (hc : zCx p s mi args meth c (wM D b) m0 RX10 cX10_passes 3 none) (hRm : R.frames = 4 ∧ R.locals = 91 ∧ R.cells = zc (wM D b) m0 fin.2 ∧ R.slots = zs (wM D b) m0 fin.2) {zr64 : Int32 → zM → Option (Unit × zM)} (hr64 : ∀ (v2 : Int32) (u : zM), zJ eV p l e R s mi args below meth c (wM D b) m0 3 fin 64 [(0, .ref 1), (2, .int v2)] [] u (zr64 v2 u)) (v2 : Int32) (u : zM) : zJ eV p l e R s mi args below meth c (wM D b) m0 3 fin 64 [(0, .ref 1), (2, .int v2)] [] u (Mo_passes_64b zr64 v2 u) := by
  unfold Mo_passes_64b
  refine z_iload_n hc dX10_passes_64 1 rfl rfl ?_
  refine z_aload_n hc dX10_passes_65 0 rfl rfl ?_
  refine z_getR (x := 3) hc (ci := 10) (k := 10) (by decide) (by decide) zly10 lM1 (zkM lM1) wFX10_13 rfl dX10_passes_66 rfl (by decide) ?_
  refine z_iconst (v := 2) hc dX10_passes_69 rfl ?_
  refine z_iald (k := 2) hc lM3 (zkM lM3) rfl rfl dX10_passes_70 ?_
  refine z_icmp_ge (tgt := 94) hc dX10_passes_71 (by decide) _ (fun h1 => ?_) (fun h1 => ?_)
  · refine z_iconst (v := 0) hc dX10_passes_94 rfl ?_
    refine z_istore_n (L' := [(2, .int 0), (0, .ref 1)]) hc dX10_passes_95 rfl (by decide) rfl rfl ?_
    refine zJ.sub (L' := [(0, .ref 1), (2, .int 0)]) [1, 0] rfl ?_
    exact sMo_passes_96 hc hRm zF 0 _
  · refine z_aload_n hc dX10_passes_74 0 rfl rfl ?_
    refine z_getR (x := 40) hc (ci := 10) (k := 50) (by decide) (by decide) zly10 lM1 (zkM lM1) wFX10_126 rfl dX10_passes_75 rfl (by decide) ?_
    refine z_bipush (v := 8) hc dX10_passes_78 rfl ?_
    refine z_iload_n hc dX10_passes_80 1 rfl rfl ?_
    refine z_iadd hc dX10_passes_81 ?_
    refine z_aload_n hc dX10_passes_82 0 rfl rfl ?_
    refine z_iload_n hc dX10_passes_83 1 rfl rfl ?_
    refine z_callV (av := [.int v2]) (enc' := eI) hc rfl (sMo_goesTo v2 _) (ci := 10) (by decide) lM1 (zkM lM1) rfl wMX10_407 hpyX10_goesTo hmyX10_goesTo (rm_ok hRm (Nat.le_of_ble_eq_true rfl) (Nat.le_of_ble_eq_true rfl)) (Nat.le_of_ble_eq_true rfl) hRm.2.2 dX10_passes_84 (fun c1 u1 f1 => ?_)
    refine zJ.chk _ (fun h2 => ?_)
    refine z_iast (k := (ix (8 + v2))) hc lM40 (zkM lM40) h2 rfl dX10_passes_87 ?_
    refine zJ.letM (fun u2 e1 => ?_)
    refine z_iinc (L' := [(2, .int (v2 + 1)), (0, .ref 1)]) hc dX10_passes_88 1 rfl (v := (v2 + 1)) rfl (by decide) rfl rfl ?_
    refine z_goto (tgt := 64) hc dX10_passes_91 (by decide) ?_
    refine zJ.sub (L' := [(0, .ref 1), (2, .int (v2 + 1))]) [1, 0] rfl ?_
    exact hr64 (v2 + 1) _
set_option maxRecDepth 100000 in
set_option maxHeartbeats 4000000 in
theorem sMo_passes_64 {fin : Unit × zM} (hc : zCx p s mi args meth c (wM D b) m0 RX10 cX10_passes 3 none) (hRm : R.frames = 4 ∧ R.locals = 91 ∧ R.cells = zc (wM D b) m0 fin.2 ∧ R.slots = zs (wM D b) m0 fin.2) : ∀ (zf : Nat) (v2 : Int32) (u : zM), zJ eV p l e R s mi args below meth c (wM D b) m0 3 fin 64 [(0, .ref 1), (2, .int v2)] [] u (Mo_passes_64 zf v2 u) := by
  intro zf
  induction zf with
  | zero => intro v2 u; exact zJ.nil
  | succ zf ih => intro v2 u; exact sMo_passes_64b hc hRm ih v2 u
set_option maxRecDepth 100000 in
set_option maxHeartbeats 4000000 in
theorem sMo_passes_32b {fin : Unit × zM} (hc : zCx p s mi args meth c (wM D b) m0 RX10 cX10_passes 3 none) (hRm : R.frames = 4 ∧ R.locals = 91 ∧ R.cells = zc (wM D b) m0 fin.2 ∧ R.slots = zs (wM D b) m0 fin.2) {zr32 : Int32 → zM → Option (Unit × zM)} (hr32 : ∀ (v2 : Int32) (u : zM), zJ eV p l e R s mi args below meth c (wM D b) m0 3 fin 32 [(0, .ref 1), (2, .int v2)] [] u (zr32 v2 u)) (v2 : Int32) (u : zM) : zJ eV p l e R s mi args below meth c (wM D b) m0 3 fin 32 [(0, .ref 1), (2, .int v2)] [] u (Mo_passes_32b zr32 v2 u) := by
  unfold Mo_passes_32b
  refine z_iload_n hc dX10_passes_32 1 rfl rfl ?_
  refine z_aload_n hc dX10_passes_33 0 rfl rfl ?_
  refine z_getR (x := 3) hc (ci := 10) (k := 10) (by decide) (by decide) zly10 lM1 (zkM lM1) wFX10_13 rfl dX10_passes_34 rfl (by decide) ?_
  refine z_iconst (v := 0) hc dX10_passes_37 rfl ?_
  refine z_iald (k := 0) hc lM3 (zkM lM3) rfl rfl dX10_passes_38 ?_
  refine z_icmp_ge (tgt := 62) hc dX10_passes_39 (by decide) _ (fun h1 => ?_) (fun h1 => ?_)
  · refine z_iconst (v := 0) hc dX10_passes_62 rfl ?_
    refine z_istore_n (L' := [(2, .int 0), (0, .ref 1)]) hc dX10_passes_63 rfl (by decide) rfl rfl ?_
    refine zJ.sub (L' := [(0, .ref 1), (2, .int 0)]) [1, 0] rfl ?_
    exact sMo_passes_64 hc hRm zF 0 _
  · refine z_aload_n hc dX10_passes_42 0 rfl rfl ?_
    refine z_getR (x := 40) hc (ci := 10) (k := 50) (by decide) (by decide) zly10 lM1 (zkM lM1) wFX10_126 rfl dX10_passes_43 rfl (by decide) ?_
    refine z_iconst (v := 1) hc dX10_passes_46 rfl ?_
    refine z_iload_n hc dX10_passes_47 1 rfl rfl ?_
    refine z_iadd hc dX10_passes_48 ?_
    refine z_aload_n hc dX10_passes_49 0 rfl rfl ?_
    refine z_getR (x := 46) hc (ci := 10) (k := 57) (by decide) (by decide) zly10 lM1 (zkM lM1) wFX10_144 rfl dX10_passes_50 rfl (by decide) ?_
    refine z_iload_n hc dX10_passes_53 1 rfl rfl ?_
    refine zJ.chk _ (fun h2 => ?_)
    refine z_iald (k := (ix v2)) hc lM46 (zkM lM46) h2 rfl dX10_passes_54 ?_
    refine zJ.chk _ (fun h3 => ?_)
    refine z_iast (k := (ix (1 + v2))) hc lM40 (zkM lM40) h3 rfl dX10_passes_55 ?_
    refine zJ.letM (fun u1 e1 => ?_)
    refine z_iinc (L' := [(2, .int (v2 + 1)), (0, .ref 1)]) hc dX10_passes_56 1 rfl (v := (v2 + 1)) rfl (by decide) rfl rfl ?_
    refine z_goto (tgt := 32) hc dX10_passes_59 (by decide) ?_
    refine zJ.sub (L' := [(0, .ref 1), (2, .int (v2 + 1))]) [1, 0] rfl ?_
    exact hr32 (v2 + 1) _
set_option maxRecDepth 100000 in
set_option maxHeartbeats 4000000 in
theorem sMo_passes_32 {fin : Unit × zM} (hc : zCx p s mi args meth c (wM D b) m0 RX10 cX10_passes 3 none) (hRm : R.frames = 4 ∧ R.locals = 91 ∧ R.cells = zc (wM D b) m0 fin.2 ∧ R.slots = zs (wM D b) m0 fin.2) : ∀ (zf : Nat) (v2 : Int32) (u : zM), zJ eV p l e R s mi args below meth c (wM D b) m0 3 fin 32 [(0, .ref 1), (2, .int v2)] [] u (Mo_passes_32 zf v2 u) := by
  intro zf
  induction zf with
  | zero => intro v2 u; exact zJ.nil
  | succ zf ih => intro v2 u; exact sMo_passes_32b hc hRm ih v2 u
set_option maxRecDepth 100000 in
set_option maxHeartbeats 4000000 in
theorem sMo_passes_2b {fin : Unit × zM} (hc : zCx p s mi args meth c (wM D b) m0 RX10 cX10_passes 3 none) (hRm : R.frames = 4 ∧ R.locals = 91 ∧ R.cells = zc (wM D b) m0 fin.2 ∧ R.slots = zs (wM D b) m0 fin.2) {zr2 : Int32 → Int32 → zM → Option (Unit × zM)} (hr2 : ∀ (v1 : Int32) (v2 : Int32) (u : zM), zJ eV p l e R s mi args below meth c (wM D b) m0 3 fin 2 [(0, .ref 1), (1, .int v1), (2, .int v2)] [] u (zr2 v1 v2 u)) (v1 : Int32) (v2 : Int32) (u : zM) : zJ eV p l e R s mi args below meth c (wM D b) m0 3 fin 2 [(0, .ref 1), (1, .int v1), (2, .int v2)] [] u (Mo_passes_2b zr2 v1 v2 u) := by
  unfold Mo_passes_2b
  refine z_iload_n hc dX10_passes_2 2 rfl rfl ?_
  refine z_aload_n hc dX10_passes_3 0 rfl rfl ?_
  refine z_getR (x := 3) hc (ci := 10) (k := 10) (by decide) (by decide) zly10 lM1 (zkM lM1) wFX10_13 rfl dX10_passes_4 rfl (by decide) ?_
  refine z_iconst (v := 0) hc dX10_passes_7 rfl ?_
  refine z_iald (k := 0) hc lM3 (zkM lM3) rfl rfl dX10_passes_8 ?_
  refine z_icmp_ge (tgt := 30) hc dX10_passes_9 (by decide) _ (fun h1 => ?_) (fun h1 => ?_)
  · refine z_iconst (v := 0) hc dX10_passes_30 rfl ?_
    refine z_istore_n (L' := [(2, .int 0), (0, .ref 1), (1, .int v1)]) hc dX10_passes_31 rfl (by decide) rfl rfl ?_
    refine zJ.sub (L' := [(0, .ref 1), (2, .int 0)]) [1, 0] rfl ?_
    exact sMo_passes_32 hc hRm zF 0 _
  · refine z_aload_n hc dX10_passes_12 0 rfl rfl ?_
    refine z_getR (x := 46) hc (ci := 10) (k := 57) (by decide) (by decide) zly10 lM1 (zkM lM1) wFX10_144 rfl dX10_passes_13 rfl (by decide) ?_
    refine z_iload_n hc dX10_passes_16 2 rfl rfl ?_
    refine z_aload_n hc dX10_passes_17 0 rfl rfl ?_
    refine z_iload_n hc dX10_passes_18 2 rfl rfl ?_
    refine z_iload_n hc dX10_passes_19 1 rfl rfl ?_
    refine z_callV (av := [.int v2, .int v1]) (enc' := eI) hc rfl (sMo_wetBy v2 v1 _) (ci := 10) (by decide) lM1 (zkM lM1) rfl wMX10_403 hpyX10_wetBy hmyX10_wetBy (rm_ok hRm (Nat.le_of_ble_eq_true rfl) (Nat.le_of_ble_eq_true rfl)) (Nat.le_of_ble_eq_true rfl) hRm.2.2 dX10_passes_20 (fun c1 u1 f1 => ?_)
    refine zJ.chk _ (fun h2 => ?_)
    refine z_iast (k := (ix v2)) hc lM46 (zkM lM46) h2 rfl dX10_passes_23 ?_
    refine zJ.letM (fun u2 e1 => ?_)
    refine z_iinc (L' := [(2, .int (v2 + 1)), (0, .ref 1), (1, .int v1)]) hc dX10_passes_24 2 rfl (v := (v2 + 1)) rfl (by decide) rfl rfl ?_
    refine z_goto (tgt := 2) hc dX10_passes_27 (by decide) ?_
    refine zJ.sub (L' := [(0, .ref 1), (1, .int v1), (2, .int (v2 + 1))]) [1, 2, 0] rfl ?_
    exact hr2 v1 (v2 + 1) _
set_option maxRecDepth 100000 in
set_option maxHeartbeats 4000000 in
theorem sMo_passes_2 {fin : Unit × zM} (hc : zCx p s mi args meth c (wM D b) m0 RX10 cX10_passes 3 none) (hRm : R.frames = 4 ∧ R.locals = 91 ∧ R.cells = zc (wM D b) m0 fin.2 ∧ R.slots = zs (wM D b) m0 fin.2) : ∀ (zf : Nat) (v1 : Int32) (v2 : Int32) (u : zM), zJ eV p l e R s mi args below meth c (wM D b) m0 3 fin 2 [(0, .ref 1), (1, .int v1), (2, .int v2)] [] u (Mo_passes_2 zf v1 v2 u) := by
  intro zf
  induction zf with
  | zero => intro v1 v2 u; exact zJ.nil
  | succ zf ih => intro v1 v2 u; exact sMo_passes_2b hc hRm ih v1 v2 u
set_option maxRecDepth 100000 in
set_option maxHeartbeats 4000000 in
theorem sMo_passes : ∀ (v1 : Int32) (u : zM) r m1, Mo_passes v1 u = some (r, m1) → zMet l (wM D b) 4 91 yX10_passes cX10_passes 3 none [.ref 1, .int v1] u (eV r) m1 := by
  intro v1 u
  refine zMet.of (L := [(0, .ref 1), (1, .int v1)]) RX10 (by decide +kernel) rfl (Nat.le_of_ble_eq_true rfl) (fun h => by cases h) rfl (fun p e s mi args below meth c R fin hc hin hRm => ?_)
  unfold Mo_passes
  refine z_iconst (v := 0) hc dX10_passes_0 rfl ?_
  refine z_istore_n (L' := [(2, .int 0), (0, .ref 1), (1, .int v1)]) hc dX10_passes_1 rfl (by decide) rfl rfl ?_
  refine zJ.sub (L' := [(0, .ref 1), (1, .int v1), (2, .int 0)]) [1, 2, 0] rfl ?_
  exact sMo_passes_2 hc hRm zF v1 0 _
set_option maxRecDepth 100000 in
set_option maxHeartbeats 4000000 in
theorem sMo_passesAsTold : ∀ (u : zM) r m1, Mo_passesAsTold u = some (r, m1) → zMet l (wM D b) 5 113 yX10_passesAsTold cX10_passesAsTold 1 none [.ref 1] u (eV r) m1 := by
  intro u
  refine zMet.of (L := [(0, .ref 1)]) RX10 (by decide +kernel) rfl (Nat.le_of_ble_eq_true rfl) (fun h => by cases h) rfl (fun p e s mi args below meth c R fin hc hin hRm => ?_)
  unfold Mo_passesAsTold
  refine z_aload_n hc dX10_passesAsTold_0 0 rfl rfl ?_
  refine z_aload_n hc dX10_passesAsTold_1 0 rfl rfl ?_
  refine z_aload_n hc dX10_passesAsTold_2 0 rfl rfl ?_
  refine z_getR (x := 40) hc (ci := 10) (k := 50) (by decide) (by decide) zly10 lM1 (zkM lM1) wFX10_126 rfl dX10_passesAsTold_3 rfl (by decide) ?_
  refine z_iconst (v := 0) hc dX10_passesAsTold_6 rfl ?_
  refine z_iald (k := 0) hc lM40 (zkM lM40) rfl rfl dX10_passesAsTold_7 ?_
  refine z_callV (av := [.int (gI u 40 0)]) (enc' := eI) hc rfl (sMo_rainOf (gI u 40 0) _) (ci := 10) (by decide) lM1 (zkM lM1) rfl wMX10_410 hpyX10_rainOf hmyX10_rainOf (rm_ok hRm (Nat.le_of_ble_eq_true rfl) (Nat.le_of_ble_eq_true rfl)) (Nat.le_of_ble_eq_true rfl) hRm.2.2 dX10_passesAsTold_8 (fun c1 u1 f1 => ?_)
  refine z_callV (av := [.int c1]) (enc' := eV) hc rfl (sMo_passes c1 _) (ci := 10) (by decide) lM1 (zkM lM1) rfl wMX10_413 hpyX10_passes hmyX10_passes (rm_ok hRm (Nat.le_of_ble_eq_true rfl) (Nat.le_of_ble_eq_true rfl)) (Nat.le_of_ble_eq_true rfl) hRm.2.2 dX10_passesAsTold_11 (fun c2 u2 f2 => ?_)
  exact z_vret hc dX10_passesAsTold_14
set_option maxRecDepth 100000 in
set_option maxHeartbeats 4000000 in
theorem sMo_whoAt_4b {fin : Int32 × zM} (hc : zCx p s mi args meth c (wM D b) m0 RX10 cX10_whoAt 4 (some .int)) (hRm : R.frames = 0 ∧ R.locals = 0 ∧ R.cells = zc (wM D b) m0 fin.2 ∧ R.slots = zs (wM D b) m0 fin.2) {zr4 : Int32 → Int32 → Int32 → zM → Option (Int32 × zM)} (hr4 : ∀ (v1 : Int32) (v2 : Int32) (v3 : Int32) (u : zM), zJ eI p l e R s mi args below meth c (wM D b) m0 4 fin 4 [(0, .ref 1), (1, .int v1), (2, .int v2), (3, .int v3)] [] u (zr4 v1 v2 v3 u)) (v1 : Int32) (v2 : Int32) (v3 : Int32) (u : zM) : zJ eI p l e R s mi args below meth c (wM D b) m0 4 fin 4 [(0, .ref 1), (1, .int v1), (2, .int v2), (3, .int v3)] [] u (Mo_whoAt_4b zr4 v1 v2 v3 u) := by
  unfold Mo_whoAt_4b
  refine z_iload_n hc dX10_whoAt_4 3 rfl rfl ?_
  refine z_aload_n hc dX10_whoAt_5 0 rfl rfl ?_
  refine z_getR (x := 3) hc (ci := 10) (k := 10) (by decide) (by decide) zly10 lM1 (zkM lM1) wFX10_13 rfl dX10_whoAt_6 rfl (by decide) ?_
  refine z_iconst (v := 2) hc dX10_whoAt_9 rfl ?_
  refine z_iald (k := 2) hc lM3 (zkM lM3) rfl rfl dX10_whoAt_10 ?_
  refine z_icmp_ge (tgt := 43) hc dX10_whoAt_11 (by decide) _ (fun h1 => ?_) (fun h1 => ?_)
  · refine z_iload_n hc dX10_whoAt_43 2 rfl rfl ?_
    exact z_iret hc dX10_whoAt_44
  · refine z_iload_n hc dX10_whoAt_14 2 rfl rfl ?_
    refine z_aload_n hc dX10_whoAt_15 0 rfl rfl ?_
    refine z_getR (x := 40) hc (ci := 10) (k := 50) (by decide) (by decide) zly10 lM1 (zkM lM1) wFX10_126 rfl dX10_whoAt_16 rfl (by decide) ?_
    refine z_bipush (v := 8) hc dX10_whoAt_19 rfl ?_
    refine z_iload_n hc dX10_whoAt_21 3 rfl rfl ?_
    refine z_iadd hc dX10_whoAt_22 ?_
    refine zJ.chk _ (fun h2 => ?_)
    refine z_iald (k := (ix (8 + v3))) hc lM40 (zkM lM40) h2 rfl dX10_whoAt_23 ?_
    refine z_iload_n hc dX10_whoAt_24 1 rfl rfl ?_
    refine z_icmp_ne (tgt := 34) hc dX10_whoAt_25 (by decide) _ (fun h3 => ?_) (fun h3 => ?_)
    · refine z_iconst (v := 0) hc dX10_whoAt_34 rfl ?_
      refine z_ior hc dX10_whoAt_35 ?_
      refine zJ.letI (fun x1 e1 => ?_)
      refine z_istore_n (L' := [(2, .int x1), (0, .ref 1), (1, .int v1), (3, .int v3)]) hc dX10_whoAt_36 rfl (by decide) rfl rfl ?_
      refine z_iinc (L' := [(3, .int (v3 + 1)), (2, .int x1), (0, .ref 1), (1, .int v1)]) hc dX10_whoAt_37 3 rfl (v := (v3 + 1)) rfl (by decide) rfl rfl ?_
      refine z_goto (tgt := 4) hc dX10_whoAt_40 (by decide) ?_
      refine zJ.sub (L' := [(0, .ref 1), (1, .int v1), (2, .int x1), (3, .int (v3 + 1))]) [2, 3, 1, 0] rfl ?_
      exact hr4 v1 x1 (v3 + 1) _
    · refine z_iconst (v := 1) hc dX10_whoAt_28 rfl ?_
      refine z_iload_n hc dX10_whoAt_29 3 rfl rfl ?_
      refine z_ishl hc dX10_whoAt_30 ?_
      refine z_goto (tgt := 35) hc dX10_whoAt_31 (by decide) ?_
      refine z_ior hc dX10_whoAt_35 ?_
      refine zJ.letI (fun x2 e2 => ?_)
      refine z_istore_n (L' := [(2, .int x2), (0, .ref 1), (1, .int v1), (3, .int v3)]) hc dX10_whoAt_36 rfl (by decide) rfl rfl ?_
      refine z_iinc (L' := [(3, .int (v3 + 1)), (2, .int x2), (0, .ref 1), (1, .int v1)]) hc dX10_whoAt_37 3 rfl (v := (v3 + 1)) rfl (by decide) rfl rfl ?_
      refine z_goto (tgt := 4) hc dX10_whoAt_40 (by decide) ?_
      refine zJ.sub (L' := [(0, .ref 1), (1, .int v1), (2, .int x2), (3, .int (v3 + 1))]) [2, 3, 1, 0] rfl ?_
      exact hr4 v1 x2 (v3 + 1) _
set_option maxRecDepth 100000 in
set_option maxHeartbeats 4000000 in
theorem sMo_whoAt_4 {fin : Int32 × zM} (hc : zCx p s mi args meth c (wM D b) m0 RX10 cX10_whoAt 4 (some .int)) (hRm : R.frames = 0 ∧ R.locals = 0 ∧ R.cells = zc (wM D b) m0 fin.2 ∧ R.slots = zs (wM D b) m0 fin.2) : ∀ (zf : Nat) (v1 : Int32) (v2 : Int32) (v3 : Int32) (u : zM), zJ eI p l e R s mi args below meth c (wM D b) m0 4 fin 4 [(0, .ref 1), (1, .int v1), (2, .int v2), (3, .int v3)] [] u (Mo_whoAt_4 zf v1 v2 v3 u) := by
  intro zf
  induction zf with
  | zero => intro v1 v2 v3 u; exact zJ.nil
  | succ zf ih => intro v1 v2 v3 u; exact sMo_whoAt_4b hc hRm ih v1 v2 v3 u
set_option maxRecDepth 100000 in
set_option maxHeartbeats 4000000 in
theorem sMo_whoAt : ∀ (v1 : Int32) (u : zM) r m1, Mo_whoAt v1 u = some (r, m1) → zMet l (wM D b) 0 0 yX10_whoAt cX10_whoAt 4 (some .int) [.ref 1, .int v1] u (eI r) m1 := by
  intro v1 u
  refine zMet.of (L := [(0, .ref 1), (1, .int v1)]) RX10 (by decide +kernel) rfl (Nat.le_of_ble_eq_true rfl) (fun h => by cases h) rfl (fun p e s mi args below meth c R fin hc hin hRm => ?_)
  unfold Mo_whoAt
  refine z_iconst (v := 0) hc dX10_whoAt_0 rfl ?_
  refine z_istore_n (L' := [(2, .int 0), (0, .ref 1), (1, .int v1)]) hc dX10_whoAt_1 rfl (by decide) rfl rfl ?_
  refine z_iconst (v := 0) hc dX10_whoAt_2 rfl ?_
  refine z_istore_n (L' := [(3, .int 0), (2, .int 0), (0, .ref 1), (1, .int v1)]) hc dX10_whoAt_3 rfl (by decide) rfl rfl ?_
  refine zJ.sub (L' := [(0, .ref 1), (1, .int v1), (2, .int 0), (3, .int 0)]) [2, 3, 1, 0] rfl ?_
  exact sMo_whoAt_4 hc hRm zF v1 0 0 _
set_option maxRecDepth 100000 in
set_option maxHeartbeats 4000000 in
theorem sMo_place_69b {fin : Int32 × zM} (hc : zCx p s mi args meth c (wM D b) m0 RX10 cX10_place 5 (some .int)) (hRm : R.frames = 1 ∧ R.locals = 23 ∧ R.cells = zc (wM D b) m0 fin.2 ∧ R.slots = zs (wM D b) m0 fin.2) {zr69 : Int32 → Int32 → Int32 → zM → Option (Int32 × zM)} (hr69 : ∀ (v1 : Int32) (v3 : Int32) (v4 : Int32) (u : zM), zJ eI p l e R s mi args below meth c (wM D b) m0 5 fin 69 [(0, .ref 1), (1, .int v1), (3, .int v3), (4, .int v4)] [] u (zr69 v1 v3 v4 u)) (v1 : Int32) (v3 : Int32) (v4 : Int32) (u : zM) : zJ eI p l e R s mi args below meth c (wM D b) m0 5 fin 69 [(0, .ref 1), (1, .int v1), (3, .int v3), (4, .int v4)] [] u (Mo_place_69b zr69 v1 v3 v4 u) := by
  unfold Mo_place_69b
  refine z_iload hc dX10_place_69 3 rfl ?_
  refine z_aload_n hc dX10_place_71 0 rfl rfl ?_
  refine z_getR (x := 3) hc (ci := 10) (k := 10) (by decide) (by decide) zly10 lM1 (zkM lM1) wFX10_13 rfl dX10_place_72 rfl (by decide) ?_
  refine z_iconst (v := 3) hc dX10_place_75 rfl ?_
  refine z_iald (k := 3) hc lM3 (zkM lM3) rfl rfl dX10_place_76 ?_
  refine z_icmp_ge (tgt := 111) hc dX10_place_77 (by decide) _ (fun h1 => ?_) (fun h1 => ?_)
  · refine z_iload_n hc dX10_place_111 2 rfl rfl ?_
    exact z_iret hc dX10_place_112
  · refine z_iload_n hc dX10_place_80 2 rfl rfl ?_
    refine z_aload_n hc dX10_place_81 0 rfl rfl ?_
    refine z_getR (x := 40) hc (ci := 10) (k := 50) (by decide) (by decide) zly10 lM1 (zkM lM1) wFX10_126 rfl dX10_place_82 rfl (by decide) ?_
    refine z_bipush (v := 13) hc dX10_place_85 rfl ?_
    refine z_iload hc dX10_place_87 3 rfl ?_
    refine z_iadd hc dX10_place_89 ?_
    refine zJ.chk _ (fun h2 => ?_)
    refine z_iald (k := (ix (13 + v4))) hc lM40 (zkM lM40) h2 rfl dX10_place_90 ?_
    refine z_iload_n hc dX10_place_91 1 rfl rfl ?_
    refine z_icmp_ne (tgt := 102) hc dX10_place_92 (by decide) _ (fun h3 => ?_) (fun h3 => ?_)
    · refine z_iconst (v := 0) hc dX10_place_102 rfl ?_
      refine z_ior hc dX10_place_103 ?_
      refine zJ.letI (fun x1 e1 => ?_)
      refine z_istore_n (L' := [(3, .int x1), (0, .ref 1), (1, .int v1), (4, .int v4)]) hc dX10_place_104 rfl (by decide) rfl rfl ?_
      refine z_iinc (L' := [(4, .int (v4 + 1)), (3, .int x1), (0, .ref 1), (1, .int v1)]) hc dX10_place_105 3 rfl (v := (v4 + 1)) rfl (by decide) rfl rfl ?_
      refine z_goto (tgt := 69) hc dX10_place_108 (by decide) ?_
      refine zJ.sub (L' := [(0, .ref 1), (1, .int v1), (3, .int x1), (4, .int (v4 + 1))]) [2, 3, 1, 0] rfl ?_
      exact hr69 v1 x1 (v4 + 1) _
    · refine z_iconst (v := 1) hc dX10_place_95 rfl ?_
      refine z_iload hc dX10_place_96 3 rfl ?_
      refine z_ishl hc dX10_place_98 ?_
      refine z_goto (tgt := 103) hc dX10_place_99 (by decide) ?_
      refine z_ior hc dX10_place_103 ?_
      refine zJ.letI (fun x2 e2 => ?_)
      refine z_istore_n (L' := [(3, .int x2), (0, .ref 1), (1, .int v1), (4, .int v4)]) hc dX10_place_104 rfl (by decide) rfl rfl ?_
      refine z_iinc (L' := [(4, .int (v4 + 1)), (3, .int x2), (0, .ref 1), (1, .int v1)]) hc dX10_place_105 3 rfl (v := (v4 + 1)) rfl (by decide) rfl rfl ?_
      refine z_goto (tgt := 69) hc dX10_place_108 (by decide) ?_
      refine zJ.sub (L' := [(0, .ref 1), (1, .int v1), (3, .int x2), (4, .int (v4 + 1))]) [2, 3, 1, 0] rfl ?_
      exact hr69 v1 x2 (v4 + 1) _
set_option maxRecDepth 100000 in
set_option maxHeartbeats 4000000 in
theorem sMo_place_69 {fin : Int32 × zM} (hc : zCx p s mi args meth c (wM D b) m0 RX10 cX10_place 5 (some .int)) (hRm : R.frames = 1 ∧ R.locals = 23 ∧ R.cells = zc (wM D b) m0 fin.2 ∧ R.slots = zs (wM D b) m0 fin.2) : ∀ (zf : Nat) (v1 : Int32) (v3 : Int32) (v4 : Int32) (u : zM), zJ eI p l e R s mi args below meth c (wM D b) m0 5 fin 69 [(0, .ref 1), (1, .int v1), (3, .int v3), (4, .int v4)] [] u (Mo_place_69 zf v1 v3 v4 u) := by
  intro zf
  induction zf with
  | zero => intro v1 v3 v4 u; exact zJ.nil
  | succ zf ih => intro v1 v3 v4 u; exact sMo_place_69b hc hRm ih v1 v3 v4 u
set_option maxRecDepth 100000 in
set_option maxHeartbeats 4000000 in
theorem sMo_place : ∀ (v1 : Int32) (v2 : Int32) (u : zM) r m1, Mo_place v1 v2 u = some (r, m1) → zMet l (wM D b) 1 23 yX10_place cX10_place 5 (some .int) [.ref 1, .int v1, .int v2] u (eI r) m1 := by
  intro v1 v2 u
  refine zMet.of (L := [(0, .ref 1), (1, .int v1), (2, .int v2)]) RX10 (by decide +kernel) rfl (Nat.le_of_ble_eq_true rfl) (fun h => by cases h) rfl (fun p e s mi args below meth c R fin hc hin hRm => ?_)
  unfold Mo_place
  refine z_aload_n hc dX10_place_0 0 rfl rfl ?_
  refine z_iconst (v := 0) hc dX10_place_1 rfl ?_
  refine z_putI hc (ci := 10) (k := 0) (by decide) (by decide) zly10 lM1 (zkM lM1) wFX10_162 rfl rfl rfl rfl dX10_place_2 ?_
  refine zJ.letM (fun u1 e1 => ?_)
  refine z_aload_n hc dX10_place_5 0 rfl rfl ?_
  refine z_iload_n hc dX10_place_6 1 rfl rfl ?_
  refine z_callV (av := [.int v1]) (enc' := eI) hc rfl (sMo_isPlace v1 _) (ci := 10) (by decide) lM1 (zkM lM1) rfl wMX10_416 hpyX10_isPlace hmyX10_isPlace (rm_ok hRm (Nat.le_of_ble_eq_true rfl) (Nat.le_of_ble_eq_true rfl)) (Nat.le_of_ble_eq_true rfl) hRm.2.2 dX10_place_7 (fun c1 u2 f1 => ?_)
  refine z_if_eq (tgt := 22) hc dX10_place_10 (by decide) _ (fun h1 => ?_) (fun h1 => ?_)
  · refine z_iconst (v := (-1)) hc dX10_place_22 rfl ?_
    exact z_iret hc dX10_place_23
  · refine z_iload_n hc dX10_place_13 2 rfl rfl ?_
    refine z_iconst (v := 0) hc dX10_place_14 rfl ?_
    refine z_iconst (v := 3) hc dX10_place_15 rfl ?_
    refine z_callS (av := [.int v2, .int 0, .int 3]) (enc' := eI) hc rfl (sMo_within v2 0 3 _) wMX10_293 hpyX10_within hmyX10_within (rm_ok hRm (Nat.le_of_ble_eq_true rfl) (Nat.le_of_ble_eq_true rfl)) (Nat.le_of_ble_eq_true rfl) hRm.2.2 dX10_place_16 (fun c2 u3 f2 => ?_)
    refine z_if_ne (tgt := 24) hc dX10_place_19 (by decide) _ (fun h2 => ?_) (fun h2 => ?_)
    · refine z_iload_n hc dX10_place_24 2 rfl rfl ?_
      refine z_iconst (v := 3) hc dX10_place_25 rfl ?_
      refine z_icmp_ge (tgt := 64) hc dX10_place_26 (by decide) _ (fun h3 => ?_) (fun h3 => ?_)
      · refine z_iconst (v := 0) hc dX10_place_64 rfl ?_
        refine z_istore_n (L' := [(3, .int 0), (0, .ref 1), (1, .int v1), (2, .int v2)]) hc dX10_place_65 rfl (by decide) rfl rfl ?_
        refine z_iconst (v := 0) hc dX10_place_66 rfl ?_
        refine z_istore (L' := [(4, .int 0), (3, .int 0), (0, .ref 1), (1, .int v1), (2, .int v2)]) hc dX10_place_67 (by decide) rfl rfl ?_
        refine zJ.sub (L' := [(0, .ref 1), (1, .int v1), (3, .int 0), (4, .int 0)]) [2, 3, 1, 0] rfl ?_
        exact sMo_place_69 hc hRm zF v1 0 0 _
      · refine z_iload_n hc dX10_place_29 2 rfl rfl ?_
        refine z_if_ne (tgt := 44) hc dX10_place_30 (by decide) _ (fun h4 => ?_) (fun h4 => ?_)
        · refine z_iload_n hc dX10_place_44 2 rfl rfl ?_
          refine z_iconst (v := 1) hc dX10_place_45 rfl ?_
          refine z_icmp_ne (tgt := 58) hc dX10_place_46 (by decide) _ (fun h5 => ?_) (fun h5 => ?_)
          · refine z_aload_n hc dX10_place_58 0 rfl rfl ?_
            refine z_iload_n hc dX10_place_59 1 rfl rfl ?_
            refine z_callV (av := [.int v1]) (enc' := eI) hc rfl (sMo_whoAt v1 _) (ci := 10) (by decide) lM1 (zkM lM1) rfl wMX10_419 hpyX10_whoAt hmyX10_whoAt (rm_ok hRm (Nat.le_of_ble_eq_true rfl) (Nat.le_of_ble_eq_true rfl)) (Nat.le_of_ble_eq_true rfl) hRm.2.2 dX10_place_60 (fun c3 u4 f3 => ?_)
            exact z_iret hc dX10_place_63
          · refine z_aload_n hc dX10_place_49 0 rfl rfl ?_
            refine z_getR (x := 9) hc (ci := 10) (k := 16) (by decide) (by decide) zly10 lM1 (zkM lM1) wFX10_32 rfl dX10_place_50 rfl (by decide) ?_
            refine z_iload_n hc dX10_place_53 1 rfl rfl ?_
            refine zJ.chk _ (fun h6 => ?_)
            refine z_iald (k := (ix v1)) hc lM9 (zkM lM9) h6 rfl dX10_place_54 ?_
            refine z_goto (tgt := 63) hc dX10_place_55 (by decide) ?_
            exact z_iret hc dX10_place_63
        · refine z_aload_n hc dX10_place_33 0 rfl rfl ?_
          refine z_getR (x := 40) hc (ci := 10) (k := 50) (by decide) (by decide) zly10 lM1 (zkM lM1) wFX10_126 rfl dX10_place_34 rfl (by decide) ?_
          refine z_iconst (v := 1) hc dX10_place_37 rfl ?_
          refine z_iload_n hc dX10_place_38 1 rfl rfl ?_
          refine z_iadd hc dX10_place_39 ?_
          refine zJ.chk _ (fun h7 => ?_)
          refine z_iald (k := (ix (1 + v1))) hc lM40 (zkM lM40) h7 rfl dX10_place_40 ?_
          refine z_goto (tgt := 63) hc dX10_place_41 (by decide) ?_
          exact z_iret hc dX10_place_63
    · refine z_iconst (v := (-1)) hc dX10_place_22 rfl ?_
      exact z_iret hc dX10_place_23
set_option maxRecDepth 100000 in
set_option maxHeartbeats 4000000 in
theorem sMo_person : ∀ (v1 : Int32) (v2 : Int32) (u : zM) r m1, Mo_person v1 v2 u = some (r, m1) → zMet l (wM D b) 1 22 yX10_person cX10_person 3 (some .int) [.ref 1, .int v1, .int v2] u (eI r) m1 := by
  intro v1 v2 u
  refine zMet.of (L := [(0, .ref 1), (1, .int v1), (2, .int v2)]) RX10 (by decide +kernel) rfl (Nat.le_of_ble_eq_true rfl) (fun h => by cases h) rfl (fun p e s mi args below meth c R fin hc hin hRm => ?_)
  unfold Mo_person
  refine z_aload_n hc dX10_person_0 0 rfl rfl ?_
  refine z_iconst (v := 0) hc dX10_person_1 rfl ?_
  refine z_putI hc (ci := 10) (k := 0) (by decide) (by decide) zly10 lM1 (zkM lM1) wFX10_162 rfl rfl rfl rfl dX10_person_2 ?_
  refine zJ.letM (fun u1 e1 => ?_)
  refine z_aload_n hc dX10_person_5 0 rfl rfl ?_
  refine z_iload_n hc dX10_person_6 1 rfl rfl ?_
  refine z_callV (av := [.int v1]) (enc' := eI) hc rfl (sMo_isPerson v1 _) (ci := 10) (by decide) lM1 (zkM lM1) rfl wMX10_422 hpyX10_isPerson hmyX10_isPerson (rm_ok hRm (Nat.le_of_ble_eq_true rfl) (Nat.le_of_ble_eq_true rfl)) (Nat.le_of_ble_eq_true rfl) hRm.2.2 dX10_person_7 (fun c1 u2 f1 => ?_)
  refine z_if_eq (tgt := 22) hc dX10_person_10 (by decide) _ (fun h1 => ?_) (fun h1 => ?_)
  · refine z_iconst (v := (-1)) hc dX10_person_22 rfl ?_
    exact z_iret hc dX10_person_23
  · refine z_iload_n hc dX10_person_13 2 rfl rfl ?_
    refine z_iconst (v := 0) hc dX10_person_14 rfl ?_
    refine z_iconst (v := 1) hc dX10_person_15 rfl ?_
    refine z_callS (av := [.int v2, .int 0, .int 1]) (enc' := eI) hc rfl (sMo_within v2 0 1 _) wMX10_293 hpyX10_within hmyX10_within (rm_ok hRm (Nat.le_of_ble_eq_true rfl) (Nat.le_of_ble_eq_true rfl)) (Nat.le_of_ble_eq_true rfl) hRm.2.2 dX10_person_16 (fun c2 u3 f2 => ?_)
    refine z_if_ne (tgt := 24) hc dX10_person_19 (by decide) _ (fun h2 => ?_) (fun h2 => ?_)
    · refine z_iload_n hc dX10_person_24 2 rfl rfl ?_
      refine z_if_ne (tgt := 37) hc dX10_person_25 (by decide) _ (fun h3 => ?_) (fun h3 => ?_)
      · refine z_aload_n hc dX10_person_37 0 rfl rfl ?_
        refine z_getR (x := 40) hc (ci := 10) (k := 50) (by decide) (by decide) zly10 lM1 (zkM lM1) wFX10_126 rfl dX10_person_38 rfl (by decide) ?_
        refine z_bipush (v := 8) hc dX10_person_41 rfl ?_
        refine z_iload_n hc dX10_person_43 1 rfl rfl ?_
        refine z_iadd hc dX10_person_44 ?_
        refine zJ.chk _ (fun h4 => ?_)
        refine z_iald (k := (ix (8 + v1))) hc lM40 (zkM lM40) h4 rfl dX10_person_45 ?_
        exact z_iret hc dX10_person_46
      · refine z_aload_n hc dX10_person_28 0 rfl rfl ?_
        refine z_getR (x := 10) hc (ci := 10) (k := 17) (by decide) (by decide) zly10 lM1 (zkM lM1) wFX10_35 rfl dX10_person_29 rfl (by decide) ?_
        refine z_iload_n hc dX10_person_32 1 rfl rfl ?_
        refine zJ.chk _ (fun h5 => ?_)
        refine z_iald (k := (ix v1)) hc lM10 (zkM lM10) h5 rfl dX10_person_33 ?_
        refine z_goto (tgt := 46) hc dX10_person_34 (by decide) ?_
        exact z_iret hc dX10_person_46
    · refine z_iconst (v := (-1)) hc dX10_person_22 rfl ?_
      exact z_iret hc dX10_person_23
set_option maxRecDepth 100000 in
set_option maxHeartbeats 4000000 in
theorem sMo_writsOf_4b {fin : Int32 × zM} (hc : zCx p s mi args meth c (wM D b) m0 RX10 cX10_writsOf 4 (some .int)) (hRm : R.frames = 0 ∧ R.locals = 0 ∧ R.cells = zc (wM D b) m0 fin.2 ∧ R.slots = zs (wM D b) m0 fin.2) {zr4 : Int32 → Int32 → Int32 → zM → Option (Int32 × zM)} (hr4 : ∀ (v1 : Int32) (v2 : Int32) (v3 : Int32) (u : zM), zJ eI p l e R s mi args below meth c (wM D b) m0 4 fin 4 [(0, .ref 1), (1, .int v1), (2, .int v2), (3, .int v3)] [] u (zr4 v1 v2 v3 u)) (v1 : Int32) (v2 : Int32) (v3 : Int32) (u : zM) : zJ eI p l e R s mi args below meth c (wM D b) m0 4 fin 4 [(0, .ref 1), (1, .int v1), (2, .int v2), (3, .int v3)] [] u (Mo_writsOf_4b zr4 v1 v2 v3 u) := by
  unfold Mo_writsOf_4b
  refine z_iload_n hc dX10_writsOf_4 3 rfl rfl ?_
  refine z_aload_n hc dX10_writsOf_5 0 rfl rfl ?_
  refine z_getR (x := 3) hc (ci := 10) (k := 10) (by decide) (by decide) zly10 lM1 (zkM lM1) wFX10_13 rfl dX10_writsOf_6 rfl (by decide) ?_
  refine z_iconst (v := 4) hc dX10_writsOf_9 rfl ?_
  refine z_iald (k := 4) hc lM3 (zkM lM3) rfl rfl dX10_writsOf_10 ?_
  refine z_icmp_ge (tgt := 43) hc dX10_writsOf_11 (by decide) _ (fun h1 => ?_) (fun h1 => ?_)
  · refine z_iload_n hc dX10_writsOf_43 2 rfl rfl ?_
    exact z_iret hc dX10_writsOf_44
  · refine z_iload_n hc dX10_writsOf_14 2 rfl rfl ?_
    refine z_aload_n hc dX10_writsOf_15 0 rfl rfl ?_
    refine z_getR (x := 40) hc (ci := 10) (k := 50) (by decide) (by decide) zly10 lM1 (zkM lM1) wFX10_126 rfl dX10_writsOf_16 rfl (by decide) ?_
    refine z_bipush (v := 19) hc dX10_writsOf_19 rfl ?_
    refine z_iload_n hc dX10_writsOf_21 3 rfl rfl ?_
    refine z_iadd hc dX10_writsOf_22 ?_
    refine zJ.chk _ (fun h2 => ?_)
    refine z_iald (k := (ix (19 + v3))) hc lM40 (zkM lM40) h2 rfl dX10_writsOf_23 ?_
    refine z_iload_n hc dX10_writsOf_24 1 rfl rfl ?_
    refine z_icmp_ne (tgt := 34) hc dX10_writsOf_25 (by decide) _ (fun h3 => ?_) (fun h3 => ?_)
    · refine z_iconst (v := 0) hc dX10_writsOf_34 rfl ?_
      refine z_ior hc dX10_writsOf_35 ?_
      refine zJ.letI (fun x1 e1 => ?_)
      refine z_istore_n (L' := [(2, .int x1), (0, .ref 1), (1, .int v1), (3, .int v3)]) hc dX10_writsOf_36 rfl (by decide) rfl rfl ?_
      refine z_iinc (L' := [(3, .int (v3 + 1)), (2, .int x1), (0, .ref 1), (1, .int v1)]) hc dX10_writsOf_37 3 rfl (v := (v3 + 1)) rfl (by decide) rfl rfl ?_
      refine z_goto (tgt := 4) hc dX10_writsOf_40 (by decide) ?_
      refine zJ.sub (L' := [(0, .ref 1), (1, .int v1), (2, .int x1), (3, .int (v3 + 1))]) [2, 3, 1, 0] rfl ?_
      exact hr4 v1 x1 (v3 + 1) _
    · refine z_iconst (v := 1) hc dX10_writsOf_28 rfl ?_
      refine z_iload_n hc dX10_writsOf_29 3 rfl rfl ?_
      refine z_ishl hc dX10_writsOf_30 ?_
      refine z_goto (tgt := 35) hc dX10_writsOf_31 (by decide) ?_
      refine z_ior hc dX10_writsOf_35 ?_
      refine zJ.letI (fun x2 e2 => ?_)
      refine z_istore_n (L' := [(2, .int x2), (0, .ref 1), (1, .int v1), (3, .int v3)]) hc dX10_writsOf_36 rfl (by decide) rfl rfl ?_
      refine z_iinc (L' := [(3, .int (v3 + 1)), (2, .int x2), (0, .ref 1), (1, .int v1)]) hc dX10_writsOf_37 3 rfl (v := (v3 + 1)) rfl (by decide) rfl rfl ?_
      refine z_goto (tgt := 4) hc dX10_writsOf_40 (by decide) ?_
      refine zJ.sub (L' := [(0, .ref 1), (1, .int v1), (2, .int x2), (3, .int (v3 + 1))]) [2, 3, 1, 0] rfl ?_
      exact hr4 v1 x2 (v3 + 1) _
set_option maxRecDepth 100000 in
set_option maxHeartbeats 4000000 in
theorem sMo_writsOf_4 {fin : Int32 × zM} (hc : zCx p s mi args meth c (wM D b) m0 RX10 cX10_writsOf 4 (some .int)) (hRm : R.frames = 0 ∧ R.locals = 0 ∧ R.cells = zc (wM D b) m0 fin.2 ∧ R.slots = zs (wM D b) m0 fin.2) : ∀ (zf : Nat) (v1 : Int32) (v2 : Int32) (v3 : Int32) (u : zM), zJ eI p l e R s mi args below meth c (wM D b) m0 4 fin 4 [(0, .ref 1), (1, .int v1), (2, .int v2), (3, .int v3)] [] u (Mo_writsOf_4 zf v1 v2 v3 u) := by
  intro zf
  induction zf with
  | zero => intro v1 v2 v3 u; exact zJ.nil
  | succ zf ih => intro v1 v2 v3 u; exact sMo_writsOf_4b hc hRm ih v1 v2 v3 u
set_option maxRecDepth 100000 in
set_option maxHeartbeats 4000000 in
theorem sMo_writsOf : ∀ (v1 : Int32) (u : zM) r m1, Mo_writsOf v1 u = some (r, m1) → zMet l (wM D b) 0 0 yX10_writsOf cX10_writsOf 4 (some .int) [.ref 1, .int v1] u (eI r) m1 := by
  intro v1 u
  refine zMet.of (L := [(0, .ref 1), (1, .int v1)]) RX10 (by decide +kernel) rfl (Nat.le_of_ble_eq_true rfl) (fun h => by cases h) rfl (fun p e s mi args below meth c R fin hc hin hRm => ?_)
  unfold Mo_writsOf
  refine z_iconst (v := 0) hc dX10_writsOf_0 rfl ?_
  refine z_istore_n (L' := [(2, .int 0), (0, .ref 1), (1, .int v1)]) hc dX10_writsOf_1 rfl (by decide) rfl rfl ?_
  refine z_iconst (v := 0) hc dX10_writsOf_2 rfl ?_
  refine z_istore_n (L' := [(3, .int 0), (2, .int 0), (0, .ref 1), (1, .int v1)]) hc dX10_writsOf_3 rfl (by decide) rfl rfl ?_
  refine zJ.sub (L' := [(0, .ref 1), (1, .int v1), (2, .int 0), (3, .int 0)]) [2, 3, 1, 0] rfl ?_
  exact sMo_writsOf_4 hc hRm zF v1 0 0 _
set_option maxRecDepth 100000 in
set_option maxHeartbeats 4000000 in
theorem sMo_otter : ∀ (v1 : Int32) (v2 : Int32) (u : zM) r m1, Mo_otter v1 v2 u = some (r, m1) → zMet l (wM D b) 1 23 yX10_otter cX10_otter 3 (some .int) [.ref 1, .int v1, .int v2] u (eI r) m1 := by
  intro v1 v2 u
  refine zMet.of (L := [(0, .ref 1), (1, .int v1), (2, .int v2)]) RX10 (by decide +kernel) rfl (Nat.le_of_ble_eq_true rfl) (fun h => by cases h) rfl (fun p e s mi args below meth c R fin hc hin hRm => ?_)
  unfold Mo_otter
  refine z_aload_n hc dX10_otter_0 0 rfl rfl ?_
  refine z_iconst (v := 0) hc dX10_otter_1 rfl ?_
  refine z_putI hc (ci := 10) (k := 0) (by decide) (by decide) zly10 lM1 (zkM lM1) wFX10_162 rfl rfl rfl rfl dX10_otter_2 ?_
  refine zJ.letM (fun u1 e1 => ?_)
  refine z_aload_n hc dX10_otter_5 0 rfl rfl ?_
  refine z_iload_n hc dX10_otter_6 1 rfl rfl ?_
  refine z_callV (av := [.int v1]) (enc' := eI) hc rfl (sMo_isOtter v1 _) (ci := 10) (by decide) lM1 (zkM lM1) rfl wMX10_425 hpyX10_isOtter hmyX10_isOtter (rm_ok hRm (Nat.le_of_ble_eq_true rfl) (Nat.le_of_ble_eq_true rfl)) (Nat.le_of_ble_eq_true rfl) hRm.2.2 dX10_otter_7 (fun c1 u2 f1 => ?_)
  refine z_if_eq (tgt := 22) hc dX10_otter_10 (by decide) _ (fun h1 => ?_) (fun h1 => ?_)
  · refine z_iconst (v := (-1)) hc dX10_otter_22 rfl ?_
    exact z_iret hc dX10_otter_23
  · refine z_iload_n hc dX10_otter_13 2 rfl rfl ?_
    refine z_iconst (v := 0) hc dX10_otter_14 rfl ?_
    refine z_iconst (v := 3) hc dX10_otter_15 rfl ?_
    refine z_callS (av := [.int v2, .int 0, .int 3]) (enc' := eI) hc rfl (sMo_within v2 0 3 _) wMX10_293 hpyX10_within hmyX10_within (rm_ok hRm (Nat.le_of_ble_eq_true rfl) (Nat.le_of_ble_eq_true rfl)) (Nat.le_of_ble_eq_true rfl) hRm.2.2 dX10_otter_16 (fun c2 u3 f2 => ?_)
    refine z_if_ne (tgt := 24) hc dX10_otter_19 (by decide) _ (fun h2 => ?_) (fun h2 => ?_)
    · refine z_iload_n hc dX10_otter_24 2 rfl rfl ?_
      refine z_iconst (v := 2) hc dX10_otter_25 rfl ?_
      refine z_icmp_ge (tgt := 52) hc dX10_otter_26 (by decide) _ (fun h3 => ?_) (fun h3 => ?_)
      · refine z_iload_n hc dX10_otter_52 2 rfl rfl ?_
        refine z_iconst (v := 2) hc dX10_otter_53 rfl ?_
        refine z_icmp_ne (tgt := 69) hc dX10_otter_54 (by decide) _ (fun h4 => ?_) (fun h4 => ?_)
        · refine z_aload_n hc dX10_otter_69 0 rfl rfl ?_
          refine z_iload_n hc dX10_otter_70 1 rfl rfl ?_
          refine z_callV (av := [.int v1]) (enc' := eI) hc rfl (sMo_writsOf v1 _) (ci := 10) (by decide) lM1 (zkM lM1) rfl wMX10_428 hpyX10_writsOf hmyX10_writsOf (rm_ok hRm (Nat.le_of_ble_eq_true rfl) (Nat.le_of_ble_eq_true rfl)) (Nat.le_of_ble_eq_true rfl) hRm.2.2 dX10_otter_71 (fun c3 u4 f3 => ?_)
          exact z_iret hc dX10_otter_74
        · refine z_aload_n hc dX10_otter_57 0 rfl rfl ?_
          refine z_getR (x := 40) hc (ci := 10) (k := 50) (by decide) (by decide) zly10 lM1 (zkM lM1) wFX10_126 rfl dX10_otter_58 rfl (by decide) ?_
          refine z_bipush (v := 16) hc dX10_otter_61 rfl ?_
          refine z_iload_n hc dX10_otter_63 1 rfl rfl ?_
          refine z_iadd hc dX10_otter_64 ?_
          refine zJ.chk _ (fun h5 => ?_)
          refine z_iald (k := (ix (16 + v1))) hc lM40 (zkM lM40) h5 rfl dX10_otter_65 ?_
          refine z_goto (tgt := 74) hc dX10_otter_66 (by decide) ?_
          exact z_iret hc dX10_otter_74
      · refine z_iload_n hc dX10_otter_29 2 rfl rfl ?_
        refine z_if_ne (tgt := 42) hc dX10_otter_30 (by decide) _ (fun h6 => ?_) (fun h6 => ?_)
        · refine z_aload_n hc dX10_otter_42 0 rfl rfl ?_
          refine z_getR (x := 40) hc (ci := 10) (k := 50) (by decide) (by decide) zly10 lM1 (zkM lM1) wFX10_126 rfl dX10_otter_43 rfl (by decide) ?_
          refine z_bipush (v := 13) hc dX10_otter_46 rfl ?_
          refine z_iload_n hc dX10_otter_48 1 rfl rfl ?_
          refine z_iadd hc dX10_otter_49 ?_
          refine zJ.chk _ (fun h7 => ?_)
          refine z_iald (k := (ix (13 + v1))) hc lM40 (zkM lM40) h7 rfl dX10_otter_50 ?_
          exact z_iret hc dX10_otter_51
        · refine z_aload_n hc dX10_otter_33 0 rfl rfl ?_
          refine z_getR (x := 13) hc (ci := 10) (k := 20) (by decide) (by decide) zly10 lM1 (zkM lM1) wFX10_44 rfl dX10_otter_34 rfl (by decide) ?_
          refine z_iload_n hc dX10_otter_37 1 rfl rfl ?_
          refine zJ.chk _ (fun h8 => ?_)
          refine z_iald (k := (ix v1)) hc lM13 (zkM lM13) h8 rfl dX10_otter_38 ?_
          refine z_goto (tgt := 51) hc dX10_otter_39 (by decide) ?_
          exact z_iret hc dX10_otter_51
    · refine z_iconst (v := (-1)) hc dX10_otter_22 rfl ?_
      exact z_iret hc dX10_otter_23
set_option maxRecDepth 100000 in
set_option maxHeartbeats 4000000 in
theorem sMo_writ : ∀ (v1 : Int32) (v2 : Int32) (u : zM) r m1, Mo_writ v1 v2 u = some (r, m1) → zMet l (wM D b) 1 22 yX10_writ cX10_writ 3 (some .int) [.ref 1, .int v1, .int v2] u (eI r) m1 := by
  intro v1 v2 u
  refine zMet.of (L := [(0, .ref 1), (1, .int v1), (2, .int v2)]) RX10 (by decide +kernel) rfl (Nat.le_of_ble_eq_true rfl) (fun h => by cases h) rfl (fun p e s mi args below meth c R fin hc hin hRm => ?_)
  unfold Mo_writ
  refine z_aload_n hc dX10_writ_0 0 rfl rfl ?_
  refine z_iconst (v := 0) hc dX10_writ_1 rfl ?_
  refine z_putI hc (ci := 10) (k := 0) (by decide) (by decide) zly10 lM1 (zkM lM1) wFX10_162 rfl rfl rfl rfl dX10_writ_2 ?_
  refine zJ.letM (fun u1 e1 => ?_)
  refine z_aload_n hc dX10_writ_5 0 rfl rfl ?_
  refine z_iload_n hc dX10_writ_6 1 rfl rfl ?_
  refine z_callV (av := [.int v1]) (enc' := eI) hc rfl (sMo_isWrit v1 _) (ci := 10) (by decide) lM1 (zkM lM1) rfl wMX10_431 hpyX10_isWrit hmyX10_isWrit (rm_ok hRm (Nat.le_of_ble_eq_true rfl) (Nat.le_of_ble_eq_true rfl)) (Nat.le_of_ble_eq_true rfl) hRm.2.2 dX10_writ_7 (fun c1 u2 f1 => ?_)
  refine z_if_eq (tgt := 22) hc dX10_writ_10 (by decide) _ (fun h1 => ?_) (fun h1 => ?_)
  · refine z_bipush (v := (-2)) hc dX10_writ_22 rfl ?_
    exact z_iret hc dX10_writ_24
  · refine z_iload_n hc dX10_writ_13 2 rfl rfl ?_
    refine z_iconst (v := 0) hc dX10_writ_14 rfl ?_
    refine z_iconst (v := 2) hc dX10_writ_15 rfl ?_
    refine z_callS (av := [.int v2, .int 0, .int 2]) (enc' := eI) hc rfl (sMo_within v2 0 2 _) wMX10_293 hpyX10_within hmyX10_within (rm_ok hRm (Nat.le_of_ble_eq_true rfl) (Nat.le_of_ble_eq_true rfl)) (Nat.le_of_ble_eq_true rfl) hRm.2.2 dX10_writ_16 (fun c2 u3 f2 => ?_)
    refine z_if_ne (tgt := 25) hc dX10_writ_19 (by decide) _ (fun h2 => ?_) (fun h2 => ?_)
    · refine z_iload_n hc dX10_writ_25 2 rfl rfl ?_
      refine z_if_ne (tgt := 38) hc dX10_writ_26 (by decide) _ (fun h3 => ?_) (fun h3 => ?_)
      · refine z_iload_n hc dX10_writ_38 2 rfl rfl ?_
        refine z_iconst (v := 1) hc dX10_writ_39 rfl ?_
        refine z_icmp_ne (tgt := 52) hc dX10_writ_40 (by decide) _ (fun h4 => ?_) (fun h4 => ?_)
        · refine z_aload_n hc dX10_writ_52 0 rfl rfl ?_
          refine z_getR (x := 40) hc (ci := 10) (k := 50) (by decide) (by decide) zly10 lM1 (zkM lM1) wFX10_126 rfl dX10_writ_53 rfl (by decide) ?_
          refine z_bipush (v := 19) hc dX10_writ_56 rfl ?_
          refine z_iload_n hc dX10_writ_58 1 rfl rfl ?_
          refine z_iadd hc dX10_writ_59 ?_
          refine zJ.chk _ (fun h5 => ?_)
          refine z_iald (k := (ix (19 + v1))) hc lM40 (zkM lM40) h5 rfl dX10_writ_60 ?_
          exact z_iret hc dX10_writ_61
        · refine z_aload_n hc dX10_writ_43 0 rfl rfl ?_
          refine z_getR (x := 15) hc (ci := 10) (k := 22) (by decide) (by decide) zly10 lM1 (zkM lM1) wFX10_50 rfl dX10_writ_44 rfl (by decide) ?_
          refine z_iload_n hc dX10_writ_47 1 rfl rfl ?_
          refine zJ.chk _ (fun h6 => ?_)
          refine z_iald (k := (ix v1)) hc lM15 (zkM lM15) h6 rfl dX10_writ_48 ?_
          refine z_goto (tgt := 61) hc dX10_writ_49 (by decide) ?_
          exact z_iret hc dX10_writ_61
      · refine z_aload_n hc dX10_writ_29 0 rfl rfl ?_
        refine z_getR (x := 14) hc (ci := 10) (k := 21) (by decide) (by decide) zly10 lM1 (zkM lM1) wFX10_47 rfl dX10_writ_30 rfl (by decide) ?_
        refine z_iload_n hc dX10_writ_33 1 rfl rfl ?_
        refine zJ.chk _ (fun h7 => ?_)
        refine z_iald (k := (ix v1)) hc lM14 (zkM lM14) h7 rfl dX10_writ_34 ?_
        refine z_goto (tgt := 61) hc dX10_writ_35 (by decide) ?_
        exact z_iret hc dX10_writ_61
    · refine z_bipush (v := (-2)) hc dX10_writ_22 rfl ?_
      exact z_iret hc dX10_writ_24
set_option maxRecDepth 100000 in
set_option maxHeartbeats 4000000 in
theorem sMo_keeps_49 {fin : Unit × zM} (hc : zCx p s mi args meth c (wM D b) m0 RX10 cX10_keeps 2 none) (hRm : R.frames = 1 ∧ R.locals = 24 ∧ R.cells = zc (wM D b) m0 fin.2 ∧ R.slots = zs (wM D b) m0 fin.2) (u : zM) : zJ eV p l e R s mi args below meth c (wM D b) m0 2 fin 49 [(0, .ref 1)] [] u (Mo_keeps_49 u) := by
  unfold Mo_keeps_49
  refine z_aload_n hc dX10_keeps_49 0 rfl rfl ?_
  refine z_getR (x := 40) hc (ci := 10) (k := 50) (by decide) (by decide) zly10 lM1 (zkM lM1) wFX10_126 rfl dX10_keeps_50 rfl (by decide) ?_
  refine z_iconst (v := 0) hc dX10_keeps_53 rfl ?_
  refine z_aload_n hc dX10_keeps_54 0 rfl rfl ?_
  refine z_getR (x := 44) hc (ci := 10) (k := 54) (by decide) (by decide) zly10 lM1 (zkM lM1) wFX10_138 rfl dX10_keeps_55 rfl (by decide) ?_
  refine z_bipush (v := 25) hc dX10_keeps_58 rfl ?_
  refine z_aload_n hc dX10_keeps_60 0 rfl rfl ?_
  refine z_getI hc (ci := 10) (k := 56) (by decide) (by decide) zly10 lM1 (zkM lM1) wFX10_383 rfl dX10_keeps_61 ?_
  refine z_imul hc dX10_keeps_64 ?_
  refine z_callS (av := [.ref 40, .int 0, .ref 44, .int (25 * (gI u 1 56))]) (enc' := eV) hc rfl (sMo_copies 40 0 44 (25 * (gI u 1 56)) _) wMX10_434 hpyX10_copies hmyX10_copies (rm_ok hRm (Nat.le_of_ble_eq_true rfl) (Nat.le_of_ble_eq_true rfl)) (Nat.le_of_ble_eq_true rfl) hRm.2.2 dX10_keeps_65 (fun c1 u1 f1 => ?_)
  refine z_aload_n hc dX10_keeps_68 0 rfl rfl ?_
  refine z_dup hc dX10_keeps_69 rfl ?_
  refine z_getI hc (ci := 10) (k := 56) (by decide) (by decide) zly10 lM1 (zkM lM1) wFX10_383 rfl dX10_keeps_70 ?_
  refine z_iconst (v := 1) hc dX10_keeps_73 rfl ?_
  refine z_iadd hc dX10_keeps_74 ?_
  refine z_putI hc (ci := 10) (k := 56) (by decide) (by decide) zly10 lM1 (zkM lM1) wFX10_383 rfl rfl rfl rfl dX10_keeps_75 ?_
  refine zJ.letM (fun u2 e1 => ?_)
  exact z_vret hc dX10_keeps_78
set_option maxRecDepth 100000 in
set_option maxHeartbeats 4000000 in
theorem sMo_keeps_11b {fin : Unit × zM} (hc : zCx p s mi args meth c (wM D b) m0 RX10 cX10_keeps 2 none) (hRm : R.frames = 1 ∧ R.locals = 24 ∧ R.cells = zc (wM D b) m0 fin.2 ∧ R.slots = zs (wM D b) m0 fin.2) {zr11 : Int32 → zM → Option (Unit × zM)} (hr11 : ∀ (v1 : Int32) (u : zM), zJ eV p l e R s mi args below meth c (wM D b) m0 2 fin 11 [(0, .ref 1), (1, .int v1)] [] u (zr11 v1 u)) (v1 : Int32) (u : zM) : zJ eV p l e R s mi args below meth c (wM D b) m0 2 fin 11 [(0, .ref 1), (1, .int v1)] [] u (Mo_keeps_11b zr11 v1 u) := by
  unfold Mo_keeps_11b
  refine z_iload_n hc dX10_keeps_11 1 rfl rfl ?_
  refine z_sipush (v := 375) hc dX10_keeps_12 rfl ?_
  refine z_icmp_ge (tgt := 39) hc dX10_keeps_15 (by decide) _ (fun h1 => ?_) (fun h1 => ?_)
  · refine z_aload_n hc dX10_keeps_39 0 rfl rfl ?_
    refine z_dup hc dX10_keeps_40 rfl ?_
    refine z_getI hc (ci := 10) (k := 56) (by decide) (by decide) zly10 lM1 (zkM lM1) wFX10_383 rfl dX10_keeps_41 ?_
    refine z_iconst (v := 1) hc dX10_keeps_44 rfl ?_
    refine z_isub hc dX10_keeps_45 ?_
    refine z_putI hc (ci := 10) (k := 56) (by decide) (by decide) zly10 lM1 (zkM lM1) wFX10_383 rfl rfl rfl rfl dX10_keeps_46 ?_
    refine zJ.letM (fun u1 e1 => ?_)
    refine zJ.sub (L' := [(0, .ref 1)]) [0] rfl ?_
    exact sMo_keeps_49 hc hRm _
  · refine z_aload_n hc dX10_keeps_18 0 rfl rfl ?_
    refine z_getR (x := 44) hc (ci := 10) (k := 54) (by decide) (by decide) zly10 lM1 (zkM lM1) wFX10_138 rfl dX10_keeps_19 rfl (by decide) ?_
    refine z_iload_n hc dX10_keeps_22 1 rfl rfl ?_
    refine z_aload_n hc dX10_keeps_23 0 rfl rfl ?_
    refine z_getR (x := 44) hc (ci := 10) (k := 54) (by decide) (by decide) zly10 lM1 (zkM lM1) wFX10_138 rfl dX10_keeps_24 rfl (by decide) ?_
    refine z_iload_n hc dX10_keeps_27 1 rfl rfl ?_
    refine z_bipush (v := 25) hc dX10_keeps_28 rfl ?_
    refine z_iadd hc dX10_keeps_30 ?_
    refine zJ.chk _ (fun h2 => ?_)
    refine z_iald (k := (ix (v1 + 25))) hc lM44 (zkM lM44) h2 rfl dX10_keeps_31 ?_
    refine zJ.chk _ (fun h3 => ?_)
    refine z_iast (k := (ix v1)) hc lM44 (zkM lM44) h3 rfl dX10_keeps_32 ?_
    refine zJ.letM (fun u2 e2 => ?_)
    refine z_iinc (L' := [(1, .int (v1 + 1)), (0, .ref 1)]) hc dX10_keeps_33 1 rfl (v := (v1 + 1)) rfl (by decide) rfl rfl ?_
    refine z_goto (tgt := 11) hc dX10_keeps_36 (by decide) ?_
    refine zJ.sub (L' := [(0, .ref 1), (1, .int (v1 + 1))]) [1, 0] rfl ?_
    exact hr11 (v1 + 1) _
set_option maxRecDepth 100000 in
set_option maxHeartbeats 4000000 in
theorem sMo_keeps_11 {fin : Unit × zM} (hc : zCx p s mi args meth c (wM D b) m0 RX10 cX10_keeps 2 none) (hRm : R.frames = 1 ∧ R.locals = 24 ∧ R.cells = zc (wM D b) m0 fin.2 ∧ R.slots = zs (wM D b) m0 fin.2) : ∀ (zf : Nat) (v1 : Int32) (u : zM), zJ eV p l e R s mi args below meth c (wM D b) m0 2 fin 11 [(0, .ref 1), (1, .int v1)] [] u (Mo_keeps_11 zf v1 u) := by
  intro zf
  induction zf with
  | zero => intro v1 u; exact zJ.nil
  | succ zf ih => intro v1 u; exact sMo_keeps_11b hc hRm ih v1 u
set_option maxRecDepth 100000 in
set_option maxHeartbeats 4000000 in
theorem sMo_keeps : ∀ (u : zM) r m1, Mo_keeps u = some (r, m1) → zMet l (wM D b) 1 24 yX10_keeps cX10_keeps 2 none [.ref 1] u (eV r) m1 := by
  intro u
  refine zMet.of (L := [(0, .ref 1)]) RX10 (by decide +kernel) rfl (Nat.le_of_ble_eq_true rfl) (fun h => by cases h) rfl (fun p e s mi args below meth c R fin hc hin hRm => ?_)
  unfold Mo_keeps
  refine z_aload_n hc dX10_keeps_0 0 rfl rfl ?_
  refine z_getI hc (ci := 10) (k := 56) (by decide) (by decide) zly10 lM1 (zkM lM1) wFX10_383 rfl dX10_keeps_1 ?_
  refine z_bipush (v := 16) hc dX10_keeps_4 rfl ?_
  refine z_icmp_ne (tgt := 49) hc dX10_keeps_6 (by decide) _ (fun h1 => ?_) (fun h1 => ?_)
  · exact sMo_keeps_49 hc hRm _
  · refine z_iconst (v := 0) hc dX10_keeps_9 rfl ?_
    refine z_istore_n (L' := [(1, .int 0), (0, .ref 1)]) hc dX10_keeps_10 rfl (by decide) rfl rfl ?_
    refine zJ.sub (L' := [(0, .ref 1), (1, .int 0)]) [1, 0] rfl ?_
    exact sMo_keeps_11 hc hRm zF 0 _
set_option maxRecDepth 100000 in
set_option maxHeartbeats 4000000 in
theorem sMo_canTake : ∀ (v1 : Int32) (v2 : Int32) (u : zM) r m1, Mo_canTake v1 v2 u = some (r, m1) → zMet l (wM D b) 1 23 yX10_canTake cX10_canTake 3 (some .boolean) [.ref 1, .int v1, .int v2] u (eI r) m1 := by
  intro v1 v2 u
  refine zMet.of (L := [(0, .ref 1), (1, .int v1), (2, .int v2)]) RX10 (by decide +kernel) rfl (Nat.le_of_ble_eq_true rfl) (fun h => by cases h) rfl (fun p e s mi args below meth c R fin hc hin hRm => ?_)
  unfold Mo_canTake
  refine z_aload_n hc dX10_canTake_0 0 rfl rfl ?_
  refine z_getR (x := 40) hc (ci := 10) (k := 50) (by decide) (by decide) zly10 lM1 (zkM lM1) wFX10_126 rfl dX10_canTake_1 rfl (by decide) ?_
  refine z_bipush (v := 19) hc dX10_canTake_4 rfl ?_
  refine z_iload_n hc dX10_canTake_6 2 rfl rfl ?_
  refine z_iadd hc dX10_canTake_7 ?_
  refine zJ.chk _ (fun h1 => ?_)
  refine z_iald (k := (ix (19 + v2))) hc lM40 (zkM lM40) h1 rfl dX10_canTake_8 ?_
  refine z_iconst (v := (-1)) hc dX10_canTake_9 rfl ?_
  refine z_icmp_ne (tgt := 41) hc dX10_canTake_10 (by decide) _ (fun h2 => ?_) (fun h2 => ?_)
  · refine z_iconst (v := 0) hc dX10_canTake_41 rfl ?_
    exact z_zret hc rfl dX10_canTake_42
  · refine z_aload_n hc dX10_canTake_13 0 rfl rfl ?_
    refine z_getR (x := 40) hc (ci := 10) (k := 50) (by decide) (by decide) zly10 lM1 (zkM lM1) wFX10_126 rfl dX10_canTake_14 rfl (by decide) ?_
    refine z_bipush (v := 13) hc dX10_canTake_17 rfl ?_
    refine z_iload_n hc dX10_canTake_19 1 rfl rfl ?_
    refine z_iadd hc dX10_canTake_20 ?_
    refine zJ.chk _ (fun h3 => ?_)
    refine z_iald (k := (ix (13 + v1))) hc lM40 (zkM lM40) h3 rfl dX10_canTake_21 ?_
    refine z_if_ne (tgt := 41) hc dX10_canTake_22 (by decide) _ (fun h4 => ?_) (fun h4 => ?_)
    · refine z_iconst (v := 0) hc dX10_canTake_41 rfl ?_
      exact z_zret hc rfl dX10_canTake_42
    · refine z_aload_n hc dX10_canTake_25 0 rfl rfl ?_
      refine z_iload_n hc dX10_canTake_26 1 rfl rfl ?_
      refine z_callV (av := [.int v1]) (enc' := eI) hc rfl (sMo_writsOf v1 _) (ci := 10) (by decide) lM1 (zkM lM1) rfl wMX10_428 hpyX10_writsOf hmyX10_writsOf (rm_ok hRm (Nat.le_of_ble_eq_true rfl) (Nat.le_of_ble_eq_true rfl)) (Nat.le_of_ble_eq_true rfl) hRm.2.2 dX10_canTake_27 (fun c1 u1 f1 => ?_)
      refine z_callS (av := [.int c1]) (enc' := eI) hc rfl (sMo_bits c1 _) wMX10_393 hpyX10_bits hmyX10_bits (rm_ok hRm (Nat.le_of_ble_eq_true rfl) (Nat.le_of_ble_eq_true rfl)) (Nat.le_of_ble_eq_true rfl) hRm.2.2 dX10_canTake_30 (fun c2 u2 f2 => ?_)
      refine z_iconst (v := 2) hc dX10_canTake_33 rfl ?_
      refine z_icmp_ge (tgt := 41) hc dX10_canTake_34 (by decide) _ (fun h5 => ?_) (fun h5 => ?_)
      · refine z_iconst (v := 0) hc dX10_canTake_41 rfl ?_
        exact z_zret hc rfl dX10_canTake_42
      · refine z_iconst (v := 1) hc dX10_canTake_37 rfl ?_
        refine z_goto (tgt := 42) hc dX10_canTake_38 (by decide) ?_
        exact z_zret hc rfl dX10_canTake_42
set_option maxRecDepth 100000 in
set_option maxHeartbeats 4000000 in
theorem sMo_canSwim : ∀ (v1 : Int32) (u : zM) r m1, Mo_canSwim v1 u = some (r, m1) → zMet l (wM D b) 1 22 yX10_canSwim cX10_canSwim 3 (some .int) [.ref 1, .int v1] u (eI r) m1 := by
  intro v1 u
  refine zMet.of (L := [(0, .ref 1), (1, .int v1)]) RX10 (by decide +kernel) rfl (Nat.le_of_ble_eq_true rfl) (fun h => by cases h) rfl (fun p e s mi args below meth c R fin hc hin hRm => ?_)
  unfold Mo_canSwim
  refine z_aload_n hc dX10_canSwim_0 0 rfl rfl ?_
  refine z_getR (x := 40) hc (ci := 10) (k := 50) (by decide) (by decide) zly10 lM1 (zkM lM1) wFX10_126 rfl dX10_canSwim_1 rfl (by decide) ?_
  refine z_bipush (v := 13) hc dX10_canSwim_4 rfl ?_
  refine z_iload_n hc dX10_canSwim_6 1 rfl rfl ?_
  refine z_iadd hc dX10_canSwim_7 ?_
  refine zJ.chk _ (fun h1 => ?_)
  refine z_iald (k := (ix (13 + v1))) hc lM40 (zkM lM40) h1 rfl dX10_canSwim_8 ?_
  refine zJ.letI (fun x1 e1 => ?_)
  refine z_istore_n (L' := [(2, .int x1), (0, .ref 1), (1, .int v1)]) hc dX10_canSwim_9 rfl (by decide) rfl rfl ?_
  refine z_aload_n hc dX10_canSwim_10 1 rfl rfl ?_
  refine z_getR (x := 40) hc (ci := 10) (k := 50) (by decide) (by decide) zly10 lM1 (zkM lM1) wFX10_126 rfl dX10_canSwim_11 rfl (by decide) ?_
  refine z_bipush (v := 16) hc dX10_canSwim_14 rfl ?_
  refine z_iload_n hc dX10_canSwim_16 2 rfl rfl ?_
  refine z_iadd hc dX10_canSwim_17 ?_
  refine zJ.chk _ (fun h2 => ?_)
  refine z_iald (k := (ix (16 + v1))) hc lM40 (zkM lM40) h2 rfl dX10_canSwim_18 ?_
  refine z_aload_n hc dX10_canSwim_19 1 rfl rfl ?_
  refine z_getR (x := 13) hc (ci := 10) (k := 20) (by decide) (by decide) zly10 lM1 (zkM lM1) wFX10_44 rfl dX10_canSwim_20 rfl (by decide) ?_
  refine z_iload_n hc dX10_canSwim_23 2 rfl rfl ?_
  refine zJ.chk _ (fun h3 => ?_)
  refine z_iald (k := (ix v1)) hc lM13 (zkM lM13) h3 rfl dX10_canSwim_24 ?_
  refine z_icmp_ge (tgt := 40) hc dX10_canSwim_25 (by decide) _ (fun h4 => ?_) (fun h4 => ?_)
  · refine z_iconst (v := 0) hc dX10_canSwim_40 rfl ?_
    refine z_goto (tgt := 55) hc dX10_canSwim_41 (by decide) ?_
    exact z_iret hc dX10_canSwim_55
  · refine z_aload_n hc dX10_canSwim_28 1 rfl rfl ?_
    refine z_getR (x := 40) hc (ci := 10) (k := 50) (by decide) (by decide) zly10 lM1 (zkM lM1) wFX10_126 rfl dX10_canSwim_29 rfl (by decide) ?_
    refine z_iconst (v := 1) hc dX10_canSwim_32 rfl ?_
    refine z_iload_n hc dX10_canSwim_33 0 rfl rfl ?_
    refine z_iadd hc dX10_canSwim_34 ?_
    refine zJ.chk _ (fun h5 => ?_)
    refine z_iald (k := (ix (1 + x1))) hc lM40 (zkM lM40) h5 rfl dX10_canSwim_35 ?_
    refine z_iconst (v := 1) hc dX10_canSwim_36 rfl ?_
    refine z_icmp_ge (tgt := 44) hc dX10_canSwim_37 (by decide) _ (fun h6 => ?_) (fun h6 => ?_)
    · refine z_aload_n hc dX10_canSwim_44 1 rfl rfl ?_
      refine z_getR (x := 9) hc (ci := 10) (k := 16) (by decide) (by decide) zly10 lM1 (zkM lM1) wFX10_32 rfl dX10_canSwim_45 rfl (by decide) ?_
      refine z_iload_n hc dX10_canSwim_48 0 rfl rfl ?_
      refine zJ.chk _ (fun h7 => ?_)
      refine z_iald (k := (ix x1)) hc lM9 (zkM lM9) h7 rfl dX10_canSwim_49 ?_
      refine z_aload_n hc dX10_canSwim_50 1 rfl rfl ?_
      refine z_callV (av := []) (enc' := eI) hc rfl (sMo_wets _) (ci := 10) (by decide) lM1 (zkM lM1) rfl wMX10_438 hpyX10_wets hmyX10_wets (rm_ok hRm (Nat.le_of_ble_eq_true rfl) (Nat.le_of_ble_eq_true rfl)) (Nat.le_of_ble_eq_true rfl) hRm.2.2 dX10_canSwim_51 (fun c1 u1 f1 => ?_)
      refine z_iand hc dX10_canSwim_54 ?_
      exact z_iret hc dX10_canSwim_55
    · refine z_iconst (v := 0) hc dX10_canSwim_40 rfl ?_
      refine z_goto (tgt := 55) hc dX10_canSwim_41 (by decide) ?_
      exact z_iret hc dX10_canSwim_55
set_option maxRecDepth 100000 in
set_option maxHeartbeats 4000000 in
theorem sMo_isServed : ∀ (v1 : Int32) (v2 : Int32) (u : zM) r m1, Mo_isServed v1 v2 u = some (r, m1) → zMet l (wM D b) 0 0 yX10_isServed cX10_isServed 3 (some .boolean) [.ref 1, .int v1, .int v2] u (eI r) m1 := by
  intro v1 v2 u
  refine zMet.of (L := [(0, .ref 1), (1, .int v1), (2, .int v2)]) RX10 (by decide +kernel) rfl (Nat.le_of_ble_eq_true rfl) (fun h => by cases h) rfl (fun p e s mi args below meth c R fin hc hin hRm => ?_)
  unfold Mo_isServed
  refine z_aload_n hc dX10_isServed_0 0 rfl rfl ?_
  refine z_getR (x := 10) hc (ci := 10) (k := 17) (by decide) (by decide) zly10 lM1 (zkM lM1) wFX10_35 rfl dX10_isServed_1 rfl (by decide) ?_
  refine z_iload_n hc dX10_isServed_4 1 rfl rfl ?_
  refine zJ.chk _ (fun h1 => ?_)
  refine z_iald (k := (ix v1)) hc lM10 (zkM lM10) h1 rfl dX10_isServed_5 ?_
  refine z_iconst (v := 3) hc dX10_isServed_6 rfl ?_
  refine z_icmp_eq (tgt := 29) hc dX10_isServed_7 (by decide) _ (fun h2 => ?_) (fun h2 => ?_)
  · refine z_iconst (v := 1) hc dX10_isServed_29 rfl ?_
    refine z_goto (tgt := 34) hc dX10_isServed_30 (by decide) ?_
    exact z_zret hc rfl dX10_isServed_34
  · refine z_iload_n hc dX10_isServed_10 2 rfl rfl ?_
    refine z_aload_n hc dX10_isServed_11 0 rfl rfl ?_
    refine z_getR (x := 10) hc (ci := 10) (k := 17) (by decide) (by decide) zly10 lM1 (zkM lM1) wFX10_35 rfl dX10_isServed_12 rfl (by decide) ?_
    refine z_iload_n hc dX10_isServed_15 1 rfl rfl ?_
    refine zJ.chk _ (fun h3 => ?_)
    refine z_iald (k := (ix v1)) hc lM10 (zkM lM10) h3 rfl dX10_isServed_16 ?_
    refine z_iconst (v := 1) hc dX10_isServed_17 rfl ?_
    refine z_icmp_ne (tgt := 25) hc dX10_isServed_18 (by decide) _ (fun h4 => ?_) (fun h4 => ?_)
    · refine z_iconst (v := 1) hc dX10_isServed_25 rfl ?_
      refine z_icmp_lt (tgt := 33) hc dX10_isServed_26 (by decide) _ (fun h5 => ?_) (fun h5 => ?_)
      · refine z_iconst (v := 0) hc dX10_isServed_33 rfl ?_
        exact z_zret hc rfl dX10_isServed_34
      · refine z_iconst (v := 1) hc dX10_isServed_29 rfl ?_
        refine z_goto (tgt := 34) hc dX10_isServed_30 (by decide) ?_
        exact z_zret hc rfl dX10_isServed_34
    · refine z_iconst (v := 3) hc dX10_isServed_21 rfl ?_
      refine z_goto (tgt := 26) hc dX10_isServed_22 (by decide) ?_
      refine z_icmp_lt (tgt := 33) hc dX10_isServed_26 (by decide) _ (fun h6 => ?_) (fun h6 => ?_)
      · refine z_iconst (v := 0) hc dX10_isServed_33 rfl ?_
        exact z_zret hc rfl dX10_isServed_34
      · refine z_iconst (v := 1) hc dX10_isServed_29 rfl ?_
        refine z_goto (tgt := 34) hc dX10_isServed_30 (by decide) ?_
        exact z_zret hc rfl dX10_isServed_34
set_option maxRecDepth 100000 in
set_option maxHeartbeats 4000000 in
theorem sMo_canServe : ∀ (v1 : Int32) (u : zM) r m1, Mo_canServe v1 u = some (r, m1) → zMet l (wM D b) 1 22 yX10_canServe cX10_canServe 4 (some .boolean) [.ref 1, .int v1] u (eI r) m1 := by
  intro v1 u
  refine zMet.of (L := [(0, .ref 1), (1, .int v1)]) RX10 (by decide +kernel) rfl (Nat.le_of_ble_eq_true rfl) (fun h => by cases h) rfl (fun p e s mi args below meth c R fin hc hin hRm => ?_)
  unfold Mo_canServe
  refine z_aload_n hc dX10_canServe_0 0 rfl rfl ?_
  refine z_getR (x := 40) hc (ci := 10) (k := 50) (by decide) (by decide) zly10 lM1 (zkM lM1) wFX10_126 rfl dX10_canServe_1 rfl (by decide) ?_
  refine z_bipush (v := 19) hc dX10_canServe_4 rfl ?_
  refine z_iload_n hc dX10_canServe_6 1 rfl rfl ?_
  refine z_iadd hc dX10_canServe_7 ?_
  refine zJ.chk _ (fun h1 => ?_)
  refine z_iald (k := (ix (19 + v1))) hc lM40 (zkM lM40) h1 rfl dX10_canServe_8 ?_
  refine zJ.letI (fun x1 e1 => ?_)
  refine z_istore_n (L' := [(2, .int x1), (0, .ref 1), (1, .int v1)]) hc dX10_canServe_9 rfl (by decide) rfl rfl ?_
  refine z_aload_n hc dX10_canServe_10 1 rfl rfl ?_
  refine z_getR (x := 14) hc (ci := 10) (k := 21) (by decide) (by decide) zly10 lM1 (zkM lM1) wFX10_47 rfl dX10_canServe_11 rfl (by decide) ?_
  refine z_iload_n hc dX10_canServe_14 2 rfl rfl ?_
  refine zJ.chk _ (fun h2 => ?_)
  refine z_iald (k := (ix v1)) hc lM14 (zkM lM14) h2 rfl dX10_canServe_15 ?_
  refine zJ.letI (fun x2 e2 => ?_)
  refine z_istore_n (L' := [(3, .int x2), (2, .int x1), (0, .ref 1), (1, .int v1)]) hc dX10_canServe_16 rfl (by decide) rfl rfl ?_
  refine z_aload_n hc dX10_canServe_17 2 rfl rfl ?_
  refine z_iload_n hc dX10_canServe_18 1 rfl rfl ?_
  refine z_callV (av := [.int x1]) (enc' := eI) hc rfl (sMo_isOtter x1 _) (ci := 10) (by decide) lM1 (zkM lM1) rfl wMX10_425 hpyX10_isOtter hmyX10_isOtter (rm_ok hRm (Nat.le_of_ble_eq_true rfl) (Nat.le_of_ble_eq_true rfl)) (Nat.le_of_ble_eq_true rfl) hRm.2.2 dX10_canServe_19 (fun c1 u1 f1 => ?_)
  refine z_if_eq (tgt := 74) hc dX10_canServe_22 (by decide) _ (fun h3 => ?_) (fun h3 => ?_)
  · refine z_iconst (v := 0) hc dX10_canServe_74 rfl ?_
    exact z_zret hc rfl dX10_canServe_75
  · refine z_aload_n hc dX10_canServe_25 2 rfl rfl ?_
    refine z_getR (x := 40) hc (ci := 10) (k := 50) (by decide) (by decide) zly10 lM1 (zkM lM1) wFX10_126 rfl dX10_canServe_26 rfl (by decide) ?_
    refine z_bipush (v := 13) hc dX10_canServe_29 rfl ?_
    refine z_iload_n hc dX10_canServe_31 1 rfl rfl ?_
    refine z_iadd hc dX10_canServe_32 ?_
    refine zJ.chk _ (fun h4 => ?_)
    refine z_iald (k := (ix (13 + x1))) hc lM40 (zkM lM40) h4 rfl dX10_canServe_33 ?_
    refine z_aload_n hc dX10_canServe_34 2 rfl rfl ?_
    refine z_getR (x := 40) hc (ci := 10) (k := 50) (by decide) (by decide) zly10 lM1 (zkM lM1) wFX10_126 rfl dX10_canServe_35 rfl (by decide) ?_
    refine z_bipush (v := 8) hc dX10_canServe_38 rfl ?_
    refine z_iload_n hc dX10_canServe_40 0 rfl rfl ?_
    refine z_iadd hc dX10_canServe_41 ?_
    refine zJ.chk _ (fun h5 => ?_)
    refine z_iald (k := (ix (8 + x2))) hc lM40 (zkM lM40) h5 rfl dX10_canServe_42 ?_
    refine z_icmp_ne (tgt := 74) hc dX10_canServe_43 (by decide) _ (fun h6 => ?_) (fun h6 => ?_)
    · refine z_iconst (v := 0) hc dX10_canServe_74 rfl ?_
      exact z_zret hc rfl dX10_canServe_75
    · refine z_aload_n hc dX10_canServe_46 2 rfl rfl ?_
      refine z_iload_n hc dX10_canServe_47 0 rfl rfl ?_
      refine z_aload_n hc dX10_canServe_48 2 rfl rfl ?_
      refine z_getR (x := 40) hc (ci := 10) (k := 50) (by decide) (by decide) zly10 lM1 (zkM lM1) wFX10_126 rfl dX10_canServe_49 rfl (by decide) ?_
      refine z_iconst (v := 1) hc dX10_canServe_52 rfl ?_
      refine z_aload_n hc dX10_canServe_53 2 rfl rfl ?_
      refine z_getR (x := 40) hc (ci := 10) (k := 50) (by decide) (by decide) zly10 lM1 (zkM lM1) wFX10_126 rfl dX10_canServe_54 rfl (by decide) ?_
      refine z_bipush (v := 8) hc dX10_canServe_57 rfl ?_
      refine z_iload_n hc dX10_canServe_59 0 rfl rfl ?_
      refine z_iadd hc dX10_canServe_60 ?_
      refine zJ.chk _ (fun h7 => ?_)
      refine z_iald (k := (ix (8 + x2))) hc lM40 (zkM lM40) h7 rfl dX10_canServe_61 ?_
      refine z_iadd hc dX10_canServe_62 ?_
      refine zJ.chk _ (fun h8 => ?_)
      refine z_iald (k := (ix (1 + (gI u1 40 (ix (8 + x2)))))) hc lM40 (zkM lM40) h8 rfl dX10_canServe_63 ?_
      refine z_callV (av := [.int x2, .int (gI u1 40 (ix (1 + (gI u1 40 (ix (8 + x2))))))]) (enc' := eI) hc rfl (sMo_isServed x2 (gI u1 40 (ix (1 + (gI u1 40 (ix (8 + x2)))))) _) (ci := 10) (by decide) lM1 (zkM lM1) rfl wMX10_441 hpyX10_isServed hmyX10_isServed (rm_ok hRm (Nat.le_of_ble_eq_true rfl) (Nat.le_of_ble_eq_true rfl)) (Nat.le_of_ble_eq_true rfl) hRm.2.2 dX10_canServe_64 (fun c2 u2 f2 => ?_)
      refine z_if_eq (tgt := 74) hc dX10_canServe_67 (by decide) _ (fun h9 => ?_) (fun h9 => ?_)
      · refine z_iconst (v := 0) hc dX10_canServe_74 rfl ?_
        exact z_zret hc rfl dX10_canServe_75
      · refine z_iconst (v := 1) hc dX10_canServe_70 rfl ?_
        refine z_goto (tgt := 75) hc dX10_canServe_71 (by decide) ?_
        exact z_zret hc rfl dX10_canServe_75
set_option maxRecDepth 100000 in
set_option maxHeartbeats 4000000 in
theorem sMo_take : ∀ (v1 : Int32) (v2 : Int32) (u : zM) r m1, Mo_take v1 v2 u = some (r, m1) → zMet l (wM D b) 2 45 yX10_take cX10_take 3 (some .boolean) [.ref 1, .int v1, .int v2] u (eI r) m1 := by
  intro v1 v2 u
  refine zMet.of (L := [(0, .ref 1), (1, .int v1), (2, .int v2)]) RX10 (by decide +kernel) rfl (Nat.le_of_ble_eq_true rfl) (fun h => by cases h) rfl (fun p e s mi args below meth c R fin hc hin hRm => ?_)
  unfold Mo_take
  refine z_aload_n hc dX10_take_0 0 rfl rfl ?_
  refine z_iconst (v := 0) hc dX10_take_1 rfl ?_
  refine z_putI hc (ci := 10) (k := 0) (by decide) (by decide) zly10 lM1 (zkM lM1) wFX10_162 rfl rfl rfl rfl dX10_take_2 ?_
  refine zJ.letM (fun u1 e1 => ?_)
  refine z_aload_n hc dX10_take_5 0 rfl rfl ?_
  refine z_iload_n hc dX10_take_6 1 rfl rfl ?_
  refine z_callV (av := [.int v1]) (enc' := eI) hc rfl (sMo_isOtter v1 _) (ci := 10) (by decide) lM1 (zkM lM1) rfl wMX10_425 hpyX10_isOtter hmyX10_isOtter (rm_ok hRm (Nat.le_of_ble_eq_true rfl) (Nat.le_of_ble_eq_true rfl)) (Nat.le_of_ble_eq_true rfl) hRm.2.2 dX10_take_7 (fun c1 u2 f1 => ?_)
  refine z_if_eq (tgt := 30) hc dX10_take_10 (by decide) _ (fun h1 => ?_) (fun h1 => ?_)
  · refine z_iconst (v := 0) hc dX10_take_30 rfl ?_
    exact z_zret hc rfl dX10_take_31
  · refine z_aload_n hc dX10_take_13 0 rfl rfl ?_
    refine z_iload_n hc dX10_take_14 2 rfl rfl ?_
    refine z_callV (av := [.int v2]) (enc' := eI) hc rfl (sMo_isWrit v2 _) (ci := 10) (by decide) lM1 (zkM lM1) rfl wMX10_431 hpyX10_isWrit hmyX10_isWrit (rm_ok hRm (Nat.le_of_ble_eq_true rfl) (Nat.le_of_ble_eq_true rfl)) (Nat.le_of_ble_eq_true rfl) hRm.2.2 dX10_take_15 (fun c2 u3 f2 => ?_)
    refine z_if_eq (tgt := 30) hc dX10_take_18 (by decide) _ (fun h2 => ?_) (fun h2 => ?_)
    · refine z_iconst (v := 0) hc dX10_take_30 rfl ?_
      exact z_zret hc rfl dX10_take_31
    · refine z_aload_n hc dX10_take_21 0 rfl rfl ?_
      refine z_iload_n hc dX10_take_22 1 rfl rfl ?_
      refine z_iload_n hc dX10_take_23 2 rfl rfl ?_
      refine z_callV (av := [.int v1, .int v2]) (enc' := eI) hc rfl (sMo_canTake v1 v2 _) (ci := 10) (by decide) lM1 (zkM lM1) rfl wMX10_444 hpyX10_canTake hmyX10_canTake (rm_ok hRm (Nat.le_of_ble_eq_true rfl) (Nat.le_of_ble_eq_true rfl)) (Nat.le_of_ble_eq_true rfl) hRm.2.2 dX10_take_24 (fun c3 u4 f3 => ?_)
      refine z_if_ne (tgt := 32) hc dX10_take_27 (by decide) _ (fun h3 => ?_) (fun h3 => ?_)
      · refine z_aload_n hc dX10_take_32 0 rfl rfl ?_
        refine z_callV (av := []) (enc' := eV) hc rfl (sMo_keeps _) (ci := 10) (by decide) lM1 (zkM lM1) rfl wMX10_447 hpyX10_keeps hmyX10_keeps (rm_ok hRm (Nat.le_of_ble_eq_true rfl) (Nat.le_of_ble_eq_true rfl)) (Nat.le_of_ble_eq_true rfl) hRm.2.2 dX10_take_33 (fun c4 u5 f4 => ?_)
        refine z_aload_n hc dX10_take_36 0 rfl rfl ?_
        refine z_getR (x := 40) hc (ci := 10) (k := 50) (by decide) (by decide) zly10 lM1 (zkM lM1) wFX10_126 rfl dX10_take_37 rfl (by decide) ?_
        refine z_bipush (v := 19) hc dX10_take_40 rfl ?_
        refine z_iload_n hc dX10_take_42 2 rfl rfl ?_
        refine z_iadd hc dX10_take_43 ?_
        refine z_iload_n hc dX10_take_44 1 rfl rfl ?_
        refine zJ.chk _ (fun h4 => ?_)
        refine z_iast (k := (ix (19 + v2))) hc lM40 (zkM lM40) h4 rfl dX10_take_45 ?_
        refine zJ.letM (fun u6 e2 => ?_)
        refine z_iconst (v := 1) hc dX10_take_46 rfl ?_
        exact z_zret hc rfl dX10_take_47
      · refine z_iconst (v := 0) hc dX10_take_30 rfl ?_
        exact z_zret hc rfl dX10_take_31
set_option maxRecDepth 100000 in
set_option maxHeartbeats 4000000 in
theorem sMo_swims : ∀ (v1 : Int32) (v2 : Int32) (u : zM) r m1, Mo_swims v1 v2 u = some (r, m1) → zMet l (wM D b) 0 0 yX10_swims cX10_swims 3 none [.ref 1, .int v1, .int v2] u (eV r) m1 := by
  intro v1 v2 u
  refine zMet.of (L := [(0, .ref 1), (1, .int v1), (2, .int v2)]) RX10 (by decide +kernel) rfl (Nat.le_of_ble_eq_true rfl) (fun h => by cases h) rfl (fun p e s mi args below meth c R fin hc hin hRm => ?_)
  unfold Mo_swims
  refine z_aload_n hc dX10_swims_0 0 rfl rfl ?_
  refine z_getR (x := 40) hc (ci := 10) (k := 50) (by decide) (by decide) zly10 lM1 (zkM lM1) wFX10_126 rfl dX10_swims_1 rfl (by decide) ?_
  refine z_bipush (v := 13) hc dX10_swims_4 rfl ?_
  refine z_iload_n hc dX10_swims_6 1 rfl rfl ?_
  refine z_iadd hc dX10_swims_7 ?_
  refine z_iload_n hc dX10_swims_8 2 rfl rfl ?_
  refine zJ.chk _ (fun h1 => ?_)
  refine z_iast (k := (ix (13 + v1))) hc lM40 (zkM lM40) h1 rfl dX10_swims_9 ?_
  refine zJ.letM (fun u1 e1 => ?_)
  refine z_aload_n hc dX10_swims_10 0 rfl rfl ?_
  refine z_getR (x := 40) hc (ci := 10) (k := 50) (by decide) (by decide) zly10 lM1 (zkM lM1) wFX10_126 rfl dX10_swims_11 rfl (by decide) ?_
  refine z_bipush (v := 16) hc dX10_swims_14 rfl ?_
  refine z_iload_n hc dX10_swims_16 1 rfl rfl ?_
  refine z_iadd hc dX10_swims_17 ?_
  refine z_dup2 hc dX10_swims_18 rfl rfl ?_
  refine zJ.chk _ (fun h2 => ?_)
  refine z_iald (k := (ix (16 + v1))) hc lM40 (zkM lM40) h2 rfl dX10_swims_19 ?_
  refine z_iconst (v := 1) hc dX10_swims_20 rfl ?_
  refine z_iadd hc dX10_swims_21 ?_
  refine zJ.chk _ (fun h3 => ?_)
  refine z_iast (k := (ix (16 + v1))) hc lM40 (zkM lM40) h3 rfl dX10_swims_22 ?_
  refine zJ.letM (fun u2 e2 => ?_)
  exact z_vret hc dX10_swims_23
set_option maxRecDepth 100000 in
set_option maxHeartbeats 4000000 in
theorem sMo_swim : ∀ (v1 : Int32) (v2 : Int32) (u : zM) r m1, Mo_swim v1 v2 u = some (r, m1) → zMet l (wM D b) 2 45 yX10_swim cX10_swim 3 (some .int) [.ref 1, .int v1, .int v2] u (eI r) m1 := by
  intro v1 v2 u
  refine zMet.of (L := [(0, .ref 1), (1, .int v1), (2, .int v2)]) RX10 (by decide +kernel) rfl (Nat.le_of_ble_eq_true rfl) (fun h => by cases h) rfl (fun p e s mi args below meth c R fin hc hin hRm => ?_)
  unfold Mo_swim
  refine z_aload_n hc dX10_swim_0 0 rfl rfl ?_
  refine z_iconst (v := 0) hc dX10_swim_1 rfl ?_
  refine z_putI hc (ci := 10) (k := 0) (by decide) (by decide) zly10 lM1 (zkM lM1) wFX10_162 rfl rfl rfl rfl dX10_swim_2 ?_
  refine zJ.letM (fun u1 e1 => ?_)
  refine z_aload_n hc dX10_swim_5 0 rfl rfl ?_
  refine z_iload_n hc dX10_swim_6 1 rfl rfl ?_
  refine z_callV (av := [.int v1]) (enc' := eI) hc rfl (sMo_isOtter v1 _) (ci := 10) (by decide) lM1 (zkM lM1) rfl wMX10_425 hpyX10_isOtter hmyX10_isOtter (rm_ok hRm (Nat.le_of_ble_eq_true rfl) (Nat.le_of_ble_eq_true rfl)) (Nat.le_of_ble_eq_true rfl) hRm.2.2 dX10_swim_7 (fun c1 u2 f1 => ?_)
  refine z_if_eq (tgt := 33) hc dX10_swim_10 (by decide) _ (fun h1 => ?_) (fun h1 => ?_)
  · refine z_iconst (v := (-1)) hc dX10_swim_33 rfl ?_
    exact z_iret hc dX10_swim_34
  · refine z_aload_n hc dX10_swim_13 0 rfl rfl ?_
    refine z_iload_n hc dX10_swim_14 2 rfl rfl ?_
    refine z_callV (av := [.int v2]) (enc' := eI) hc rfl (sMo_isPlace v2 _) (ci := 10) (by decide) lM1 (zkM lM1) rfl wMX10_416 hpyX10_isPlace hmyX10_isPlace (rm_ok hRm (Nat.le_of_ble_eq_true rfl) (Nat.le_of_ble_eq_true rfl)) (Nat.le_of_ble_eq_true rfl) hRm.2.2 dX10_swim_15 (fun c2 u3 f2 => ?_)
    refine z_if_eq (tgt := 33) hc dX10_swim_18 (by decide) _ (fun h2 => ?_) (fun h2 => ?_)
    · refine z_iconst (v := (-1)) hc dX10_swim_33 rfl ?_
      exact z_iret hc dX10_swim_34
    · refine z_aload_n hc dX10_swim_21 0 rfl rfl ?_
      refine z_iload_n hc dX10_swim_22 1 rfl rfl ?_
      refine z_callV (av := [.int v1]) (enc' := eI) hc rfl (sMo_canSwim v1 _) (ci := 10) (by decide) lM1 (zkM lM1) rfl wMX10_450 hpyX10_canSwim hmyX10_canSwim (rm_ok hRm (Nat.le_of_ble_eq_true rfl) (Nat.le_of_ble_eq_true rfl)) (Nat.le_of_ble_eq_true rfl) hRm.2.2 dX10_swim_23 (fun c3 u4 f3 => ?_)
      refine z_iload_n hc dX10_swim_26 2 rfl rfl ?_
      refine z_ishr hc dX10_swim_27 ?_
      refine z_iconst (v := 1) hc dX10_swim_28 rfl ?_
      refine z_iand hc dX10_swim_29 ?_
      refine z_if_ne (tgt := 35) hc dX10_swim_30 (by decide) _ (fun h3 => ?_) (fun h3 => ?_)
      · refine z_aload_n hc dX10_swim_35 0 rfl rfl ?_
        refine z_callV (av := []) (enc' := eV) hc rfl (sMo_keeps _) (ci := 10) (by decide) lM1 (zkM lM1) rfl wMX10_447 hpyX10_keeps hmyX10_keeps (rm_ok hRm (Nat.le_of_ble_eq_true rfl) (Nat.le_of_ble_eq_true rfl)) (Nat.le_of_ble_eq_true rfl) hRm.2.2 dX10_swim_36 (fun c4 u5 f4 => ?_)
        refine z_aload_n hc dX10_swim_39 0 rfl rfl ?_
        refine z_iload_n hc dX10_swim_40 1 rfl rfl ?_
        refine z_iload_n hc dX10_swim_41 2 rfl rfl ?_
        refine z_callV (av := [.int v1, .int v2]) (enc' := eV) hc rfl (sMo_swims v1 v2 _) (ci := 10) (by decide) lM1 (zkM lM1) rfl wMX10_453 hpyX10_swims hmyX10_swims (rm_ok hRm (Nat.le_of_ble_eq_true rfl) (Nat.le_of_ble_eq_true rfl)) (Nat.le_of_ble_eq_true rfl) hRm.2.2 dX10_swim_42 (fun c5 u6 f5 => ?_)
        refine z_aload_n hc dX10_swim_45 0 rfl rfl ?_
        refine z_getR (x := 40) hc (ci := 10) (k := 50) (by decide) (by decide) zly10 lM1 (zkM lM1) wFX10_126 rfl dX10_swim_46 rfl (by decide) ?_
        refine z_bipush (v := 16) hc dX10_swim_49 rfl ?_
        refine z_iload_n hc dX10_swim_51 1 rfl rfl ?_
        refine z_iadd hc dX10_swim_52 ?_
        refine zJ.chk _ (fun h4 => ?_)
        refine z_iald (k := (ix (16 + v1))) hc lM40 (zkM lM40) h4 rfl dX10_swim_53 ?_
        exact z_iret hc dX10_swim_54
      · refine z_iconst (v := (-1)) hc dX10_swim_33 rfl ?_
        exact z_iret hc dX10_swim_34
set_option maxRecDepth 100000 in
set_option maxHeartbeats 4000000 in
theorem sMo_serve : ∀ (v1 : Int32) (u : zM) r m1, Mo_serve v1 u = some (r, m1) → zMet l (wM D b) 2 45 yX10_serve cX10_serve 3 (some .int) [.ref 1, .int v1] u (eI r) m1 := by
  intro v1 u
  refine zMet.of (L := [(0, .ref 1), (1, .int v1)]) RX10 (by decide +kernel) rfl (Nat.le_of_ble_eq_true rfl) (fun h => by cases h) rfl (fun p e s mi args below meth c R fin hc hin hRm => ?_)
  unfold Mo_serve
  refine z_aload_n hc dX10_serve_0 0 rfl rfl ?_
  refine z_iconst (v := 0) hc dX10_serve_1 rfl ?_
  refine z_putI hc (ci := 10) (k := 0) (by decide) (by decide) zly10 lM1 (zkM lM1) wFX10_162 rfl rfl rfl rfl dX10_serve_2 ?_
  refine zJ.letM (fun u1 e1 => ?_)
  refine z_aload_n hc dX10_serve_5 0 rfl rfl ?_
  refine z_iload_n hc dX10_serve_6 1 rfl rfl ?_
  refine z_callV (av := [.int v1]) (enc' := eI) hc rfl (sMo_isWrit v1 _) (ci := 10) (by decide) lM1 (zkM lM1) rfl wMX10_431 hpyX10_isWrit hmyX10_isWrit (rm_ok hRm (Nat.le_of_ble_eq_true rfl) (Nat.le_of_ble_eq_true rfl)) (Nat.le_of_ble_eq_true rfl) hRm.2.2 dX10_serve_7 (fun c1 u2 f1 => ?_)
  refine z_if_eq (tgt := 21) hc dX10_serve_10 (by decide) _ (fun h1 => ?_) (fun h1 => ?_)
  · refine z_iconst (v := (-1)) hc dX10_serve_21 rfl ?_
    exact z_iret hc dX10_serve_22
  · refine z_aload_n hc dX10_serve_13 0 rfl rfl ?_
    refine z_iload_n hc dX10_serve_14 1 rfl rfl ?_
    refine z_callV (av := [.int v1]) (enc' := eI) hc rfl (sMo_canServe v1 _) (ci := 10) (by decide) lM1 (zkM lM1) rfl wMX10_456 hpyX10_canServe hmyX10_canServe (rm_ok hRm (Nat.le_of_ble_eq_true rfl) (Nat.le_of_ble_eq_true rfl)) (Nat.le_of_ble_eq_true rfl) hRm.2.2 dX10_serve_15 (fun c2 u3 f2 => ?_)
    refine z_if_ne (tgt := 23) hc dX10_serve_18 (by decide) _ (fun h2 => ?_) (fun h2 => ?_)
    · refine z_aload_n hc dX10_serve_23 0 rfl rfl ?_
      refine z_callV (av := []) (enc' := eV) hc rfl (sMo_keeps _) (ci := 10) (by decide) lM1 (zkM lM1) rfl wMX10_447 hpyX10_keeps hmyX10_keeps (rm_ok hRm (Nat.le_of_ble_eq_true rfl) (Nat.le_of_ble_eq_true rfl)) (Nat.le_of_ble_eq_true rfl) hRm.2.2 dX10_serve_24 (fun c3 u4 f3 => ?_)
      refine z_aload_n hc dX10_serve_27 0 rfl rfl ?_
      refine z_getR (x := 40) hc (ci := 10) (k := 50) (by decide) (by decide) zly10 lM1 (zkM lM1) wFX10_126 rfl dX10_serve_28 rfl (by decide) ?_
      refine z_bipush (v := 19) hc dX10_serve_31 rfl ?_
      refine z_iload_n hc dX10_serve_33 1 rfl rfl ?_
      refine z_iadd hc dX10_serve_34 ?_
      refine zJ.chk _ (fun h3 => ?_)
      refine z_iald (k := (ix (19 + v1))) hc lM40 (zkM lM40) h3 rfl dX10_serve_35 ?_
      refine zJ.letI (fun x1 e2 => ?_)
      refine z_istore_n (L' := [(2, .int x1), (0, .ref 1), (1, .int v1)]) hc dX10_serve_36 rfl (by decide) rfl rfl ?_
      refine z_aload_n hc dX10_serve_37 1 rfl rfl ?_
      refine z_getR (x := 40) hc (ci := 10) (k := 50) (by decide) (by decide) zly10 lM1 (zkM lM1) wFX10_126 rfl dX10_serve_38 rfl (by decide) ?_
      refine z_bipush (v := 19) hc dX10_serve_41 rfl ?_
      refine z_iload_n hc dX10_serve_43 2 rfl rfl ?_
      refine z_iadd hc dX10_serve_44 ?_
      refine z_iconst (v := 3) hc dX10_serve_45 rfl ?_
      refine zJ.chk _ (fun h4 => ?_)
      refine z_iast (k := (ix (19 + v1))) hc lM40 (zkM lM40) h4 rfl dX10_serve_46 ?_
      refine zJ.letM (fun u5 e3 => ?_)
      refine z_iload_n hc dX10_serve_47 0 rfl rfl ?_
      exact z_iret hc dX10_serve_48
    · refine z_iconst (v := (-1)) hc dX10_serve_21 rfl ?_
      exact z_iret hc dX10_serve_22
set_option maxRecDepth 100000 in
set_option maxHeartbeats 4000000 in
theorem sMo_day : ∀ (u : zM) r m1, Mo_day u = some (r, m1) → zMet l (wM D b) 6 133 yX10_day cX10_day 1 (some .int) [.ref 1] u (eI r) m1 := by
  intro u
  refine zMet.of (L := [(0, .ref 1)]) RX10 (by decide +kernel) rfl (Nat.le_of_ble_eq_true rfl) (fun h => by cases h) rfl (fun p e s mi args below meth c R fin hc hin hRm => ?_)
  unfold Mo_day
  refine z_aload_n hc dX10_day_0 0 rfl rfl ?_
  refine z_iconst (v := 0) hc dX10_day_1 rfl ?_
  refine z_putI hc (ci := 10) (k := 0) (by decide) (by decide) zly10 lM1 (zkM lM1) wFX10_162 rfl rfl rfl rfl dX10_day_2 ?_
  refine zJ.letM (fun u1 e1 => ?_)
  refine z_aload_n hc dX10_day_5 0 rfl rfl ?_
  refine z_callV (av := []) (enc' := eV) hc rfl (sMo_keeps _) (ci := 10) (by decide) lM1 (zkM lM1) rfl wMX10_447 hpyX10_keeps hmyX10_keeps (rm_ok hRm (Nat.le_of_ble_eq_true rfl) (Nat.le_of_ble_eq_true rfl)) (Nat.le_of_ble_eq_true rfl) hRm.2.2 dX10_day_6 (fun c1 u2 f1 => ?_)
  refine z_aload_n hc dX10_day_9 0 rfl rfl ?_
  refine z_callV (av := []) (enc' := eV) hc rfl (sMo_passesAsTold _) (ci := 10) (by decide) lM1 (zkM lM1) rfl wMX10_459 hpyX10_passesAsTold hmyX10_passesAsTold (rm_ok hRm (Nat.le_of_ble_eq_true rfl) (Nat.le_of_ble_eq_true rfl)) (Nat.le_of_ble_eq_true rfl) hRm.2.2 dX10_day_10 (fun c2 u3 f2 => ?_)
  refine z_aload_n hc dX10_day_13 0 rfl rfl ?_
  refine z_callV (av := []) (enc' := eI) hc rfl (sMo_wets _) (ci := 10) (by decide) lM1 (zkM lM1) rfl wMX10_438 hpyX10_wets hmyX10_wets (rm_ok hRm (Nat.le_of_ble_eq_true rfl) (Nat.le_of_ble_eq_true rfl)) (Nat.le_of_ble_eq_true rfl) hRm.2.2 dX10_day_14 (fun c3 u4 f3 => ?_)
  exact z_iret hc dX10_day_17
set_option maxRecDepth 100000 in
set_option maxHeartbeats 4000000 in
theorem sMo_undo : ∀ (u : zM) r m1, Mo_undo u = some (r, m1) → zMet l (wM D b) 1 24 yX10_undo cX10_undo 1 (some .boolean) [.ref 1] u (eI r) m1 := by
  intro u
  refine zMet.of (L := [(0, .ref 1)]) RX10 (by decide +kernel) rfl (Nat.le_of_ble_eq_true rfl) (fun h => by cases h) rfl (fun p e s mi args below meth c R fin hc hin hRm => ?_)
  unfold Mo_undo
  refine z_aload_n hc dX10_undo_0 0 rfl rfl ?_
  refine z_iconst (v := 0) hc dX10_undo_1 rfl ?_
  refine z_putI hc (ci := 10) (k := 0) (by decide) (by decide) zly10 lM1 (zkM lM1) wFX10_162 rfl rfl rfl rfl dX10_undo_2 ?_
  refine zJ.letM (fun u1 e1 => ?_)
  refine z_aload_n hc dX10_undo_5 0 rfl rfl ?_
  refine z_getI hc (ci := 10) (k := 56) (by decide) (by decide) zly10 lM1 (zkM lM1) wFX10_383 rfl dX10_undo_6 ?_
  refine z_if_ne (tgt := 14) hc dX10_undo_9 (by decide) _ (fun h1 => ?_) (fun h1 => ?_)
  · refine z_aload_n hc dX10_undo_14 0 rfl rfl ?_
    refine z_dup hc dX10_undo_15 rfl ?_
    refine z_getI hc (ci := 10) (k := 56) (by decide) (by decide) zly10 lM1 (zkM lM1) wFX10_383 rfl dX10_undo_16 ?_
    refine z_iconst (v := 1) hc dX10_undo_19 rfl ?_
    refine z_isub hc dX10_undo_20 ?_
    refine z_putI hc (ci := 10) (k := 56) (by decide) (by decide) zly10 lM1 (zkM lM1) wFX10_383 rfl rfl rfl rfl dX10_undo_21 ?_
    refine zJ.letM (fun u2 e2 => ?_)
    refine z_aload_n hc dX10_undo_24 0 rfl rfl ?_
    refine z_getR (x := 44) hc (ci := 10) (k := 54) (by decide) (by decide) zly10 lM1 (zkM lM1) wFX10_138 rfl dX10_undo_25 rfl (by decide) ?_
    refine z_bipush (v := 25) hc dX10_undo_28 rfl ?_
    refine z_aload_n hc dX10_undo_30 0 rfl rfl ?_
    refine z_getI hc (ci := 10) (k := 56) (by decide) (by decide) zly10 lM1 (zkM lM1) wFX10_383 rfl dX10_undo_31 ?_
    refine z_imul hc dX10_undo_34 ?_
    refine z_aload_n hc dX10_undo_35 0 rfl rfl ?_
    refine z_getR (x := 40) hc (ci := 10) (k := 50) (by decide) (by decide) zly10 lM1 (zkM lM1) wFX10_126 rfl dX10_undo_36 rfl (by decide) ?_
    refine z_iconst (v := 0) hc dX10_undo_39 rfl ?_
    refine z_callS (av := [.ref 44, .int (25 * (gI u2 1 56)), .ref 40, .int 0]) (enc' := eV) hc rfl (sMo_copies 44 (25 * (gI u2 1 56)) 40 0 _) wMX10_434 hpyX10_copies hmyX10_copies (rm_ok hRm (Nat.le_of_ble_eq_true rfl) (Nat.le_of_ble_eq_true rfl)) (Nat.le_of_ble_eq_true rfl) hRm.2.2 dX10_undo_40 (fun c1 u3 f1 => ?_)
    refine z_iconst (v := 1) hc dX10_undo_43 rfl ?_
    exact z_zret hc rfl dX10_undo_44
  · refine z_iconst (v := 0) hc dX10_undo_12 rfl ?_
    exact z_zret hc rfl dX10_undo_13
set_option maxRecDepth 100000 in
set_option maxHeartbeats 4000000 in
theorem sMo_judged_216 {fin : Int32 × zM} (hc : zCx p s mi args meth c (wM D b) m0 RX10 cX10_judged 8 (some .int)) (hRm : R.frames = 6 ∧ R.locals = 133 ∧ R.cells = zc (wM D b) m0 fin.2 ∧ R.slots = zs (wM D b) m0 fin.2) {zr41 : Int32 → Int32 → Int32 → Int32 → zM → Option (Int32 × zM)} (hr41 : ∀ (v1 : Int32) (v2 : Int32) (v3 : Int32) (v4 : Int32) (u : zM), zJ eI p l e R s mi args below meth c (wM D b) m0 8 fin 41 [(0, .ref 1), (1, .int v1), (2, .int v2), (3, .int v3), (4, .int v4)] [] u (zr41 v1 v2 v3 v4 u)) (v1 : Int32) (v2 : Int32) (v3 : Int32) (v4 : Int32) (v7 : Int32) (u : zM) : zJ eI p l e R s mi args below meth c (wM D b) m0 8 fin 216 [(0, .ref 1), (1, .int v1), (2, .int v2), (3, .int v3), (4, .int v4), (7, .int v7)] [] u (Mo_judged_216 zr41 v1 v2 v3 v4 v7 u) := by
  unfold Mo_judged_216
  refine z_iload hc dX10_judged_216 5 rfl ?_
  refine z_if_ne (tgt := 228) hc dX10_judged_218 (by decide) _ (fun h1 => ?_) (fun h1 => ?_)
  · refine z_iinc (L' := [(4, .int (v4 + 1)), (0, .ref 1), (1, .int v1), (2, .int v2), (3, .int v3), (7, .int v7)]) hc dX10_judged_228 4 rfl (v := (v4 + 1)) rfl (by decide) rfl rfl ?_
    refine z_goto (tgt := 41) hc dX10_judged_231 (by decide) ?_
    refine zJ.sub (L' := [(0, .ref 1), (1, .int v1), (2, .int v2), (3, .int v3), (4, .int (v4 + 1))]) [1, 2, 3, 4, 0] rfl ?_
    exact hr41 v1 v2 v3 (v4 + 1) _
  · refine z_iload_n hc dX10_judged_221 2 rfl rfl ?_
    refine z_if_ge (tgt := 228) hc dX10_judged_222 (by decide) _ (fun h2 => ?_) (fun h2 => ?_)
    · refine z_iinc (L' := [(4, .int (v4 + 1)), (0, .ref 1), (1, .int v1), (2, .int v2), (3, .int v3), (7, .int v7)]) hc dX10_judged_228 4 rfl (v := (v4 + 1)) rfl (by decide) rfl rfl ?_
      refine z_goto (tgt := 41) hc dX10_judged_231 (by decide) ?_
      refine zJ.sub (L' := [(0, .ref 1), (1, .int v1), (2, .int v2), (3, .int v3), (4, .int (v4 + 1))]) [1, 2, 3, 4, 0] rfl ?_
      exact hr41 v1 v2 v3 (v4 + 1) _
    · refine z_iload hc dX10_judged_225 4 rfl ?_
      refine z_istore_n (L' := [(2, .int v4), (0, .ref 1), (1, .int v1), (3, .int v3), (4, .int v4), (7, .int v7)]) hc dX10_judged_227 rfl (by decide) rfl rfl ?_
      refine z_iinc (L' := [(4, .int (v4 + 1)), (2, .int v4), (0, .ref 1), (1, .int v1), (3, .int v3), (7, .int v7)]) hc dX10_judged_228 4 rfl (v := (v4 + 1)) rfl (by decide) rfl rfl ?_
      refine z_goto (tgt := 41) hc dX10_judged_231 (by decide) ?_
      refine zJ.sub (L' := [(0, .ref 1), (1, .int v1), (2, .int v4), (3, .int v3), (4, .int (v4 + 1))]) [2, 3, 1, 4, 0] rfl ?_
      exact hr41 v1 v4 v3 (v4 + 1) _
set_option maxRecDepth 100000 in
set_option maxHeartbeats 4000000 in
theorem sMo_judged_162 {fin : Int32 × zM} (hc : zCx p s mi args meth c (wM D b) m0 RX10 cX10_judged 8 (some .int)) (hRm : R.frames = 6 ∧ R.locals = 133 ∧ R.cells = zc (wM D b) m0 fin.2 ∧ R.slots = zs (wM D b) m0 fin.2) {zr41 : Int32 → Int32 → Int32 → Int32 → zM → Option (Int32 × zM)} (hr41 : ∀ (v1 : Int32) (v2 : Int32) (v3 : Int32) (v4 : Int32) (u : zM), zJ eI p l e R s mi args below meth c (wM D b) m0 8 fin 41 [(0, .ref 1), (1, .int v1), (2, .int v2), (3, .int v3), (4, .int v4)] [] u (zr41 v1 v2 v3 v4 u)) (v1 : Int32) (v2 : Int32) (v3 : Int32) (v4 : Int32) (v5 : Int32) (v6 : Int32) (s0 : Int32) (u : zM) : zJ eI p l e R s mi args below meth c (wM D b) m0 8 fin 162 [(0, .ref 1), (1, .int v1), (2, .int v2), (3, .int v3), (4, .int v4), (5, .int v5), (6, .int v6)] [.int s0] u (Mo_judged_162 zr41 v1 v2 v3 v4 v5 v6 s0 u) := by
  unfold Mo_judged_162
  refine z_istore (L' := [(7, .int s0), (0, .ref 1), (1, .int v1), (2, .int v2), (3, .int v3), (4, .int v4), (5, .int v5), (6, .int v6)]) hc dX10_judged_162 (by decide) rfl rfl ?_
  refine z_iload hc dX10_judged_164 0 rfl ?_
  refine z_if_eq (tgt := 216) hc dX10_judged_166 (by decide) _ (fun h1 => ?_) (fun h1 => ?_)
  · refine zJ.sub (L' := [(0, .ref 1), (1, .int v1), (2, .int v2), (3, .int v3), (4, .int v4), (7, .int s0)]) [1, 2, 3, 4, 5, 0] rfl ?_
    exact sMo_judged_216 hc hRm hr41 v1 v2 v3 v4 s0 _
  · refine z_aload_n hc dX10_judged_169 1 rfl rfl ?_
    refine z_iload hc dX10_judged_170 6 rfl ?_
    refine z_iload hc dX10_judged_172 7 rfl ?_
    refine z_callV (av := [.int v5, .int v6]) (enc' := eV) hc rfl (sMo_swims v5 v6 _) (ci := 10) (by decide) lM1 (zkM lM1) rfl wMX10_453 hpyX10_swims hmyX10_swims (rm_ok hRm (Nat.le_of_ble_eq_true rfl) (Nat.le_of_ble_eq_true rfl)) (Nat.le_of_ble_eq_true rfl) hRm.2.2 dX10_judged_174 (fun c1 u1 f1 => ?_)
    refine z_goto (tgt := 216) hc dX10_judged_177 (by decide) ?_
    refine zJ.sub (L' := [(0, .ref 1), (1, .int v1), (2, .int v2), (3, .int v3), (4, .int v4), (7, .int s0)]) [1, 2, 3, 4, 5, 0] rfl ?_
    exact sMo_judged_216 hc hRm hr41 v1 v2 v3 v4 s0 _
set_option maxRecDepth 100000 in
set_option maxHeartbeats 4000000 in
theorem sMo_judged_204 {fin : Int32 × zM} (hc : zCx p s mi args meth c (wM D b) m0 RX10 cX10_judged 8 (some .int)) (hRm : R.frames = 6 ∧ R.locals = 133 ∧ R.cells = zc (wM D b) m0 fin.2 ∧ R.slots = zs (wM D b) m0 fin.2) {zr41 : Int32 → Int32 → Int32 → Int32 → zM → Option (Int32 × zM)} (hr41 : ∀ (v1 : Int32) (v2 : Int32) (v3 : Int32) (v4 : Int32) (u : zM), zJ eI p l e R s mi args below meth c (wM D b) m0 8 fin 41 [(0, .ref 1), (1, .int v1), (2, .int v2), (3, .int v3), (4, .int v4)] [] u (zr41 v1 v2 v3 v4 u)) (v1 : Int32) (v2 : Int32) (v3 : Int32) (v4 : Int32) (v7 : Int32) (u : zM) : zJ eI p l e R s mi args below meth c (wM D b) m0 8 fin 204 [(0, .ref 1), (1, .int v1), (2, .int v2), (3, .int v3), (4, .int v4), (7, .int v7)] [] u (Mo_judged_204 zr41 v1 v2 v3 v4 v7 u) := by
  unfold Mo_judged_204
  refine z_iload hc dX10_judged_204 5 rfl ?_
  refine z_if_eq (tgt := 216) hc dX10_judged_206 (by decide) _ (fun h1 => ?_) (fun h1 => ?_)
  · exact sMo_judged_216 hc hRm hr41 v1 v2 v3 v4 v7 _
  · refine z_iload_n hc dX10_judged_209 3 rfl rfl ?_
    refine z_if_ge (tgt := 216) hc dX10_judged_210 (by decide) _ (fun h2 => ?_) (fun h2 => ?_)
    · exact sMo_judged_216 hc hRm hr41 v1 v2 v3 v4 v7 _
    · refine z_iload hc dX10_judged_213 4 rfl ?_
      refine z_istore_n (L' := [(3, .int v4), (0, .ref 1), (1, .int v1), (2, .int v2), (4, .int v4), (7, .int v7)]) hc dX10_judged_215 rfl (by decide) rfl rfl ?_
      refine zJ.sub (L' := [(0, .ref 1), (1, .int v1), (2, .int v2), (3, .int v4), (4, .int v4), (7, .int v7)]) [1, 2, 3, 0, 4, 5] rfl ?_
      exact sMo_judged_216 hc hRm hr41 v1 v2 v4 v4 v7 _
set_option maxRecDepth 100000 in
set_option maxHeartbeats 4000000 in
theorem sMo_judged_41b {fin : Int32 × zM} (hc : zCx p s mi args meth c (wM D b) m0 RX10 cX10_judged 8 (some .int)) (hRm : R.frames = 6 ∧ R.locals = 133 ∧ R.cells = zc (wM D b) m0 fin.2 ∧ R.slots = zs (wM D b) m0 fin.2) {zr41 : Int32 → Int32 → Int32 → Int32 → zM → Option (Int32 × zM)} (hr41 : ∀ (v1 : Int32) (v2 : Int32) (v3 : Int32) (v4 : Int32) (u : zM), zJ eI p l e R s mi args below meth c (wM D b) m0 8 fin 41 [(0, .ref 1), (1, .int v1), (2, .int v2), (3, .int v3), (4, .int v4)] [] u (zr41 v1 v2 v3 v4 u)) (v1 : Int32) (v2 : Int32) (v3 : Int32) (v4 : Int32) (u : zM) : zJ eI p l e R s mi args below meth c (wM D b) m0 8 fin 41 [(0, .ref 1), (1, .int v1), (2, .int v2), (3, .int v3), (4, .int v4)] [] u (Mo_judged_41b zr41 v1 v2 v3 v4 u) := by
  unfold Mo_judged_41b
  refine z_iload hc dX10_judged_41 4 rfl ?_
  refine z_aload_n hc dX10_judged_43 0 rfl rfl ?_
  refine z_getR (x := 32) hc (ci := 10) (k := 42) (by decide) (by decide) zly10 lM1 (zkM lM1) wFX10_102 rfl dX10_judged_44 rfl (by decide) ?_
  refine z_iconst (v := 0) hc dX10_judged_47 rfl ?_
  refine z_iald (k := 0) hc lM32 (zkM lM32) rfl rfl dX10_judged_48 ?_
  refine z_icmp_ge (tgt := 234) hc dX10_judged_49 (by decide) _ (fun h1 => ?_) (fun h1 => ?_)
  · refine z_aload_n hc dX10_judged_234 0 rfl rfl ?_
    refine z_iconst (v := 3) hc dX10_judged_235 rfl ?_
    refine z_callV (av := [.int 3]) (enc' := eI) hc rfl (sMo_writsOf 3 _) (ci := 10) (by decide) lM1 (zkM lM1) rfl wMX10_428 hpyX10_writsOf hmyX10_writsOf (rm_ok hRm (Nat.le_of_ble_eq_true rfl) (Nat.le_of_ble_eq_true rfl)) (Nat.le_of_ble_eq_true rfl) hRm.2.2 dX10_judged_236 (fun c1 u1 f1 => ?_)
    refine z_callS (av := [.int c1]) (enc' := eI) hc rfl (sMo_bits c1 _) wMX10_393 hpyX10_bits hmyX10_bits (rm_ok hRm (Nat.le_of_ble_eq_true rfl) (Nat.le_of_ble_eq_true rfl)) (Nat.le_of_ble_eq_true rfl) hRm.2.2 dX10_judged_239 (fun c2 u2 f2 => ?_)
    refine z_istore (L' := [(4, .int c2), (0, .ref 1), (1, .int v1), (2, .int v2), (3, .int v3)]) hc dX10_judged_242 (by decide) rfl rfl ?_
    refine z_aload_n hc dX10_judged_244 1 rfl rfl ?_
    refine z_getR (x := 41) hc (ci := 10) (k := 51) (by decide) (by decide) zly10 lM1 (zkM lM1) wFX10_129 rfl dX10_judged_245 rfl (by decide) ?_
    refine z_iconst (v := 0) hc dX10_judged_248 rfl ?_
    refine z_aload_n hc dX10_judged_249 1 rfl rfl ?_
    refine z_getR (x := 40) hc (ci := 10) (k := 50) (by decide) (by decide) zly10 lM1 (zkM lM1) wFX10_126 rfl dX10_judged_250 rfl (by decide) ?_
    refine z_iconst (v := 0) hc dX10_judged_253 rfl ?_
    refine z_callS (av := [.ref 41, .int 0, .ref 40, .int 0]) (enc' := eV) hc rfl (sMo_copies 41 0 40 0 _) wMX10_434 hpyX10_copies hmyX10_copies (rm_ok hRm (Nat.le_of_ble_eq_true rfl) (Nat.le_of_ble_eq_true rfl)) (Nat.le_of_ble_eq_true rfl) hRm.2.2 dX10_judged_254 (fun c3 u3 f3 => ?_)
    refine z_iload_n hc dX10_judged_257 2 rfl rfl ?_
    refine z_if_ne (tgt := 265) hc dX10_judged_258 (by decide) _ (fun h2 => ?_) (fun h2 => ?_)
    · refine z_iload_n hc dX10_judged_265 2 rfl rfl ?_
      refine z_iconst (v := 1) hc dX10_judged_266 rfl ?_
      refine z_icmp_ne (tgt := 274) hc dX10_judged_267 (by decide) _ (fun h3 => ?_) (fun h3 => ?_)
      · refine z_iload hc dX10_judged_274 0 rfl ?_
        exact z_iret hc dX10_judged_276
      · refine z_iload_n hc dX10_judged_270 4 rfl rfl ?_
        refine z_goto (tgt := 276) hc dX10_judged_271 (by decide) ?_
        exact z_iret hc dX10_judged_276
    · refine z_iload_n hc dX10_judged_261 3 rfl rfl ?_
      refine z_goto (tgt := 276) hc dX10_judged_262 (by decide) ?_
      exact z_iret hc dX10_judged_276
  · refine z_aload_n hc dX10_judged_52 0 rfl rfl ?_
    refine z_getR (x := 34) hc (ci := 10) (k := 44) (by decide) (by decide) zly10 lM1 (zkM lM1) wFX10_108 rfl dX10_judged_53 rfl (by decide) ?_
    refine z_iload hc dX10_judged_56 4 rfl ?_
    refine zJ.chk _ (fun h4 => ?_)
    refine z_iald (k := (ix v4)) hc lM34 (zkM lM34) h4 rfl dX10_judged_58 ?_
    refine zJ.letI (fun x1 e1 => ?_)
    refine z_istore (L' := [(5, .int x1), (0, .ref 1), (1, .int v1), (2, .int v2), (3, .int v3), (4, .int v4)]) hc dX10_judged_59 (by decide) rfl rfl ?_
    refine z_aload_n hc dX10_judged_61 1 rfl rfl ?_
    refine z_getR (x := 35) hc (ci := 10) (k := 45) (by decide) (by decide) zly10 lM1 (zkM lM1) wFX10_111 rfl dX10_judged_62 rfl (by decide) ?_
    refine z_iload hc dX10_judged_65 5 rfl ?_
    refine zJ.chk _ (fun h5 => ?_)
    refine z_iald (k := (ix v4)) hc lM35 (zkM lM35) h5 rfl dX10_judged_67 ?_
    refine zJ.letI (fun x2 e2 => ?_)
    refine z_istore (L' := [(6, .int x2), (5, .int x1), (0, .ref 1), (1, .int v1), (2, .int v2), (3, .int v3), (4, .int v4)]) hc dX10_judged_68 (by decide) rfl rfl ?_
    refine z_iconst (v := 1) hc dX10_judged_70 rfl ?_
    refine z_istore (L' := [(7, .int 1), (6, .int x2), (5, .int x1), (0, .ref 1), (1, .int v1), (2, .int v2), (3, .int v3), (4, .int v4)]) hc dX10_judged_71 (by decide) rfl rfl ?_
    refine z_aload_n hc dX10_judged_73 3 rfl rfl ?_
    refine z_getR (x := 33) hc (ci := 10) (k := 43) (by decide) (by decide) zly10 lM1 (zkM lM1) wFX10_105 rfl dX10_judged_74 rfl (by decide) ?_
    refine z_iload hc dX10_judged_77 7 rfl ?_
    refine zJ.chk _ (fun h6 => ?_)
    refine z_iald (k := (ix v4)) hc lM33 (zkM lM33) h6 rfl dX10_judged_79 ?_
    refine z_if_ne (tgt := 90) hc dX10_judged_80 (by decide) _ (fun h7 => ?_) (fun h7 => ?_)
    · refine z_aload_n hc dX10_judged_90 3 rfl rfl ?_
      refine z_getR (x := 33) hc (ci := 10) (k := 43) (by decide) (by decide) zly10 lM1 (zkM lM1) wFX10_105 rfl dX10_judged_91 rfl (by decide) ?_
      refine z_iload hc dX10_judged_94 7 rfl ?_
      refine zJ.chk _ (fun h8 => ?_)
      refine z_iald (k := (ix v4)) hc lM33 (zkM lM33) h8 rfl dX10_judged_96 ?_
      refine z_iconst (v := 1) hc dX10_judged_97 rfl ?_
      refine z_icmp_ne (tgt := 131) hc dX10_judged_98 (by decide) _ (fun h9 => ?_) (fun h9 => ?_)
      · refine z_aload_n hc dX10_judged_131 3 rfl rfl ?_
        refine z_getR (x := 33) hc (ci := 10) (k := 43) (by decide) (by decide) zly10 lM1 (zkM lM1) wFX10_105 rfl dX10_judged_132 rfl (by decide) ?_
        refine z_iload hc dX10_judged_135 7 rfl ?_
        refine zJ.chk _ (fun h10 => ?_)
        refine z_iald (k := (ix v4)) hc lM33 (zkM lM33) h10 rfl dX10_judged_137 ?_
        refine z_iconst (v := 2) hc dX10_judged_138 rfl ?_
        refine z_icmp_ne (tgt := 180) hc dX10_judged_139 (by decide) _ (fun h11 => ?_) (fun h11 => ?_)
        · refine z_aload_n hc dX10_judged_180 3 rfl rfl ?_
          refine z_iload hc dX10_judged_181 1 rfl ?_
          refine z_callV (av := [.int x2]) (enc' := eI) hc rfl (sMo_canServe x2 _) (ci := 10) (by decide) lM1 (zkM lM1) rfl wMX10_456 hpyX10_canServe hmyX10_canServe (rm_ok hRm (Nat.le_of_ble_eq_true rfl) (Nat.le_of_ble_eq_true rfl)) (Nat.le_of_ble_eq_true rfl) hRm.2.2 dX10_judged_183 (fun c4 u4 f4 => ?_)
          refine z_istore (L' := [(7, .int c4), (6, .int x2), (5, .int x1), (0, .ref 1), (1, .int v1), (2, .int v2), (3, .int v3), (4, .int v4)]) hc dX10_judged_186 (by decide) rfl rfl ?_
          refine z_iload hc dX10_judged_188 0 rfl ?_
          refine z_if_eq (tgt := 204) hc dX10_judged_190 (by decide) _ (fun h12 => ?_) (fun h12 => ?_)
          · refine zJ.sub (L' := [(0, .ref 1), (1, .int v1), (2, .int v2), (3, .int v3), (4, .int v4), (7, .int c4)]) [3, 4, 5, 6, 7, 0] rfl ?_
            exact sMo_judged_204 hc hRm hr41 v1 v2 v3 v4 c4 _
          · refine z_aload_n hc dX10_judged_193 3 rfl rfl ?_
            refine z_getR (x := 40) hc (ci := 10) (k := 50) (by decide) (by decide) zly10 lM1 (zkM lM1) wFX10_126 rfl dX10_judged_194 rfl (by decide) ?_
            refine z_bipush (v := 19) hc dX10_judged_197 rfl ?_
            refine z_iload hc dX10_judged_199 1 rfl ?_
            refine z_iadd hc dX10_judged_201 ?_
            refine z_iconst (v := 3) hc dX10_judged_202 rfl ?_
            refine zJ.chk _ (fun h13 => ?_)
            refine z_iast (k := (ix (19 + x2))) hc lM40 (zkM lM40) h13 rfl dX10_judged_203 ?_
            refine zJ.letM (fun u5 e3 => ?_)
            refine zJ.sub (L' := [(0, .ref 1), (1, .int v1), (2, .int v2), (3, .int v3), (4, .int v4), (7, .int c4)]) [3, 4, 5, 6, 7, 0] rfl ?_
            exact sMo_judged_204 hc hRm hr41 v1 v2 v3 v4 c4 _
        · refine z_aload_n hc dX10_judged_142 3 rfl rfl ?_
          refine z_iload hc dX10_judged_143 2 rfl ?_
          refine z_callV (av := [.int x1]) (enc' := eI) hc rfl (sMo_canSwim x1 _) (ci := 10) (by decide) lM1 (zkM lM1) rfl wMX10_450 hpyX10_canSwim hmyX10_canSwim (rm_ok hRm (Nat.le_of_ble_eq_true rfl) (Nat.le_of_ble_eq_true rfl)) (Nat.le_of_ble_eq_true rfl) hRm.2.2 dX10_judged_145 (fun c5 u6 f5 => ?_)
          refine z_iload hc dX10_judged_148 1 rfl ?_
          refine z_ishr hc dX10_judged_150 ?_
          refine z_iconst (v := 1) hc dX10_judged_151 rfl ?_
          refine z_iand hc dX10_judged_152 ?_
          refine z_iconst (v := 1) hc dX10_judged_153 rfl ?_
          refine z_icmp_ne (tgt := 161) hc dX10_judged_154 (by decide) _ (fun h14 => ?_) (fun h14 => ?_)
          · refine z_iconst (v := 0) hc dX10_judged_161 rfl ?_
            refine zJ.sub (L' := [(0, .ref 1), (1, .int v1), (2, .int v2), (3, .int v3), (4, .int v4), (5, .int x1), (6, .int x2)]) [3, 4, 5, 6, 7, 2, 1] rfl ?_
            exact sMo_judged_162 hc hRm hr41 v1 v2 v3 v4 x1 x2 0 _
          · refine z_iconst (v := 1) hc dX10_judged_157 rfl ?_
            refine z_goto (tgt := 162) hc dX10_judged_158 (by decide) ?_
            refine zJ.sub (L' := [(0, .ref 1), (1, .int v1), (2, .int v2), (3, .int v3), (4, .int v4), (5, .int x1), (6, .int x2)]) [3, 4, 5, 6, 7, 2, 1] rfl ?_
            exact sMo_judged_162 hc hRm hr41 v1 v2 v3 v4 x1 x2 1 _
      · refine z_aload_n hc dX10_judged_101 3 rfl rfl ?_
        refine z_iload hc dX10_judged_102 2 rfl ?_
        refine z_iload hc dX10_judged_104 1 rfl ?_
        refine z_callV (av := [.int x1, .int x2]) (enc' := eI) hc rfl (sMo_canTake x1 x2 _) (ci := 10) (by decide) lM1 (zkM lM1) rfl wMX10_444 hpyX10_canTake hmyX10_canTake (rm_ok hRm (Nat.le_of_ble_eq_true rfl) (Nat.le_of_ble_eq_true rfl)) (Nat.le_of_ble_eq_true rfl) hRm.2.2 dX10_judged_106 (fun c6 u7 f6 => ?_)
        refine z_istore (L' := [(7, .int c6), (6, .int x2), (5, .int x1), (0, .ref 1), (1, .int v1), (2, .int v2), (3, .int v3), (4, .int v4)]) hc dX10_judged_109 (by decide) rfl rfl ?_
        refine z_iload hc dX10_judged_111 0 rfl ?_
        refine z_if_eq (tgt := 216) hc dX10_judged_113 (by decide) _ (fun h15 => ?_) (fun h15 => ?_)
        · refine zJ.sub (L' := [(0, .ref 1), (1, .int v1), (2, .int v2), (3, .int v3), (4, .int v4), (7, .int c6)]) [3, 4, 5, 6, 7, 0] rfl ?_
          exact sMo_judged_216 hc hRm hr41 v1 v2 v3 v4 c6 _
        · refine z_aload_n hc dX10_judged_116 3 rfl rfl ?_
          refine z_getR (x := 40) hc (ci := 10) (k := 50) (by decide) (by decide) zly10 lM1 (zkM lM1) wFX10_126 rfl dX10_judged_117 rfl (by decide) ?_
          refine z_bipush (v := 19) hc dX10_judged_120 rfl ?_
          refine z_iload hc dX10_judged_122 1 rfl ?_
          refine z_iadd hc dX10_judged_124 ?_
          refine z_iload hc dX10_judged_125 2 rfl ?_
          refine zJ.chk _ (fun h16 => ?_)
          refine z_iast (k := (ix (19 + x2))) hc lM40 (zkM lM40) h16 rfl dX10_judged_127 ?_
          refine zJ.letM (fun u8 e4 => ?_)
          refine z_goto (tgt := 216) hc dX10_judged_128 (by decide) ?_
          refine zJ.sub (L' := [(0, .ref 1), (1, .int v1), (2, .int v2), (3, .int v3), (4, .int v4), (7, .int c6)]) [3, 4, 5, 6, 7, 0] rfl ?_
          exact sMo_judged_216 hc hRm hr41 v1 v2 v3 v4 c6 _
    · refine z_aload_n hc dX10_judged_83 3 rfl rfl ?_
      refine z_callV (av := []) (enc' := eV) hc rfl (sMo_passesAsTold _) (ci := 10) (by decide) lM1 (zkM lM1) rfl wMX10_459 hpyX10_passesAsTold hmyX10_passesAsTold (rm_ok hRm (Nat.le_of_ble_eq_true rfl) (Nat.le_of_ble_eq_true rfl)) (Nat.le_of_ble_eq_true rfl) hRm.2.2 dX10_judged_84 (fun c7 u9 f7 => ?_)
      refine z_goto (tgt := 216) hc dX10_judged_87 (by decide) ?_
      refine zJ.sub (L' := [(0, .ref 1), (1, .int v1), (2, .int v2), (3, .int v3), (4, .int v4), (7, .int 1)]) [3, 4, 5, 6, 7, 0] rfl ?_
      exact sMo_judged_216 hc hRm hr41 v1 v2 v3 v4 1 _
set_option maxRecDepth 100000 in
set_option maxHeartbeats 4000000 in
theorem sMo_judged_41 {fin : Int32 × zM} (hc : zCx p s mi args meth c (wM D b) m0 RX10 cX10_judged 8 (some .int)) (hRm : R.frames = 6 ∧ R.locals = 133 ∧ R.cells = zc (wM D b) m0 fin.2 ∧ R.slots = zs (wM D b) m0 fin.2) : ∀ (zf : Nat) (v1 : Int32) (v2 : Int32) (v3 : Int32) (v4 : Int32) (u : zM), zJ eI p l e R s mi args below meth c (wM D b) m0 8 fin 41 [(0, .ref 1), (1, .int v1), (2, .int v2), (3, .int v3), (4, .int v4)] [] u (Mo_judged_41 zf v1 v2 v3 v4 u) := by
  intro zf
  induction zf with
  | zero => intro v1 v2 v3 v4 u; exact zJ.nil
  | succ zf ih => intro v1 v2 v3 v4 u; exact sMo_judged_41b hc hRm ih v1 v2 v3 v4 u
set_option maxRecDepth 100000 in
set_option maxHeartbeats 4000000 in
theorem sMo_judged : ∀ (v1 : Int32) (u : zM) r m1, Mo_judged v1 u = some (r, m1) → zMet l (wM D b) 6 133 yX10_judged cX10_judged 8 (some .int) [.ref 1, .int v1] u (eI r) m1 := by
  intro v1 u
  refine zMet.of (L := [(0, .ref 1), (1, .int v1)]) RX10 (by decide +kernel) rfl (Nat.le_of_ble_eq_true rfl) (fun h => by cases h) rfl (fun p e s mi args below meth c R fin hc hin hRm => ?_)
  unfold Mo_judged
  refine z_aload_n hc dX10_judged_0 0 rfl rfl ?_
  refine z_iconst (v := 0) hc dX10_judged_1 rfl ?_
  refine z_putI hc (ci := 10) (k := 0) (by decide) (by decide) zly10 lM1 (zkM lM1) wFX10_162 rfl rfl rfl rfl dX10_judged_2 ?_
  refine zJ.letM (fun u1 e1 => ?_)
  refine z_iload_n hc dX10_judged_5 1 rfl rfl ?_
  refine z_iconst (v := 0) hc dX10_judged_6 rfl ?_
  refine z_iconst (v := 2) hc dX10_judged_7 rfl ?_
  refine z_callS (av := [.int v1, .int 0, .int 2]) (enc' := eI) hc rfl (sMo_within v1 0 2 _) wMX10_293 hpyX10_within hmyX10_within (rm_ok hRm (Nat.le_of_ble_eq_true rfl) (Nat.le_of_ble_eq_true rfl)) (Nat.le_of_ble_eq_true rfl) hRm.2.2 dX10_judged_8 (fun c1 u2 f1 => ?_)
  refine z_if_ne (tgt := 17) hc dX10_judged_11 (by decide) _ (fun h1 => ?_) (fun h1 => ?_)
  · refine z_aload_n hc dX10_judged_17 0 rfl rfl ?_
    refine z_getR (x := 40) hc (ci := 10) (k := 50) (by decide) (by decide) zly10 lM1 (zkM lM1) wFX10_126 rfl dX10_judged_18 rfl (by decide) ?_
    refine z_iconst (v := 0) hc dX10_judged_21 rfl ?_
    refine z_aload_n hc dX10_judged_22 0 rfl rfl ?_
    refine z_getR (x := 41) hc (ci := 10) (k := 51) (by decide) (by decide) zly10 lM1 (zkM lM1) wFX10_129 rfl dX10_judged_23 rfl (by decide) ?_
    refine z_iconst (v := 0) hc dX10_judged_26 rfl ?_
    refine z_callS (av := [.ref 40, .int 0, .ref 41, .int 0]) (enc' := eV) hc rfl (sMo_copies 40 0 41 0 _) wMX10_434 hpyX10_copies hmyX10_copies (rm_ok hRm (Nat.le_of_ble_eq_true rfl) (Nat.le_of_ble_eq_true rfl)) (Nat.le_of_ble_eq_true rfl) hRm.2.2 dX10_judged_27 (fun c2 u3 f2 => ?_)
    refine z_aload_n hc dX10_judged_30 0 rfl rfl ?_
    refine z_callV (av := []) (enc' := eV) hc rfl (sMo_fresh0 _) (ci := 10) (by decide) lM1 (zkM lM1) rfl wMX10_159 hpyX10_fresh0 hmyX10_fresh0 (rm_ok hRm (Nat.le_of_ble_eq_true rfl) (Nat.le_of_ble_eq_true rfl)) (Nat.le_of_ble_eq_true rfl) hRm.2.2 dX10_judged_31 (fun c3 u4 f3 => ?_)
    refine z_iconst (v := (-1)) hc dX10_judged_34 rfl ?_
    refine z_istore_n (L' := [(2, .int (-1)), (0, .ref 1), (1, .int v1)]) hc dX10_judged_35 rfl (by decide) rfl rfl ?_
    refine z_iconst (v := (-1)) hc dX10_judged_36 rfl ?_
    refine z_istore_n (L' := [(3, .int (-1)), (2, .int (-1)), (0, .ref 1), (1, .int v1)]) hc dX10_judged_37 rfl (by decide) rfl rfl ?_
    refine z_iconst (v := 0) hc dX10_judged_38 rfl ?_
    refine z_istore (L' := [(4, .int 0), (3, .int (-1)), (2, .int (-1)), (0, .ref 1), (1, .int v1)]) hc dX10_judged_39 (by decide) rfl rfl ?_
    refine zJ.sub (L' := [(0, .ref 1), (1, .int v1), (2, .int (-1)), (3, .int (-1)), (4, .int 0)]) [3, 4, 2, 1, 0] rfl ?_
    exact sMo_judged_41 hc hRm zF v1 (-1) (-1) 0 _
  · refine z_bipush (v := (-2)) hc dX10_judged_14 rfl ?_
    exact z_iret hc dX10_judged_16
set_option maxRecDepth 100000 in
set_option maxHeartbeats 4000000 in
theorem sMo_later_40b {fin : Int32 × zM} (hc : zCx p s mi args meth c (wM D b) m0 RX10 cX10_later 4 (some .int)) (hRm : R.frames = 6 ∧ R.locals = 133 ∧ R.cells = zc (wM D b) m0 fin.2 ∧ R.slots = zs (wM D b) m0 fin.2) {zr40 : Int32 → Int32 → Int32 → zM → Option (Int32 × zM)} (hr40 : ∀ (v1 : Int32) (v2 : Int32) (v3 : Int32) (u : zM), zJ eI p l e R s mi args below meth c (wM D b) m0 4 fin 40 [(0, .ref 1), (1, .int v1), (2, .int v2), (3, .int v3)] [] u (zr40 v1 v2 v3 u)) (v1 : Int32) (v2 : Int32) (v3 : Int32) (u : zM) : zJ eI p l e R s mi args below meth c (wM D b) m0 4 fin 40 [(0, .ref 1), (1, .int v1), (2, .int v2), (3, .int v3)] [] u (Mo_later_40b zr40 v1 v2 v3 u) := by
  unfold Mo_later_40b
  refine z_iload_n hc dX10_later_40 3 rfl rfl ?_
  refine z_iload_n hc dX10_later_41 2 rfl rfl ?_
  refine z_icmp_ge (tgt := 55) hc dX10_later_42 (by decide) _ (fun h1 => ?_) (fun h1 => ?_)
  · refine z_aload_n hc dX10_later_55 0 rfl rfl ?_
    refine z_getR (x := 40) hc (ci := 10) (k := 50) (by decide) (by decide) zly10 lM1 (zkM lM1) wFX10_126 rfl dX10_later_56 rfl (by decide) ?_
    refine z_iconst (v := 1) hc dX10_later_59 rfl ?_
    refine z_iload_n hc dX10_later_60 1 rfl rfl ?_
    refine z_iadd hc dX10_later_61 ?_
    refine zJ.chk _ (fun h2 => ?_)
    refine z_iald (k := (ix (1 + v1))) hc lM40 (zkM lM40) h2 rfl dX10_later_62 ?_
    refine zJ.letI (fun x1 e1 => ?_)
    refine z_istore_n (L' := [(3, .int x1), (0, .ref 1), (1, .int v1), (2, .int v2)]) hc dX10_later_63 rfl (by decide) rfl rfl ?_
    refine z_aload_n hc dX10_later_64 1 rfl rfl ?_
    refine z_getR (x := 42) hc (ci := 10) (k := 52) (by decide) (by decide) zly10 lM1 (zkM lM1) wFX10_132 rfl dX10_later_65 rfl (by decide) ?_
    refine z_iconst (v := 0) hc dX10_later_68 rfl ?_
    refine z_aload_n hc dX10_later_69 1 rfl rfl ?_
    refine z_getR (x := 40) hc (ci := 10) (k := 50) (by decide) (by decide) zly10 lM1 (zkM lM1) wFX10_126 rfl dX10_later_70 rfl (by decide) ?_
    refine z_iconst (v := 0) hc dX10_later_73 rfl ?_
    refine z_callS (av := [.ref 42, .int 0, .ref 40, .int 0]) (enc' := eV) hc rfl (sMo_copies 42 0 40 0 _) wMX10_434 hpyX10_copies hmyX10_copies (rm_ok hRm (Nat.le_of_ble_eq_true rfl) (Nat.le_of_ble_eq_true rfl)) (Nat.le_of_ble_eq_true rfl) hRm.2.2 dX10_later_74 (fun c1 u1 f1 => ?_)
    refine z_iload_n hc dX10_later_77 0 rfl rfl ?_
    exact z_iret hc dX10_later_78
  · refine z_aload_n hc dX10_later_45 0 rfl rfl ?_
    refine z_callV (av := []) (enc' := eV) hc rfl (sMo_passesAsTold _) (ci := 10) (by decide) lM1 (zkM lM1) rfl wMX10_459 hpyX10_passesAsTold hmyX10_passesAsTold (rm_ok hRm (Nat.le_of_ble_eq_true rfl) (Nat.le_of_ble_eq_true rfl)) (Nat.le_of_ble_eq_true rfl) hRm.2.2 dX10_later_46 (fun c2 u2 f2 => ?_)
    refine z_iinc (L' := [(3, .int (v3 + 1)), (0, .ref 1), (1, .int v1), (2, .int v2)]) hc dX10_later_49 3 rfl (v := (v3 + 1)) rfl (by decide) rfl rfl ?_
    refine z_goto (tgt := 40) hc dX10_later_52 (by decide) ?_
    refine zJ.sub (L' := [(0, .ref 1), (1, .int v1), (2, .int v2), (3, .int (v3 + 1))]) [1, 2, 3, 0] rfl ?_
    exact hr40 v1 v2 (v3 + 1) _
set_option maxRecDepth 100000 in
set_option maxHeartbeats 4000000 in
theorem sMo_later_40 {fin : Int32 × zM} (hc : zCx p s mi args meth c (wM D b) m0 RX10 cX10_later 4 (some .int)) (hRm : R.frames = 6 ∧ R.locals = 133 ∧ R.cells = zc (wM D b) m0 fin.2 ∧ R.slots = zs (wM D b) m0 fin.2) : ∀ (zf : Nat) (v1 : Int32) (v2 : Int32) (v3 : Int32) (u : zM), zJ eI p l e R s mi args below meth c (wM D b) m0 4 fin 40 [(0, .ref 1), (1, .int v1), (2, .int v2), (3, .int v3)] [] u (Mo_later_40 zf v1 v2 v3 u) := by
  intro zf
  induction zf with
  | zero => intro v1 v2 v3 u; exact zJ.nil
  | succ zf ih => intro v1 v2 v3 u; exact sMo_later_40b hc hRm ih v1 v2 v3 u
set_option maxRecDepth 100000 in
set_option maxHeartbeats 4000000 in
theorem sMo_later : ∀ (v1 : Int32) (v2 : Int32) (u : zM) r m1, Mo_later v1 v2 u = some (r, m1) → zMet l (wM D b) 6 133 yX10_later cX10_later 4 (some .int) [.ref 1, .int v1, .int v2] u (eI r) m1 := by
  intro v1 v2 u
  refine zMet.of (L := [(0, .ref 1), (1, .int v1), (2, .int v2)]) RX10 (by decide +kernel) rfl (Nat.le_of_ble_eq_true rfl) (fun h => by cases h) rfl (fun p e s mi args below meth c R fin hc hin hRm => ?_)
  unfold Mo_later
  refine z_aload_n hc dX10_later_0 0 rfl rfl ?_
  refine z_iconst (v := 0) hc dX10_later_1 rfl ?_
  refine z_putI hc (ci := 10) (k := 0) (by decide) (by decide) zly10 lM1 (zkM lM1) wFX10_162 rfl rfl rfl rfl dX10_later_2 ?_
  refine zJ.letM (fun u1 e1 => ?_)
  refine z_aload_n hc dX10_later_5 0 rfl rfl ?_
  refine z_iload_n hc dX10_later_6 1 rfl rfl ?_
  refine z_callV (av := [.int v1]) (enc' := eI) hc rfl (sMo_isPlace v1 _) (ci := 10) (by decide) lM1 (zkM lM1) rfl wMX10_416 hpyX10_isPlace hmyX10_isPlace (rm_ok hRm (Nat.le_of_ble_eq_true rfl) (Nat.le_of_ble_eq_true rfl)) (Nat.le_of_ble_eq_true rfl) hRm.2.2 dX10_later_7 (fun c1 u2 f1 => ?_)
  refine z_if_eq (tgt := 23) hc dX10_later_10 (by decide) _ (fun h1 => ?_) (fun h1 => ?_)
  · refine z_iconst (v := (-1)) hc dX10_later_23 rfl ?_
    exact z_iret hc dX10_later_24
  · refine z_iload_n hc dX10_later_13 2 rfl rfl ?_
    refine z_iconst (v := 0) hc dX10_later_14 rfl ?_
    refine z_bipush (v := 60) hc dX10_later_15 rfl ?_
    refine z_callS (av := [.int v2, .int 0, .int 60]) (enc' := eI) hc rfl (sMo_within v2 0 60 _) wMX10_293 hpyX10_within hmyX10_within (rm_ok hRm (Nat.le_of_ble_eq_true rfl) (Nat.le_of_ble_eq_true rfl)) (Nat.le_of_ble_eq_true rfl) hRm.2.2 dX10_later_17 (fun c2 u3 f2 => ?_)
    refine z_if_ne (tgt := 25) hc dX10_later_20 (by decide) _ (fun h2 => ?_) (fun h2 => ?_)
    · refine z_aload_n hc dX10_later_25 0 rfl rfl ?_
      refine z_getR (x := 40) hc (ci := 10) (k := 50) (by decide) (by decide) zly10 lM1 (zkM lM1) wFX10_126 rfl dX10_later_26 rfl (by decide) ?_
      refine z_iconst (v := 0) hc dX10_later_29 rfl ?_
      refine z_aload_n hc dX10_later_30 0 rfl rfl ?_
      refine z_getR (x := 42) hc (ci := 10) (k := 52) (by decide) (by decide) zly10 lM1 (zkM lM1) wFX10_132 rfl dX10_later_31 rfl (by decide) ?_
      refine z_iconst (v := 0) hc dX10_later_34 rfl ?_
      refine z_callS (av := [.ref 40, .int 0, .ref 42, .int 0]) (enc' := eV) hc rfl (sMo_copies 40 0 42 0 _) wMX10_434 hpyX10_copies hmyX10_copies (rm_ok hRm (Nat.le_of_ble_eq_true rfl) (Nat.le_of_ble_eq_true rfl)) (Nat.le_of_ble_eq_true rfl) hRm.2.2 dX10_later_35 (fun c3 u4 f3 => ?_)
      refine z_iconst (v := 0) hc dX10_later_38 rfl ?_
      refine z_istore_n (L' := [(3, .int 0), (0, .ref 1), (1, .int v1), (2, .int v2)]) hc dX10_later_39 rfl (by decide) rfl rfl ?_
      refine zJ.sub (L' := [(0, .ref 1), (1, .int v1), (2, .int v2), (3, .int 0)]) [1, 2, 3, 0] rfl ?_
      exact sMo_later_40 hc hRm zF v1 v2 0 _
    · refine z_iconst (v := (-1)) hc dX10_later_23 rfl ?_
      exact z_iret hc dX10_later_24
set_option maxRecDepth 100000 in
set_option maxHeartbeats 4000000 in
theorem sMo_where_40b {fin : Int32 × zM} (hc : zCx p s mi args meth c (wM D b) m0 RX10 cX10_where 4 (some .int)) (hRm : R.frames = 6 ∧ R.locals = 133 ∧ R.cells = zc (wM D b) m0 fin.2 ∧ R.slots = zs (wM D b) m0 fin.2) {zr40 : Int32 → Int32 → Int32 → zM → Option (Int32 × zM)} (hr40 : ∀ (v1 : Int32) (v2 : Int32) (v3 : Int32) (u : zM), zJ eI p l e R s mi args below meth c (wM D b) m0 4 fin 40 [(0, .ref 1), (1, .int v1), (2, .int v2), (3, .int v3)] [] u (zr40 v1 v2 v3 u)) (v1 : Int32) (v2 : Int32) (v3 : Int32) (u : zM) : zJ eI p l e R s mi args below meth c (wM D b) m0 4 fin 40 [(0, .ref 1), (1, .int v1), (2, .int v2), (3, .int v3)] [] u (Mo_where_40b zr40 v1 v2 v3 u) := by
  unfold Mo_where_40b
  refine z_iload_n hc dX10_where_40 3 rfl rfl ?_
  refine z_iload_n hc dX10_where_41 2 rfl rfl ?_
  refine z_icmp_ge (tgt := 55) hc dX10_where_42 (by decide) _ (fun h1 => ?_) (fun h1 => ?_)
  · refine z_aload_n hc dX10_where_55 0 rfl rfl ?_
    refine z_getR (x := 40) hc (ci := 10) (k := 50) (by decide) (by decide) zly10 lM1 (zkM lM1) wFX10_126 rfl dX10_where_56 rfl (by decide) ?_
    refine z_bipush (v := 8) hc dX10_where_59 rfl ?_
    refine z_iload_n hc dX10_where_61 1 rfl rfl ?_
    refine z_iadd hc dX10_where_62 ?_
    refine zJ.chk _ (fun h2 => ?_)
    refine z_iald (k := (ix (8 + v1))) hc lM40 (zkM lM40) h2 rfl dX10_where_63 ?_
    refine zJ.letI (fun x1 e1 => ?_)
    refine z_istore_n (L' := [(3, .int x1), (0, .ref 1), (1, .int v1), (2, .int v2)]) hc dX10_where_64 rfl (by decide) rfl rfl ?_
    refine z_aload_n hc dX10_where_65 1 rfl rfl ?_
    refine z_getR (x := 42) hc (ci := 10) (k := 52) (by decide) (by decide) zly10 lM1 (zkM lM1) wFX10_132 rfl dX10_where_66 rfl (by decide) ?_
    refine z_iconst (v := 0) hc dX10_where_69 rfl ?_
    refine z_aload_n hc dX10_where_70 1 rfl rfl ?_
    refine z_getR (x := 40) hc (ci := 10) (k := 50) (by decide) (by decide) zly10 lM1 (zkM lM1) wFX10_126 rfl dX10_where_71 rfl (by decide) ?_
    refine z_iconst (v := 0) hc dX10_where_74 rfl ?_
    refine z_callS (av := [.ref 42, .int 0, .ref 40, .int 0]) (enc' := eV) hc rfl (sMo_copies 42 0 40 0 _) wMX10_434 hpyX10_copies hmyX10_copies (rm_ok hRm (Nat.le_of_ble_eq_true rfl) (Nat.le_of_ble_eq_true rfl)) (Nat.le_of_ble_eq_true rfl) hRm.2.2 dX10_where_75 (fun c1 u1 f1 => ?_)
    refine z_iload_n hc dX10_where_78 0 rfl rfl ?_
    exact z_iret hc dX10_where_79
  · refine z_aload_n hc dX10_where_45 0 rfl rfl ?_
    refine z_callV (av := []) (enc' := eV) hc rfl (sMo_passesAsTold _) (ci := 10) (by decide) lM1 (zkM lM1) rfl wMX10_459 hpyX10_passesAsTold hmyX10_passesAsTold (rm_ok hRm (Nat.le_of_ble_eq_true rfl) (Nat.le_of_ble_eq_true rfl)) (Nat.le_of_ble_eq_true rfl) hRm.2.2 dX10_where_46 (fun c2 u2 f2 => ?_)
    refine z_iinc (L' := [(3, .int (v3 + 1)), (0, .ref 1), (1, .int v1), (2, .int v2)]) hc dX10_where_49 3 rfl (v := (v3 + 1)) rfl (by decide) rfl rfl ?_
    refine z_goto (tgt := 40) hc dX10_where_52 (by decide) ?_
    refine zJ.sub (L' := [(0, .ref 1), (1, .int v1), (2, .int v2), (3, .int (v3 + 1))]) [1, 2, 3, 0] rfl ?_
    exact hr40 v1 v2 (v3 + 1) _
set_option maxRecDepth 100000 in
set_option maxHeartbeats 4000000 in
theorem sMo_where_40 {fin : Int32 × zM} (hc : zCx p s mi args meth c (wM D b) m0 RX10 cX10_where 4 (some .int)) (hRm : R.frames = 6 ∧ R.locals = 133 ∧ R.cells = zc (wM D b) m0 fin.2 ∧ R.slots = zs (wM D b) m0 fin.2) : ∀ (zf : Nat) (v1 : Int32) (v2 : Int32) (v3 : Int32) (u : zM), zJ eI p l e R s mi args below meth c (wM D b) m0 4 fin 40 [(0, .ref 1), (1, .int v1), (2, .int v2), (3, .int v3)] [] u (Mo_where_40 zf v1 v2 v3 u) := by
  intro zf
  induction zf with
  | zero => intro v1 v2 v3 u; exact zJ.nil
  | succ zf ih => intro v1 v2 v3 u; exact sMo_where_40b hc hRm ih v1 v2 v3 u
set_option maxRecDepth 100000 in
set_option maxHeartbeats 4000000 in
theorem sMo_where : ∀ (v1 : Int32) (v2 : Int32) (u : zM) r m1, Mo_where v1 v2 u = some (r, m1) → zMet l (wM D b) 6 133 yX10_where cX10_where 4 (some .int) [.ref 1, .int v1, .int v2] u (eI r) m1 := by
  intro v1 v2 u
  refine zMet.of (L := [(0, .ref 1), (1, .int v1), (2, .int v2)]) RX10 (by decide +kernel) rfl (Nat.le_of_ble_eq_true rfl) (fun h => by cases h) rfl (fun p e s mi args below meth c R fin hc hin hRm => ?_)
  unfold Mo_where
  refine z_aload_n hc dX10_where_0 0 rfl rfl ?_
  refine z_iconst (v := 0) hc dX10_where_1 rfl ?_
  refine z_putI hc (ci := 10) (k := 0) (by decide) (by decide) zly10 lM1 (zkM lM1) wFX10_162 rfl rfl rfl rfl dX10_where_2 ?_
  refine zJ.letM (fun u1 e1 => ?_)
  refine z_aload_n hc dX10_where_5 0 rfl rfl ?_
  refine z_iload_n hc dX10_where_6 1 rfl rfl ?_
  refine z_callV (av := [.int v1]) (enc' := eI) hc rfl (sMo_isPerson v1 _) (ci := 10) (by decide) lM1 (zkM lM1) rfl wMX10_422 hpyX10_isPerson hmyX10_isPerson (rm_ok hRm (Nat.le_of_ble_eq_true rfl) (Nat.le_of_ble_eq_true rfl)) (Nat.le_of_ble_eq_true rfl) hRm.2.2 dX10_where_7 (fun c1 u2 f1 => ?_)
  refine z_if_eq (tgt := 23) hc dX10_where_10 (by decide) _ (fun h1 => ?_) (fun h1 => ?_)
  · refine z_iconst (v := (-1)) hc dX10_where_23 rfl ?_
    exact z_iret hc dX10_where_24
  · refine z_iload_n hc dX10_where_13 2 rfl rfl ?_
    refine z_iconst (v := 0) hc dX10_where_14 rfl ?_
    refine z_bipush (v := 60) hc dX10_where_15 rfl ?_
    refine z_callS (av := [.int v2, .int 0, .int 60]) (enc' := eI) hc rfl (sMo_within v2 0 60 _) wMX10_293 hpyX10_within hmyX10_within (rm_ok hRm (Nat.le_of_ble_eq_true rfl) (Nat.le_of_ble_eq_true rfl)) (Nat.le_of_ble_eq_true rfl) hRm.2.2 dX10_where_17 (fun c2 u3 f2 => ?_)
    refine z_if_ne (tgt := 25) hc dX10_where_20 (by decide) _ (fun h2 => ?_) (fun h2 => ?_)
    · refine z_aload_n hc dX10_where_25 0 rfl rfl ?_
      refine z_getR (x := 40) hc (ci := 10) (k := 50) (by decide) (by decide) zly10 lM1 (zkM lM1) wFX10_126 rfl dX10_where_26 rfl (by decide) ?_
      refine z_iconst (v := 0) hc dX10_where_29 rfl ?_
      refine z_aload_n hc dX10_where_30 0 rfl rfl ?_
      refine z_getR (x := 42) hc (ci := 10) (k := 52) (by decide) (by decide) zly10 lM1 (zkM lM1) wFX10_132 rfl dX10_where_31 rfl (by decide) ?_
      refine z_iconst (v := 0) hc dX10_where_34 rfl ?_
      refine z_callS (av := [.ref 40, .int 0, .ref 42, .int 0]) (enc' := eV) hc rfl (sMo_copies 40 0 42 0 _) wMX10_434 hpyX10_copies hmyX10_copies (rm_ok hRm (Nat.le_of_ble_eq_true rfl) (Nat.le_of_ble_eq_true rfl)) (Nat.le_of_ble_eq_true rfl) hRm.2.2 dX10_where_35 (fun c3 u4 f3 => ?_)
      refine z_iconst (v := 0) hc dX10_where_38 rfl ?_
      refine z_istore_n (L' := [(3, .int 0), (0, .ref 1), (1, .int v1), (2, .int v2)]) hc dX10_where_39 rfl (by decide) rfl rfl ?_
      refine zJ.sub (L' := [(0, .ref 1), (1, .int v1), (2, .int v2), (3, .int 0)]) [1, 2, 3, 0] rfl ?_
      exact sMo_where_40 hc hRm zF v1 v2 0 _
    · refine z_iconst (v := (-1)) hc dX10_where_23 rfl ?_
      exact z_iret hc dX10_where_24
set_option maxRecDepth 100000 in
set_option maxHeartbeats 4000000 in
theorem sMo_comes_49 {fin : Int32 × zM} (hc : zCx p s mi args meth c (wM D b) m0 RX10 cX10_comes 4 (some .int)) (hRm : R.frames = 6 ∧ R.locals = 133 ∧ R.cells = zc (wM D b) m0 fin.2 ∧ R.slots = zs (wM D b) m0 fin.2) (v3 : Int32) (u : zM) : zJ eI p l e R s mi args below meth c (wM D b) m0 4 fin 49 [(0, .ref 1), (3, .int v3)] [] u (Mo_comes_49 v3 u) := by
  unfold Mo_comes_49
  refine z_aload_n hc dX10_comes_49 0 rfl rfl ?_
  refine z_getR (x := 42) hc (ci := 10) (k := 52) (by decide) (by decide) zly10 lM1 (zkM lM1) wFX10_132 rfl dX10_comes_50 rfl (by decide) ?_
  refine z_iconst (v := 0) hc dX10_comes_53 rfl ?_
  refine z_aload_n hc dX10_comes_54 0 rfl rfl ?_
  refine z_getR (x := 40) hc (ci := 10) (k := 50) (by decide) (by decide) zly10 lM1 (zkM lM1) wFX10_126 rfl dX10_comes_55 rfl (by decide) ?_
  refine z_iconst (v := 0) hc dX10_comes_58 rfl ?_
  refine z_callS (av := [.ref 42, .int 0, .ref 40, .int 0]) (enc' := eV) hc rfl (sMo_copies 42 0 40 0 _) wMX10_434 hpyX10_copies hmyX10_copies (rm_ok hRm (Nat.le_of_ble_eq_true rfl) (Nat.le_of_ble_eq_true rfl)) (Nat.le_of_ble_eq_true rfl) hRm.2.2 dX10_comes_59 (fun c1 u1 f1 => ?_)
  refine z_iload_n hc dX10_comes_62 1 rfl rfl ?_
  refine z_bipush (v := 60) hc dX10_comes_63 rfl ?_
  refine z_icmp_le (tgt := 72) hc dX10_comes_65 (by decide) _ (fun h1 => ?_) (fun h1 => ?_)
  · refine z_iload_n hc dX10_comes_72 1 rfl rfl ?_
    exact z_iret hc dX10_comes_73
  · refine z_iconst (v := (-1)) hc dX10_comes_68 rfl ?_
    refine z_goto (tgt := 73) hc dX10_comes_69 (by decide) ?_
    exact z_iret hc dX10_comes_73
set_option maxRecDepth 100000 in
set_option maxHeartbeats 4000000 in
theorem sMo_comes_36 {fin : Int32 × zM} (hc : zCx p s mi args meth c (wM D b) m0 RX10 cX10_comes 4 (some .int)) (hRm : R.frames = 6 ∧ R.locals = 133 ∧ R.cells = zc (wM D b) m0 fin.2 ∧ R.slots = zs (wM D b) m0 fin.2) {zr15 : Int32 → Int32 → Int32 → zM → Option (Int32 × zM)} (hr15 : ∀ (v1 : Int32) (v2 : Int32) (v3 : Int32) (u : zM), zJ eI p l e R s mi args below meth c (wM D b) m0 4 fin 15 [(0, .ref 1), (1, .int v1), (2, .int v2), (3, .int v3)] [] u (zr15 v1 v2 v3 u)) (v1 : Int32) (v2 : Int32) (v3 : Int32) (s0 : Int32) (s1 : Int32) (u : zM) : zJ eI p l e R s mi args below meth c (wM D b) m0 4 fin 36 [(0, .ref 1), (1, .int v1), (2, .int v2), (3, .int v3)] [.int s1, .int s0] u (Mo_comes_36 zr15 v1 v2 v3 s0 s1 u) := by
  unfold Mo_comes_36
  refine z_icmp_eq (tgt := 49) hc dX10_comes_36 (by decide) _ (fun h1 => ?_) (fun h1 => ?_)
  · refine zJ.sub (L' := [(0, .ref 1), (3, .int v3)]) [0, 3] rfl ?_
    exact sMo_comes_49 hc hRm v3 _
  · refine z_aload_n hc dX10_comes_39 0 rfl rfl ?_
    refine z_callV (av := []) (enc' := eV) hc rfl (sMo_passesAsTold _) (ci := 10) (by decide) lM1 (zkM lM1) rfl wMX10_459 hpyX10_passesAsTold hmyX10_passesAsTold (rm_ok hRm (Nat.le_of_ble_eq_true rfl) (Nat.le_of_ble_eq_true rfl)) (Nat.le_of_ble_eq_true rfl) hRm.2.2 dX10_comes_40 (fun c1 u1 f1 => ?_)
    refine z_iinc (L' := [(3, .int (v3 + 1)), (0, .ref 1), (1, .int v1), (2, .int v2)]) hc dX10_comes_43 3 rfl (v := (v3 + 1)) rfl (by decide) rfl rfl ?_
    refine z_goto (tgt := 15) hc dX10_comes_46 (by decide) ?_
    refine zJ.sub (L' := [(0, .ref 1), (1, .int v1), (2, .int v2), (3, .int (v3 + 1))]) [1, 2, 3, 0] rfl ?_
    exact hr15 v1 v2 (v3 + 1) _
set_option maxRecDepth 100000 in
set_option maxHeartbeats 4000000 in
theorem sMo_comes_15b {fin : Int32 × zM} (hc : zCx p s mi args meth c (wM D b) m0 RX10 cX10_comes 4 (some .int)) (hRm : R.frames = 6 ∧ R.locals = 133 ∧ R.cells = zc (wM D b) m0 fin.2 ∧ R.slots = zs (wM D b) m0 fin.2) {zr15 : Int32 → Int32 → Int32 → zM → Option (Int32 × zM)} (hr15 : ∀ (v1 : Int32) (v2 : Int32) (v3 : Int32) (u : zM), zJ eI p l e R s mi args below meth c (wM D b) m0 4 fin 15 [(0, .ref 1), (1, .int v1), (2, .int v2), (3, .int v3)] [] u (zr15 v1 v2 v3 u)) (v1 : Int32) (v2 : Int32) (v3 : Int32) (u : zM) : zJ eI p l e R s mi args below meth c (wM D b) m0 4 fin 15 [(0, .ref 1), (1, .int v1), (2, .int v2), (3, .int v3)] [] u (Mo_comes_15b zr15 v1 v2 v3 u) := by
  unfold Mo_comes_15b
  refine z_iload_n hc dX10_comes_15 3 rfl rfl ?_
  refine z_bipush (v := 60) hc dX10_comes_16 rfl ?_
  refine z_icmp_gt (tgt := 49) hc dX10_comes_18 (by decide) _ (fun h1 => ?_) (fun h1 => ?_)
  · refine zJ.sub (L' := [(0, .ref 1), (3, .int v3)]) [0, 3] rfl ?_
    exact sMo_comes_49 hc hRm v3 _
  · refine z_aload_n hc dX10_comes_21 0 rfl rfl ?_
    refine z_callV (av := []) (enc' := eI) hc rfl (sMo_wets _) (ci := 10) (by decide) lM1 (zkM lM1) rfl wMX10_438 hpyX10_wets hmyX10_wets (rm_ok hRm (Nat.le_of_ble_eq_true rfl) (Nat.le_of_ble_eq_true rfl)) (Nat.le_of_ble_eq_true rfl) hRm.2.2 dX10_comes_22 (fun c1 u1 f1 => ?_)
    refine z_iload_n hc dX10_comes_25 1 rfl rfl ?_
    refine z_iand hc dX10_comes_26 ?_
    refine z_iload_n hc dX10_comes_27 2 rfl rfl ?_
    refine z_if_eq (tgt := 35) hc dX10_comes_28 (by decide) _ (fun h2 => ?_) (fun h2 => ?_)
    · refine z_iconst (v := 0) hc dX10_comes_35 rfl ?_
      exact sMo_comes_36 hc hRm hr15 v1 v2 v3 (c1 &&& v1) 0 _
    · refine z_iload_n hc dX10_comes_31 1 rfl rfl ?_
      refine z_goto (tgt := 36) hc dX10_comes_32 (by decide) ?_
      exact sMo_comes_36 hc hRm hr15 v1 v2 v3 (c1 &&& v1) v1 _
set_option maxRecDepth 100000 in
set_option maxHeartbeats 4000000 in
theorem sMo_comes_15 {fin : Int32 × zM} (hc : zCx p s mi args meth c (wM D b) m0 RX10 cX10_comes 4 (some .int)) (hRm : R.frames = 6 ∧ R.locals = 133 ∧ R.cells = zc (wM D b) m0 fin.2 ∧ R.slots = zs (wM D b) m0 fin.2) : ∀ (zf : Nat) (v1 : Int32) (v2 : Int32) (v3 : Int32) (u : zM), zJ eI p l e R s mi args below meth c (wM D b) m0 4 fin 15 [(0, .ref 1), (1, .int v1), (2, .int v2), (3, .int v3)] [] u (Mo_comes_15 zf v1 v2 v3 u) := by
  intro zf
  induction zf with
  | zero => intro v1 v2 v3 u; exact zJ.nil
  | succ zf ih => intro v1 v2 v3 u; exact sMo_comes_15b hc hRm ih v1 v2 v3 u
set_option maxRecDepth 100000 in
set_option maxHeartbeats 4000000 in
theorem sMo_comes : ∀ (v1 : Int32) (v2 : Int32) (u : zM) r m1, Mo_comes v1 v2 u = some (r, m1) → zMet l (wM D b) 6 133 yX10_comes cX10_comes 4 (some .int) [.ref 1, .int v1, .int v2] u (eI r) m1 := by
  intro v1 v2 u
  refine zMet.of (L := [(0, .ref 1), (1, .int v1), (2, .int v2)]) RX10 (by decide +kernel) rfl (Nat.le_of_ble_eq_true rfl) (fun h => by cases h) rfl (fun p e s mi args below meth c R fin hc hin hRm => ?_)
  unfold Mo_comes
  refine z_aload_n hc dX10_comes_0 0 rfl rfl ?_
  refine z_getR (x := 40) hc (ci := 10) (k := 50) (by decide) (by decide) zly10 lM1 (zkM lM1) wFX10_126 rfl dX10_comes_1 rfl (by decide) ?_
  refine z_iconst (v := 0) hc dX10_comes_4 rfl ?_
  refine z_aload_n hc dX10_comes_5 0 rfl rfl ?_
  refine z_getR (x := 42) hc (ci := 10) (k := 52) (by decide) (by decide) zly10 lM1 (zkM lM1) wFX10_132 rfl dX10_comes_6 rfl (by decide) ?_
  refine z_iconst (v := 0) hc dX10_comes_9 rfl ?_
  refine z_callS (av := [.ref 40, .int 0, .ref 42, .int 0]) (enc' := eV) hc rfl (sMo_copies 40 0 42 0 _) wMX10_434 hpyX10_copies hmyX10_copies (rm_ok hRm (Nat.le_of_ble_eq_true rfl) (Nat.le_of_ble_eq_true rfl)) (Nat.le_of_ble_eq_true rfl) hRm.2.2 dX10_comes_10 (fun c1 u1 f1 => ?_)
  refine z_iconst (v := 0) hc dX10_comes_13 rfl ?_
  refine z_istore_n (L' := [(3, .int 0), (0, .ref 1), (1, .int v1), (2, .int v2)]) hc dX10_comes_14 rfl (by decide) rfl rfl ?_
  refine zJ.sub (L' := [(0, .ref 1), (1, .int v1), (2, .int v2), (3, .int 0)]) [1, 2, 3, 0] rfl ?_
  exact sMo_comes_15 hc hRm zF v1 v2 0 _
set_option maxRecDepth 100000 in
set_option maxHeartbeats 4000000 in
theorem sMo_dry : ∀ (v1 : Int32) (u : zM) r m1, Mo_dry v1 u = some (r, m1) → zMet l (wM D b) 7 156 yX10_dry cX10_dry 2 (some .int) [.ref 1, .int v1] u (eI r) m1 := by
  intro v1 u
  refine zMet.of (L := [(0, .ref 1), (1, .int v1)]) RX10 (by decide +kernel) rfl (Nat.le_of_ble_eq_true rfl) (fun h => by cases h) rfl (fun p e s mi args below meth c R fin hc hin hRm => ?_)
  unfold Mo_dry
  refine z_aload_n hc dX10_dry_0 0 rfl rfl ?_
  refine z_iconst (v := 0) hc dX10_dry_1 rfl ?_
  refine z_putI hc (ci := 10) (k := 0) (by decide) (by decide) zly10 lM1 (zkM lM1) wFX10_162 rfl rfl rfl rfl dX10_dry_2 ?_
  refine zJ.letM (fun u1 e1 => ?_)
  refine z_aload_n hc dX10_dry_5 0 rfl rfl ?_
  refine z_iload_n hc dX10_dry_6 1 rfl rfl ?_
  refine z_callV (av := [.int v1]) (enc' := eI) hc rfl (sMo_isPlace v1 _) (ci := 10) (by decide) lM1 (zkM lM1) rfl wMX10_416 hpyX10_isPlace hmyX10_isPlace (rm_ok hRm (Nat.le_of_ble_eq_true rfl) (Nat.le_of_ble_eq_true rfl)) (Nat.le_of_ble_eq_true rfl) hRm.2.2 dX10_dry_7 (fun c1 u2 f1 => ?_)
  refine z_if_eq (tgt := 24) hc dX10_dry_10 (by decide) _ (fun h1 => ?_) (fun h1 => ?_)
  · refine z_iconst (v := (-1)) hc dX10_dry_24 rfl ?_
    exact z_iret hc dX10_dry_25
  · refine z_aload_n hc dX10_dry_13 0 rfl rfl ?_
    refine z_iconst (v := 1) hc dX10_dry_14 rfl ?_
    refine z_iload_n hc dX10_dry_15 1 rfl rfl ?_
    refine z_ishl hc dX10_dry_16 ?_
    refine z_iconst (v := 0) hc dX10_dry_17 rfl ?_
    refine z_callV (av := [.int (1 <<< (v1 &&& 31)), .int 0]) (enc' := eI) hc rfl (sMo_comes (1 <<< (v1 &&& 31)) 0 _) (ci := 10) (by decide) lM1 (zkM lM1) rfl wMX10_462 hpyX10_comes hmyX10_comes (rm_ok hRm (Nat.le_of_ble_eq_true rfl) (Nat.le_of_ble_eq_true rfl)) (Nat.le_of_ble_eq_true rfl) hRm.2.2 dX10_dry_18 (fun c2 u3 f2 => ?_)
    refine z_goto (tgt := 25) hc dX10_dry_21 (by decide) ?_
    exact z_iret hc dX10_dry_25
set_option maxRecDepth 100000 in
set_option maxHeartbeats 4000000 in
theorem sMo_wet : ∀ (v1 : Int32) (u : zM) r m1, Mo_wet v1 u = some (r, m1) → zMet l (wM D b) 7 156 yX10_wet cX10_wet 2 (some .int) [.ref 1, .int v1] u (eI r) m1 := by
  intro v1 u
  refine zMet.of (L := [(0, .ref 1), (1, .int v1)]) RX10 (by decide +kernel) rfl (Nat.le_of_ble_eq_true rfl) (fun h => by cases h) rfl (fun p e s mi args below meth c R fin hc hin hRm => ?_)
  unfold Mo_wet
  refine z_aload_n hc dX10_wet_0 0 rfl rfl ?_
  refine z_iconst (v := 0) hc dX10_wet_1 rfl ?_
  refine z_putI hc (ci := 10) (k := 0) (by decide) (by decide) zly10 lM1 (zkM lM1) wFX10_162 rfl rfl rfl rfl dX10_wet_2 ?_
  refine zJ.letM (fun u1 e1 => ?_)
  refine z_aload_n hc dX10_wet_5 0 rfl rfl ?_
  refine z_iload_n hc dX10_wet_6 1 rfl rfl ?_
  refine z_callV (av := [.int v1]) (enc' := eI) hc rfl (sMo_isPlace v1 _) (ci := 10) (by decide) lM1 (zkM lM1) rfl wMX10_416 hpyX10_isPlace hmyX10_isPlace (rm_ok hRm (Nat.le_of_ble_eq_true rfl) (Nat.le_of_ble_eq_true rfl)) (Nat.le_of_ble_eq_true rfl) hRm.2.2 dX10_wet_7 (fun c1 u2 f1 => ?_)
  refine z_if_eq (tgt := 24) hc dX10_wet_10 (by decide) _ (fun h1 => ?_) (fun h1 => ?_)
  · refine z_iconst (v := (-1)) hc dX10_wet_24 rfl ?_
    exact z_iret hc dX10_wet_25
  · refine z_aload_n hc dX10_wet_13 0 rfl rfl ?_
    refine z_iconst (v := 1) hc dX10_wet_14 rfl ?_
    refine z_iload_n hc dX10_wet_15 1 rfl rfl ?_
    refine z_ishl hc dX10_wet_16 ?_
    refine z_iconst (v := 1) hc dX10_wet_17 rfl ?_
    refine z_callV (av := [.int (1 <<< (v1 &&& 31)), .int 1]) (enc' := eI) hc rfl (sMo_comes (1 <<< (v1 &&& 31)) 1 _) (ci := 10) (by decide) lM1 (zkM lM1) rfl wMX10_462 hpyX10_comes hmyX10_comes (rm_ok hRm (Nat.le_of_ble_eq_true rfl) (Nat.le_of_ble_eq_true rfl)) (Nat.le_of_ble_eq_true rfl) hRm.2.2 dX10_wet_18 (fun c2 u3 f2 => ?_)
    refine z_goto (tgt := 25) hc dX10_wet_21 (by decide) ?_
    exact z_iret hc dX10_wet_25
set_option maxRecDepth 100000 in
set_option maxHeartbeats 4000000 in
theorem sMo_flood : ∀ (u : zM) r m1, Mo_flood u = some (r, m1) → zMet l (wM D b) 7 156 yX10_flood cX10_flood 1 (some .int) [.ref 1] u (eI r) m1 := by
  intro u
  refine zMet.of (L := [(0, .ref 1)]) RX10 (by decide +kernel) rfl (Nat.le_of_ble_eq_true rfl) (fun h => by cases h) rfl (fun p e s mi args below meth c R fin hc hin hRm => ?_)
  unfold Mo_flood
  refine z_aload_n hc dX10_flood_0 0 rfl rfl ?_
  refine z_iconst (v := 0) hc dX10_flood_1 rfl ?_
  refine z_putI hc (ci := 10) (k := 0) (by decide) (by decide) zly10 lM1 (zkM lM1) wFX10_162 rfl rfl rfl rfl dX10_flood_2 ?_
  refine zJ.letM (fun u1 e1 => ?_)
  refine z_aload_n hc dX10_flood_5 0 rfl rfl ?_
  refine z_iconst (v := 1) hc dX10_flood_6 rfl ?_
  refine z_aload_n hc dX10_flood_7 0 rfl rfl ?_
  refine z_getR (x := 3) hc (ci := 10) (k := 10) (by decide) (by decide) zly10 lM1 (zkM lM1) wFX10_13 rfl dX10_flood_8 rfl (by decide) ?_
  refine z_iconst (v := 0) hc dX10_flood_11 rfl ?_
  refine z_iald (k := 0) hc lM3 (zkM lM3) rfl rfl dX10_flood_12 ?_
  refine z_ishl hc dX10_flood_13 ?_
  refine z_iconst (v := 1) hc dX10_flood_14 rfl ?_
  refine z_isub hc dX10_flood_15 ?_
  refine z_iconst (v := 1) hc dX10_flood_16 rfl ?_
  refine z_callV (av := [.int ((1 <<< ((gI u1 3 0) &&& 31)) - 1), .int 1]) (enc' := eI) hc rfl (sMo_comes ((1 <<< ((gI u1 3 0) &&& 31)) - 1) 1 _) (ci := 10) (by decide) lM1 (zkM lM1) rfl wMX10_462 hpyX10_comes hmyX10_comes (rm_ok hRm (Nat.le_of_ble_eq_true rfl) (Nat.le_of_ble_eq_true rfl)) (Nat.le_of_ble_eq_true rfl) hRm.2.2 dX10_flood_17 (fun c1 u2 f1 => ?_)
  exact z_iret hc dX10_flood_20
set_option maxRecDepth 100000 in
set_option maxHeartbeats 4000000 in
theorem sMo_crest_35b {fin : Int32 × zM} (hc : zCx p s mi args meth c (wM D b) m0 RX10 cX10_crest 5 (some .int)) (hRm : R.frames = 6 ∧ R.locals = 133 ∧ R.cells = zc (wM D b) m0 fin.2 ∧ R.slots = zs (wM D b) m0 fin.2) {zr35 : Int32 → Int32 → Int32 → Int32 → zM → Option (Int32 × zM)} (hr35 : ∀ (v1 : Int32) (v2 : Int32) (v3 : Int32) (v4 : Int32) (u : zM), zJ eI p l e R s mi args below meth c (wM D b) m0 5 fin 35 [(0, .ref 1), (1, .int v1), (2, .int v2), (3, .int v3), (4, .int v4)] [] u (zr35 v1 v2 v3 v4 u)) (v1 : Int32) (v2 : Int32) (v3 : Int32) (v4 : Int32) (u : zM) : zJ eI p l e R s mi args below meth c (wM D b) m0 5 fin 35 [(0, .ref 1), (1, .int v1), (2, .int v2), (3, .int v3), (4, .int v4)] [] u (Mo_crest_35b zr35 v1 v2 v3 v4 u) := by
  unfold Mo_crest_35b
  refine z_iload hc dX10_crest_35 4 rfl ?_
  refine z_bipush (v := 60) hc dX10_crest_37 rfl ?_
  refine z_icmp_gt (tgt := 76) hc dX10_crest_39 (by decide) _ (fun h1 => ?_) (fun h1 => ?_)
  · refine z_aload_n hc dX10_crest_76 0 rfl rfl ?_
    refine z_getR (x := 42) hc (ci := 10) (k := 52) (by decide) (by decide) zly10 lM1 (zkM lM1) wFX10_132 rfl dX10_crest_77 rfl (by decide) ?_
    refine z_iconst (v := 0) hc dX10_crest_80 rfl ?_
    refine z_aload_n hc dX10_crest_81 0 rfl rfl ?_
    refine z_getR (x := 40) hc (ci := 10) (k := 50) (by decide) (by decide) zly10 lM1 (zkM lM1) wFX10_126 rfl dX10_crest_82 rfl (by decide) ?_
    refine z_iconst (v := 0) hc dX10_crest_85 rfl ?_
    refine z_callS (av := [.ref 42, .int 0, .ref 40, .int 0]) (enc' := eV) hc rfl (sMo_copies 42 0 40 0 _) wMX10_434 hpyX10_copies hmyX10_copies (rm_ok hRm (Nat.le_of_ble_eq_true rfl) (Nat.le_of_ble_eq_true rfl)) (Nat.le_of_ble_eq_true rfl) hRm.2.2 dX10_crest_86 (fun c1 u1 f1 => ?_)
    refine z_iload_n hc dX10_crest_89 2 rfl rfl ?_
    exact z_iret hc dX10_crest_90
  · refine z_aload_n hc dX10_crest_42 0 rfl rfl ?_
    refine z_getR (x := 40) hc (ci := 10) (k := 50) (by decide) (by decide) zly10 lM1 (zkM lM1) wFX10_126 rfl dX10_crest_43 rfl (by decide) ?_
    refine z_iconst (v := 1) hc dX10_crest_46 rfl ?_
    refine z_iload_n hc dX10_crest_47 1 rfl rfl ?_
    refine z_iadd hc dX10_crest_48 ?_
    refine zJ.chk _ (fun h2 => ?_)
    refine z_iald (k := (ix (1 + v1))) hc lM40 (zkM lM40) h2 rfl dX10_crest_49 ?_
    refine z_iload_n hc dX10_crest_50 3 rfl rfl ?_
    refine z_icmp_le (tgt := 66) hc dX10_crest_51 (by decide) _ (fun h3 => ?_) (fun h3 => ?_)
    · refine z_aload_n hc dX10_crest_66 0 rfl rfl ?_
      refine z_callV (av := []) (enc' := eV) hc rfl (sMo_passesAsTold _) (ci := 10) (by decide) lM1 (zkM lM1) rfl wMX10_459 hpyX10_passesAsTold hmyX10_passesAsTold (rm_ok hRm (Nat.le_of_ble_eq_true rfl) (Nat.le_of_ble_eq_true rfl)) (Nat.le_of_ble_eq_true rfl) hRm.2.2 dX10_crest_67 (fun c2 u2 f2 => ?_)
      refine z_iinc (L' := [(4, .int (v4 + 1)), (0, .ref 1), (1, .int v1), (2, .int v2), (3, .int v3)]) hc dX10_crest_70 4 rfl (v := (v4 + 1)) rfl (by decide) rfl rfl ?_
      refine z_goto (tgt := 35) hc dX10_crest_73 (by decide) ?_
      refine zJ.sub (L' := [(0, .ref 1), (1, .int v1), (2, .int v2), (3, .int v3), (4, .int (v4 + 1))]) [1, 2, 3, 4, 0] rfl ?_
      exact hr35 v1 v2 v3 (v4 + 1) _
    · refine z_aload_n hc dX10_crest_54 0 rfl rfl ?_
      refine z_getR (x := 40) hc (ci := 10) (k := 50) (by decide) (by decide) zly10 lM1 (zkM lM1) wFX10_126 rfl dX10_crest_55 rfl (by decide) ?_
      refine z_iconst (v := 1) hc dX10_crest_58 rfl ?_
      refine z_iload_n hc dX10_crest_59 1 rfl rfl ?_
      refine z_iadd hc dX10_crest_60 ?_
      refine zJ.chk _ (fun h4 => ?_)
      refine z_iald (k := (ix (1 + v1))) hc lM40 (zkM lM40) h4 rfl dX10_crest_61 ?_
      refine zJ.letI (fun x1 e1 => ?_)
      refine z_istore_n (L' := [(3, .int x1), (0, .ref 1), (1, .int v1), (2, .int v2), (4, .int v4)]) hc dX10_crest_62 rfl (by decide) rfl rfl ?_
      refine z_iload hc dX10_crest_63 4 rfl ?_
      refine z_istore_n (L' := [(2, .int v4), (3, .int x1), (0, .ref 1), (1, .int v1), (4, .int v4)]) hc dX10_crest_65 rfl (by decide) rfl rfl ?_
      refine z_aload_n hc dX10_crest_66 2 rfl rfl ?_
      refine z_callV (av := []) (enc' := eV) hc rfl (sMo_passesAsTold _) (ci := 10) (by decide) lM1 (zkM lM1) rfl wMX10_459 hpyX10_passesAsTold hmyX10_passesAsTold (rm_ok hRm (Nat.le_of_ble_eq_true rfl) (Nat.le_of_ble_eq_true rfl)) (Nat.le_of_ble_eq_true rfl) hRm.2.2 dX10_crest_67 (fun c3 u3 f3 => ?_)
      refine z_iinc (L' := [(4, .int (v4 + 1)), (2, .int v4), (3, .int x1), (0, .ref 1), (1, .int v1)]) hc dX10_crest_70 4 rfl (v := (v4 + 1)) rfl (by decide) rfl rfl ?_
      refine z_goto (tgt := 35) hc dX10_crest_73 (by decide) ?_
      refine zJ.sub (L' := [(0, .ref 1), (1, .int v1), (2, .int v4), (3, .int x1), (4, .int (v4 + 1))]) [3, 4, 1, 2, 0] rfl ?_
      exact hr35 v1 v4 x1 (v4 + 1) _
set_option maxRecDepth 100000 in
set_option maxHeartbeats 4000000 in
theorem sMo_crest_35 {fin : Int32 × zM} (hc : zCx p s mi args meth c (wM D b) m0 RX10 cX10_crest 5 (some .int)) (hRm : R.frames = 6 ∧ R.locals = 133 ∧ R.cells = zc (wM D b) m0 fin.2 ∧ R.slots = zs (wM D b) m0 fin.2) : ∀ (zf : Nat) (v1 : Int32) (v2 : Int32) (v3 : Int32) (v4 : Int32) (u : zM), zJ eI p l e R s mi args below meth c (wM D b) m0 5 fin 35 [(0, .ref 1), (1, .int v1), (2, .int v2), (3, .int v3), (4, .int v4)] [] u (Mo_crest_35 zf v1 v2 v3 v4 u) := by
  intro zf
  induction zf with
  | zero => intro v1 v2 v3 v4 u; exact zJ.nil
  | succ zf ih => intro v1 v2 v3 v4 u; exact sMo_crest_35b hc hRm ih v1 v2 v3 v4 u
set_option maxRecDepth 100000 in
set_option maxHeartbeats 4000000 in
theorem sMo_crest : ∀ (v1 : Int32) (u : zM) r m1, Mo_crest v1 u = some (r, m1) → zMet l (wM D b) 6 133 yX10_crest cX10_crest 5 (some .int) [.ref 1, .int v1] u (eI r) m1 := by
  intro v1 u
  refine zMet.of (L := [(0, .ref 1), (1, .int v1)]) RX10 (by decide +kernel) rfl (Nat.le_of_ble_eq_true rfl) (fun h => by cases h) rfl (fun p e s mi args below meth c R fin hc hin hRm => ?_)
  unfold Mo_crest
  refine z_aload_n hc dX10_crest_0 0 rfl rfl ?_
  refine z_iconst (v := 0) hc dX10_crest_1 rfl ?_
  refine z_putI hc (ci := 10) (k := 0) (by decide) (by decide) zly10 lM1 (zkM lM1) wFX10_162 rfl rfl rfl rfl dX10_crest_2 ?_
  refine zJ.letM (fun u1 e1 => ?_)
  refine z_aload_n hc dX10_crest_5 0 rfl rfl ?_
  refine z_iload_n hc dX10_crest_6 1 rfl rfl ?_
  refine z_callV (av := [.int v1]) (enc' := eI) hc rfl (sMo_isPlace v1 _) (ci := 10) (by decide) lM1 (zkM lM1) rfl wMX10_416 hpyX10_isPlace hmyX10_isPlace (rm_ok hRm (Nat.le_of_ble_eq_true rfl) (Nat.le_of_ble_eq_true rfl)) (Nat.le_of_ble_eq_true rfl) hRm.2.2 dX10_crest_7 (fun c1 u2 f1 => ?_)
  refine z_if_ne (tgt := 15) hc dX10_crest_10 (by decide) _ (fun h1 => ?_) (fun h1 => ?_)
  · refine z_aload_n hc dX10_crest_15 0 rfl rfl ?_
    refine z_getR (x := 40) hc (ci := 10) (k := 50) (by decide) (by decide) zly10 lM1 (zkM lM1) wFX10_126 rfl dX10_crest_16 rfl (by decide) ?_
    refine z_iconst (v := 0) hc dX10_crest_19 rfl ?_
    refine z_aload_n hc dX10_crest_20 0 rfl rfl ?_
    refine z_getR (x := 42) hc (ci := 10) (k := 52) (by decide) (by decide) zly10 lM1 (zkM lM1) wFX10_132 rfl dX10_crest_21 rfl (by decide) ?_
    refine z_iconst (v := 0) hc dX10_crest_24 rfl ?_
    refine z_callS (av := [.ref 40, .int 0, .ref 42, .int 0]) (enc' := eV) hc rfl (sMo_copies 40 0 42 0 _) wMX10_434 hpyX10_copies hmyX10_copies (rm_ok hRm (Nat.le_of_ble_eq_true rfl) (Nat.le_of_ble_eq_true rfl)) (Nat.le_of_ble_eq_true rfl) hRm.2.2 dX10_crest_25 (fun c2 u3 f2 => ?_)
    refine z_iconst (v := 0) hc dX10_crest_28 rfl ?_
    refine z_istore_n (L' := [(2, .int 0), (0, .ref 1), (1, .int v1)]) hc dX10_crest_29 rfl (by decide) rfl rfl ?_
    refine z_iconst (v := (-1)) hc dX10_crest_30 rfl ?_
    refine z_istore_n (L' := [(3, .int (-1)), (2, .int 0), (0, .ref 1), (1, .int v1)]) hc dX10_crest_31 rfl (by decide) rfl rfl ?_
    refine z_iconst (v := 0) hc dX10_crest_32 rfl ?_
    refine z_istore (L' := [(4, .int 0), (3, .int (-1)), (2, .int 0), (0, .ref 1), (1, .int v1)]) hc dX10_crest_33 (by decide) rfl rfl ?_
    refine zJ.sub (L' := [(0, .ref 1), (1, .int v1), (2, .int 0), (3, .int (-1)), (4, .int 0)]) [3, 4, 2, 1, 0] rfl ?_
    exact sMo_crest_35 hc hRm zF v1 0 (-1) 0 _
  · refine z_iconst (v := (-1)) hc dX10_crest_13 rfl ?_
    exact z_iret hc dX10_crest_14
set_option maxRecDepth 100000 in
set_option maxHeartbeats 4000000 in
theorem sMo_safe_61b {fin : Int32 × zM} (hc : zCx p s mi args meth c (wM D b) m0 RX10 cX10_safe 6 (some .int)) (hRm : R.frames = 6 ∧ R.locals = 133 ∧ R.cells = zc (wM D b) m0 fin.2 ∧ R.slots = zs (wM D b) m0 fin.2) {zr52 : Int32 → Int32 → Int32 → Int32 → zM → Option (Int32 × zM)} (hr52 : ∀ (v1 : Int32) (v2 : Int32) (v3 : Int32) (v4 : Int32) (u : zM), zJ eI p l e R s mi args below meth c (wM D b) m0 6 fin 52 [(0, .ref 1), (1, .int v1), (2, .int v2), (3, .int v3), (4, .int v4)] [] u (zr52 v1 v2 v3 v4 u)) {zr61 : Int32 → Int32 → Int32 → Int32 → Int32 → zM → Option (Int32 × zM)} (hr61 : ∀ (v1 : Int32) (v2 : Int32) (v3 : Int32) (v4 : Int32) (v5 : Int32) (u : zM), zJ eI p l e R s mi args below meth c (wM D b) m0 6 fin 61 [(0, .ref 1), (1, .int v1), (2, .int v2), (3, .int v3), (4, .int v4), (5, .int v5)] [] u (zr61 v1 v2 v3 v4 v5 u)) (v1 : Int32) (v2 : Int32) (v3 : Int32) (v4 : Int32) (v5 : Int32) (u : zM) : zJ eI p l e R s mi args below meth c (wM D b) m0 6 fin 61 [(0, .ref 1), (1, .int v1), (2, .int v2), (3, .int v3), (4, .int v4), (5, .int v5)] [] u (Mo_safe_61b zr52 zr61 v1 v2 v3 v4 v5 u) := by
  unfold Mo_safe_61b
  refine z_iload hc dX10_safe_61 5 rfl ?_
  refine z_aload_n hc dX10_safe_63 0 rfl rfl ?_
  refine z_getR (x := 3) hc (ci := 10) (k := 10) (by decide) (by decide) zly10 lM1 (zkM lM1) wFX10_13 rfl dX10_safe_64 rfl (by decide) ?_
  refine z_iconst (v := 0) hc dX10_safe_67 rfl ?_
  refine z_iald (k := 0) hc lM3 (zkM lM3) rfl rfl dX10_safe_68 ?_
  refine z_icmp_ge (tgt := 104) hc dX10_safe_69 (by decide) _ (fun h1 => ?_) (fun h1 => ?_)
  · refine z_aload_n hc dX10_safe_104 0 rfl rfl ?_
    refine z_callV (av := []) (enc' := eV) hc rfl (sMo_passesAsTold _) (ci := 10) (by decide) lM1 (zkM lM1) rfl wMX10_459 hpyX10_passesAsTold hmyX10_passesAsTold (rm_ok hRm (Nat.le_of_ble_eq_true rfl) (Nat.le_of_ble_eq_true rfl)) (Nat.le_of_ble_eq_true rfl) hRm.2.2 dX10_safe_105 (fun c1 u1 f1 => ?_)
    refine z_iinc (L' := [(4, .int (v4 + 1)), (0, .ref 1), (1, .int v1), (2, .int v2), (3, .int v3), (5, .int v5)]) hc dX10_safe_108 4 rfl (v := (v4 + 1)) rfl (by decide) rfl rfl ?_
    refine z_goto (tgt := 52) hc dX10_safe_111 (by decide) ?_
    refine zJ.sub (L' := [(0, .ref 1), (1, .int v1), (2, .int v2), (3, .int v3), (4, .int (v4 + 1))]) [1, 2, 3, 4, 0] rfl ?_
    exact hr52 v1 v2 v3 (v4 + 1) _
  · refine z_aload_n hc dX10_safe_72 0 rfl rfl ?_
    refine z_iload_n hc dX10_safe_73 1 rfl rfl ?_
    refine z_aload_n hc dX10_safe_74 0 rfl rfl ?_
    refine z_getR (x := 40) hc (ci := 10) (k := 50) (by decide) (by decide) zly10 lM1 (zkM lM1) wFX10_126 rfl dX10_safe_75 rfl (by decide) ?_
    refine z_iconst (v := 1) hc dX10_safe_78 rfl ?_
    refine z_iload hc dX10_safe_79 5 rfl ?_
    refine z_iadd hc dX10_safe_81 ?_
    refine zJ.chk _ (fun h2 => ?_)
    refine z_iald (k := (ix (1 + v5))) hc lM40 (zkM lM40) h2 rfl dX10_safe_82 ?_
    refine z_callV (av := [.int v1, .int (gI u 40 (ix (1 + v5)))]) (enc' := eI) hc rfl (sMo_isServed v1 (gI u 40 (ix (1 + v5))) _) (ci := 10) (by decide) lM1 (zkM lM1) rfl wMX10_441 hpyX10_isServed hmyX10_isServed (rm_ok hRm (Nat.le_of_ble_eq_true rfl) (Nat.le_of_ble_eq_true rfl)) (Nat.le_of_ble_eq_true rfl) hRm.2.2 dX10_safe_83 (fun c2 u2 f2 => ?_)
    refine z_if_eq (tgt := 98) hc dX10_safe_86 (by decide) _ (fun h3 => ?_) (fun h3 => ?_)
    · refine z_iinc (L' := [(5, .int (v5 + 1)), (0, .ref 1), (1, .int v1), (2, .int v2), (3, .int v3), (4, .int v4)]) hc dX10_safe_98 5 rfl (v := (v5 + 1)) rfl (by decide) rfl rfl ?_
      refine z_goto (tgt := 61) hc dX10_safe_101 (by decide) ?_
      refine zJ.sub (L' := [(0, .ref 1), (1, .int v1), (2, .int v2), (3, .int v3), (4, .int v4), (5, .int (v5 + 1))]) [1, 2, 3, 4, 5, 0] rfl ?_
      exact hr61 v1 v2 v3 v4 (v5 + 1) _
    · refine z_iload_n hc dX10_safe_89 3 rfl rfl ?_
      refine z_iconst (v := 1) hc dX10_safe_90 rfl ?_
      refine z_iload hc dX10_safe_91 5 rfl ?_
      refine z_ishl hc dX10_safe_93 ?_
      refine z_iconst (v := (-1)) hc dX10_safe_94 rfl ?_
      refine z_ixor hc dX10_safe_95 ?_
      refine z_iand hc dX10_safe_96 ?_
      refine zJ.letI (fun x1 e1 => ?_)
      refine z_istore_n (L' := [(3, .int x1), (0, .ref 1), (1, .int v1), (2, .int v2), (4, .int v4), (5, .int v5)]) hc dX10_safe_97 rfl (by decide) rfl rfl ?_
      refine z_iinc (L' := [(5, .int (v5 + 1)), (3, .int x1), (0, .ref 1), (1, .int v1), (2, .int v2), (4, .int v4)]) hc dX10_safe_98 5 rfl (v := (v5 + 1)) rfl (by decide) rfl rfl ?_
      refine z_goto (tgt := 61) hc dX10_safe_101 (by decide) ?_
      refine zJ.sub (L' := [(0, .ref 1), (1, .int v1), (2, .int v2), (3, .int x1), (4, .int v4), (5, .int (v5 + 1))]) [2, 3, 4, 1, 5, 0] rfl ?_
      exact hr61 v1 v2 x1 v4 (v5 + 1) _
set_option maxRecDepth 100000 in
set_option maxHeartbeats 4000000 in
theorem sMo_safe_61 {fin : Int32 × zM} (hc : zCx p s mi args meth c (wM D b) m0 RX10 cX10_safe 6 (some .int)) (hRm : R.frames = 6 ∧ R.locals = 133 ∧ R.cells = zc (wM D b) m0 fin.2 ∧ R.slots = zs (wM D b) m0 fin.2) {zr52 : Int32 → Int32 → Int32 → Int32 → zM → Option (Int32 × zM)} (hr52 : ∀ (v1 : Int32) (v2 : Int32) (v3 : Int32) (v4 : Int32) (u : zM), zJ eI p l e R s mi args below meth c (wM D b) m0 6 fin 52 [(0, .ref 1), (1, .int v1), (2, .int v2), (3, .int v3), (4, .int v4)] [] u (zr52 v1 v2 v3 v4 u)) : ∀ (zf : Nat) (v1 : Int32) (v2 : Int32) (v3 : Int32) (v4 : Int32) (v5 : Int32) (u : zM), zJ eI p l e R s mi args below meth c (wM D b) m0 6 fin 61 [(0, .ref 1), (1, .int v1), (2, .int v2), (3, .int v3), (4, .int v4), (5, .int v5)] [] u (Mo_safe_61 zf zr52 v1 v2 v3 v4 v5 u) := by
  intro zf
  induction zf with
  | zero => intro v1 v2 v3 v4 v5 u; exact zJ.nil
  | succ zf ih => intro v1 v2 v3 v4 v5 u; exact sMo_safe_61b hc hRm hr52 ih v1 v2 v3 v4 v5 u
set_option maxRecDepth 100000 in
set_option maxHeartbeats 4000000 in
theorem sMo_safe_52b {fin : Int32 × zM} (hc : zCx p s mi args meth c (wM D b) m0 RX10 cX10_safe 6 (some .int)) (hRm : R.frames = 6 ∧ R.locals = 133 ∧ R.cells = zc (wM D b) m0 fin.2 ∧ R.slots = zs (wM D b) m0 fin.2) {zr52 : Int32 → Int32 → Int32 → Int32 → zM → Option (Int32 × zM)} (hr52 : ∀ (v1 : Int32) (v2 : Int32) (v3 : Int32) (v4 : Int32) (u : zM), zJ eI p l e R s mi args below meth c (wM D b) m0 6 fin 52 [(0, .ref 1), (1, .int v1), (2, .int v2), (3, .int v3), (4, .int v4)] [] u (zr52 v1 v2 v3 v4 u)) (v1 : Int32) (v2 : Int32) (v3 : Int32) (v4 : Int32) (u : zM) : zJ eI p l e R s mi args below meth c (wM D b) m0 6 fin 52 [(0, .ref 1), (1, .int v1), (2, .int v2), (3, .int v3), (4, .int v4)] [] u (Mo_safe_52b zr52 v1 v2 v3 v4 u) := by
  unfold Mo_safe_52b
  refine z_iload hc dX10_safe_52 4 rfl ?_
  refine z_iload_n hc dX10_safe_54 2 rfl rfl ?_
  refine z_icmp_gt (tgt := 114) hc dX10_safe_55 (by decide) _ (fun h1 => ?_) (fun h1 => ?_)
  · refine z_aload_n hc dX10_safe_114 0 rfl rfl ?_
    refine z_getR (x := 42) hc (ci := 10) (k := 52) (by decide) (by decide) zly10 lM1 (zkM lM1) wFX10_132 rfl dX10_safe_115 rfl (by decide) ?_
    refine z_iconst (v := 0) hc dX10_safe_118 rfl ?_
    refine z_aload_n hc dX10_safe_119 0 rfl rfl ?_
    refine z_getR (x := 40) hc (ci := 10) (k := 50) (by decide) (by decide) zly10 lM1 (zkM lM1) wFX10_126 rfl dX10_safe_120 rfl (by decide) ?_
    refine z_iconst (v := 0) hc dX10_safe_123 rfl ?_
    refine z_callS (av := [.ref 42, .int 0, .ref 40, .int 0]) (enc' := eV) hc rfl (sMo_copies 42 0 40 0 _) wMX10_434 hpyX10_copies hmyX10_copies (rm_ok hRm (Nat.le_of_ble_eq_true rfl) (Nat.le_of_ble_eq_true rfl)) (Nat.le_of_ble_eq_true rfl) hRm.2.2 dX10_safe_124 (fun c1 u1 f1 => ?_)
    refine z_iload_n hc dX10_safe_127 3 rfl rfl ?_
    exact z_iret hc dX10_safe_128
  · refine z_iconst (v := 0) hc dX10_safe_58 rfl ?_
    refine z_istore (L' := [(5, .int 0), (0, .ref 1), (1, .int v1), (2, .int v2), (3, .int v3), (4, .int v4)]) hc dX10_safe_59 (by decide) rfl rfl ?_
    refine zJ.sub (L' := [(0, .ref 1), (1, .int v1), (2, .int v2), (3, .int v3), (4, .int v4), (5, .int 0)]) [1, 2, 3, 4, 5, 0] rfl ?_
    exact sMo_safe_61 hc hRm hr52 zF v1 v2 v3 v4 0 _
set_option maxRecDepth 100000 in
set_option maxHeartbeats 4000000 in
theorem sMo_safe_52 {fin : Int32 × zM} (hc : zCx p s mi args meth c (wM D b) m0 RX10 cX10_safe 6 (some .int)) (hRm : R.frames = 6 ∧ R.locals = 133 ∧ R.cells = zc (wM D b) m0 fin.2 ∧ R.slots = zs (wM D b) m0 fin.2) : ∀ (zf : Nat) (v1 : Int32) (v2 : Int32) (v3 : Int32) (v4 : Int32) (u : zM), zJ eI p l e R s mi args below meth c (wM D b) m0 6 fin 52 [(0, .ref 1), (1, .int v1), (2, .int v2), (3, .int v3), (4, .int v4)] [] u (Mo_safe_52 zf v1 v2 v3 v4 u) := by
  intro zf
  induction zf with
  | zero => intro v1 v2 v3 v4 u; exact zJ.nil
  | succ zf ih => intro v1 v2 v3 v4 u; exact sMo_safe_52b hc hRm ih v1 v2 v3 v4 u
set_option maxRecDepth 100000 in
set_option maxHeartbeats 4000000 in
theorem sMo_safe : ∀ (v1 : Int32) (v2 : Int32) (u : zM) r m1, Mo_safe v1 v2 u = some (r, m1) → zMet l (wM D b) 6 133 yX10_safe cX10_safe 6 (some .int) [.ref 1, .int v1, .int v2] u (eI r) m1 := by
  intro v1 v2 u
  refine zMet.of (L := [(0, .ref 1), (1, .int v1), (2, .int v2)]) RX10 (by decide +kernel) rfl (Nat.le_of_ble_eq_true rfl) (fun h => by cases h) rfl (fun p e s mi args below meth c R fin hc hin hRm => ?_)
  unfold Mo_safe
  refine z_aload_n hc dX10_safe_0 0 rfl rfl ?_
  refine z_iconst (v := 0) hc dX10_safe_1 rfl ?_
  refine z_putI hc (ci := 10) (k := 0) (by decide) (by decide) zly10 lM1 (zkM lM1) wFX10_162 rfl rfl rfl rfl dX10_safe_2 ?_
  refine zJ.letM (fun u1 e1 => ?_)
  refine z_aload_n hc dX10_safe_5 0 rfl rfl ?_
  refine z_iload_n hc dX10_safe_6 1 rfl rfl ?_
  refine z_callV (av := [.int v1]) (enc' := eI) hc rfl (sMo_isPerson v1 _) (ci := 10) (by decide) lM1 (zkM lM1) rfl wMX10_422 hpyX10_isPerson hmyX10_isPerson (rm_ok hRm (Nat.le_of_ble_eq_true rfl) (Nat.le_of_ble_eq_true rfl)) (Nat.le_of_ble_eq_true rfl) hRm.2.2 dX10_safe_7 (fun c1 u2 f1 => ?_)
  refine z_if_eq (tgt := 23) hc dX10_safe_10 (by decide) _ (fun h1 => ?_) (fun h1 => ?_)
  · refine z_iconst (v := (-1)) hc dX10_safe_23 rfl ?_
    exact z_iret hc dX10_safe_24
  · refine z_iload_n hc dX10_safe_13 2 rfl rfl ?_
    refine z_iconst (v := 1) hc dX10_safe_14 rfl ?_
    refine z_bipush (v := 60) hc dX10_safe_15 rfl ?_
    refine z_callS (av := [.int v2, .int 1, .int 60]) (enc' := eI) hc rfl (sMo_within v2 1 60 _) wMX10_293 hpyX10_within hmyX10_within (rm_ok hRm (Nat.le_of_ble_eq_true rfl) (Nat.le_of_ble_eq_true rfl)) (Nat.le_of_ble_eq_true rfl) hRm.2.2 dX10_safe_17 (fun c2 u3 f2 => ?_)
    refine z_if_ne (tgt := 25) hc dX10_safe_20 (by decide) _ (fun h2 => ?_) (fun h2 => ?_)
    · refine z_aload_n hc dX10_safe_25 0 rfl rfl ?_
      refine z_getR (x := 40) hc (ci := 10) (k := 50) (by decide) (by decide) zly10 lM1 (zkM lM1) wFX10_126 rfl dX10_safe_26 rfl (by decide) ?_
      refine z_iconst (v := 0) hc dX10_safe_29 rfl ?_
      refine z_aload_n hc dX10_safe_30 0 rfl rfl ?_
      refine z_getR (x := 42) hc (ci := 10) (k := 52) (by decide) (by decide) zly10 lM1 (zkM lM1) wFX10_132 rfl dX10_safe_31 rfl (by decide) ?_
      refine z_iconst (v := 0) hc dX10_safe_34 rfl ?_
      refine z_callS (av := [.ref 40, .int 0, .ref 42, .int 0]) (enc' := eV) hc rfl (sMo_copies 40 0 42 0 _) wMX10_434 hpyX10_copies hmyX10_copies (rm_ok hRm (Nat.le_of_ble_eq_true rfl) (Nat.le_of_ble_eq_true rfl)) (Nat.le_of_ble_eq_true rfl) hRm.2.2 dX10_safe_35 (fun c3 u4 f3 => ?_)
      refine z_iconst (v := 1) hc dX10_safe_38 rfl ?_
      refine z_aload_n hc dX10_safe_39 0 rfl rfl ?_
      refine z_getR (x := 3) hc (ci := 10) (k := 10) (by decide) (by decide) zly10 lM1 (zkM lM1) wFX10_13 rfl dX10_safe_40 rfl (by decide) ?_
      refine z_iconst (v := 0) hc dX10_safe_43 rfl ?_
      refine z_iald (k := 0) hc lM3 (zkM lM3) rfl rfl dX10_safe_44 ?_
      refine z_ishl hc dX10_safe_45 ?_
      refine z_iconst (v := 1) hc dX10_safe_46 rfl ?_
      refine z_isub hc dX10_safe_47 ?_
      refine zJ.letI (fun x1 e2 => ?_)
      refine z_istore_n (L' := [(3, .int x1), (0, .ref 1), (1, .int v1), (2, .int v2)]) hc dX10_safe_48 rfl (by decide) rfl rfl ?_
      refine z_iconst (v := 0) hc dX10_safe_49 rfl ?_
      refine z_istore (L' := [(4, .int 0), (3, .int x1), (0, .ref 1), (1, .int v1), (2, .int v2)]) hc dX10_safe_50 (by decide) rfl rfl ?_
      refine zJ.sub (L' := [(0, .ref 1), (1, .int v1), (2, .int v2), (3, .int x1), (4, .int 0)]) [2, 3, 4, 1, 0] rfl ?_
      exact sMo_safe_52 hc hRm zF v1 v2 x1 0 _
    · refine z_iconst (v := (-1)) hc dX10_safe_23 rfl ?_
      exact z_iret hc dX10_safe_24
end ZS
