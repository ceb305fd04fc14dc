section ZS
variable {p : Program} {l : Launch} {e : Env} {R : Room} {s : State} {mi : MethodId} {args : Array Value} {below : List Frame} {meth : Method} {c : Code} {D : zD} {b : Nat} {m0 : zM}
set_option maxRecDepth 100000 in
set_option maxHeartbeats 4000000 in
theorem sMo_nextTo_4b {fin : Int32 × zM} (hc : zCx p s mi args meth c (wM D b) m0 RX10 cX10_nextTo 4 (some .int)) (hRm : R.frames = 0 ∧ R.locals = 0 ∧ R.cells = zc (wM D b) m0 fin.2 ∧ R.slots = zs (wM D b) m0 fin.2) {zr4 : Int32 → Int32 → Int32 → zM → Option (Int32 × zM)} (hr4 : ∀ (v1 : Int32) (v2 : Int32) (v3 : Int32) (u : zM), zJ eI p l e R s mi args below meth c (wM D b) m0 4 fin 4 [(0, .ref 1), (1, .int v1), (2, .int v2), (3, .int v3)] [] u (zr4 v1 v2 v3 u)) (v1 : Int32) (v2 : Int32) (v3 : Int32) (u : zM) : zJ eI p l e R s mi args below meth c (wM D b) m0 4 fin 4 [(0, .ref 1), (1, .int v1), (2, .int v2), (3, .int v3)] [] u (Mo_nextTo_4b zr4 v1 v2 v3 u) := by
  unfold Mo_nextTo_4b
  refine z_iload_n hc dX10_nextTo_4 3 rfl rfl ?_
  refine z_aload_n hc dX10_nextTo_5 0 rfl rfl ?_
  refine z_getR (x := 3) hc (ci := 10) (k := 10) (by decide) (by decide) zly10 lM1 (zkM lM1) wFX10_13 rfl dX10_nextTo_6 rfl (by decide) ?_
  refine z_iconst (v := 0) hc dX10_nextTo_9 rfl ?_
  refine z_iald (k := 0) hc lM3 (zkM lM3) rfl rfl dX10_nextTo_10 ?_
  refine z_icmp_ge (tgt := 42) hc dX10_nextTo_11 (by decide) _ (fun h1 => ?_) (fun h1 => ?_)
  · refine z_iload_n hc dX10_nextTo_42 2 rfl rfl ?_
    exact z_iret hc dX10_nextTo_43
  · refine z_iload_n hc dX10_nextTo_14 2 rfl rfl ?_
    refine z_iload_n hc dX10_nextTo_15 1 rfl rfl ?_
    refine z_iload_n hc dX10_nextTo_16 3 rfl rfl ?_
    refine z_ishr hc dX10_nextTo_17 ?_
    refine z_iconst (v := 1) hc dX10_nextTo_18 rfl ?_
    refine z_iand hc dX10_nextTo_19 ?_
    refine z_iconst (v := 1) hc dX10_nextTo_20 rfl ?_
    refine z_icmp_ne (tgt := 33) hc dX10_nextTo_21 (by decide) _ (fun h2 => ?_) (fun h2 => ?_)
    · refine z_iconst (v := 0) hc dX10_nextTo_33 rfl ?_
      refine z_ior hc dX10_nextTo_34 ?_
      refine zJ.letI (fun x1 e1 => ?_)
      refine z_istore_n (L' := [(2, .int x1), (0, .ref 1), (1, .int v1), (3, .int v3)]) hc dX10_nextTo_35 rfl (by decide) rfl rfl ?_
      refine z_iinc (L' := [(3, .int (v3 + 1)), (2, .int x1), (0, .ref 1), (1, .int v1)]) hc dX10_nextTo_36 3 rfl (v := (v3 + 1)) rfl (by decide) rfl rfl ?_
      refine z_goto (tgt := 4) hc dX10_nextTo_39 (by decide) ?_
      refine zJ.sub (L' := [(0, .ref 1), (1, .int v1), (2, .int x1), (3, .int (v3 + 1))]) [2, 3, 1, 0] rfl ?_
      exact hr4 v1 x1 (v3 + 1) _
    · refine z_aload_n hc dX10_nextTo_24 0 rfl rfl ?_
      refine z_getR (x := 9) hc (ci := 10) (k := 16) (by decide) (by decide) zly10 lM1 (zkM lM1) wFX10_32 rfl dX10_nextTo_25 rfl (by decide) ?_
      refine z_iload_n hc dX10_nextTo_28 3 rfl rfl ?_
      refine zJ.chk _ (fun h3 => ?_)
      refine z_iald (k := (ix v3)) hc lM9 (zkM lM9) h3 rfl dX10_nextTo_29 ?_
      refine z_goto (tgt := 34) hc dX10_nextTo_30 (by decide) ?_
      refine z_ior hc dX10_nextTo_34 ?_
      refine zJ.letI (fun x2 e2 => ?_)
      refine z_istore_n (L' := [(2, .int x2), (0, .ref 1), (1, .int v1), (3, .int v3)]) hc dX10_nextTo_35 rfl (by decide) rfl rfl ?_
      refine z_iinc (L' := [(3, .int (v3 + 1)), (2, .int x2), (0, .ref 1), (1, .int v1)]) hc dX10_nextTo_36 3 rfl (v := (v3 + 1)) rfl (by decide) rfl rfl ?_
      refine z_goto (tgt := 4) hc dX10_nextTo_39 (by decide) ?_
      refine zJ.sub (L' := [(0, .ref 1), (1, .int v1), (2, .int x2), (3, .int (v3 + 1))]) [2, 3, 1, 0] rfl ?_
      exact hr4 v1 x2 (v3 + 1) _
set_option maxRecDepth 100000 in
set_option maxHeartbeats 4000000 in
theorem sMo_nextTo_4 {fin : Int32 × zM} (hc : zCx p s mi args meth c (wM D b) m0 RX10 cX10_nextTo 4 (some .int)) (hRm : R.frames = 0 ∧ R.locals = 0 ∧ R.cells = zc (wM D b) m0 fin.2 ∧ R.slots = zs (wM D b) m0 fin.2) : ∀ (zf : Nat) (v1 : Int32) (v2 : Int32) (v3 : Int32) (u : zM), zJ eI p l e R s mi args below meth c (wM D b) m0 4 fin 4 [(0, .ref 1), (1, .int v1), (2, .int v2), (3, .int v3)] [] u (Mo_nextTo_4 zf v1 v2 v3 u) := by
  intro zf
  induction zf with
  | zero => intro v1 v2 v3 u; exact zJ.nil
  | succ zf ih => intro v1 v2 v3 u; exact sMo_nextTo_4b hc hRm ih v1 v2 v3 u
set_option maxRecDepth 100000 in
set_option maxHeartbeats 4000000 in
theorem sMo_nextTo : ∀ (v1 : Int32) (u : zM) r m1, Mo_nextTo v1 u = some (r, m1) → zMet l (wM D b) 0 0 yX10_nextTo cX10_nextTo 4 (some .int) [.ref 1, .int v1] u (eI r) m1 := by
  intro v1 u
  refine zMet.of (L := [(0, .ref 1), (1, .int v1)]) RX10 (by decide +kernel) rfl (Nat.le_of_ble_eq_true rfl) (fun h => by cases h) rfl (fun p e s mi args below meth c R fin hc hin hRm => ?_)
  unfold Mo_nextTo
  refine z_iconst (v := 0) hc dX10_nextTo_0 rfl ?_
  refine z_istore_n (L' := [(2, .int 0), (0, .ref 1), (1, .int v1)]) hc dX10_nextTo_1 rfl (by decide) rfl rfl ?_
  refine z_iconst (v := 0) hc dX10_nextTo_2 rfl ?_
  refine z_istore_n (L' := [(3, .int 0), (2, .int 0), (0, .ref 1), (1, .int v1)]) hc dX10_nextTo_3 rfl (by decide) rfl rfl ?_
  refine zJ.sub (L' := [(0, .ref 1), (1, .int v1), (2, .int 0), (3, .int 0)]) [2, 3, 1, 0] rfl ?_
  exact sMo_nextTo_4 hc hRm zF v1 0 0 _
set_option maxRecDepth 100000 in
set_option maxHeartbeats 4000000 in
theorem sMo_swimsAll_38 {fin : Unit × zM} (hc : zCx p s mi args meth c (wM D b) m0 RX10 cX10_swimsAll 5 none) (hRm : R.frames = 1 ∧ R.locals = 23 ∧ R.cells = zc (wM D b) m0 fin.2 ∧ R.slots = zs (wM D b) m0 fin.2) {zr8 : Int32 → Int32 → Int32 → Int32 → zM → Option (Unit × zM)} (hr8 : ∀ (v1 : Int32) (v2 : Int32) (v3 : Int32) (v4 : Int32) (u : zM), zJ eV p l e R s mi args below meth c (wM D b) m0 5 fin 8 [(0, .ref 1), (1, .int v1), (2, .int v2), (3, .int v3), (4, .int v4)] [] u (zr8 v1 v2 v3 v4 u)) (v1 : Int32) (v2 : Int32) (v3 : Int32) (v4 : Int32) (u : zM) : zJ eV p l e R s mi args below meth c (wM D b) m0 5 fin 38 [(0, .ref 1), (1, .int v1), (2, .int v2), (3, .int v3), (4, .int v4)] [] u (Mo_swimsAll_38 zr8 v1 v2 v3 v4 u) := by
  unfold Mo_swimsAll_38
  refine z_iload hc dX10_swimsAll_38 4 rfl ?_
  refine z_iload_n hc dX10_swimsAll_40 1 rfl rfl ?_
  refine z_icmp_ne (tgt := 47) hc dX10_swimsAll_41 (by decide) _ (fun h1 => ?_) (fun h1 => ?_)
  · refine z_aload_n hc dX10_swimsAll_47 0 rfl rfl ?_
    refine z_dup hc dX10_swimsAll_48 rfl ?_
    refine z_getI hc (ci := 10) (k := 58) (by decide) (by decide) zly10 lM1 (zkM lM1) wFX10_466 rfl dX10_swimsAll_49 ?_
    refine z_aload_n hc dX10_swimsAll_52 0 rfl rfl ?_
    refine z_aload_n hc dX10_swimsAll_53 0 rfl rfl ?_
    refine z_getI hc (ci := 10) (k := 58) (by decide) (by decide) zly10 lM1 (zkM lM1) wFX10_466 rfl dX10_swimsAll_54 ?_
    refine z_iload_n hc dX10_swimsAll_57 3 rfl rfl ?_
    refine z_iand hc dX10_swimsAll_58 ?_
    refine z_callV (av := [.int ((gI u 1 58) &&& v3)]) (enc' := eI) hc rfl (sMo_nextTo ((gI u 1 58) &&& v3) _) (ci := 10) (by decide) lM1 (zkM lM1) rfl wMX10_472 hpyX10_nextTo hmyX10_nextTo (rm_ok hRm (Nat.le_of_ble_eq_true rfl) (Nat.le_of_ble_eq_true rfl)) (Nat.le_of_ble_eq_true rfl) hRm.2.2 dX10_swimsAll_59 (fun c1 u1 f1 => ?_)
    refine z_iload_n hc dX10_swimsAll_62 3 rfl rfl ?_
    refine z_iand hc dX10_swimsAll_63 ?_
    refine z_ior hc dX10_swimsAll_64 ?_
    refine z_putI hc (ci := 10) (k := 58) (by decide) (by decide) zly10 lM1 (zkM lM1) wFX10_466 rfl rfl rfl rfl dX10_swimsAll_65 ?_
    refine zJ.letM (fun u2 e1 => ?_)
    refine z_aload_n hc dX10_swimsAll_68 0 rfl rfl ?_
    refine z_dup hc dX10_swimsAll_69 rfl ?_
    refine z_getI hc (ci := 10) (k := 59) (by decide) (by decide) zly10 lM1 (zkM lM1) wFX10_469 rfl dX10_swimsAll_70 ?_
    refine z_aload_n hc dX10_swimsAll_73 0 rfl rfl ?_
    refine z_aload_n hc dX10_swimsAll_74 0 rfl rfl ?_
    refine z_getI hc (ci := 10) (k := 59) (by decide) (by decide) zly10 lM1 (zkM lM1) wFX10_469 rfl dX10_swimsAll_75 ?_
    refine z_iload_n hc dX10_swimsAll_78 3 rfl rfl ?_
    refine z_iand hc dX10_swimsAll_79 ?_
    refine z_callV (av := [.int ((gI u2 1 59) &&& v3)]) (enc' := eI) hc rfl (sMo_nextTo ((gI u2 1 59) &&& v3) _) (ci := 10) (by decide) lM1 (zkM lM1) rfl wMX10_472 hpyX10_nextTo hmyX10_nextTo (rm_ok hRm (Nat.le_of_ble_eq_true rfl) (Nat.le_of_ble_eq_true rfl)) (Nat.le_of_ble_eq_true rfl) hRm.2.2 dX10_swimsAll_80 (fun c2 u3 f2 => ?_)
    refine z_iload_n hc dX10_swimsAll_83 3 rfl rfl ?_
    refine z_iand hc dX10_swimsAll_84 ?_
    refine z_ior hc dX10_swimsAll_85 ?_
    refine z_putI hc (ci := 10) (k := 59) (by decide) (by decide) zly10 lM1 (zkM lM1) wFX10_469 rfl rfl rfl rfl dX10_swimsAll_86 ?_
    refine zJ.letM (fun u4 e2 => ?_)
    refine z_iinc (L' := [(4, .int (v4 + 1)), (0, .ref 1), (1, .int v1), (2, .int v2), (3, .int v3)]) hc dX10_swimsAll_89 4 rfl (v := (v4 + 1)) rfl (by decide) rfl rfl ?_
    refine z_goto (tgt := 8) hc dX10_swimsAll_92 (by decide) ?_
    refine zJ.sub (L' := [(0, .ref 1), (1, .int v1), (2, .int v2), (3, .int v3), (4, .int (v4 + 1))]) [1, 2, 3, 4, 0] rfl ?_
    exact hr8 v1 v2 v3 (v4 + 1) _
  · refine z_goto (tgt := 89) hc dX10_swimsAll_44 (by decide) ?_
    refine z_iinc (L' := [(4, .int (v4 + 1)), (0, .ref 1), (1, .int v1), (2, .int v2), (3, .int v3)]) hc dX10_swimsAll_89 4 rfl (v := (v4 + 1)) rfl (by decide) rfl rfl ?_
    refine z_goto (tgt := 8) hc dX10_swimsAll_92 (by decide) ?_
    refine zJ.sub (L' := [(0, .ref 1), (1, .int v1), (2, .int v2), (3, .int v3), (4, .int (v4 + 1))]) [1, 2, 3, 4, 0] rfl ?_
    exact hr8 v1 v2 v3 (v4 + 1) _
set_option maxRecDepth 100000 in
set_option maxHeartbeats 4000000 in
theorem sMo_swimsAll_8b {fin : Unit × zM} (hc : zCx p s mi args meth c (wM D b) m0 RX10 cX10_swimsAll 5 none) (hRm : R.frames = 1 ∧ R.locals = 23 ∧ R.cells = zc (wM D b) m0 fin.2 ∧ R.slots = zs (wM D b) m0 fin.2) {zr8 : Int32 → Int32 → Int32 → Int32 → zM → Option (Unit × zM)} (hr8 : ∀ (v1 : Int32) (v2 : Int32) (v3 : Int32) (v4 : Int32) (u : zM), zJ eV p l e R s mi args below meth c (wM D b) m0 5 fin 8 [(0, .ref 1), (1, .int v1), (2, .int v2), (3, .int v3), (4, .int v4)] [] u (zr8 v1 v2 v3 v4 u)) (v1 : Int32) (v2 : Int32) (v3 : Int32) (v4 : Int32) (u : zM) : zJ eV p l e R s mi args below meth c (wM D b) m0 5 fin 8 [(0, .ref 1), (1, .int v1), (2, .int v2), (3, .int v3), (4, .int v4)] [] u (Mo_swimsAll_8b zr8 v1 v2 v3 v4 u) := by
  unfold Mo_swimsAll_8b
  refine z_iload hc dX10_swimsAll_8 4 rfl ?_
  refine z_iload_n hc dX10_swimsAll_10 1 rfl rfl ?_
  refine z_icmp_gt (tgt := 95) hc dX10_swimsAll_11 (by decide) _ (fun h1 => ?_) (fun h1 => ?_)
  · exact z_vret hc dX10_swimsAll_95
  · refine z_iload_n hc dX10_swimsAll_14 2 rfl rfl ?_
    refine z_if_eq (tgt := 38) hc dX10_swimsAll_15 (by decide) _ (fun h2 => ?_) (fun h2 => ?_)
    · exact sMo_swimsAll_38 hc hRm hr8 v1 v2 v3 v4 _
    · refine z_aload_n hc dX10_swimsAll_18 0 rfl rfl ?_
      refine z_getI hc (ci := 10) (k := 58) (by decide) (by decide) zly10 lM1 (zkM lM1) wFX10_466 rfl dX10_swimsAll_19 ?_
      refine z_iconst (v := 1) hc dX10_swimsAll_22 rfl ?_
      refine z_iand hc dX10_swimsAll_23 ?_
      refine z_iconst (v := 1) hc dX10_swimsAll_24 rfl ?_
      refine z_icmp_ne (tgt := 38) hc dX10_swimsAll_25 (by decide) _ (fun h3 => ?_) (fun h3 => ?_)
      · exact sMo_swimsAll_38 hc hRm hr8 v1 v2 v3 v4 _
      · refine z_aload_n hc dX10_swimsAll_28 0 rfl rfl ?_
        refine z_dup hc dX10_swimsAll_29 rfl ?_
        refine z_getI hc (ci := 10) (k := 59) (by decide) (by decide) zly10 lM1 (zkM lM1) wFX10_469 rfl dX10_swimsAll_30 ?_
        refine z_iconst (v := 1) hc dX10_swimsAll_33 rfl ?_
        refine z_ior hc dX10_swimsAll_34 ?_
        refine z_putI hc (ci := 10) (k := 59) (by decide) (by decide) zly10 lM1 (zkM lM1) wFX10_469 rfl rfl rfl rfl dX10_swimsAll_35 ?_
        refine zJ.letM (fun u1 e1 => ?_)
        exact sMo_swimsAll_38 hc hRm hr8 v1 v2 v3 v4 _
set_option maxRecDepth 100000 in
set_option maxHeartbeats 4000000 in
theorem sMo_swimsAll_8 {fin : Unit × zM} (hc : zCx p s mi args meth c (wM D b) m0 RX10 cX10_swimsAll 5 none) (hRm : R.frames = 1 ∧ R.locals = 23 ∧ R.cells = zc (wM D b) m0 fin.2 ∧ R.slots = zs (wM D b) m0 fin.2) : ∀ (zf : Nat) (v1 : Int32) (v2 : Int32) (v3 : Int32) (v4 : Int32) (u : zM), zJ eV p l e R s mi args below meth c (wM D b) m0 5 fin 8 [(0, .ref 1), (1, .int v1), (2, .int v2), (3, .int v3), (4, .int v4)] [] u (Mo_swimsAll_8 zf v1 v2 v3 v4 u) := by
  intro zf
  induction zf with
  | zero => intro v1 v2 v3 v4 u; exact zJ.nil
  | succ zf ih => intro v1 v2 v3 v4 u; exact sMo_swimsAll_8b hc hRm ih v1 v2 v3 v4 u
set_option maxRecDepth 100000 in
set_option maxHeartbeats 4000000 in
theorem sMo_swimsAll : ∀ (v1 : Int32) (v2 : Int32) (u : zM) r m1, Mo_swimsAll v1 v2 u = some (r, m1) → zMet l (wM D b) 1 23 yX10_swimsAll cX10_swimsAll 5 none [.ref 1, .int v1, .int v2] u (eV r) m1 := by
  intro v1 v2 u
  refine zMet.of (L := [(0, .ref 1), (1, .int v1), (2, .int v2)]) RX10 (by decide +kernel) rfl (Nat.le_of_ble_eq_true rfl) (fun h => by cases h) rfl (fun p e s mi args below meth c R fin hc hin hRm => ?_)
  unfold Mo_swimsAll
  refine z_aload_n hc dX10_swimsAll_0 0 rfl rfl ?_
  refine z_callV (av := []) (enc' := eI) hc rfl (sMo_wets _) (ci := 10) (by decide) lM1 (zkM lM1) rfl wMX10_438 hpyX10_wets hmyX10_wets (rm_ok hRm (Nat.le_of_ble_eq_true rfl) (Nat.le_of_ble_eq_true rfl)) (Nat.le_of_ble_eq_true rfl) hRm.2.2 dX10_swimsAll_1 (fun c1 u1 f1 => ?_)
  refine z_istore_n (L' := [(3, .int c1), (0, .ref 1), (1, .int v1), (2, .int v2)]) hc dX10_swimsAll_4 rfl (by decide) rfl rfl ?_
  refine z_iconst (v := 0) hc dX10_swimsAll_5 rfl ?_
  refine z_istore (L' := [(4, .int 0), (3, .int c1), (0, .ref 1), (1, .int v1), (2, .int v2)]) hc dX10_swimsAll_6 (by decide) rfl rfl ?_
  refine zJ.sub (L' := [(0, .ref 1), (1, .int v1), (2, .int v2), (3, .int c1), (4, .int 0)]) [2, 3, 4, 1, 0] rfl ?_
  exact sMo_swimsAll_8 hc hRm zF v1 v2 c1 0 _
set_option maxRecDepth 100000 in
set_option maxHeartbeats 4000000 in
theorem sMo_soon_61b {fin : Int32 × zM} (hc : zCx p s mi args meth c (wM D b) m0 RX10 cX10_soon 5 (some .int)) (hRm : R.frames = 6 ∧ R.locals = 133 ∧ R.cells = zc (wM D b) m0 fin.2 ∧ R.slots = zs (wM D b) m0 fin.2) {zr61 : Int32 → Int32 → Int32 → Int32 → zM → Option (Int32 × zM)} (hr61 : ∀ (v1 : Int32) (v2 : Int32) (v3 : Int32) (v4 : Int32) (u : zM), zJ eI p l e R s mi args below meth c (wM D b) m0 5 fin 61 [(0, .ref 1), (1, .int v1), (2, .int v2), (3, .int v3), (4, .int v4)] [] u (zr61 v1 v2 v3 v4 u)) (v1 : Int32) (v2 : Int32) (v3 : Int32) (v4 : Int32) (u : zM) : zJ eI p l e R s mi args below meth c (wM D b) m0 5 fin 61 [(0, .ref 1), (1, .int v1), (2, .int v2), (3, .int v3), (4, .int v4)] [] u (Mo_soon_61b zr61 v1 v2 v3 v4 u) := by
  unfold Mo_soon_61b
  refine z_iload hc dX10_soon_61 4 rfl ?_
  refine z_bipush (v := 60) hc dX10_soon_63 rfl ?_
  refine z_icmp_gt (tgt := 122) hc dX10_soon_65 (by decide) _ (fun h1 => ?_) (fun h1 => ?_)
  · refine z_aload_n hc dX10_soon_122 0 rfl rfl ?_
    refine z_getR (x := 42) hc (ci := 10) (k := 52) (by decide) (by decide) zly10 lM1 (zkM lM1) wFX10_132 rfl dX10_soon_123 rfl (by decide) ?_
    refine z_iconst (v := 0) hc dX10_soon_126 rfl ?_
    refine z_aload_n hc dX10_soon_127 0 rfl rfl ?_
    refine z_getR (x := 40) hc (ci := 10) (k := 50) (by decide) (by decide) zly10 lM1 (zkM lM1) wFX10_126 rfl dX10_soon_128 rfl (by decide) ?_
    refine z_iconst (v := 0) hc dX10_soon_131 rfl ?_
    refine z_callS (av := [.ref 42, .int 0, .ref 40, .int 0]) (enc' := eV) hc rfl (sMo_copies 42 0 40 0 _) wMX10_434 hpyX10_copies hmyX10_copies (rm_ok hRm (Nat.le_of_ble_eq_true rfl) (Nat.le_of_ble_eq_true rfl)) (Nat.le_of_ble_eq_true rfl) hRm.2.2 dX10_soon_132 (fun c1 u1 f1 => ?_)
    refine z_iload_n hc dX10_soon_135 3 rfl rfl ?_
    exact z_iret hc dX10_soon_136
  · refine z_iload_n hc dX10_soon_68 3 rfl rfl ?_
    refine z_if_ge (tgt := 122) hc dX10_soon_69 (by decide) _ (fun h2 => ?_) (fun h2 => ?_)
    · refine z_aload_n hc dX10_soon_122 0 rfl rfl ?_
      refine z_getR (x := 42) hc (ci := 10) (k := 52) (by decide) (by decide) zly10 lM1 (zkM lM1) wFX10_132 rfl dX10_soon_123 rfl (by decide) ?_
      refine z_iconst (v := 0) hc dX10_soon_126 rfl ?_
      refine z_aload_n hc dX10_soon_127 0 rfl rfl ?_
      refine z_getR (x := 40) hc (ci := 10) (k := 50) (by decide) (by decide) zly10 lM1 (zkM lM1) wFX10_126 rfl dX10_soon_128 rfl (by decide) ?_
      refine z_iconst (v := 0) hc dX10_soon_131 rfl ?_
      refine z_callS (av := [.ref 42, .int 0, .ref 40, .int 0]) (enc' := eV) hc rfl (sMo_copies 42 0 40 0 _) wMX10_434 hpyX10_copies hmyX10_copies (rm_ok hRm (Nat.le_of_ble_eq_true rfl) (Nat.le_of_ble_eq_true rfl)) (Nat.le_of_ble_eq_true rfl) hRm.2.2 dX10_soon_132 (fun c2 u2 f2 => ?_)
      refine z_iload_n hc dX10_soon_135 3 rfl rfl ?_
      exact z_iret hc dX10_soon_136
    · refine z_aload_n hc dX10_soon_72 0 rfl rfl ?_
      refine z_iconst (v := 0) hc dX10_soon_73 rfl ?_
      refine z_aload_n hc dX10_soon_74 0 rfl rfl ?_
      refine z_getR (x := 13) hc (ci := 10) (k := 20) (by decide) (by decide) zly10 lM1 (zkM lM1) wFX10_44 rfl dX10_soon_75 rfl (by decide) ?_
      refine z_iload_n hc dX10_soon_78 1 rfl rfl ?_
      refine zJ.chk _ (fun h3 => ?_)
      refine z_iald (k := (ix v1)) hc lM13 (zkM lM13) h3 rfl dX10_soon_79 ?_
      refine z_aload_n hc dX10_soon_80 0 rfl rfl ?_
      refine z_getR (x := 40) hc (ci := 10) (k := 50) (by decide) (by decide) zly10 lM1 (zkM lM1) wFX10_126 rfl dX10_soon_81 rfl (by decide) ?_
      refine z_bipush (v := 16) hc dX10_soon_84 rfl ?_
      refine z_iload_n hc dX10_soon_86 1 rfl rfl ?_
      refine z_iadd hc dX10_soon_87 ?_
      refine zJ.chk _ (fun h4 => ?_)
      refine z_iald (k := (ix (16 + v1))) hc lM40 (zkM lM40) h4 rfl dX10_soon_88 ?_
      refine z_isub hc dX10_soon_89 ?_
      refine z_callS (av := [.int 0, .int ((gI u 13 (ix v1)) - (gI u 40 (ix (16 + v1))))]) (enc' := eI) hc rfl (sJm_max (w := wM D b) rfl 0 ((gI u 13 (ix v1)) - (gI u 40 (ix (16 + v1)))) _) wMX10_475 hpyJ9_max_7cf53 hmyJ9_max_7cf53 (rm_ok hRm (Nat.le_of_ble_eq_true rfl) (Nat.le_of_ble_eq_true rfl)) (Nat.le_of_ble_eq_true rfl) hRm.2.2 dX10_soon_90 (fun c3 u3 f3 => ?_)
      refine z_iconst (v := 0) hc dX10_soon_93 rfl ?_
      refine z_callV (av := [.int c3, .int 0]) (enc' := eV) hc rfl (sMo_swimsAll c3 0 _) (ci := 10) (by decide) lM1 (zkM lM1) rfl wMX10_480 hpyX10_swimsAll hmyX10_swimsAll (rm_ok hRm (Nat.le_of_ble_eq_true rfl) (Nat.le_of_ble_eq_true rfl)) (Nat.le_of_ble_eq_true rfl) hRm.2.2 dX10_soon_94 (fun c4 u4 f4 => ?_)
      refine z_aload_n hc dX10_soon_97 0 rfl rfl ?_
      refine z_getI hc (ci := 10) (k := 58) (by decide) (by decide) zly10 lM1 (zkM lM1) wFX10_466 rfl dX10_soon_98 ?_
      refine z_iload_n hc dX10_soon_101 2 rfl rfl ?_
      refine z_ishr hc dX10_soon_102 ?_
      refine z_iconst (v := 1) hc dX10_soon_103 rfl ?_
      refine z_iand hc dX10_soon_104 ?_
      refine z_iconst (v := 1) hc dX10_soon_105 rfl ?_
      refine z_icmp_ne (tgt := 112) hc dX10_soon_106 (by decide) _ (fun h5 => ?_) (fun h5 => ?_)
      · refine z_aload_n hc dX10_soon_112 0 rfl rfl ?_
        refine z_callV (av := []) (enc' := eV) hc rfl (sMo_passesAsTold _) (ci := 10) (by decide) lM1 (zkM lM1) rfl wMX10_459 hpyX10_passesAsTold hmyX10_passesAsTold (rm_ok hRm (Nat.le_of_ble_eq_true rfl) (Nat.le_of_ble_eq_true rfl)) (Nat.le_of_ble_eq_true rfl) hRm.2.2 dX10_soon_113 (fun c5 u5 f5 => ?_)
        refine z_iinc (L' := [(4, .int (v4 + 1)), (0, .ref 1), (1, .int v1), (2, .int v2), (3, .int v3)]) hc dX10_soon_116 4 rfl (v := (v4 + 1)) rfl (by decide) rfl rfl ?_
        refine z_goto (tgt := 61) hc dX10_soon_119 (by decide) ?_
        refine zJ.sub (L' := [(0, .ref 1), (1, .int v1), (2, .int v2), (3, .int v3), (4, .int (v4 + 1))]) [1, 2, 3, 4, 0] rfl ?_
        exact hr61 v1 v2 v3 (v4 + 1) _
      · refine z_iload hc dX10_soon_109 4 rfl ?_
        refine z_istore_n (L' := [(3, .int v4), (0, .ref 1), (1, .int v1), (2, .int v2), (4, .int v4)]) hc dX10_soon_111 rfl (by decide) rfl rfl ?_
        refine z_aload_n hc dX10_soon_112 1 rfl rfl ?_
        refine z_callV (av := []) (enc' := eV) hc rfl (sMo_passesAsTold _) (ci := 10) (by decide) lM1 (zkM lM1) rfl wMX10_459 hpyX10_passesAsTold hmyX10_passesAsTold (rm_ok hRm (Nat.le_of_ble_eq_true rfl) (Nat.le_of_ble_eq_true rfl)) (Nat.le_of_ble_eq_true rfl) hRm.2.2 dX10_soon_113 (fun c6 u6 f6 => ?_)
        refine z_iinc (L' := [(4, .int (v4 + 1)), (3, .int v4), (0, .ref 1), (1, .int v1), (2, .int v2)]) hc dX10_soon_116 4 rfl (v := (v4 + 1)) rfl (by decide) rfl rfl ?_
        refine z_goto (tgt := 61) hc dX10_soon_119 (by decide) ?_
        refine zJ.sub (L' := [(0, .ref 1), (1, .int v1), (2, .int v2), (3, .int v4), (4, .int (v4 + 1))]) [2, 3, 4, 1, 0] rfl ?_
        exact hr61 v1 v2 v4 (v4 + 1) _
set_option maxRecDepth 100000 in
set_option maxHeartbeats 4000000 in
theorem sMo_soon_61 {fin : Int32 × zM} (hc : zCx p s mi args meth c (wM D b) m0 RX10 cX10_soon 5 (some .int)) (hRm : R.frames = 6 ∧ R.locals = 133 ∧ R.cells = zc (wM D b) m0 fin.2 ∧ R.slots = zs (wM D b) m0 fin.2) : ∀ (zf : Nat) (v1 : Int32) (v2 : Int32) (v3 : Int32) (v4 : Int32) (u : zM), zJ eI p l e R s mi args below meth c (wM D b) m0 5 fin 61 [(0, .ref 1), (1, .int v1), (2, .int v2), (3, .int v3), (4, .int v4)] [] u (Mo_soon_61 zf v1 v2 v3 v4 u) := by
  intro zf
  induction zf with
  | zero => intro v1 v2 v3 v4 u; exact zJ.nil
  | succ zf ih => intro v1 v2 v3 v4 u; exact sMo_soon_61b hc hRm ih v1 v2 v3 v4 u
set_option maxRecDepth 100000 in
set_option maxHeartbeats 4000000 in
theorem sMo_soon : ∀ (v1 : Int32) (v2 : Int32) (u : zM) r m1, Mo_soon v1 v2 u = some (r, m1) → zMet l (wM D b) 6 133 yX10_soon cX10_soon 5 (some .int) [.ref 1, .int v1, .int v2] u (eI r) m1 := by
  intro v1 v2 u
  refine zMet.of (L := [(0, .ref 1), (1, .int v1), (2, .int v2)]) RX10 (by decide +kernel) rfl (Nat.le_of_ble_eq_true rfl) (fun h => by cases h) rfl (fun p e s mi args below meth c R fin hc hin hRm => ?_)
  unfold Mo_soon
  refine z_aload_n hc dX10_soon_0 0 rfl rfl ?_
  refine z_iconst (v := 0) hc dX10_soon_1 rfl ?_
  refine z_putI hc (ci := 10) (k := 0) (by decide) (by decide) zly10 lM1 (zkM lM1) wFX10_162 rfl rfl rfl rfl dX10_soon_2 ?_
  refine zJ.letM (fun u1 e1 => ?_)
  refine z_aload_n hc dX10_soon_5 0 rfl rfl ?_
  refine z_iload_n hc dX10_soon_6 1 rfl rfl ?_
  refine z_callV (av := [.int v1]) (enc' := eI) hc rfl (sMo_isOtter v1 _) (ci := 10) (by decide) lM1 (zkM lM1) rfl wMX10_425 hpyX10_isOtter hmyX10_isOtter (rm_ok hRm (Nat.le_of_ble_eq_true rfl) (Nat.le_of_ble_eq_true rfl)) (Nat.le_of_ble_eq_true rfl) hRm.2.2 dX10_soon_7 (fun c1 u2 f1 => ?_)
  refine z_if_eq (tgt := 21) hc dX10_soon_10 (by decide) _ (fun h1 => ?_) (fun h1 => ?_)
  · refine z_iconst (v := (-1)) hc dX10_soon_21 rfl ?_
    exact z_iret hc dX10_soon_22
  · refine z_aload_n hc dX10_soon_13 0 rfl rfl ?_
    refine z_iload_n hc dX10_soon_14 2 rfl rfl ?_
    refine z_callV (av := [.int v2]) (enc' := eI) hc rfl (sMo_isPlace v2 _) (ci := 10) (by decide) lM1 (zkM lM1) rfl wMX10_416 hpyX10_isPlace hmyX10_isPlace (rm_ok hRm (Nat.le_of_ble_eq_true rfl) (Nat.le_of_ble_eq_true rfl)) (Nat.le_of_ble_eq_true rfl) hRm.2.2 dX10_soon_15 (fun c2 u3 f2 => ?_)
    refine z_if_ne (tgt := 23) hc dX10_soon_18 (by decide) _ (fun h2 => ?_) (fun h2 => ?_)
    · refine z_aload_n hc dX10_soon_23 0 rfl rfl ?_
      refine z_getR (x := 40) hc (ci := 10) (k := 50) (by decide) (by decide) zly10 lM1 (zkM lM1) wFX10_126 rfl dX10_soon_24 rfl (by decide) ?_
      refine z_iconst (v := 0) hc dX10_soon_27 rfl ?_
      refine z_aload_n hc dX10_soon_28 0 rfl rfl ?_
      refine z_getR (x := 42) hc (ci := 10) (k := 52) (by decide) (by decide) zly10 lM1 (zkM lM1) wFX10_132 rfl dX10_soon_29 rfl (by decide) ?_
      refine z_iconst (v := 0) hc dX10_soon_32 rfl ?_
      refine z_callS (av := [.ref 40, .int 0, .ref 42, .int 0]) (enc' := eV) hc rfl (sMo_copies 40 0 42 0 _) wMX10_434 hpyX10_copies hmyX10_copies (rm_ok hRm (Nat.le_of_ble_eq_true rfl) (Nat.le_of_ble_eq_true rfl)) (Nat.le_of_ble_eq_true rfl) hRm.2.2 dX10_soon_33 (fun c3 u4 f3 => ?_)
      refine z_aload_n hc dX10_soon_36 0 rfl rfl ?_
      refine z_iconst (v := 1) hc dX10_soon_37 rfl ?_
      refine z_aload_n hc dX10_soon_38 0 rfl rfl ?_
      refine z_getR (x := 40) hc (ci := 10) (k := 50) (by decide) (by decide) zly10 lM1 (zkM lM1) wFX10_126 rfl dX10_soon_39 rfl (by decide) ?_
      refine z_bipush (v := 13) hc dX10_soon_42 rfl ?_
      refine z_iload_n hc dX10_soon_44 1 rfl rfl ?_
      refine z_iadd hc dX10_soon_45 ?_
      refine zJ.chk _ (fun h3 => ?_)
      refine z_iald (k := (ix (13 + v1))) hc lM40 (zkM lM40) h3 rfl dX10_soon_46 ?_
      refine z_ishl hc dX10_soon_47 ?_
      refine z_putI hc (ci := 10) (k := 58) (by decide) (by decide) zly10 lM1 (zkM lM1) wFX10_466 rfl rfl rfl rfl dX10_soon_48 ?_
      refine zJ.letM (fun u5 e2 => ?_)
      refine z_aload_n hc dX10_soon_51 0 rfl rfl ?_
      refine z_iconst (v := 0) hc dX10_soon_52 rfl ?_
      refine z_putI hc (ci := 10) (k := 59) (by decide) (by decide) zly10 lM1 (zkM lM1) wFX10_469 rfl rfl rfl rfl dX10_soon_53 ?_
      refine zJ.letM (fun u6 e3 => ?_)
      refine z_iconst (v := (-1)) hc dX10_soon_56 rfl ?_
      refine z_istore_n (L' := [(3, .int (-1)), (0, .ref 1), (1, .int v1), (2, .int v2)]) hc dX10_soon_57 rfl (by decide) rfl rfl ?_
      refine z_iconst (v := 0) hc dX10_soon_58 rfl ?_
      refine z_istore (L' := [(4, .int 0), (3, .int (-1)), (0, .ref 1), (1, .int v1), (2, .int v2)]) hc dX10_soon_59 (by decide) rfl rfl ?_
      refine zJ.sub (L' := [(0, .ref 1), (1, .int v1), (2, .int v2), (3, .int (-1)), (4, .int 0)]) [2, 3, 4, 1, 0] rfl ?_
      exact sMo_soon_61 hc hRm zF v1 v2 (-1) 0 _
    · refine z_iconst (v := (-1)) hc dX10_soon_21 rfl ?_
      exact z_iret hc dX10_soon_22
set_option maxRecDepth 100000 in
set_option maxHeartbeats 4000000 in
theorem sMo_servesIn_111b {fin : Int32 × zM} (hc : zCx p s mi args meth c (wM D b) m0 RX10 cX10_servesIn 7 (some .int)) (hRm : R.frames = 6 ∧ R.locals = 133 ∧ R.cells = zc (wM D b) m0 fin.2 ∧ R.slots = zs (wM D b) m0 fin.2) {zr111 : Int32 → Int32 → Int32 → Int32 → Int32 → zM → Option (Int32 × zM)} (hr111 : ∀ (v2 : Int32) (v3 : Int32) (v4 : Int32) (v5 : Int32) (v6 : Int32) (u : zM), zJ eI p l e R s mi args below meth c (wM D b) m0 7 fin 111 [(0, .ref 1), (2, .int v2), (3, .int v3), (4, .int v4), (5, .int v5), (6, .int v6)] [] u (zr111 v2 v3 v4 v5 v6 u)) (v2 : Int32) (v3 : Int32) (v4 : Int32) (v5 : Int32) (v6 : Int32) (u : zM) : zJ eI p l e R s mi args below meth c (wM D b) m0 7 fin 111 [(0, .ref 1), (2, .int v2), (3, .int v3), (4, .int v4), (5, .int v5), (6, .int v6)] [] u (Mo_servesIn_111b zr111 v2 v3 v4 v5 v6 u) := by
  unfold Mo_servesIn_111b
  refine z_iload hc dX10_servesIn_111 5 rfl ?_
  refine z_bipush (v := 60) hc dX10_servesIn_113 rfl ?_
  refine z_icmp_gt (tgt := 209) hc dX10_servesIn_115 (by decide) _ (fun h1 => ?_) (fun h1 => ?_)
  · refine z_aload_n hc dX10_servesIn_209 0 rfl rfl ?_
    refine z_getR (x := 42) hc (ci := 10) (k := 52) (by decide) (by decide) zly10 lM1 (zkM lM1) wFX10_132 rfl dX10_servesIn_210 rfl (by decide) ?_
    refine z_iconst (v := 0) hc dX10_servesIn_213 rfl ?_
    refine z_aload_n hc dX10_servesIn_214 0 rfl rfl ?_
    refine z_getR (x := 40) hc (ci := 10) (k := 50) (by decide) (by decide) zly10 lM1 (zkM lM1) wFX10_126 rfl dX10_servesIn_215 rfl (by decide) ?_
    refine z_iconst (v := 0) hc dX10_servesIn_218 rfl ?_
    refine z_callS (av := [.ref 42, .int 0, .ref 40, .int 0]) (enc' := eV) hc rfl (sMo_copies 42 0 40 0 _) wMX10_434 hpyX10_copies hmyX10_copies (rm_ok hRm (Nat.le_of_ble_eq_true rfl) (Nat.le_of_ble_eq_true rfl)) (Nat.le_of_ble_eq_true rfl) hRm.2.2 dX10_servesIn_219 (fun c1 u1 f1 => ?_)
    refine z_iload hc dX10_servesIn_222 4 rfl ?_
    exact z_iret hc dX10_servesIn_224
  · refine z_iload hc dX10_servesIn_118 4 rfl ?_
    refine z_if_ge (tgt := 209) hc dX10_servesIn_120 (by decide) _ (fun h2 => ?_) (fun h2 => ?_)
    · refine z_aload_n hc dX10_servesIn_209 0 rfl rfl ?_
      refine z_getR (x := 42) hc (ci := 10) (k := 52) (by decide) (by decide) zly10 lM1 (zkM lM1) wFX10_132 rfl dX10_servesIn_210 rfl (by decide) ?_
      refine z_iconst (v := 0) hc dX10_servesIn_213 rfl ?_
      refine z_aload_n hc dX10_servesIn_214 0 rfl rfl ?_
      refine z_getR (x := 40) hc (ci := 10) (k := 50) (by decide) (by decide) zly10 lM1 (zkM lM1) wFX10_126 rfl dX10_servesIn_215 rfl (by decide) ?_
      refine z_iconst (v := 0) hc dX10_servesIn_218 rfl ?_
      refine z_callS (av := [.ref 42, .int 0, .ref 40, .int 0]) (enc' := eV) hc rfl (sMo_copies 42 0 40 0 _) wMX10_434 hpyX10_copies hmyX10_copies (rm_ok hRm (Nat.le_of_ble_eq_true rfl) (Nat.le_of_ble_eq_true rfl)) (Nat.le_of_ble_eq_true rfl) hRm.2.2 dX10_servesIn_219 (fun c2 u2 f2 => ?_)
      refine z_iload hc dX10_servesIn_222 4 rfl ?_
      exact z_iret hc dX10_servesIn_224
    · refine z_aload_n hc dX10_servesIn_123 0 rfl rfl ?_
      refine z_iconst (v := 0) hc dX10_servesIn_124 rfl ?_
      refine z_aload_n hc dX10_servesIn_125 0 rfl rfl ?_
      refine z_getR (x := 13) hc (ci := 10) (k := 20) (by decide) (by decide) zly10 lM1 (zkM lM1) wFX10_44 rfl dX10_servesIn_126 rfl (by decide) ?_
      refine z_iload_n hc dX10_servesIn_129 1 rfl rfl ?_
      refine zJ.chk _ (fun h3 => ?_)
      refine z_iald (k := (ix v2)) hc lM13 (zkM lM13) h3 rfl dX10_servesIn_130 ?_
      refine z_aload_n hc dX10_servesIn_131 0 rfl rfl ?_
      refine z_getR (x := 40) hc (ci := 10) (k := 50) (by decide) (by decide) zly10 lM1 (zkM lM1) wFX10_126 rfl dX10_servesIn_132 rfl (by decide) ?_
      refine z_bipush (v := 16) hc dX10_servesIn_135 rfl ?_
      refine z_iload_n hc dX10_servesIn_137 1 rfl rfl ?_
      refine z_iadd hc dX10_servesIn_138 ?_
      refine zJ.chk _ (fun h4 => ?_)
      refine z_iald (k := (ix (16 + v2))) hc lM40 (zkM lM40) h4 rfl dX10_servesIn_139 ?_
      refine z_isub hc dX10_servesIn_140 ?_
      refine z_callS (av := [.int 0, .int ((gI u 13 (ix v2)) - (gI u 40 (ix (16 + v2))))]) (enc' := eI) hc rfl (sJm_max (w := wM D b) rfl 0 ((gI u 13 (ix v2)) - (gI u 40 (ix (16 + v2)))) _) wMX10_475 hpyJ9_max_7cf53 hmyJ9_max_7cf53 (rm_ok hRm (Nat.le_of_ble_eq_true rfl) (Nat.le_of_ble_eq_true rfl)) (Nat.le_of_ble_eq_true rfl) hRm.2.2 dX10_servesIn_141 (fun c3 u3 f3 => ?_)
      refine z_iload_n hc dX10_servesIn_144 2 rfl rfl ?_
      refine z_callV (av := [.int c3, .int v3]) (enc' := eV) hc rfl (sMo_swimsAll c3 v3 _) (ci := 10) (by decide) lM1 (zkM lM1) rfl wMX10_480 hpyX10_swimsAll hmyX10_swimsAll (rm_ok hRm (Nat.le_of_ble_eq_true rfl) (Nat.le_of_ble_eq_true rfl)) (Nat.le_of_ble_eq_true rfl) hRm.2.2 dX10_servesIn_145 (fun c4 u4 f4 => ?_)
      refine z_aload_n hc dX10_servesIn_148 0 rfl rfl ?_
      refine z_getI hc (ci := 10) (k := 59) (by decide) (by decide) zly10 lM1 (zkM lM1) wFX10_469 rfl dX10_servesIn_149 ?_
      refine z_aload_n hc dX10_servesIn_152 0 rfl rfl ?_
      refine z_getR (x := 40) hc (ci := 10) (k := 50) (by decide) (by decide) zly10 lM1 (zkM lM1) wFX10_126 rfl dX10_servesIn_153 rfl (by decide) ?_
      refine z_bipush (v := 8) hc dX10_servesIn_156 rfl ?_
      refine z_iload hc dX10_servesIn_158 3 rfl ?_
      refine z_iadd hc dX10_servesIn_160 ?_
      refine zJ.chk _ (fun h5 => ?_)
      refine z_iald (k := (ix (8 + v4))) hc lM40 (zkM lM40) h5 rfl dX10_servesIn_161 ?_
      refine z_ishr hc dX10_servesIn_162 ?_
      refine z_iconst (v := 1) hc dX10_servesIn_163 rfl ?_
      refine z_iand hc dX10_servesIn_164 ?_
      refine z_iconst (v := 1) hc dX10_servesIn_165 rfl ?_
      refine z_icmp_ne (tgt := 199) hc dX10_servesIn_166 (by decide) _ (fun h6 => ?_) (fun h6 => ?_)
      · refine z_aload_n hc dX10_servesIn_199 0 rfl rfl ?_
        refine z_callV (av := []) (enc' := eV) hc rfl (sMo_passesAsTold _) (ci := 10) (by decide) lM1 (zkM lM1) rfl wMX10_459 hpyX10_passesAsTold hmyX10_passesAsTold (rm_ok hRm (Nat.le_of_ble_eq_true rfl) (Nat.le_of_ble_eq_true rfl)) (Nat.le_of_ble_eq_true rfl) hRm.2.2 dX10_servesIn_200 (fun c5 u5 f5 => ?_)
        refine z_iinc (L' := [(6, .int (v6 + 1)), (0, .ref 1), (2, .int v2), (3, .int v3), (4, .int v4), (5, .int v5)]) hc dX10_servesIn_203 5 rfl (v := (v6 + 1)) rfl (by decide) rfl rfl ?_
        refine z_goto (tgt := 111) hc dX10_servesIn_206 (by decide) ?_
        refine zJ.sub (L' := [(0, .ref 1), (2, .int v2), (3, .int v3), (4, .int v4), (5, .int v5), (6, .int (v6 + 1))]) [1, 2, 3, 4, 5, 0] rfl ?_
        exact hr111 v2 v3 v4 v5 (v6 + 1) _
      · refine z_aload_n hc dX10_servesIn_169 0 rfl rfl ?_
        refine z_iload hc dX10_servesIn_170 3 rfl ?_
        refine z_aload_n hc dX10_servesIn_172 0 rfl rfl ?_
        refine z_getR (x := 40) hc (ci := 10) (k := 50) (by decide) (by decide) zly10 lM1 (zkM lM1) wFX10_126 rfl dX10_servesIn_173 rfl (by decide) ?_
        refine z_iconst (v := 1) hc dX10_servesIn_176 rfl ?_
        refine z_aload_n hc dX10_servesIn_177 0 rfl rfl ?_
        refine z_getR (x := 40) hc (ci := 10) (k := 50) (by decide) (by decide) zly10 lM1 (zkM lM1) wFX10_126 rfl dX10_servesIn_178 rfl (by decide) ?_
        refine z_bipush (v := 8) hc dX10_servesIn_181 rfl ?_
        refine z_iload hc dX10_servesIn_183 3 rfl ?_
        refine z_iadd hc dX10_servesIn_185 ?_
        refine zJ.chk _ (fun h7 => ?_)
        refine z_iald (k := (ix (8 + v4))) hc lM40 (zkM lM40) h7 rfl dX10_servesIn_186 ?_
        refine z_iadd hc dX10_servesIn_187 ?_
        refine zJ.chk _ (fun h8 => ?_)
        refine z_iald (k := (ix (1 + (gI u4 40 (ix (8 + v4)))))) hc lM40 (zkM lM40) h8 rfl dX10_servesIn_188 ?_
        refine z_callV (av := [.int v4, .int (gI u4 40 (ix (1 + (gI u4 40 (ix (8 + v4))))))]) (enc' := eI) hc rfl (sMo_isServed v4 (gI u4 40 (ix (1 + (gI u4 40 (ix (8 + v4)))))) _) (ci := 10) (by decide) lM1 (zkM lM1) rfl wMX10_441 hpyX10_isServed hmyX10_isServed (rm_ok hRm (Nat.le_of_ble_eq_true rfl) (Nat.le_of_ble_eq_true rfl)) (Nat.le_of_ble_eq_true rfl) hRm.2.2 dX10_servesIn_189 (fun c6 u6 f6 => ?_)
        refine z_if_eq (tgt := 199) hc dX10_servesIn_192 (by decide) _ (fun h9 => ?_) (fun h9 => ?_)
        · refine z_aload_n hc dX10_servesIn_199 0 rfl rfl ?_
          refine z_callV (av := []) (enc' := eV) hc rfl (sMo_passesAsTold _) (ci := 10) (by decide) lM1 (zkM lM1) rfl wMX10_459 hpyX10_passesAsTold hmyX10_passesAsTold (rm_ok hRm (Nat.le_of_ble_eq_true rfl) (Nat.le_of_ble_eq_true rfl)) (Nat.le_of_ble_eq_true rfl) hRm.2.2 dX10_servesIn_200 (fun c7 u7 f7 => ?_)
          refine z_iinc (L' := [(6, .int (v6 + 1)), (0, .ref 1), (2, .int v2), (3, .int v3), (4, .int v4), (5, .int v5)]) hc dX10_servesIn_203 5 rfl (v := (v6 + 1)) rfl (by decide) rfl rfl ?_
          refine z_goto (tgt := 111) hc dX10_servesIn_206 (by decide) ?_
          refine zJ.sub (L' := [(0, .ref 1), (2, .int v2), (3, .int v3), (4, .int v4), (5, .int v5), (6, .int (v6 + 1))]) [1, 2, 3, 4, 5, 0] rfl ?_
          exact hr111 v2 v3 v4 v5 (v6 + 1) _
        · refine z_iload hc dX10_servesIn_195 5 rfl ?_
          refine z_istore (L' := [(5, .int v6), (0, .ref 1), (2, .int v2), (3, .int v3), (4, .int v4), (6, .int v6)]) hc dX10_servesIn_197 (by decide) rfl rfl ?_
          refine z_aload_n hc dX10_servesIn_199 1 rfl rfl ?_
          refine z_callV (av := []) (enc' := eV) hc rfl (sMo_passesAsTold _) (ci := 10) (by decide) lM1 (zkM lM1) rfl wMX10_459 hpyX10_passesAsTold hmyX10_passesAsTold (rm_ok hRm (Nat.le_of_ble_eq_true rfl) (Nat.le_of_ble_eq_true rfl)) (Nat.le_of_ble_eq_true rfl) hRm.2.2 dX10_servesIn_200 (fun c8 u8 f8 => ?_)
          refine z_iinc (L' := [(6, .int (v6 + 1)), (5, .int v6), (0, .ref 1), (2, .int v2), (3, .int v3), (4, .int v4)]) hc dX10_servesIn_203 5 rfl (v := (v6 + 1)) rfl (by decide) rfl rfl ?_
          refine z_goto (tgt := 111) hc dX10_servesIn_206 (by decide) ?_
          refine zJ.sub (L' := [(0, .ref 1), (2, .int v2), (3, .int v3), (4, .int v4), (5, .int v6), (6, .int (v6 + 1))]) [2, 3, 4, 5, 1, 0] rfl ?_
          exact hr111 v2 v3 v4 v6 (v6 + 1) _
set_option maxRecDepth 100000 in
set_option maxHeartbeats 4000000 in
theorem sMo_servesIn_111 {fin : Int32 × zM} (hc : zCx p s mi args meth c (wM D b) m0 RX10 cX10_servesIn 7 (some .int)) (hRm : R.frames = 6 ∧ R.locals = 133 ∧ R.cells = zc (wM D b) m0 fin.2 ∧ R.slots = zs (wM D b) m0 fin.2) : ∀ (zf : Nat) (v2 : Int32) (v3 : Int32) (v4 : Int32) (v5 : Int32) (v6 : Int32) (u : zM), zJ eI p l e R s mi args below meth c (wM D b) m0 7 fin 111 [(0, .ref 1), (2, .int v2), (3, .int v3), (4, .int v4), (5, .int v5), (6, .int v6)] [] u (Mo_servesIn_111 zf v2 v3 v4 v5 v6 u) := by
  intro zf
  induction zf with
  | zero => intro v2 v3 v4 v5 v6 u; exact zJ.nil
  | succ zf ih => intro v2 v3 v4 v5 v6 u; exact sMo_servesIn_111b hc hRm ih v2 v3 v4 v5 v6 u
set_option maxRecDepth 100000 in
set_option maxHeartbeats 4000000 in
theorem sMo_servesIn_94 {fin : Int32 × zM} (hc : zCx p s mi args meth c (wM D b) m0 RX10 cX10_servesIn 7 (some .int)) (hRm : R.frames = 6 ∧ R.locals = 133 ∧ R.cells = zc (wM D b) m0 fin.2 ∧ R.slots = zs (wM D b) m0 fin.2) (v1 : Int32) (v2 : Int32) (v3 : Int32) (s1 : Int32) (u : zM) : zJ eI p l e R s mi args below meth c (wM D b) m0 7 fin 94 [(0, .ref 1), (1, .int v1), (2, .int v2), (3, .int v3)] [.int s1, .ref 1] u (Mo_servesIn_94 v1 v2 v3 s1 u) := by
  unfold Mo_servesIn_94
  refine z_putI hc (ci := 10) (k := 59) (by decide) (by decide) zly10 lM1 (zkM lM1) wFX10_469 rfl rfl rfl rfl dX10_servesIn_94 ?_
  refine zJ.letM (fun u1 e1 => ?_)
  refine z_aload_n hc dX10_servesIn_97 0 rfl rfl ?_
  refine z_getR (x := 14) hc (ci := 10) (k := 21) (by decide) (by decide) zly10 lM1 (zkM lM1) wFX10_47 rfl dX10_servesIn_98 rfl (by decide) ?_
  refine z_iload_n hc dX10_servesIn_101 1 rfl rfl ?_
  refine zJ.chk _ (fun h1 => ?_)
  refine z_iald (k := (ix v1)) hc lM14 (zkM lM14) h1 rfl dX10_servesIn_102 ?_
  refine zJ.letI (fun x1 e2 => ?_)
  refine z_istore (L' := [(4, .int x1), (0, .ref 1), (1, .int v1), (2, .int v2), (3, .int v3)]) hc dX10_servesIn_103 (by decide) rfl rfl ?_
  refine z_iconst (v := (-1)) hc dX10_servesIn_105 rfl ?_
  refine z_istore (L' := [(5, .int (-1)), (4, .int x1), (0, .ref 1), (1, .int v1), (2, .int v2), (3, .int v3)]) hc dX10_servesIn_106 (by decide) rfl rfl ?_
  refine z_iconst (v := 0) hc dX10_servesIn_108 rfl ?_
  refine z_istore (L' := [(6, .int 0), (5, .int (-1)), (4, .int x1), (0, .ref 1), (1, .int v1), (2, .int v2), (3, .int v3)]) hc dX10_servesIn_109 (by decide) rfl rfl ?_
  refine zJ.sub (L' := [(0, .ref 1), (2, .int v2), (3, .int v3), (4, .int x1), (5, .int (-1)), (6, .int 0)]) [3, 5, 6, 2, 1, 0] rfl ?_
  exact sMo_servesIn_111 hc hRm zF v2 v3 x1 (-1) 0 _
set_option maxRecDepth 100000 in
set_option maxHeartbeats 4000000 in
theorem sMo_servesIn_71 {fin : Int32 × zM} (hc : zCx p s mi args meth c (wM D b) m0 RX10 cX10_servesIn 7 (some .int)) (hRm : R.frames = 6 ∧ R.locals = 133 ∧ R.cells = zc (wM D b) m0 fin.2 ∧ R.slots = zs (wM D b) m0 fin.2) (v1 : Int32) (v2 : Int32) (v3 : Int32) (s1 : Int32) (u : zM) : zJ eI p l e R s mi args below meth c (wM D b) m0 7 fin 71 [(0, .ref 1), (1, .int v1), (2, .int v2), (3, .int v3)] [.int s1, .ref 1] u (Mo_servesIn_71 v1 v2 v3 s1 u) := by
  unfold Mo_servesIn_71
  refine z_putI hc (ci := 10) (k := 58) (by decide) (by decide) zly10 lM1 (zkM lM1) wFX10_466 rfl rfl rfl rfl dX10_servesIn_71 ?_
  refine zJ.letM (fun u1 e1 => ?_)
  refine z_aload_n hc dX10_servesIn_74 0 rfl rfl ?_
  refine z_iload_n hc dX10_servesIn_75 3 rfl rfl ?_
  refine z_if_eq (tgt := 83) hc dX10_servesIn_76 (by decide) _ (fun h1 => ?_) (fun h1 => ?_)
  · refine z_iconst (v := 1) hc dX10_servesIn_83 rfl ?_
    refine z_aload_n hc dX10_servesIn_84 0 rfl rfl ?_
    refine z_getR (x := 40) hc (ci := 10) (k := 50) (by decide) (by decide) zly10 lM1 (zkM lM1) wFX10_126 rfl dX10_servesIn_85 rfl (by decide) ?_
    refine z_bipush (v := 13) hc dX10_servesIn_88 rfl ?_
    refine z_iload_n hc dX10_servesIn_90 2 rfl rfl ?_
    refine z_iadd hc dX10_servesIn_91 ?_
    refine zJ.chk _ (fun h2 => ?_)
    refine z_iald (k := (ix (13 + v2))) hc lM40 (zkM lM40) h2 rfl dX10_servesIn_92 ?_
    refine z_ishl hc dX10_servesIn_93 ?_
    exact sMo_servesIn_94 hc hRm v1 v2 v3 (1 <<< ((gI u1 40 (ix (13 + v2))) &&& 31)) _
  · refine z_iconst (v := 0) hc dX10_servesIn_79 rfl ?_
    refine z_goto (tgt := 94) hc dX10_servesIn_80 (by decide) ?_
    exact sMo_servesIn_94 hc hRm v1 v2 v3 0 _
set_option maxRecDepth 100000 in
set_option maxHeartbeats 4000000 in
theorem sMo_servesIn_38 {fin : Int32 × zM} (hc : zCx p s mi args meth c (wM D b) m0 RX10 cX10_servesIn 7 (some .int)) (hRm : R.frames = 6 ∧ R.locals = 133 ∧ R.cells = zc (wM D b) m0 fin.2 ∧ R.slots = zs (wM D b) m0 fin.2) (v1 : Int32) (v2 : Int32) (v3 : Int32) (u : zM) : zJ eI p l e R s mi args below meth c (wM D b) m0 7 fin 38 [(0, .ref 1), (1, .int v1), (2, .int v2), (3, .int v3)] [] u (Mo_servesIn_38 v1 v2 v3 u) := by
  unfold Mo_servesIn_38
  refine z_aload_n hc dX10_servesIn_38 0 rfl rfl ?_
  refine z_getR (x := 40) hc (ci := 10) (k := 50) (by decide) (by decide) zly10 lM1 (zkM lM1) wFX10_126 rfl dX10_servesIn_39 rfl (by decide) ?_
  refine z_iconst (v := 0) hc dX10_servesIn_42 rfl ?_
  refine z_aload_n hc dX10_servesIn_43 0 rfl rfl ?_
  refine z_getR (x := 42) hc (ci := 10) (k := 52) (by decide) (by decide) zly10 lM1 (zkM lM1) wFX10_132 rfl dX10_servesIn_44 rfl (by decide) ?_
  refine z_iconst (v := 0) hc dX10_servesIn_47 rfl ?_
  refine z_callS (av := [.ref 40, .int 0, .ref 42, .int 0]) (enc' := eV) hc rfl (sMo_copies 40 0 42 0 _) wMX10_434 hpyX10_copies hmyX10_copies (rm_ok hRm (Nat.le_of_ble_eq_true rfl) (Nat.le_of_ble_eq_true rfl)) (Nat.le_of_ble_eq_true rfl) hRm.2.2 dX10_servesIn_48 (fun c1 u1 f1 => ?_)
  refine z_aload_n hc dX10_servesIn_51 0 rfl rfl ?_
  refine z_iload_n hc dX10_servesIn_52 3 rfl rfl ?_
  refine z_if_eq (tgt := 70) hc dX10_servesIn_53 (by decide) _ (fun h1 => ?_) (fun h1 => ?_)
  · refine z_iconst (v := 0) hc dX10_servesIn_70 rfl ?_
    exact sMo_servesIn_71 hc hRm v1 v2 v3 0 _
  · refine z_iconst (v := 1) hc dX10_servesIn_56 rfl ?_
    refine z_aload_n hc dX10_servesIn_57 0 rfl rfl ?_
    refine z_getR (x := 40) hc (ci := 10) (k := 50) (by decide) (by decide) zly10 lM1 (zkM lM1) wFX10_126 rfl dX10_servesIn_58 rfl (by decide) ?_
    refine z_bipush (v := 13) hc dX10_servesIn_61 rfl ?_
    refine z_iload_n hc dX10_servesIn_63 2 rfl rfl ?_
    refine z_iadd hc dX10_servesIn_64 ?_
    refine zJ.chk _ (fun h2 => ?_)
    refine z_iald (k := (ix (13 + v2))) hc lM40 (zkM lM40) h2 rfl dX10_servesIn_65 ?_
    refine z_ishl hc dX10_servesIn_66 ?_
    refine z_goto (tgt := 71) hc dX10_servesIn_67 (by decide) ?_
    exact sMo_servesIn_71 hc hRm v1 v2 v3 (1 <<< ((gI u1 40 (ix (13 + v2))) &&& 31)) _
set_option maxRecDepth 100000 in
set_option maxHeartbeats 4000000 in
theorem sMo_servesIn_18 {fin : Int32 × zM} (hc : zCx p s mi args meth c (wM D b) m0 RX10 cX10_servesIn 7 (some .int)) (hRm : R.frames = 6 ∧ R.locals = 133 ∧ R.cells = zc (wM D b) m0 fin.2 ∧ R.slots = zs (wM D b) m0 fin.2) (v1 : Int32) (v2 : Int32) (s0 : Int32) (u : zM) : zJ eI p l e R s mi args below meth c (wM D b) m0 7 fin 18 [(0, .ref 1), (1, .int v1), (2, .int v2)] [.int s0] u (Mo_servesIn_18 v1 v2 s0 u) := by
  unfold Mo_servesIn_18
  refine z_istore_n (L' := [(3, .int s0), (0, .ref 1), (1, .int v1), (2, .int v2)]) hc dX10_servesIn_18 rfl (by decide) rfl rfl ?_
  refine z_iload_n hc dX10_servesIn_19 0 rfl rfl ?_
  refine z_if_ne (tgt := 38) hc dX10_servesIn_20 (by decide) _ (fun h1 => ?_) (fun h1 => ?_)
  · refine zJ.sub (L' := [(0, .ref 1), (1, .int v1), (2, .int v2), (3, .int s0)]) [1, 2, 3, 0] rfl ?_
    exact sMo_servesIn_38 hc hRm v1 v2 s0 _
  · refine z_aload_n hc dX10_servesIn_23 1 rfl rfl ?_
    refine z_getR (x := 40) hc (ci := 10) (k := 50) (by decide) (by decide) zly10 lM1 (zkM lM1) wFX10_126 rfl dX10_servesIn_24 rfl (by decide) ?_
    refine z_bipush (v := 19) hc dX10_servesIn_27 rfl ?_
    refine z_iload_n hc dX10_servesIn_29 2 rfl rfl ?_
    refine z_iadd hc dX10_servesIn_30 ?_
    refine zJ.chk _ (fun h2 => ?_)
    refine z_iald (k := (ix (19 + v1))) hc lM40 (zkM lM40) h2 rfl dX10_servesIn_31 ?_
    refine z_iload_n hc dX10_servesIn_32 3 rfl rfl ?_
    refine z_icmp_eq (tgt := 38) hc dX10_servesIn_33 (by decide) _ (fun h3 => ?_) (fun h3 => ?_)
    · refine zJ.sub (L' := [(0, .ref 1), (1, .int v1), (2, .int v2), (3, .int s0)]) [1, 2, 3, 0] rfl ?_
      exact sMo_servesIn_38 hc hRm v1 v2 s0 _
    · refine z_iconst (v := (-1)) hc dX10_servesIn_36 rfl ?_
      exact z_iret hc dX10_servesIn_37
set_option maxRecDepth 100000 in
set_option maxHeartbeats 4000000 in
theorem sMo_servesIn : ∀ (v1 : Int32) (v2 : Int32) (u : zM) r m1, Mo_servesIn v1 v2 u = some (r, m1) → zMet l (wM D b) 6 133 yX10_servesIn cX10_servesIn 7 (some .int) [.ref 1, .int v1, .int v2] u (eI r) m1 := by
  intro v1 v2 u
  refine zMet.of (L := [(0, .ref 1), (1, .int v1), (2, .int v2)]) RX10 (by decide +kernel) rfl (Nat.le_of_ble_eq_true rfl) (fun h => by cases h) rfl (fun p e s mi args below meth c R fin hc hin hRm => ?_)
  unfold Mo_servesIn
  refine z_aload_n hc dX10_servesIn_0 0 rfl rfl ?_
  refine z_getR (x := 40) hc (ci := 10) (k := 50) (by decide) (by decide) zly10 lM1 (zkM lM1) wFX10_126 rfl dX10_servesIn_1 rfl (by decide) ?_
  refine z_bipush (v := 19) hc dX10_servesIn_4 rfl ?_
  refine z_iload_n hc dX10_servesIn_6 1 rfl rfl ?_
  refine z_iadd hc dX10_servesIn_7 ?_
  refine zJ.chk _ (fun h1 => ?_)
  refine z_iald (k := (ix (19 + v1))) hc lM40 (zkM lM40) h1 rfl dX10_servesIn_8 ?_
  refine z_iconst (v := (-1)) hc dX10_servesIn_9 rfl ?_
  refine z_icmp_ne (tgt := 17) hc dX10_servesIn_10 (by decide) _ (fun h2 => ?_) (fun h2 => ?_)
  · refine z_iconst (v := 0) hc dX10_servesIn_17 rfl ?_
    exact sMo_servesIn_18 hc hRm v1 v2 0 _
  · refine z_iconst (v := 1) hc dX10_servesIn_13 rfl ?_
    refine z_goto (tgt := 18) hc dX10_servesIn_14 (by decide) ?_
    exact sMo_servesIn_18 hc hRm v1 v2 1 _
set_option maxRecDepth 100000 in
set_option maxHeartbeats 4000000 in
theorem sMo_serves : ∀ (v1 : Int32) (v2 : Int32) (u : zM) r m1, Mo_serves v1 v2 u = some (r, m1) → zMet l (wM D b) 7 159 yX10_serves cX10_serves 3 (some .int) [.ref 1, .int v1, .int v2] u (eI r) m1 := by
  intro v1 v2 u
  refine zMet.of (L := [(0, .ref 1), (1, .int v1), (2, .int v2)]) RX10 (by decide +kernel) rfl (Nat.le_of_ble_eq_true rfl) (fun h => by cases h) rfl (fun p e s mi args below meth c R fin hc hin hRm => ?_)
  unfold Mo_serves
  refine z_aload_n hc dX10_serves_0 0 rfl rfl ?_
  refine z_iconst (v := 0) hc dX10_serves_1 rfl ?_
  refine z_putI hc (ci := 10) (k := 0) (by decide) (by decide) zly10 lM1 (zkM lM1) wFX10_162 rfl rfl rfl rfl dX10_serves_2 ?_
  refine zJ.letM (fun u1 e1 => ?_)
  refine z_aload_n hc dX10_serves_5 0 rfl rfl ?_
  refine z_iload_n hc dX10_serves_6 1 rfl rfl ?_
  refine z_callV (av := [.int v1]) (enc' := eI) hc rfl (sMo_isWrit v1 _) (ci := 10) (by decide) lM1 (zkM lM1) rfl wMX10_431 hpyX10_isWrit hmyX10_isWrit (rm_ok hRm (Nat.le_of_ble_eq_true rfl) (Nat.le_of_ble_eq_true rfl)) (Nat.le_of_ble_eq_true rfl) hRm.2.2 dX10_serves_7 (fun c1 u2 f1 => ?_)
  refine z_if_eq (tgt := 30) hc dX10_serves_10 (by decide) _ (fun h1 => ?_) (fun h1 => ?_)
  · refine z_iconst (v := (-1)) hc dX10_serves_30 rfl ?_
    exact z_iret hc dX10_serves_31
  · refine z_aload_n hc dX10_serves_13 0 rfl rfl ?_
    refine z_iload_n hc dX10_serves_14 2 rfl rfl ?_
    refine z_callV (av := [.int v2]) (enc' := eI) hc rfl (sMo_isOtter v2 _) (ci := 10) (by decide) lM1 (zkM lM1) rfl wMX10_425 hpyX10_isOtter hmyX10_isOtter (rm_ok hRm (Nat.le_of_ble_eq_true rfl) (Nat.le_of_ble_eq_true rfl)) (Nat.le_of_ble_eq_true rfl) hRm.2.2 dX10_serves_15 (fun c2 u3 f2 => ?_)
    refine z_if_eq (tgt := 30) hc dX10_serves_18 (by decide) _ (fun h2 => ?_) (fun h2 => ?_)
    · refine z_iconst (v := (-1)) hc dX10_serves_30 rfl ?_
      exact z_iret hc dX10_serves_31
    · refine z_aload_n hc dX10_serves_21 0 rfl rfl ?_
      refine z_iload_n hc dX10_serves_22 1 rfl rfl ?_
      refine z_iload_n hc dX10_serves_23 2 rfl rfl ?_
      refine z_callV (av := [.int v1, .int v2]) (enc' := eI) hc rfl (sMo_servesIn v1 v2 _) (ci := 10) (by decide) lM1 (zkM lM1) rfl wMX10_484 hpyX10_servesIn hmyX10_servesIn (rm_ok hRm (Nat.le_of_ble_eq_true rfl) (Nat.le_of_ble_eq_true rfl)) (Nat.le_of_ble_eq_true rfl) hRm.2.2 dX10_serves_24 (fun c3 u4 f3 => ?_)
      refine z_goto (tgt := 31) hc dX10_serves_27 (by decide) ?_
      exact z_iret hc dX10_serves_31
set_option maxRecDepth 100000 in
set_option maxHeartbeats 4000000 in
theorem sMo_intime_19b {fin : Int32 × zM} (hc : zCx p s mi args meth c (wM D b) m0 RX10 cX10_intime 5 (some .int)) (hRm : R.frames = 7 ∧ R.locals = 159 ∧ R.cells = zc (wM D b) m0 fin.2 ∧ R.slots = zs (wM D b) m0 fin.2) {zr19 : Int32 → Int32 → Int32 → zM → Option (Int32 × zM)} (hr19 : ∀ (v1 : Int32) (v2 : Int32) (v3 : Int32) (u : zM), zJ eI p l e R s mi args below meth c (wM D b) m0 5 fin 19 [(0, .ref 1), (1, .int v1), (2, .int v2), (3, .int v3)] [] u (zr19 v1 v2 v3 u)) (v1 : Int32) (v2 : Int32) (v3 : Int32) (u : zM) : zJ eI p l e R s mi args below meth c (wM D b) m0 5 fin 19 [(0, .ref 1), (1, .int v1), (2, .int v2), (3, .int v3)] [] u (Mo_intime_19b zr19 v1 v2 v3 u) := by
  unfold Mo_intime_19b
  refine z_iload_n hc dX10_intime_19 3 rfl rfl ?_
  refine z_aload_n hc dX10_intime_20 0 rfl rfl ?_
  refine z_getR (x := 3) hc (ci := 10) (k := 10) (by decide) (by decide) zly10 lM1 (zkM lM1) wFX10_13 rfl dX10_intime_21 rfl (by decide) ?_
  refine z_iconst (v := 3) hc dX10_intime_24 rfl ?_
  refine z_iald (k := 3) hc lM3 (zkM lM3) rfl rfl dX10_intime_25 ?_
  refine z_icmp_ge (tgt := 76) hc dX10_intime_26 (by decide) _ (fun h1 => ?_) (fun h1 => ?_)
  · refine z_iload_n hc dX10_intime_76 2 rfl rfl ?_
    exact z_iret hc dX10_intime_77
  · refine z_aload_n hc dX10_intime_29 0 rfl rfl ?_
    refine z_iload_n hc dX10_intime_30 1 rfl rfl ?_
    refine z_iload_n hc dX10_intime_31 3 rfl rfl ?_
    refine z_callV (av := [.int v1, .int v3]) (enc' := eI) hc rfl (sMo_servesIn v1 v3 _) (ci := 10) (by decide) lM1 (zkM lM1) rfl wMX10_484 hpyX10_servesIn hmyX10_servesIn (rm_ok hRm (Nat.le_of_ble_eq_true rfl) (Nat.le_of_ble_eq_true rfl)) (Nat.le_of_ble_eq_true rfl) hRm.2.2 dX10_intime_32 (fun c1 u1 f1 => ?_)
    refine z_istore (L' := [(4, .int c1), (0, .ref 1), (1, .int v1), (2, .int v2), (3, .int v3)]) hc dX10_intime_35 (by decide) rfl rfl ?_
    refine z_iload_n hc dX10_intime_37 3 rfl rfl ?_
    refine z_iload hc dX10_intime_38 0 rfl ?_
    refine z_if_lt (tgt := 67) hc dX10_intime_40 (by decide) _ (fun h2 => ?_) (fun h2 => ?_)
    · refine z_iconst (v := 0) hc dX10_intime_67 rfl ?_
      refine z_ior hc dX10_intime_68 ?_
      refine zJ.letI (fun x1 e1 => ?_)
      refine z_istore_n (L' := [(2, .int x1), (4, .int c1), (0, .ref 1), (1, .int v1), (3, .int v3)]) hc dX10_intime_69 rfl (by decide) rfl rfl ?_
      refine z_iinc (L' := [(3, .int (v3 + 1)), (2, .int x1), (4, .int c1), (0, .ref 1), (1, .int v1)]) hc dX10_intime_70 4 rfl (v := (v3 + 1)) rfl (by decide) rfl rfl ?_
      refine z_goto (tgt := 19) hc dX10_intime_73 (by decide) ?_
      refine zJ.sub (L' := [(0, .ref 1), (1, .int v1), (2, .int x1), (3, .int (v3 + 1))]) [3, 4, 1, 0] rfl ?_
      exact hr19 v1 x1 (v3 + 1) _
    · refine z_aload_n hc dX10_intime_43 1 rfl rfl ?_
      refine z_getR (x := 40) hc (ci := 10) (k := 50) (by decide) (by decide) zly10 lM1 (zkM lM1) wFX10_126 rfl dX10_intime_44 rfl (by decide) ?_
      refine z_iconst (v := 0) hc dX10_intime_47 rfl ?_
      refine z_iald (k := 0) hc lM40 (zkM lM40) rfl rfl dX10_intime_48 ?_
      refine z_iload hc dX10_intime_49 0 rfl ?_
      refine z_iadd hc dX10_intime_51 ?_
      refine z_aload_n hc dX10_intime_52 1 rfl rfl ?_
      refine z_getR (x := 15) hc (ci := 10) (k := 22) (by decide) (by decide) zly10 lM1 (zkM lM1) wFX10_50 rfl dX10_intime_53 rfl (by decide) ?_
      refine z_iload_n hc dX10_intime_56 2 rfl rfl ?_
      refine zJ.chk _ (fun h3 => ?_)
      refine z_iald (k := (ix v1)) hc lM15 (zkM lM15) h3 rfl dX10_intime_57 ?_
      refine z_icmp_gt (tgt := 67) hc dX10_intime_58 (by decide) _ (fun h4 => ?_) (fun h4 => ?_)
      · refine z_iconst (v := 0) hc dX10_intime_67 rfl ?_
        refine z_ior hc dX10_intime_68 ?_
        refine zJ.letI (fun x2 e2 => ?_)
        refine z_istore_n (L' := [(2, .int x2), (4, .int c1), (0, .ref 1), (1, .int v1), (3, .int v3)]) hc dX10_intime_69 rfl (by decide) rfl rfl ?_
        refine z_iinc (L' := [(3, .int (v3 + 1)), (2, .int x2), (4, .int c1), (0, .ref 1), (1, .int v1)]) hc dX10_intime_70 4 rfl (v := (v3 + 1)) rfl (by decide) rfl rfl ?_
        refine z_goto (tgt := 19) hc dX10_intime_73 (by decide) ?_
        refine zJ.sub (L' := [(0, .ref 1), (1, .int v1), (2, .int x2), (3, .int (v3 + 1))]) [3, 4, 1, 0] rfl ?_
        exact hr19 v1 x2 (v3 + 1) _
      · refine z_iconst (v := 1) hc dX10_intime_61 rfl ?_
        refine z_iload_n hc dX10_intime_62 4 rfl rfl ?_
        refine z_ishl hc dX10_intime_63 ?_
        refine z_goto (tgt := 68) hc dX10_intime_64 (by decide) ?_
        refine z_ior hc dX10_intime_68 ?_
        refine zJ.letI (fun x3 e3 => ?_)
        refine z_istore_n (L' := [(2, .int x3), (4, .int c1), (0, .ref 1), (1, .int v1), (3, .int v3)]) hc dX10_intime_69 rfl (by decide) rfl rfl ?_
        refine z_iinc (L' := [(3, .int (v3 + 1)), (2, .int x3), (4, .int c1), (0, .ref 1), (1, .int v1)]) hc dX10_intime_70 4 rfl (v := (v3 + 1)) rfl (by decide) rfl rfl ?_
        refine z_goto (tgt := 19) hc dX10_intime_73 (by decide) ?_
        refine zJ.sub (L' := [(0, .ref 1), (1, .int v1), (2, .int x3), (3, .int (v3 + 1))]) [3, 4, 1, 0] rfl ?_
        exact hr19 v1 x3 (v3 + 1) _
set_option maxRecDepth 100000 in
set_option maxHeartbeats 4000000 in
theorem sMo_intime_19 {fin : Int32 × zM} (hc : zCx p s mi args meth c (wM D b) m0 RX10 cX10_intime 5 (some .int)) (hRm : R.frames = 7 ∧ R.locals = 159 ∧ R.cells = zc (wM D b) m0 fin.2 ∧ R.slots = zs (wM D b) m0 fin.2) : ∀ (zf : Nat) (v1 : Int32) (v2 : Int32) (v3 : Int32) (u : zM), zJ eI p l e R s mi args below meth c (wM D b) m0 5 fin 19 [(0, .ref 1), (1, .int v1), (2, .int v2), (3, .int v3)] [] u (Mo_intime_19 zf v1 v2 v3 u) := by
  intro zf
  induction zf with
  | zero => intro v1 v2 v3 u; exact zJ.nil
  | succ zf ih => intro v1 v2 v3 u; exact sMo_intime_19b hc hRm ih v1 v2 v3 u
set_option maxRecDepth 100000 in
set_option maxHeartbeats 4000000 in
theorem sMo_intime : ∀ (v1 : Int32) (u : zM) r m1, Mo_intime v1 u = some (r, m1) → zMet l (wM D b) 7 159 yX10_intime cX10_intime 5 (some .int) [.ref 1, .int v1] u (eI r) m1 := by
  intro v1 u
  refine zMet.of (L := [(0, .ref 1), (1, .int v1)]) RX10 (by decide +kernel) rfl (Nat.le_of_ble_eq_true rfl) (fun h => by cases h) rfl (fun p e s mi args below meth c R fin hc hin hRm => ?_)
  unfold Mo_intime
  refine z_aload_n hc dX10_intime_0 0 rfl rfl ?_
  refine z_iconst (v := 0) hc dX10_intime_1 rfl ?_
  refine z_putI hc (ci := 10) (k := 0) (by decide) (by decide) zly10 lM1 (zkM lM1) wFX10_162 rfl rfl rfl rfl dX10_intime_2 ?_
  refine zJ.letM (fun u1 e1 => ?_)
  refine z_aload_n hc dX10_intime_5 0 rfl rfl ?_
  refine z_iload_n hc dX10_intime_6 1 rfl rfl ?_
  refine z_callV (av := [.int v1]) (enc' := eI) hc rfl (sMo_isWrit v1 _) (ci := 10) (by decide) lM1 (zkM lM1) rfl wMX10_431 hpyX10_isWrit hmyX10_isWrit (rm_ok hRm (Nat.le_of_ble_eq_true rfl) (Nat.le_of_ble_eq_true rfl)) (Nat.le_of_ble_eq_true rfl) hRm.2.2 dX10_intime_7 (fun c1 u2 f1 => ?_)
  refine z_if_ne (tgt := 15) hc dX10_intime_10 (by decide) _ (fun h1 => ?_) (fun h1 => ?_)
  · refine z_iconst (v := 0) hc dX10_intime_15 rfl ?_
    refine z_istore_n (L' := [(2, .int 0), (0, .ref 1), (1, .int v1)]) hc dX10_intime_16 rfl (by decide) rfl rfl ?_
    refine z_iconst (v := 0) hc dX10_intime_17 rfl ?_
    refine z_istore_n (L' := [(3, .int 0), (2, .int 0), (0, .ref 1), (1, .int v1)]) hc dX10_intime_18 rfl (by decide) rfl rfl ?_
    refine zJ.sub (L' := [(0, .ref 1), (1, .int v1), (2, .int 0), (3, .int 0)]) [2, 3, 1, 0] rfl ?_
    exact sMo_intime_19 hc hRm zF v1 0 0 _
  · refine z_iconst (v := (-1)) hc dX10_intime_13 rfl ?_
    exact z_iret hc dX10_intime_14
set_option maxRecDepth 100000 in
set_option maxHeartbeats 4000000 in
theorem sMo_shares_50b {zn : Nat} {fin : Unit × zM} (hc : zCx p s mi args meth c (wM D b) m0 RX10 cX10_shares 6 none) (hRm : R.frames = 0 + (zn + 1) ∧ R.locals = 0 + (zn + 1) * 25 ∧ R.cells = zc (wM D b) m0 fin.2 ∧ R.slots = zs (wM D b) m0 fin.2) {zq : Int32 → Int32 → Int32 → Int32 → zM → Option (Unit × zM)} (hzq : ∀ (v1 : Int32) (v2 : Int32) (v3 : Int32) (v4 : Int32) (u : zM) r m1, zq v1 v2 v3 v4 u = some (r, m1) → zMet l (wM D b) (0 + zn) (0 + zn * 25) yX10_shares cX10_shares 6 none [.ref 1, .int v1, .int v2, .int v3, .int v4] u (eV r) m1) {zr50 : Int32 → zM → Option (Unit × zM)} (hr50 : ∀ (v5 : Int32) (u : zM), zJ eV p l e R s mi args below meth c (wM D b) m0 6 fin 50 [(0, .ref 1), (5, .int v5)] [] u (zr50 v5 u)) (v5 : Int32) (u : zM) : zJ eV p l e R s mi args below meth c (wM D b) m0 6 fin 50 [(0, .ref 1), (5, .int v5)] [] u (Mo_shares_50b zq zr50 v5 u) := by
  unfold Mo_shares_50b
  refine z_iload hc dX10_shares_50 1 rfl ?_
  refine z_iconst (v := 3) hc dX10_shares_52 rfl ?_
  refine z_icmp_ge (tgt := 76) hc dX10_shares_53 (by decide) _ (fun h1 => ?_) (fun h1 => ?_)
  · exact z_vret hc dX10_shares_76
  · refine z_aload_n hc dX10_shares_56 0 rfl rfl ?_
    refine z_getR (x := 49) hc (ci := 10) (k := 62) (by decide) (by decide) zly10 lM1 (zkM lM1) wFX10_153 rfl dX10_shares_57 rfl (by decide) ?_
    refine z_iload hc dX10_shares_60 1 rfl ?_
    refine z_aload_n hc dX10_shares_62 0 rfl rfl ?_
    refine z_getR (x := 48) hc (ci := 10) (k := 61) (by decide) (by decide) zly10 lM1 (zkM lM1) wFX10_150 rfl dX10_shares_63 rfl (by decide) ?_
    refine z_iload hc dX10_shares_66 1 rfl ?_
    refine zJ.chk _ (fun h2 => ?_)
    refine z_iald (k := (ix v5)) hc lM48 (zkM lM48) h2 rfl dX10_shares_68 ?_
    refine zJ.chk _ (fun h3 => ?_)
    refine z_iast (k := (ix v5)) hc lM49 (zkM lM49) h3 rfl dX10_shares_69 ?_
    refine zJ.letM (fun u1 e1 => ?_)
    refine z_iinc (L' := [(5, .int (v5 + 1)), (0, .ref 1)]) hc dX10_shares_70 1 rfl (v := (v5 + 1)) rfl (by decide) rfl rfl ?_
    refine z_goto (tgt := 50) hc dX10_shares_73 (by decide) ?_
    refine zJ.sub (L' := [(0, .ref 1), (5, .int (v5 + 1))]) [1, 0] rfl ?_
    exact hr50 (v5 + 1) _
set_option maxRecDepth 100000 in
set_option maxHeartbeats 4000000 in
theorem sMo_shares_50 {zn : Nat} {fin : Unit × zM} (hc : zCx p s mi args meth c (wM D b) m0 RX10 cX10_shares 6 none) (hRm : R.frames = 0 + (zn + 1) ∧ R.locals = 0 + (zn + 1) * 25 ∧ R.cells = zc (wM D b) m0 fin.2 ∧ R.slots = zs (wM D b) m0 fin.2) {zq : Int32 → Int32 → Int32 → Int32 → zM → Option (Unit × zM)} (hzq : ∀ (v1 : Int32) (v2 : Int32) (v3 : Int32) (v4 : Int32) (u : zM) r m1, zq v1 v2 v3 v4 u = some (r, m1) → zMet l (wM D b) (0 + zn) (0 + zn * 25) yX10_shares cX10_shares 6 none [.ref 1, .int v1, .int v2, .int v3, .int v4] u (eV r) m1) : ∀ (zf : Nat) (v5 : Int32) (u : zM), zJ eV p l e R s mi args below meth c (wM D b) m0 6 fin 50 [(0, .ref 1), (5, .int v5)] [] u (Mo_shares_50 zf zq v5 u) := by
  intro zf
  induction zf with
  | zero => intro v5 u; exact zJ.nil
  | succ zf ih => intro v5 u; exact sMo_shares_50b hc hRm hzq ih v5 u
set_option maxRecDepth 100000 in
set_option maxHeartbeats 4000000 in
theorem sMo_shares_80b {zn : Nat} {fin : Unit × zM} (hc : zCx p s mi args meth c (wM D b) m0 RX10 cX10_shares 6 none) (hRm : R.frames = 0 + (zn + 1) ∧ R.locals = 0 + (zn + 1) * 25 ∧ R.cells = zc (wM D b) m0 fin.2 ∧ R.slots = zs (wM D b) m0 fin.2) {zq : Int32 → Int32 → Int32 → Int32 → zM → Option (Unit × zM)} (hzq : ∀ (v1 : Int32) (v2 : Int32) (v3 : Int32) (v4 : Int32) (u : zM) r m1, zq v1 v2 v3 v4 u = some (r, m1) → zMet l (wM D b) (0 + zn) (0 + zn * 25) yX10_shares cX10_shares 6 none [.ref 1, .int v1, .int v2, .int v3, .int v4] u (eV r) m1) {zr80 : Int32 → Int32 → Int32 → Int32 → Int32 → zM → Option (Unit × zM)} (hr80 : ∀ (v1 : Int32) (v2 : Int32) (v3 : Int32) (v4 : Int32) (v5 : Int32) (u : zM), zJ eV p l e R s mi args below meth c (wM D b) m0 6 fin 80 [(0, .ref 1), (1, .int v1), (2, .int v2), (3, .int v3), (4, .int v4), (5, .int v5)] [] u (zr80 v1 v2 v3 v4 v5 u)) (v1 : Int32) (v2 : Int32) (v3 : Int32) (v4 : Int32) (v5 : Int32) (u : zM) : zJ eV p l e R s mi args below meth c (wM D b) m0 6 fin 80 [(0, .ref 1), (1, .int v1), (2, .int v2), (3, .int v3), (4, .int v4), (5, .int v5)] [] u (Mo_shares_80b zq zr80 v1 v2 v3 v4 v5 u) := by
  unfold Mo_shares_80b
  refine z_iload hc dX10_shares_80 5 rfl ?_
  refine z_aload_n hc dX10_shares_82 0 rfl rfl ?_
  refine z_getR (x := 3) hc (ci := 10) (k := 10) (by decide) (by decide) zly10 lM1 (zkM lM1) wFX10_13 rfl dX10_shares_83 rfl (by decide) ?_
  refine z_iconst (v := 4) hc dX10_shares_86 rfl ?_
  refine z_iald (k := 4) hc lM3 (zkM lM3) rfl rfl dX10_shares_87 ?_
  refine z_icmp_ge (tgt := 164) hc dX10_shares_88 (by decide) _ (fun h1 => ?_) (fun h1 => ?_)
  · refine z_aload_n hc dX10_shares_164 0 rfl rfl ?_
    refine z_getR (x := 48) hc (ci := 10) (k := 61) (by decide) (by decide) zly10 lM1 (zkM lM1) wFX10_150 rfl dX10_shares_165 rfl (by decide) ?_
    refine z_iload_n hc dX10_shares_168 1 rfl rfl ?_
    refine z_iconst (v := (-1)) hc dX10_shares_169 rfl ?_
    refine zJ.chk _ (fun h2 => ?_)
    refine z_iast (k := (ix v1)) hc lM48 (zkM lM48) h2 rfl dX10_shares_170 ?_
    refine zJ.letM (fun u1 e1 => ?_)
    refine z_aload_n hc dX10_shares_171 0 rfl rfl ?_
    refine z_iload_n hc dX10_shares_172 1 rfl rfl ?_
    refine z_iconst (v := 1) hc dX10_shares_173 rfl ?_
    refine z_iadd hc dX10_shares_174 ?_
    refine z_iload_n hc dX10_shares_175 2 rfl rfl ?_
    refine z_iload_n hc dX10_shares_176 3 rfl rfl ?_
    refine z_iload hc dX10_shares_177 4 rfl ?_
    refine z_callV (av := [.int (v1 + 1), .int v2, .int v3, .int v4]) (enc' := eV) hc rfl (hzq (v1 + 1) v2 v3 v4 _) (ci := 10) (by decide) lM1 (zkM lM1) rfl wMX10_493 hpyX10_shares hmyX10_shares (rm_ok hRm (by omega) (by omega)) (Nat.le_of_ble_eq_true rfl) hRm.2.2 dX10_shares_179 (fun c1 u2 f1 => ?_)
    exact z_vret hc dX10_shares_182
  · refine z_iload_n hc dX10_shares_91 2 rfl rfl ?_
    refine z_iload hc dX10_shares_92 5 rfl ?_
    refine z_ishr hc dX10_shares_94 ?_
    refine z_iconst (v := 1) hc dX10_shares_95 rfl ?_
    refine z_iand hc dX10_shares_96 ?_
    refine z_iconst (v := 1) hc dX10_shares_97 rfl ?_
    refine z_icmp_eq (tgt := 158) hc dX10_shares_98 (by decide) _ (fun h3 => ?_) (fun h3 => ?_)
    · refine z_iinc (L' := [(5, .int (v5 + 1)), (0, .ref 1), (1, .int v1), (2, .int v2), (3, .int v3), (4, .int v4)]) hc dX10_shares_158 5 rfl (v := (v5 + 1)) rfl (by decide) rfl rfl ?_
      refine z_goto (tgt := 80) hc dX10_shares_161 (by decide) ?_
      refine zJ.sub (L' := [(0, .ref 1), (1, .int v1), (2, .int v2), (3, .int v3), (4, .int v4), (5, .int (v5 + 1))]) [1, 2, 3, 4, 5, 0] rfl ?_
      exact hr80 v1 v2 v3 v4 (v5 + 1) _
    · refine z_aload_n hc dX10_shares_101 0 rfl rfl ?_
      refine z_getR (x := 47) hc (ci := 10) (k := 60) (by decide) (by decide) zly10 lM1 (zkM lM1) wFX10_147 rfl dX10_shares_102 rfl (by decide) ?_
      refine z_bipush (v := 6) hc dX10_shares_105 rfl ?_
      refine z_iload_n hc dX10_shares_107 1 rfl rfl ?_
      refine z_imul hc dX10_shares_108 ?_
      refine z_iload hc dX10_shares_109 5 rfl ?_
      refine z_iadd hc dX10_shares_111 ?_
      refine zJ.chk _ (fun h4 => ?_)
      refine z_iald (k := (ix ((6 * v1) + v5))) hc lM47 (zkM lM47) h4 rfl dX10_shares_112 ?_
      refine z_if_ge (tgt := 119) hc dX10_shares_113 (by decide) _ (fun h5 => ?_) (fun h5 => ?_)
      · refine z_aload_n hc dX10_shares_119 0 rfl rfl ?_
        refine z_getR (x := 48) hc (ci := 10) (k := 61) (by decide) (by decide) zly10 lM1 (zkM lM1) wFX10_150 rfl dX10_shares_120 rfl (by decide) ?_
        refine z_iload_n hc dX10_shares_123 1 rfl rfl ?_
        refine z_iload hc dX10_shares_124 5 rfl ?_
        refine zJ.chk _ (fun h6 => ?_)
        refine z_iast (k := (ix v1)) hc lM48 (zkM lM48) h6 rfl dX10_shares_126 ?_
        refine zJ.letM (fun u3 e2 => ?_)
        refine z_aload_n hc dX10_shares_127 0 rfl rfl ?_
        refine z_iload_n hc dX10_shares_128 1 rfl rfl ?_
        refine z_iconst (v := 1) hc dX10_shares_129 rfl ?_
        refine z_iadd hc dX10_shares_130 ?_
        refine z_iload_n hc dX10_shares_131 2 rfl rfl ?_
        refine z_iconst (v := 1) hc dX10_shares_132 rfl ?_
        refine z_iload hc dX10_shares_133 5 rfl ?_
        refine z_ishl hc dX10_shares_135 ?_
        refine z_ior hc dX10_shares_136 ?_
        refine z_iload_n hc dX10_shares_137 3 rfl rfl ?_
        refine z_iconst (v := 1) hc dX10_shares_138 rfl ?_
        refine z_iadd hc dX10_shares_139 ?_
        refine z_iload hc dX10_shares_140 4 rfl ?_
        refine z_aload_n hc dX10_shares_142 0 rfl rfl ?_
        refine z_getR (x := 47) hc (ci := 10) (k := 60) (by decide) (by decide) zly10 lM1 (zkM lM1) wFX10_147 rfl dX10_shares_143 rfl (by decide) ?_
        refine z_bipush (v := 6) hc dX10_shares_146 rfl ?_
        refine z_iload_n hc dX10_shares_148 1 rfl rfl ?_
        refine z_imul hc dX10_shares_149 ?_
        refine z_iload hc dX10_shares_150 5 rfl ?_
        refine z_iadd hc dX10_shares_152 ?_
        refine zJ.chk _ (fun h7 => ?_)
        refine z_iald (k := (ix ((6 * v1) + v5))) hc lM47 (zkM lM47) h7 rfl dX10_shares_153 ?_
        refine z_iadd hc dX10_shares_154 ?_
        refine z_callV (av := [.int (v1 + 1), .int (v2 ||| (1 <<< (v5 &&& 31))), .int (v3 + 1), .int (v4 + (gI u3 47 (ix ((6 * v1) + v5))))]) (enc' := eV) hc rfl (hzq (v1 + 1) (v2 ||| (1 <<< (v5 &&& 31))) (v3 + 1) (v4 + (gI u3 47 (ix ((6 * v1) + v5)))) _) (ci := 10) (by decide) lM1 (zkM lM1) rfl wMX10_493 hpyX10_shares hmyX10_shares (rm_ok hRm (by omega) (by omega)) (Nat.le_of_ble_eq_true rfl) hRm.2.2 dX10_shares_155 (fun c2 u4 f2 => ?_)
        refine z_iinc (L' := [(5, .int (v5 + 1)), (0, .ref 1), (1, .int v1), (2, .int v2), (3, .int v3), (4, .int v4)]) hc dX10_shares_158 5 rfl (v := (v5 + 1)) rfl (by decide) rfl rfl ?_
        refine z_goto (tgt := 80) hc dX10_shares_161 (by decide) ?_
        refine zJ.sub (L' := [(0, .ref 1), (1, .int v1), (2, .int v2), (3, .int v3), (4, .int v4), (5, .int (v5 + 1))]) [1, 2, 3, 4, 5, 0] rfl ?_
        exact hr80 v1 v2 v3 v4 (v5 + 1) _
      · refine z_goto (tgt := 158) hc dX10_shares_116 (by decide) ?_
        refine z_iinc (L' := [(5, .int (v5 + 1)), (0, .ref 1), (1, .int v1), (2, .int v2), (3, .int v3), (4, .int v4)]) hc dX10_shares_158 5 rfl (v := (v5 + 1)) rfl (by decide) rfl rfl ?_
        refine z_goto (tgt := 80) hc dX10_shares_161 (by decide) ?_
        refine zJ.sub (L' := [(0, .ref 1), (1, .int v1), (2, .int v2), (3, .int v3), (4, .int v4), (5, .int (v5 + 1))]) [1, 2, 3, 4, 5, 0] rfl ?_
        exact hr80 v1 v2 v3 v4 (v5 + 1) _
set_option maxRecDepth 100000 in
set_option maxHeartbeats 4000000 in
theorem sMo_shares_80 {zn : Nat} {fin : Unit × zM} (hc : zCx p s mi args meth c (wM D b) m0 RX10 cX10_shares 6 none) (hRm : R.frames = 0 + (zn + 1) ∧ R.locals = 0 + (zn + 1) * 25 ∧ R.cells = zc (wM D b) m0 fin.2 ∧ R.slots = zs (wM D b) m0 fin.2) {zq : Int32 → Int32 → Int32 → Int32 → zM → Option (Unit × zM)} (hzq : ∀ (v1 : Int32) (v2 : Int32) (v3 : Int32) (v4 : Int32) (u : zM) r m1, zq v1 v2 v3 v4 u = some (r, m1) → zMet l (wM D b) (0 + zn) (0 + zn * 25) yX10_shares cX10_shares 6 none [.ref 1, .int v1, .int v2, .int v3, .int v4] u (eV r) m1) : ∀ (zf : Nat) (v1 : Int32) (v2 : Int32) (v3 : Int32) (v4 : Int32) (v5 : Int32) (u : zM), zJ eV p l e R s mi args below meth c (wM D b) m0 6 fin 80 [(0, .ref 1), (1, .int v1), (2, .int v2), (3, .int v3), (4, .int v4), (5, .int v5)] [] u (Mo_shares_80 zf zq v1 v2 v3 v4 v5 u) := by
  intro zf
  induction zf with
  | zero => intro v1 v2 v3 v4 v5 u; exact zJ.nil
  | succ zf ih => intro v1 v2 v3 v4 v5 u; exact sMo_shares_80b hc hRm hzq ih v1 v2 v3 v4 v5 u
set_option maxRecDepth 100000 in
set_option maxHeartbeats 4000000 in
theorem sMo_shares_b {zn : Nat} {zq : Int32 → Int32 → Int32 → Int32 → zM → Option (Unit × zM)} (hzq : ∀ (v1 : Int32) (v2 : Int32) (v3 : Int32) (v4 : Int32) (u : zM) r m1, zq v1 v2 v3 v4 u = some (r, m1) → zMet l (wM D b) (0 + zn) (0 + zn * 25) yX10_shares cX10_shares 6 none [.ref 1, .int v1, .int v2, .int v3, .int v4] u (eV r) m1) : ∀ (v1 : Int32) (v2 : Int32) (v3 : Int32) (v4 : Int32) (u : zM) r m1, Mo_shares_b zq v1 v2 v3 v4 u = some (r, m1) → zMet l (wM D b) (0 + (zn + 1)) (0 + (zn + 1) * 25) yX10_shares cX10_shares 6 none [.ref 1, .int v1, .int v2, .int v3, .int v4] u (eV r) m1 := by
  intro v1 v2 v3 v4 u
  refine zMet.of (L := [(0, .ref 1), (1, .int v1), (2, .int v2), (3, .int v3), (4, .int v4)]) RX10 (by decide +kernel) rfl (Nat.le_of_ble_eq_true rfl) (fun h => by cases h) rfl (fun p e s mi args below meth c R fin hc hin hRm => ?_)
  unfold Mo_shares_b
  refine z_iload_n hc dX10_shares_0 1 rfl rfl ?_
  refine z_aload_n hc dX10_shares_1 0 rfl rfl ?_
  refine z_getR (x := 3) hc (ci := 10) (k := 10) (by decide) (by decide) zly10 lM1 (zkM lM1) wFX10_13 rfl dX10_shares_2 rfl (by decide) ?_
  refine z_iconst (v := 3) hc dX10_shares_5 rfl ?_
  refine z_iald (k := 3) hc lM3 (zkM lM3) rfl rfl dX10_shares_6 ?_
  refine z_icmp_ne (tgt := 77) hc dX10_shares_7 (by decide) _ (fun h1 => ?_) (fun h1 => ?_)
  · refine z_iconst (v := 0) hc dX10_shares_77 rfl ?_
    refine z_istore (L' := [(5, .int 0), (0, .ref 1), (1, .int v1), (2, .int v2), (3, .int v3), (4, .int v4)]) hc dX10_shares_78 (by decide) rfl rfl ?_
    refine zJ.sub (L' := [(0, .ref 1), (1, .int v1), (2, .int v2), (3, .int v3), (4, .int v4), (5, .int 0)]) [1, 2, 3, 4, 5, 0] rfl ?_
    exact sMo_shares_80 hc hRm hzq zF v1 v2 v3 v4 0 _
  · refine z_iload_n hc dX10_shares_10 3 rfl rfl ?_
    refine z_aload_n hc dX10_shares_11 0 rfl rfl ?_
    refine z_getI hc (ci := 10) (k := 63) (by decide) (by decide) zly10 lM1 (zkM lM1) wFX10_487 rfl dX10_shares_12 ?_
    refine z_icmp_lt (tgt := 35) hc dX10_shares_15 (by decide) _ (fun h2 => ?_) (fun h2 => ?_)
    · exact z_vret hc dX10_shares_35
    · refine z_iload_n hc dX10_shares_18 3 rfl rfl ?_
      refine z_aload_n hc dX10_shares_19 0 rfl rfl ?_
      refine z_getI hc (ci := 10) (k := 63) (by decide) (by decide) zly10 lM1 (zkM lM1) wFX10_487 rfl dX10_shares_20 ?_
      refine z_icmp_ne (tgt := 36) hc dX10_shares_23 (by decide) _ (fun h3 => ?_) (fun h3 => ?_)
      · refine z_aload_n hc dX10_shares_36 0 rfl rfl ?_
        refine z_iload_n hc dX10_shares_37 3 rfl rfl ?_
        refine z_putI hc (ci := 10) (k := 63) (by decide) (by decide) zly10 lM1 (zkM lM1) wFX10_487 rfl rfl rfl rfl dX10_shares_38 ?_
        refine zJ.letM (fun u1 e1 => ?_)
        refine z_aload_n hc dX10_shares_41 0 rfl rfl ?_
        refine z_iload hc dX10_shares_42 4 rfl ?_
        refine z_putI hc (ci := 10) (k := 64) (by decide) (by decide) zly10 lM1 (zkM lM1) wFX10_490 rfl rfl rfl rfl dX10_shares_44 ?_
        refine zJ.letM (fun u2 e2 => ?_)
        refine z_iconst (v := 0) hc dX10_shares_47 rfl ?_
        refine z_istore (L' := [(5, .int 0), (0, .ref 1), (1, .int v1), (2, .int v2), (3, .int v3), (4, .int v4)]) hc dX10_shares_48 (by decide) rfl rfl ?_
        refine zJ.sub (L' := [(0, .ref 1), (5, .int 0)]) [1, 0] rfl ?_
        exact sMo_shares_50 hc hRm hzq zF 0 _
      · refine z_iload hc dX10_shares_26 4 rfl ?_
        refine z_aload_n hc dX10_shares_28 0 rfl rfl ?_
        refine z_getI hc (ci := 10) (k := 64) (by decide) (by decide) zly10 lM1 (zkM lM1) wFX10_490 rfl dX10_shares_29 ?_
        refine z_icmp_lt (tgt := 36) hc dX10_shares_32 (by decide) _ (fun h4 => ?_) (fun h4 => ?_)
        · refine z_aload_n hc dX10_shares_36 0 rfl rfl ?_
          refine z_iload_n hc dX10_shares_37 3 rfl rfl ?_
          refine z_putI hc (ci := 10) (k := 63) (by decide) (by decide) zly10 lM1 (zkM lM1) wFX10_487 rfl rfl rfl rfl dX10_shares_38 ?_
          refine zJ.letM (fun u3 e3 => ?_)
          refine z_aload_n hc dX10_shares_41 0 rfl rfl ?_
          refine z_iload hc dX10_shares_42 4 rfl ?_
          refine z_putI hc (ci := 10) (k := 64) (by decide) (by decide) zly10 lM1 (zkM lM1) wFX10_490 rfl rfl rfl rfl dX10_shares_44 ?_
          refine zJ.letM (fun u4 e4 => ?_)
          refine z_iconst (v := 0) hc dX10_shares_47 rfl ?_
          refine z_istore (L' := [(5, .int 0), (0, .ref 1), (1, .int v1), (2, .int v2), (3, .int v3), (4, .int v4)]) hc dX10_shares_48 (by decide) rfl rfl ?_
          refine zJ.sub (L' := [(0, .ref 1), (5, .int 0)]) [1, 0] rfl ?_
          exact sMo_shares_50 hc hRm hzq zF 0 _
        · exact z_vret hc dX10_shares_35
theorem sMo_shares : ∀ (zn : Nat) (v1 : Int32) (v2 : Int32) (v3 : Int32) (v4 : Int32) (u : zM) r m1, Mo_shares zn v1 v2 v3 v4 u = some (r, m1) → zMet l (wM D b) (0 + zn) (0 + zn * 25) yX10_shares cX10_shares 6 none [.ref 1, .int v1, .int v2, .int v3, .int v4] u (eV r) m1 := by
  intro zn
  induction zn with
  | zero => intro v1 v2 v3 v4 u r m1 h; cases h
  | succ zn ih => exact sMo_shares_b ih
set_option maxRecDepth 100000 in
set_option maxHeartbeats 4000000 in
theorem sMo_share_38b {fin : Int32 × zM} (hc : zCx p s mi args meth c (wM D b) m0 RX10 cX10_share 4 (some .int)) (hRm : R.frames = 10 ∧ R.locals = 250 ∧ R.cells = zc (wM D b) m0 fin.2 ∧ R.slots = zs (wM D b) m0 fin.2) {zr26 : Int32 → Int32 → zM → Option (Int32 × zM)} (hr26 : ∀ (v1 : Int32) (v2 : Int32) (u : zM), zJ eI p l e R s mi args below meth c (wM D b) m0 4 fin 26 [(0, .ref 1), (1, .int v1), (2, .int v2)] [] u (zr26 v1 v2 u)) {zr38 : Int32 → Int32 → Int32 → zM → Option (Int32 × zM)} (hr38 : ∀ (v1 : Int32) (v2 : Int32) (v3 : Int32) (u : zM), zJ eI p l e R s mi args below meth c (wM D b) m0 4 fin 38 [(0, .ref 1), (1, .int v1), (2, .int v2), (3, .int v3)] [] u (zr38 v1 v2 v3 u)) (v1 : Int32) (v2 : Int32) (v3 : Int32) (u : zM) : zJ eI p l e R s mi args below meth c (wM D b) m0 4 fin 38 [(0, .ref 1), (1, .int v1), (2, .int v2), (3, .int v3)] [] u (Mo_share_38b zr26 zr38 v1 v2 v3 u) := by
  unfold Mo_share_38b
  refine z_iload_n hc dX10_share_38 3 rfl rfl ?_
  refine z_aload_n hc dX10_share_39 0 rfl rfl ?_
  refine z_getR (x := 3) hc (ci := 10) (k := 10) (by decide) (by decide) zly10 lM1 (zkM lM1) wFX10_13 rfl dX10_share_40 rfl (by decide) ?_
  refine z_iconst (v := 4) hc dX10_share_43 rfl ?_
  refine z_iald (k := 4) hc lM3 (zkM lM3) rfl rfl dX10_share_44 ?_
  refine z_icmp_ge (tgt := 71) hc dX10_share_45 (by decide) _ (fun h1 => ?_) (fun h1 => ?_)
  · refine z_iinc (L' := [(2, .int (v2 + 1)), (0, .ref 1), (1, .int v1), (3, .int v3)]) hc dX10_share_71 2 rfl (v := (v2 + 1)) rfl (by decide) rfl rfl ?_
    refine z_goto (tgt := 26) hc dX10_share_74 (by decide) ?_
    refine zJ.sub (L' := [(0, .ref 1), (1, .int v1), (2, .int (v2 + 1))]) [1, 2, 0] rfl ?_
    exact hr26 v1 (v2 + 1) _
  · refine z_aload_n hc dX10_share_48 0 rfl rfl ?_
    refine z_getR (x := 47) hc (ci := 10) (k := 60) (by decide) (by decide) zly10 lM1 (zkM lM1) wFX10_147 rfl dX10_share_49 rfl (by decide) ?_
    refine z_bipush (v := 6) hc dX10_share_52 rfl ?_
    refine z_iload_n hc dX10_share_54 2 rfl rfl ?_
    refine z_imul hc dX10_share_55 ?_
    refine z_iload_n hc dX10_share_56 3 rfl rfl ?_
    refine z_iadd hc dX10_share_57 ?_
    refine z_aload_n hc dX10_share_58 0 rfl rfl ?_
    refine z_iload_n hc dX10_share_59 3 rfl rfl ?_
    refine z_iload_n hc dX10_share_60 2 rfl rfl ?_
    refine z_callV (av := [.int v3, .int v2]) (enc' := eI) hc rfl (sMo_servesIn v3 v2 _) (ci := 10) (by decide) lM1 (zkM lM1) rfl wMX10_484 hpyX10_servesIn hmyX10_servesIn (rm_ok hRm (Nat.le_of_ble_eq_true rfl) (Nat.le_of_ble_eq_true rfl)) (Nat.le_of_ble_eq_true rfl) hRm.2.2 dX10_share_61 (fun c1 u1 f1 => ?_)
    refine zJ.chk _ (fun h2 => ?_)
    refine z_iast (k := (ix ((6 * v2) + v3))) hc lM47 (zkM lM47) h2 rfl dX10_share_64 ?_
    refine zJ.letM (fun u2 e1 => ?_)
    refine z_iinc (L' := [(3, .int (v3 + 1)), (0, .ref 1), (1, .int v1), (2, .int v2)]) hc dX10_share_65 3 rfl (v := (v3 + 1)) rfl (by decide) rfl rfl ?_
    refine z_goto (tgt := 38) hc dX10_share_68 (by decide) ?_
    refine zJ.sub (L' := [(0, .ref 1), (1, .int v1), (2, .int v2), (3, .int (v3 + 1))]) [1, 2, 3, 0] rfl ?_
    exact hr38 v1 v2 (v3 + 1) _
set_option maxRecDepth 100000 in
set_option maxHeartbeats 4000000 in
theorem sMo_share_38 {fin : Int32 × zM} (hc : zCx p s mi args meth c (wM D b) m0 RX10 cX10_share 4 (some .int)) (hRm : R.frames = 10 ∧ R.locals = 250 ∧ R.cells = zc (wM D b) m0 fin.2 ∧ R.slots = zs (wM D b) m0 fin.2) {zr26 : Int32 → Int32 → zM → Option (Int32 × zM)} (hr26 : ∀ (v1 : Int32) (v2 : Int32) (u : zM), zJ eI p l e R s mi args below meth c (wM D b) m0 4 fin 26 [(0, .ref 1), (1, .int v1), (2, .int v2)] [] u (zr26 v1 v2 u)) : ∀ (zf : Nat) (v1 : Int32) (v2 : Int32) (v3 : Int32) (u : zM), zJ eI p l e R s mi args below meth c (wM D b) m0 4 fin 38 [(0, .ref 1), (1, .int v1), (2, .int v2), (3, .int v3)] [] u (Mo_share_38 zf zr26 v1 v2 v3 u) := by
  intro zf
  induction zf with
  | zero => intro v1 v2 v3 u; exact zJ.nil
  | succ zf ih => intro v1 v2 v3 u; exact sMo_share_38b hc hRm hr26 ih v1 v2 v3 u
set_option maxRecDepth 100000 in
set_option maxHeartbeats 4000000 in
theorem sMo_share_26b {fin : Int32 × zM} (hc : zCx p s mi args meth c (wM D b) m0 RX10 cX10_share 4 (some .int)) (hRm : R.frames = 10 ∧ R.locals = 250 ∧ R.cells = zc (wM D b) m0 fin.2 ∧ R.slots = zs (wM D b) m0 fin.2) {zr26 : Int32 → Int32 → zM → Option (Int32 × zM)} (hr26 : ∀ (v1 : Int32) (v2 : Int32) (u : zM), zJ eI p l e R s mi args below meth c (wM D b) m0 4 fin 26 [(0, .ref 1), (1, .int v1), (2, .int v2)] [] u (zr26 v1 v2 u)) (v1 : Int32) (v2 : Int32) (u : zM) : zJ eI p l e R s mi args below meth c (wM D b) m0 4 fin 26 [(0, .ref 1), (1, .int v1), (2, .int v2)] [] u (Mo_share_26b zr26 v1 v2 u) := by
  unfold Mo_share_26b
  refine z_iload_n hc dX10_share_26 2 rfl rfl ?_
  refine z_aload_n hc dX10_share_27 0 rfl rfl ?_
  refine z_getR (x := 3) hc (ci := 10) (k := 10) (by decide) (by decide) zly10 lM1 (zkM lM1) wFX10_13 rfl dX10_share_28 rfl (by decide) ?_
  refine z_iconst (v := 3) hc dX10_share_31 rfl ?_
  refine z_iald (k := 3) hc lM3 (zkM lM3) rfl rfl dX10_share_32 ?_
  refine z_icmp_ge (tgt := 77) hc dX10_share_33 (by decide) _ (fun h1 => ?_) (fun h1 => ?_)
  · refine z_aload_n hc dX10_share_77 0 rfl rfl ?_
    refine z_iconst (v := (-1)) hc dX10_share_78 rfl ?_
    refine z_putI hc (ci := 10) (k := 63) (by decide) (by decide) zly10 lM1 (zkM lM1) wFX10_487 rfl rfl rfl rfl dX10_share_79 ?_
    refine zJ.letM (fun u1 e1 => ?_)
    refine z_aload_n hc dX10_share_82 0 rfl rfl ?_
    refine z_iconst (v := 0) hc dX10_share_83 rfl ?_
    refine z_iconst (v := 0) hc dX10_share_84 rfl ?_
    refine z_iconst (v := 0) hc dX10_share_85 rfl ?_
    refine z_iconst (v := 0) hc dX10_share_86 rfl ?_
    refine z_callV (av := [.int 0, .int 0, .int 0, .int 0]) (enc' := eV) hc rfl (sMo_shares 8 0 0 0 0 _) (ci := 10) (by decide) lM1 (zkM lM1) rfl wMX10_493 hpyX10_shares hmyX10_shares (rm_ok hRm (Nat.le_of_ble_eq_true rfl) (Nat.le_of_ble_eq_true rfl)) (Nat.le_of_ble_eq_true rfl) hRm.2.2 dX10_share_87 (fun c1 u2 f1 => ?_)
    refine z_iload_n hc dX10_share_90 1 rfl rfl ?_
    refine z_iconst (v := (-1)) hc dX10_share_91 rfl ?_
    refine z_icmp_ne (tgt := 102) hc dX10_share_92 (by decide) _ (fun h2 => ?_) (fun h2 => ?_)
    · refine z_iload_n hc dX10_share_102 1 rfl rfl ?_
      refine z_bipush (v := (-2)) hc dX10_share_103 rfl ?_
      refine z_icmp_ne (tgt := 115) hc dX10_share_105 (by decide) _ (fun h3 => ?_) (fun h3 => ?_)
      · refine z_aload_n hc dX10_share_115 0 rfl rfl ?_
        refine z_getR (x := 49) hc (ci := 10) (k := 62) (by decide) (by decide) zly10 lM1 (zkM lM1) wFX10_153 rfl dX10_share_116 rfl (by decide) ?_
        refine z_iload_n hc dX10_share_119 1 rfl rfl ?_
        refine zJ.chk _ (fun h4 => ?_)
        refine z_iald (k := (ix v1)) hc lM49 (zkM lM49) h4 rfl dX10_share_120 ?_
        exact z_iret hc dX10_share_121
      · refine z_aload_n hc dX10_share_108 0 rfl rfl ?_
        refine z_getI hc (ci := 10) (k := 64) (by decide) (by decide) zly10 lM1 (zkM lM1) wFX10_490 rfl dX10_share_109 ?_
        refine z_goto (tgt := 121) hc dX10_share_112 (by decide) ?_
        exact z_iret hc dX10_share_121
    · refine z_aload_n hc dX10_share_95 0 rfl rfl ?_
      refine z_getI hc (ci := 10) (k := 63) (by decide) (by decide) zly10 lM1 (zkM lM1) wFX10_487 rfl dX10_share_96 ?_
      refine z_goto (tgt := 121) hc dX10_share_99 (by decide) ?_
      exact z_iret hc dX10_share_121
  · refine z_iconst (v := 0) hc dX10_share_36 rfl ?_
    refine z_istore_n (L' := [(3, .int 0), (0, .ref 1), (1, .int v1), (2, .int v2)]) hc dX10_share_37 rfl (by decide) rfl rfl ?_
    refine zJ.sub (L' := [(0, .ref 1), (1, .int v1), (2, .int v2), (3, .int 0)]) [1, 2, 3, 0] rfl ?_
    exact sMo_share_38 hc hRm hr26 zF v1 v2 0 _
set_option maxRecDepth 100000 in
set_option maxHeartbeats 4000000 in
theorem sMo_share_26 {fin : Int32 × zM} (hc : zCx p s mi args meth c (wM D b) m0 RX10 cX10_share 4 (some .int)) (hRm : R.frames = 10 ∧ R.locals = 250 ∧ R.cells = zc (wM D b) m0 fin.2 ∧ R.slots = zs (wM D b) m0 fin.2) : ∀ (zf : Nat) (v1 : Int32) (v2 : Int32) (u : zM), zJ eI p l e R s mi args below meth c (wM D b) m0 4 fin 26 [(0, .ref 1), (1, .int v1), (2, .int v2)] [] u (Mo_share_26 zf v1 v2 u) := by
  intro zf
  induction zf with
  | zero => intro v1 v2 u; exact zJ.nil
  | succ zf ih => intro v1 v2 u; exact sMo_share_26b hc hRm ih v1 v2 u
set_option maxRecDepth 100000 in
set_option maxHeartbeats 4000000 in
theorem sMo_share : ∀ (v1 : Int32) (u : zM) r m1, Mo_share v1 u = some (r, m1) → zMet l (wM D b) 10 250 yX10_share cX10_share 4 (some .int) [.ref 1, .int v1] u (eI r) m1 := by
  intro v1 u
  refine zMet.of (L := [(0, .ref 1), (1, .int v1)]) RX10 (by decide +kernel) rfl (Nat.le_of_ble_eq_true rfl) (fun h => by cases h) rfl (fun p e s mi args below meth c R fin hc hin hRm => ?_)
  unfold Mo_share
  refine z_aload_n hc dX10_share_0 0 rfl rfl ?_
  refine z_iconst (v := 0) hc dX10_share_1 rfl ?_
  refine z_putI hc (ci := 10) (k := 0) (by decide) (by decide) zly10 lM1 (zkM lM1) wFX10_162 rfl rfl rfl rfl dX10_share_2 ?_
  refine zJ.letM (fun u1 e1 => ?_)
  refine z_iload_n hc dX10_share_5 1 rfl rfl ?_
  refine z_bipush (v := (-2)) hc dX10_share_6 rfl ?_
  refine z_icmp_lt (tgt := 21) hc dX10_share_8 (by decide) _ (fun h1 => ?_) (fun h1 => ?_)
  · refine z_bipush (v := (-3)) hc dX10_share_21 rfl ?_
    exact z_iret hc dX10_share_23
  · refine z_iload_n hc dX10_share_11 1 rfl rfl ?_
    refine z_aload_n hc dX10_share_12 0 rfl rfl ?_
    refine z_getR (x := 3) hc (ci := 10) (k := 10) (by decide) (by decide) zly10 lM1 (zkM lM1) wFX10_13 rfl dX10_share_13 rfl (by decide) ?_
    refine z_iconst (v := 3) hc dX10_share_16 rfl ?_
    refine z_iald (k := 3) hc lM3 (zkM lM3) rfl rfl dX10_share_17 ?_
    refine z_icmp_lt (tgt := 24) hc dX10_share_18 (by decide) _ (fun h2 => ?_) (fun h2 => ?_)
    · refine z_iconst (v := 0) hc dX10_share_24 rfl ?_
      refine z_istore_n (L' := [(2, .int 0), (0, .ref 1), (1, .int v1)]) hc dX10_share_25 rfl (by decide) rfl rfl ?_
      refine zJ.sub (L' := [(0, .ref 1), (1, .int v1), (2, .int 0)]) [1, 2, 0] rfl ?_
      exact sMo_share_26 hc hRm zF v1 0 _
    · refine z_bipush (v := (-3)) hc dX10_share_21 rfl ?_
      exact z_iret hc dX10_share_23
set_option maxRecDepth 100000 in
set_option maxHeartbeats 4000000 in
theorem sMo_late_9b {fin : Int32 × zM} (hc : zCx p s mi args meth c (wM D b) m0 RX10 cX10_late 3 (some .int)) (hRm : R.frames = 0 ∧ R.locals = 0 ∧ R.cells = zc (wM D b) m0 fin.2 ∧ R.slots = zs (wM D b) m0 fin.2) {zr9 : Int32 → Int32 → zM → Option (Int32 × zM)} (hr9 : ∀ (v1 : Int32) (v2 : Int32) (u : zM), zJ eI p l e R s mi args below meth c (wM D b) m0 3 fin 9 [(0, .ref 1), (1, .int v1), (2, .int v2)] [] u (zr9 v1 v2 u)) (v1 : Int32) (v2 : Int32) (u : zM) : zJ eI p l e R s mi args below meth c (wM D b) m0 3 fin 9 [(0, .ref 1), (1, .int v1), (2, .int v2)] [] u (Mo_late_9b zr9 v1 v2 u) := by
  unfold Mo_late_9b
  refine z_iload_n hc dX10_late_9 2 rfl rfl ?_
  refine z_aload_n hc dX10_late_10 0 rfl rfl ?_
  refine z_getR (x := 3) hc (ci := 10) (k := 10) (by decide) (by decide) zly10 lM1 (zkM lM1) wFX10_13 rfl dX10_late_11 rfl (by decide) ?_
  refine z_iconst (v := 4) hc dX10_late_14 rfl ?_
  refine z_iald (k := 4) hc lM3 (zkM lM3) rfl rfl dX10_late_15 ?_
  refine z_icmp_ge (tgt := 63) hc dX10_late_16 (by decide) _ (fun h1 => ?_) (fun h1 => ?_)
  · refine z_iload_n hc dX10_late_63 1 rfl rfl ?_
    exact z_iret hc dX10_late_64
  · refine z_iload_n hc dX10_late_19 1 rfl rfl ?_
    refine z_aload_n hc dX10_late_20 0 rfl rfl ?_
    refine z_getR (x := 40) hc (ci := 10) (k := 50) (by decide) (by decide) zly10 lM1 (zkM lM1) wFX10_126 rfl dX10_late_21 rfl (by decide) ?_
    refine z_bipush (v := 19) hc dX10_late_24 rfl ?_
    refine z_iload_n hc dX10_late_26 2 rfl rfl ?_
    refine z_iadd hc dX10_late_27 ?_
    refine zJ.chk _ (fun h2 => ?_)
    refine z_iald (k := (ix (19 + v2))) hc lM40 (zkM lM40) h2 rfl dX10_late_28 ?_
    refine z_iconst (v := 3) hc dX10_late_29 rfl ?_
    refine z_icmp_eq (tgt := 54) hc dX10_late_30 (by decide) _ (fun h3 => ?_) (fun h3 => ?_)
    · refine z_iconst (v := 0) hc dX10_late_54 rfl ?_
      refine z_ior hc dX10_late_55 ?_
      refine zJ.letI (fun x1 e1 => ?_)
      refine z_istore_n (L' := [(1, .int x1), (0, .ref 1), (2, .int v2)]) hc dX10_late_56 rfl (by decide) rfl rfl ?_
      refine z_iinc (L' := [(2, .int (v2 + 1)), (1, .int x1), (0, .ref 1)]) hc dX10_late_57 2 rfl (v := (v2 + 1)) rfl (by decide) rfl rfl ?_
      refine z_goto (tgt := 9) hc dX10_late_60 (by decide) ?_
      refine zJ.sub (L' := [(0, .ref 1), (1, .int x1), (2, .int (v2 + 1))]) [2, 1, 0] rfl ?_
      exact hr9 x1 (v2 + 1) _
    · refine z_aload_n hc dX10_late_33 0 rfl rfl ?_
      refine z_getR (x := 40) hc (ci := 10) (k := 50) (by decide) (by decide) zly10 lM1 (zkM lM1) wFX10_126 rfl dX10_late_34 rfl (by decide) ?_
      refine z_iconst (v := 0) hc dX10_late_37 rfl ?_
      refine z_iald (k := 0) hc lM40 (zkM lM40) rfl rfl dX10_late_38 ?_
      refine z_aload_n hc dX10_late_39 0 rfl rfl ?_
      refine z_getR (x := 15) hc (ci := 10) (k := 22) (by decide) (by decide) zly10 lM1 (zkM lM1) wFX10_50 rfl dX10_late_40 rfl (by decide) ?_
      refine z_iload_n hc dX10_late_43 2 rfl rfl ?_
      refine zJ.chk _ (fun h4 => ?_)
      refine z_iald (k := (ix v2)) hc lM15 (zkM lM15) h4 rfl dX10_late_44 ?_
      refine z_icmp_le (tgt := 54) hc dX10_late_45 (by decide) _ (fun h5 => ?_) (fun h5 => ?_)
      · refine z_iconst (v := 0) hc dX10_late_54 rfl ?_
        refine z_ior hc dX10_late_55 ?_
        refine zJ.letI (fun x2 e2 => ?_)
        refine z_istore_n (L' := [(1, .int x2), (0, .ref 1), (2, .int v2)]) hc dX10_late_56 rfl (by decide) rfl rfl ?_
        refine z_iinc (L' := [(2, .int (v2 + 1)), (1, .int x2), (0, .ref 1)]) hc dX10_late_57 2 rfl (v := (v2 + 1)) rfl (by decide) rfl rfl ?_
        refine z_goto (tgt := 9) hc dX10_late_60 (by decide) ?_
        refine zJ.sub (L' := [(0, .ref 1), (1, .int x2), (2, .int (v2 + 1))]) [2, 1, 0] rfl ?_
        exact hr9 x2 (v2 + 1) _
      · refine z_iconst (v := 1) hc dX10_late_48 rfl ?_
        refine z_iload_n hc dX10_late_49 2 rfl rfl ?_
        refine z_ishl hc dX10_late_50 ?_
        refine z_goto (tgt := 55) hc dX10_late_51 (by decide) ?_
        refine z_ior hc dX10_late_55 ?_
        refine zJ.letI (fun x3 e3 => ?_)
        refine z_istore_n (L' := [(1, .int x3), (0, .ref 1), (2, .int v2)]) hc dX10_late_56 rfl (by decide) rfl rfl ?_
        refine z_iinc (L' := [(2, .int (v2 + 1)), (1, .int x3), (0, .ref 1)]) hc dX10_late_57 2 rfl (v := (v2 + 1)) rfl (by decide) rfl rfl ?_
        refine z_goto (tgt := 9) hc dX10_late_60 (by decide) ?_
        refine zJ.sub (L' := [(0, .ref 1), (1, .int x3), (2, .int (v2 + 1))]) [2, 1, 0] rfl ?_
        exact hr9 x3 (v2 + 1) _
set_option maxRecDepth 100000 in
set_option maxHeartbeats 4000000 in
theorem sMo_late_9 {fin : Int32 × zM} (hc : zCx p s mi args meth c (wM D b) m0 RX10 cX10_late 3 (some .int)) (hRm : R.frames = 0 ∧ R.locals = 0 ∧ R.cells = zc (wM D b) m0 fin.2 ∧ R.slots = zs (wM D b) m0 fin.2) : ∀ (zf : Nat) (v1 : Int32) (v2 : Int32) (u : zM), zJ eI p l e R s mi args below meth c (wM D b) m0 3 fin 9 [(0, .ref 1), (1, .int v1), (2, .int v2)] [] u (Mo_late_9 zf v1 v2 u) := by
  intro zf
  induction zf with
  | zero => intro v1 v2 u; exact zJ.nil
  | succ zf ih => intro v1 v2 u; exact sMo_late_9b hc hRm ih v1 v2 u
set_option maxRecDepth 100000 in
set_option maxHeartbeats 4000000 in
theorem sMo_late : ∀ (u : zM) r m1, Mo_late u = some (r, m1) → zMet l (wM D b) 0 0 yX10_late cX10_late 3 (some .int) [.ref 1] u (eI r) m1 := by
  intro u
  refine zMet.of (L := [(0, .ref 1)]) RX10 (by decide +kernel) rfl (Nat.le_of_ble_eq_true rfl) (fun h => by cases h) rfl (fun p e s mi args below meth c R fin hc hin hRm => ?_)
  unfold Mo_late
  refine z_aload_n hc dX10_late_0 0 rfl rfl ?_
  refine z_iconst (v := 0) hc dX10_late_1 rfl ?_
  refine z_putI hc (ci := 10) (k := 0) (by decide) (by decide) zly10 lM1 (zkM lM1) wFX10_162 rfl rfl rfl rfl dX10_late_2 ?_
  refine zJ.letM (fun u1 e1 => ?_)
  refine z_iconst (v := 0) hc dX10_late_5 rfl ?_
  refine z_istore_n (L' := [(1, .int 0), (0, .ref 1)]) hc dX10_late_6 rfl (by decide) rfl rfl ?_
  refine z_iconst (v := 0) hc dX10_late_7 rfl ?_
  refine z_istore_n (L' := [(2, .int 0), (1, .int 0), (0, .ref 1)]) hc dX10_late_8 rfl (by decide) rfl rfl ?_
  refine zJ.sub (L' := [(0, .ref 1), (1, .int 0), (2, .int 0)]) [2, 1, 0] rfl ?_
  exact sMo_late_9 hc hRm zF 0 0 _
set_option maxRecDepth 100000 in
set_option maxHeartbeats 4000000 in
theorem sMo_may : ∀ (v1 : Int32) (u : zM) r m1, Mo_may v1 u = some (r, m1) → zMet l (wM D b) 2 45 yX10_may cX10_may 2 (some .boolean) [.ref 1, .int v1] u (eI r) m1 := by
  intro v1 u
  refine zMet.of (L := [(0, .ref 1), (1, .int v1)]) RX10 (by decide +kernel) rfl (Nat.le_of_ble_eq_true rfl) (fun h => by cases h) rfl (fun p e s mi args below meth c R fin hc hin hRm => ?_)
  unfold Mo_may
  refine z_aload_n hc dX10_may_0 0 rfl rfl ?_
  refine z_iconst (v := 0) hc dX10_may_1 rfl ?_
  refine z_putI hc (ci := 10) (k := 0) (by decide) (by decide) zly10 lM1 (zkM lM1) wFX10_162 rfl rfl rfl rfl dX10_may_2 ?_
  refine zJ.letM (fun u1 e1 => ?_)
  refine z_aload_n hc dX10_may_5 0 rfl rfl ?_
  refine z_iload_n hc dX10_may_6 1 rfl rfl ?_
  refine z_callV (av := [.int v1]) (enc' := eI) hc rfl (sMo_isWrit v1 _) (ci := 10) (by decide) lM1 (zkM lM1) rfl wMX10_431 hpyX10_isWrit hmyX10_isWrit (rm_ok hRm (Nat.le_of_ble_eq_true rfl) (Nat.le_of_ble_eq_true rfl)) (Nat.le_of_ble_eq_true rfl) hRm.2.2 dX10_may_7 (fun c1 u2 f1 => ?_)
  refine z_if_eq (tgt := 25) hc dX10_may_10 (by decide) _ (fun h1 => ?_) (fun h1 => ?_)
  · refine z_iconst (v := 0) hc dX10_may_25 rfl ?_
    exact z_zret hc rfl dX10_may_26
  · refine z_aload_n hc dX10_may_13 0 rfl rfl ?_
    refine z_iload_n hc dX10_may_14 1 rfl rfl ?_
    refine z_callV (av := [.int v1]) (enc' := eI) hc rfl (sMo_canServe v1 _) (ci := 10) (by decide) lM1 (zkM lM1) rfl wMX10_456 hpyX10_canServe hmyX10_canServe (rm_ok hRm (Nat.le_of_ble_eq_true rfl) (Nat.le_of_ble_eq_true rfl)) (Nat.le_of_ble_eq_true rfl) hRm.2.2 dX10_may_15 (fun c2 u3 f2 => ?_)
    refine z_if_eq (tgt := 25) hc dX10_may_18 (by decide) _ (fun h2 => ?_) (fun h2 => ?_)
    · refine z_iconst (v := 0) hc dX10_may_25 rfl ?_
      exact z_zret hc rfl dX10_may_26
    · refine z_iconst (v := 1) hc dX10_may_21 rfl ?_
      refine z_goto (tgt := 26) hc dX10_may_22 (by decide) ?_
      exact z_zret hc rfl dX10_may_26
set_option maxRecDepth 100000 in
set_option maxHeartbeats 4000000 in
theorem sMo_can : ∀ (v1 : Int32) (u : zM) r m1, Mo_can v1 u = some (r, m1) → zMet l (wM D b) 2 44 yX10_can cX10_can 2 (some .int) [.ref 1, .int v1] u (eI r) m1 := by
  intro v1 u
  refine zMet.of (L := [(0, .ref 1), (1, .int v1)]) RX10 (by decide +kernel) rfl (Nat.le_of_ble_eq_true rfl) (fun h => by cases h) rfl (fun p e s mi args below meth c R fin hc hin hRm => ?_)
  unfold Mo_can
  refine z_aload_n hc dX10_can_0 0 rfl rfl ?_
  refine z_iconst (v := 0) hc dX10_can_1 rfl ?_
  refine z_putI hc (ci := 10) (k := 0) (by decide) (by decide) zly10 lM1 (zkM lM1) wFX10_162 rfl rfl rfl rfl dX10_can_2 ?_
  refine zJ.letM (fun u1 e1 => ?_)
  refine z_aload_n hc dX10_can_5 0 rfl rfl ?_
  refine z_iload_n hc dX10_can_6 1 rfl rfl ?_
  refine z_callV (av := [.int v1]) (enc' := eI) hc rfl (sMo_isOtter v1 _) (ci := 10) (by decide) lM1 (zkM lM1) rfl wMX10_425 hpyX10_isOtter hmyX10_isOtter (rm_ok hRm (Nat.le_of_ble_eq_true rfl) (Nat.le_of_ble_eq_true rfl)) (Nat.le_of_ble_eq_true rfl) hRm.2.2 dX10_can_7 (fun c1 u2 f1 => ?_)
  refine z_if_eq (tgt := 21) hc dX10_can_10 (by decide) _ (fun h1 => ?_) (fun h1 => ?_)
  · refine z_iconst (v := (-1)) hc dX10_can_21 rfl ?_
    exact z_iret hc dX10_can_22
  · refine z_aload_n hc dX10_can_13 0 rfl rfl ?_
    refine z_iload_n hc dX10_can_14 1 rfl rfl ?_
    refine z_callV (av := [.int v1]) (enc' := eI) hc rfl (sMo_canSwim v1 _) (ci := 10) (by decide) lM1 (zkM lM1) rfl wMX10_450 hpyX10_canSwim hmyX10_canSwim (rm_ok hRm (Nat.le_of_ble_eq_true rfl) (Nat.le_of_ble_eq_true rfl)) (Nat.le_of_ble_eq_true rfl) hRm.2.2 dX10_can_15 (fun c2 u3 f2 => ?_)
    refine z_goto (tgt := 22) hc dX10_can_18 (by decide) ?_
    exact z_iret hc dX10_can_22
set_option maxRecDepth 100000 in
set_option maxHeartbeats 4000000 in
theorem sMo_spreads_7b {fin : Int32 × zM} (hc : zCx p s mi args meth c (wM D b) m0 RX10 cX10_spreads 5 (some .int)) (hRm : R.frames = 1 ∧ R.locals = 23 ∧ R.cells = zc (wM D b) m0 fin.2 ∧ R.slots = zs (wM D b) m0 fin.2) {zr7 : Int32 → Int32 → Int32 → zM → Option (Int32 × zM)} (hr7 : ∀ (v2 : Int32) (v3 : Int32) (v4 : Int32) (u : zM), zJ eI p l e R s mi args below meth c (wM D b) m0 5 fin 7 [(0, .ref 1), (2, .int v2), (3, .int v3), (4, .int v4)] [] u (zr7 v2 v3 v4 u)) (v2 : Int32) (v3 : Int32) (v4 : Int32) (u : zM) : zJ eI p l e R s mi args below meth c (wM D b) m0 5 fin 7 [(0, .ref 1), (2, .int v2), (3, .int v3), (4, .int v4)] [] u (Mo_spreads_7b zr7 v2 v3 v4 u) := by
  unfold Mo_spreads_7b
  refine z_iload hc dX10_spreads_7 3 rfl ?_
  refine z_bipush (v := 7) hc dX10_spreads_9 rfl ?_
  refine z_icmp_ge (tgt := 30) hc dX10_spreads_11 (by decide) _ (fun h1 => ?_) (fun h1 => ?_)
  · refine z_iload_n hc dX10_spreads_30 2 rfl rfl ?_
    exact z_iret hc dX10_spreads_31
  · refine z_iload_n hc dX10_spreads_14 2 rfl rfl ?_
    refine z_aload_n hc dX10_spreads_15 0 rfl rfl ?_
    refine z_iload_n hc dX10_spreads_16 2 rfl rfl ?_
    refine z_callV (av := [.int v3]) (enc' := eI) hc rfl (sMo_nextTo v3 _) (ci := 10) (by decide) lM1 (zkM lM1) rfl wMX10_472 hpyX10_nextTo hmyX10_nextTo (rm_ok hRm (Nat.le_of_ble_eq_true rfl) (Nat.le_of_ble_eq_true rfl)) (Nat.le_of_ble_eq_true rfl) hRm.2.2 dX10_spreads_17 (fun c1 u1 f1 => ?_)
    refine z_iload_n hc dX10_spreads_20 1 rfl rfl ?_
    refine z_iand hc dX10_spreads_21 ?_
    refine z_ior hc dX10_spreads_22 ?_
    refine zJ.letI (fun x1 e1 => ?_)
    refine z_istore_n (L' := [(3, .int x1), (0, .ref 1), (2, .int v2), (4, .int v4)]) hc dX10_spreads_23 rfl (by decide) rfl rfl ?_
    refine z_iinc (L' := [(4, .int (v4 + 1)), (3, .int x1), (0, .ref 1), (2, .int v2)]) hc dX10_spreads_24 3 rfl (v := (v4 + 1)) rfl (by decide) rfl rfl ?_
    refine z_goto (tgt := 7) hc dX10_spreads_27 (by decide) ?_
    refine zJ.sub (L' := [(0, .ref 1), (2, .int v2), (3, .int x1), (4, .int (v4 + 1))]) [2, 3, 1, 0] rfl ?_
    exact hr7 v2 x1 (v4 + 1) _
set_option maxRecDepth 100000 in
set_option maxHeartbeats 4000000 in
theorem sMo_spreads_7 {fin : Int32 × zM} (hc : zCx p s mi args meth c (wM D b) m0 RX10 cX10_spreads 5 (some .int)) (hRm : R.frames = 1 ∧ R.locals = 23 ∧ R.cells = zc (wM D b) m0 fin.2 ∧ R.slots = zs (wM D b) m0 fin.2) : ∀ (zf : Nat) (v2 : Int32) (v3 : Int32) (v4 : Int32) (u : zM), zJ eI p l e R s mi args below meth c (wM D b) m0 5 fin 7 [(0, .ref 1), (2, .int v2), (3, .int v3), (4, .int v4)] [] u (Mo_spreads_7 zf v2 v3 v4 u) := by
  intro zf
  induction zf with
  | zero => intro v2 v3 v4 u; exact zJ.nil
  | succ zf ih => intro v2 v3 v4 u; exact sMo_spreads_7b hc hRm ih v2 v3 v4 u
set_option maxRecDepth 100000 in
set_option maxHeartbeats 4000000 in
theorem sMo_spreads : ∀ (v1 : Int32) (v2 : Int32) (u : zM) r m1, Mo_spreads v1 v2 u = some (r, m1) → zMet l (wM D b) 1 23 yX10_spreads cX10_spreads 5 (some .int) [.ref 1, .int v1, .int v2] u (eI r) m1 := by
  intro v1 v2 u
  refine zMet.of (L := [(0, .ref 1), (1, .int v1), (2, .int v2)]) RX10 (by decide +kernel) rfl (Nat.le_of_ble_eq_true rfl) (fun h => by cases h) rfl (fun p e s mi args below meth c R fin hc hin hRm => ?_)
  unfold Mo_spreads
  refine z_iload_n hc dX10_spreads_0 1 rfl rfl ?_
  refine z_iload_n hc dX10_spreads_1 2 rfl rfl ?_
  refine z_iand hc dX10_spreads_2 ?_
  refine zJ.letI (fun x1 e1 => ?_)
  refine z_istore_n (L' := [(3, .int x1), (0, .ref 1), (1, .int v1), (2, .int v2)]) hc dX10_spreads_3 rfl (by decide) rfl rfl ?_
  refine z_iconst (v := 0) hc dX10_spreads_4 rfl ?_
  refine z_istore (L' := [(4, .int 0), (3, .int x1), (0, .ref 1), (1, .int v1), (2, .int v2)]) hc dX10_spreads_5 (by decide) rfl rfl ?_
  refine zJ.sub (L' := [(0, .ref 1), (2, .int v2), (3, .int x1), (4, .int 0)]) [2, 4, 1, 0] rfl ?_
  exact sMo_spreads_7 hc hRm zF v2 x1 0 _
set_option maxRecDepth 100000 in
set_option maxHeartbeats 4000000 in
theorem sMo_every : ∀ (u : zM) r m1, Mo_every u = some (r, m1) → zMet l (wM D b) 0 0 yX10_every cX10_every 1 (some .int) [.ref 1] u (eI r) m1 := by
  intro u
  refine zMet.of (L := [(0, .ref 1)]) RX10 (by decide +kernel) rfl (Nat.le_of_ble_eq_true rfl) (fun h => by cases h) rfl (fun p e s mi args below meth c R fin hc hin hRm => ?_)
  unfold Mo_every
  refine z_iconst (v := 1) hc dX10_every_0 rfl ?_
  refine z_aload_n hc dX10_every_1 0 rfl rfl ?_
  refine z_getR (x := 3) hc (ci := 10) (k := 10) (by decide) (by decide) zly10 lM1 (zkM lM1) wFX10_13 rfl dX10_every_2 rfl (by decide) ?_
  refine z_iconst (v := 0) hc dX10_every_5 rfl ?_
  refine z_iald (k := 0) hc lM3 (zkM lM3) rfl rfl dX10_every_6 ?_
  refine z_ishl hc dX10_every_7 ?_
  refine z_iconst (v := 1) hc dX10_every_8 rfl ?_
  refine z_isub hc dX10_every_9 ?_
  exact z_iret hc dX10_every_10
set_option maxRecDepth 100000 in
set_option maxHeartbeats 4000000 in
theorem sMo_reach : ∀ (v1 : Int32) (u : zM) r m1, Mo_reach v1 u = some (r, m1) → zMet l (wM D b) 2 47 yX10_reach cX10_reach 2 (some .int) [.ref 1, .int v1] u (eI r) m1 := by
  intro v1 u
  refine zMet.of (L := [(0, .ref 1), (1, .int v1)]) RX10 (by decide +kernel) rfl (Nat.le_of_ble_eq_true rfl) (fun h => by cases h) rfl (fun p e s mi args below meth c R fin hc hin hRm => ?_)
  unfold Mo_reach
  refine z_aload_n hc dX10_reach_0 0 rfl rfl ?_
  refine z_iconst (v := 0) hc dX10_reach_1 rfl ?_
  refine z_putI hc (ci := 10) (k := 0) (by decide) (by decide) zly10 lM1 (zkM lM1) wFX10_162 rfl rfl rfl rfl dX10_reach_2 ?_
  refine zJ.letM (fun u1 e1 => ?_)
  refine z_aload_n hc dX10_reach_5 0 rfl rfl ?_
  refine z_iload_n hc dX10_reach_6 1 rfl rfl ?_
  refine z_callV (av := [.int v1]) (enc' := eI) hc rfl (sMo_isPlace v1 _) (ci := 10) (by decide) lM1 (zkM lM1) rfl wMX10_416 hpyX10_isPlace hmyX10_isPlace (rm_ok hRm (Nat.le_of_ble_eq_true rfl) (Nat.le_of_ble_eq_true rfl)) (Nat.le_of_ble_eq_true rfl) hRm.2.2 dX10_reach_7 (fun c1 u2 f1 => ?_)
  refine z_if_eq (tgt := 27) hc dX10_reach_10 (by decide) _ (fun h1 => ?_) (fun h1 => ?_)
  · refine z_iconst (v := (-1)) hc dX10_reach_27 rfl ?_
    exact z_iret hc dX10_reach_28
  · refine z_aload_n hc dX10_reach_13 0 rfl rfl ?_
    refine z_iconst (v := 1) hc dX10_reach_14 rfl ?_
    refine z_iload_n hc dX10_reach_15 1 rfl rfl ?_
    refine z_ishl hc dX10_reach_16 ?_
    refine z_aload_n hc dX10_reach_17 0 rfl rfl ?_
    refine z_callV (av := []) (enc' := eI) hc rfl (sMo_every _) (ci := 10) (by decide) lM1 (zkM lM1) rfl wMX10_497 hpyX10_every hmyX10_every (rm_ok hRm (Nat.le_of_ble_eq_true rfl) (Nat.le_of_ble_eq_true rfl)) (Nat.le_of_ble_eq_true rfl) hRm.2.2 dX10_reach_18 (fun c2 u3 f2 => ?_)
    refine z_callV (av := [.int (1 <<< (v1 &&& 31)), .int c2]) (enc' := eI) hc rfl (sMo_spreads (1 <<< (v1 &&& 31)) c2 _) (ci := 10) (by decide) lM1 (zkM lM1) rfl wMX10_500 hpyX10_spreads hmyX10_spreads (rm_ok hRm (Nat.le_of_ble_eq_true rfl) (Nat.le_of_ble_eq_true rfl)) (Nat.le_of_ble_eq_true rfl) hRm.2.2 dX10_reach_21 (fun c3 u4 f3 => ?_)
    refine z_goto (tgt := 28) hc dX10_reach_24 (by decide) ?_
    exact z_iret hc dX10_reach_28
set_option maxRecDepth 100000 in
set_option maxHeartbeats 4000000 in
theorem sMo_pool : ∀ (v1 : Int32) (u : zM) r m1, Mo_pool v1 u = some (r, m1) → zMet l (wM D b) 2 47 yX10_pool cX10_pool 2 (some .int) [.ref 1, .int v1] u (eI r) m1 := by
  intro v1 u
  refine zMet.of (L := [(0, .ref 1), (1, .int v1)]) RX10 (by decide +kernel) rfl (Nat.le_of_ble_eq_true rfl) (fun h => by cases h) rfl (fun p e s mi args below meth c R fin hc hin hRm => ?_)
  unfold Mo_pool
  refine z_aload_n hc dX10_pool_0 0 rfl rfl ?_
  refine z_iconst (v := 0) hc dX10_pool_1 rfl ?_
  refine z_putI hc (ci := 10) (k := 0) (by decide) (by decide) zly10 lM1 (zkM lM1) wFX10_162 rfl rfl rfl rfl dX10_pool_2 ?_
  refine zJ.letM (fun u1 e1 => ?_)
  refine z_aload_n hc dX10_pool_5 0 rfl rfl ?_
  refine z_iload_n hc dX10_pool_6 1 rfl rfl ?_
  refine z_callV (av := [.int v1]) (enc' := eI) hc rfl (sMo_isPlace v1 _) (ci := 10) (by decide) lM1 (zkM lM1) rfl wMX10_416 hpyX10_isPlace hmyX10_isPlace (rm_ok hRm (Nat.le_of_ble_eq_true rfl) (Nat.le_of_ble_eq_true rfl)) (Nat.le_of_ble_eq_true rfl) hRm.2.2 dX10_pool_7 (fun c1 u2 f1 => ?_)
  refine z_if_eq (tgt := 27) hc dX10_pool_10 (by decide) _ (fun h1 => ?_) (fun h1 => ?_)
  · refine z_iconst (v := (-1)) hc dX10_pool_27 rfl ?_
    exact z_iret hc dX10_pool_28
  · refine z_aload_n hc dX10_pool_13 0 rfl rfl ?_
    refine z_iconst (v := 1) hc dX10_pool_14 rfl ?_
    refine z_iload_n hc dX10_pool_15 1 rfl rfl ?_
    refine z_ishl hc dX10_pool_16 ?_
    refine z_aload_n hc dX10_pool_17 0 rfl rfl ?_
    refine z_callV (av := []) (enc' := eI) hc rfl (sMo_wets _) (ci := 10) (by decide) lM1 (zkM lM1) rfl wMX10_438 hpyX10_wets hmyX10_wets (rm_ok hRm (Nat.le_of_ble_eq_true rfl) (Nat.le_of_ble_eq_true rfl)) (Nat.le_of_ble_eq_true rfl) hRm.2.2 dX10_pool_18 (fun c2 u3 f2 => ?_)
    refine z_callV (av := [.int (1 <<< (v1 &&& 31)), .int c2]) (enc' := eI) hc rfl (sMo_spreads (1 <<< (v1 &&& 31)) c2 _) (ci := 10) (by decide) lM1 (zkM lM1) rfl wMX10_500 hpyX10_spreads hmyX10_spreads (rm_ok hRm (Nat.le_of_ble_eq_true rfl) (Nat.le_of_ble_eq_true rfl)) (Nat.le_of_ble_eq_true rfl) hRm.2.2 dX10_pool_21 (fun c3 u4 f3 => ?_)
    refine z_goto (tgt := 28) hc dX10_pool_24 (by decide) ?_
    exact z_iret hc dX10_pool_28
set_option maxRecDepth 100000 in
set_option maxHeartbeats 4000000 in
theorem sMo_far_30b {fin : Int32 × zM} (hc : zCx p s mi args meth c (wM D b) m0 RX10 cX10_far 5 (some .int)) (hRm : R.frames = 1 ∧ R.locals = 23 ∧ R.cells = zc (wM D b) m0 fin.2 ∧ R.slots = zs (wM D b) m0 fin.2) {zr30 : Int32 → Int32 → Int32 → zM → Option (Int32 × zM)} (hr30 : ∀ (v2 : Int32) (v3 : Int32) (v4 : Int32) (u : zM), zJ eI p l e R s mi args below meth c (wM D b) m0 5 fin 30 [(0, .ref 1), (2, .int v2), (3, .int v3), (4, .int v4)] [] u (zr30 v2 v3 v4 u)) (v2 : Int32) (v3 : Int32) (v4 : Int32) (u : zM) : zJ eI p l e R s mi args below meth c (wM D b) m0 5 fin 30 [(0, .ref 1), (2, .int v2), (3, .int v3), (4, .int v4)] [] u (Mo_far_30b zr30 v2 v3 v4 u) := by
  unfold Mo_far_30b
  refine z_iload hc dX10_far_30 3 rfl ?_
  refine z_bipush (v := 7) hc dX10_far_32 rfl ?_
  refine z_icmp_ge (tgt := 63) hc dX10_far_34 (by decide) _ (fun h1 => ?_) (fun h1 => ?_)
  · refine z_iconst (v := (-1)) hc dX10_far_63 rfl ?_
    exact z_iret hc dX10_far_64
  · refine z_iload_n hc dX10_far_37 2 rfl rfl ?_
    refine z_iload_n hc dX10_far_38 1 rfl rfl ?_
    refine z_ishr hc dX10_far_39 ?_
    refine z_iconst (v := 1) hc dX10_far_40 rfl ?_
    refine z_iand hc dX10_far_41 ?_
    refine z_iconst (v := 1) hc dX10_far_42 rfl ?_
    refine z_icmp_ne (tgt := 49) hc dX10_far_43 (by decide) _ (fun h2 => ?_) (fun h2 => ?_)
    · refine z_iload_n hc dX10_far_49 2 rfl rfl ?_
      refine z_aload_n hc dX10_far_50 0 rfl rfl ?_
      refine z_iload_n hc dX10_far_51 2 rfl rfl ?_
      refine z_callV (av := [.int v3]) (enc' := eI) hc rfl (sMo_nextTo v3 _) (ci := 10) (by decide) lM1 (zkM lM1) rfl wMX10_472 hpyX10_nextTo hmyX10_nextTo (rm_ok hRm (Nat.le_of_ble_eq_true rfl) (Nat.le_of_ble_eq_true rfl)) (Nat.le_of_ble_eq_true rfl) hRm.2.2 dX10_far_52 (fun c1 u1 f1 => ?_)
      refine z_ior hc dX10_far_55 ?_
      refine zJ.letI (fun x1 e1 => ?_)
      refine z_istore_n (L' := [(3, .int x1), (0, .ref 1), (2, .int v2), (4, .int v4)]) hc dX10_far_56 rfl (by decide) rfl rfl ?_
      refine z_iinc (L' := [(4, .int (v4 + 1)), (3, .int x1), (0, .ref 1), (2, .int v2)]) hc dX10_far_57 3 rfl (v := (v4 + 1)) rfl (by decide) rfl rfl ?_
      refine z_goto (tgt := 30) hc dX10_far_60 (by decide) ?_
      refine zJ.sub (L' := [(0, .ref 1), (2, .int v2), (3, .int x1), (4, .int (v4 + 1))]) [2, 3, 1, 0] rfl ?_
      exact hr30 v2 x1 (v4 + 1) _
    · refine z_iload hc dX10_far_46 3 rfl ?_
      exact z_iret hc dX10_far_48
set_option maxRecDepth 100000 in
set_option maxHeartbeats 4000000 in
theorem sMo_far_30 {fin : Int32 × zM} (hc : zCx p s mi args meth c (wM D b) m0 RX10 cX10_far 5 (some .int)) (hRm : R.frames = 1 ∧ R.locals = 23 ∧ R.cells = zc (wM D b) m0 fin.2 ∧ R.slots = zs (wM D b) m0 fin.2) : ∀ (zf : Nat) (v2 : Int32) (v3 : Int32) (v4 : Int32) (u : zM), zJ eI p l e R s mi args below meth c (wM D b) m0 5 fin 30 [(0, .ref 1), (2, .int v2), (3, .int v3), (4, .int v4)] [] u (Mo_far_30 zf v2 v3 v4 u) := by
  intro zf
  induction zf with
  | zero => intro v2 v3 v4 u; exact zJ.nil
  | succ zf ih => intro v2 v3 v4 u; exact sMo_far_30b hc hRm ih v2 v3 v4 u
set_option maxRecDepth 100000 in
set_option maxHeartbeats 4000000 in
theorem sMo_far : ∀ (v1 : Int32) (v2 : Int32) (u : zM) r m1, Mo_far v1 v2 u = some (r, m1) → zMet l (wM D b) 1 23 yX10_far cX10_far 5 (some .int) [.ref 1, .int v1, .int v2] u (eI r) m1 := by
  intro v1 v2 u
  refine zMet.of (L := [(0, .ref 1), (1, .int v1), (2, .int v2)]) RX10 (by decide +kernel) rfl (Nat.le_of_ble_eq_true rfl) (fun h => by cases h) rfl (fun p e s mi args below meth c R fin hc hin hRm => ?_)
  unfold Mo_far
  refine z_aload_n hc dX10_far_0 0 rfl rfl ?_
  refine z_iconst (v := 0) hc dX10_far_1 rfl ?_
  refine z_putI hc (ci := 10) (k := 0) (by decide) (by decide) zly10 lM1 (zkM lM1) wFX10_162 rfl rfl rfl rfl dX10_far_2 ?_
  refine zJ.letM (fun u1 e1 => ?_)
  refine z_aload_n hc dX10_far_5 0 rfl rfl ?_
  refine z_iload_n hc dX10_far_6 1 rfl rfl ?_
  refine z_callV (av := [.int v1]) (enc' := eI) hc rfl (sMo_isPlace v1 _) (ci := 10) (by decide) lM1 (zkM lM1) rfl wMX10_416 hpyX10_isPlace hmyX10_isPlace (rm_ok hRm (Nat.le_of_ble_eq_true rfl) (Nat.le_of_ble_eq_true rfl)) (Nat.le_of_ble_eq_true rfl) hRm.2.2 dX10_far_7 (fun c1 u2 f1 => ?_)
  refine z_if_eq (tgt := 21) hc dX10_far_10 (by decide) _ (fun h1 => ?_) (fun h1 => ?_)
  · refine z_iconst (v := (-1)) hc dX10_far_21 rfl ?_
    exact z_iret hc dX10_far_22
  · refine z_aload_n hc dX10_far_13 0 rfl rfl ?_
    refine z_iload_n hc dX10_far_14 2 rfl rfl ?_
    refine z_callV (av := [.int v2]) (enc' := eI) hc rfl (sMo_isPlace v2 _) (ci := 10) (by decide) lM1 (zkM lM1) rfl wMX10_416 hpyX10_isPlace hmyX10_isPlace (rm_ok hRm (Nat.le_of_ble_eq_true rfl) (Nat.le_of_ble_eq_true rfl)) (Nat.le_of_ble_eq_true rfl) hRm.2.2 dX10_far_15 (fun c2 u3 f2 => ?_)
    refine z_if_ne (tgt := 23) hc dX10_far_18 (by decide) _ (fun h2 => ?_) (fun h2 => ?_)
    · refine z_iconst (v := 1) hc dX10_far_23 rfl ?_
      refine z_iload_n hc dX10_far_24 1 rfl rfl ?_
      refine z_ishl hc dX10_far_25 ?_
      refine zJ.letI (fun x1 e2 => ?_)
      refine z_istore_n (L' := [(3, .int x1), (0, .ref 1), (1, .int v1), (2, .int v2)]) hc dX10_far_26 rfl (by decide) rfl rfl ?_
      refine z_iconst (v := 0) hc dX10_far_27 rfl ?_
      refine z_istore (L' := [(4, .int 0), (3, .int x1), (0, .ref 1), (1, .int v1), (2, .int v2)]) hc dX10_far_28 (by decide) rfl rfl ?_
      refine zJ.sub (L' := [(0, .ref 1), (2, .int v2), (3, .int x1), (4, .int 0)]) [2, 4, 1, 0] rfl ?_
      exact sMo_far_30 hc hRm zF v2 x1 0 _
    · refine z_iconst (v := (-1)) hc dX10_far_21 rfl ?_
      exact z_iret hc dX10_far_22
set_option maxRecDepth 100000 in
set_option maxHeartbeats 4000000 in
theorem sMo_pools_12b {fin : Int32 × zM} (hc : zCx p s mi args meth c (wM D b) m0 RX10 cX10_pools 3 (some .int)) (hRm : R.frames = 2 ∧ R.locals = 47 ∧ R.cells = zc (wM D b) m0 fin.2 ∧ R.slots = zs (wM D b) m0 fin.2) {zr12 : Int32 → Int32 → zM → Option (Int32 × zM)} (hr12 : ∀ (v1 : Int32) (v2 : Int32) (u : zM), zJ eI p l e R s mi args below meth c (wM D b) m0 3 fin 12 [(0, .ref 1), (1, .int v1), (2, .int v2)] [] u (zr12 v1 v2 u)) (v1 : Int32) (v2 : Int32) (u : zM) : zJ eI p l e R s mi args below meth c (wM D b) m0 3 fin 12 [(0, .ref 1), (1, .int v1), (2, .int v2)] [] u (Mo_pools_12b zr12 v1 v2 u) := by
  unfold Mo_pools_12b
  refine z_iload_n hc dX10_pools_12 1 rfl rfl ?_
  refine z_if_eq (tgt := 41) hc dX10_pools_13 (by decide) _ (fun h1 => ?_) (fun h1 => ?_)
  · refine z_iload_n hc dX10_pools_41 2 rfl rfl ?_
    exact z_iret hc dX10_pools_42
  · refine z_iload_n hc dX10_pools_16 1 rfl rfl ?_
    refine z_aload_n hc dX10_pools_17 0 rfl rfl ?_
    refine z_iconst (v := 1) hc dX10_pools_18 rfl ?_
    refine z_iload_n hc dX10_pools_19 1 rfl rfl ?_
    refine z_callS (av := [.int v1]) (enc' := eI) hc rfl (sMo_lowest v1 _) wMX10_503 hpyX10_lowest hmyX10_lowest (rm_ok hRm (Nat.le_of_ble_eq_true rfl) (Nat.le_of_ble_eq_true rfl)) (Nat.le_of_ble_eq_true rfl) hRm.2.2 dX10_pools_20 (fun c1 u1 f1 => ?_)
    refine z_ishl hc dX10_pools_23 ?_
    refine z_aload_n hc dX10_pools_24 0 rfl rfl ?_
    refine z_callV (av := []) (enc' := eI) hc rfl (sMo_wets _) (ci := 10) (by decide) lM1 (zkM lM1) rfl wMX10_438 hpyX10_wets hmyX10_wets (rm_ok hRm (Nat.le_of_ble_eq_true rfl) (Nat.le_of_ble_eq_true rfl)) (Nat.le_of_ble_eq_true rfl) hRm.2.2 dX10_pools_25 (fun c2 u2 f2 => ?_)
    refine z_callV (av := [.int (1 <<< (c1 &&& 31)), .int c2]) (enc' := eI) hc rfl (sMo_spreads (1 <<< (c1 &&& 31)) c2 _) (ci := 10) (by decide) lM1 (zkM lM1) rfl wMX10_500 hpyX10_spreads hmyX10_spreads (rm_ok hRm (Nat.le_of_ble_eq_true rfl) (Nat.le_of_ble_eq_true rfl)) (Nat.le_of_ble_eq_true rfl) hRm.2.2 dX10_pools_28 (fun c3 u3 f3 => ?_)
    refine z_iconst (v := (-1)) hc dX10_pools_31 rfl ?_
    refine z_ixor hc dX10_pools_32 ?_
    refine z_iand hc dX10_pools_33 ?_
    refine zJ.letI (fun x1 e1 => ?_)
    refine z_istore_n (L' := [(1, .int x1), (0, .ref 1), (2, .int v2)]) hc dX10_pools_34 rfl (by decide) rfl rfl ?_
    refine z_iinc (L' := [(2, .int (v2 + 1)), (1, .int x1), (0, .ref 1)]) hc dX10_pools_35 2 rfl (v := (v2 + 1)) rfl (by decide) rfl rfl ?_
    refine z_goto (tgt := 12) hc dX10_pools_38 (by decide) ?_
    refine zJ.sub (L' := [(0, .ref 1), (1, .int x1), (2, .int (v2 + 1))]) [2, 1, 0] rfl ?_
    exact hr12 x1 (v2 + 1) _
set_option maxRecDepth 100000 in
set_option maxHeartbeats 4000000 in
theorem sMo_pools_12 {fin : Int32 × zM} (hc : zCx p s mi args meth c (wM D b) m0 RX10 cX10_pools 3 (some .int)) (hRm : R.frames = 2 ∧ R.locals = 47 ∧ R.cells = zc (wM D b) m0 fin.2 ∧ R.slots = zs (wM D b) m0 fin.2) : ∀ (zf : Nat) (v1 : Int32) (v2 : Int32) (u : zM), zJ eI p l e R s mi args below meth c (wM D b) m0 3 fin 12 [(0, .ref 1), (1, .int v1), (2, .int v2)] [] u (Mo_pools_12 zf v1 v2 u) := by
  intro zf
  induction zf with
  | zero => intro v1 v2 u; exact zJ.nil
  | succ zf ih => intro v1 v2 u; exact sMo_pools_12b hc hRm ih v1 v2 u
set_option maxRecDepth 100000 in
set_option maxHeartbeats 4000000 in
theorem sMo_pools : ∀ (u : zM) r m1, Mo_pools u = some (r, m1) → zMet l (wM D b) 2 47 yX10_pools cX10_pools 3 (some .int) [.ref 1] u (eI r) m1 := by
  intro u
  refine zMet.of (L := [(0, .ref 1)]) RX10 (by decide +kernel) rfl (Nat.le_of_ble_eq_true rfl) (fun h => by cases h) rfl (fun p e s mi args below meth c R fin hc hin hRm => ?_)
  unfold Mo_pools
  refine z_aload_n hc dX10_pools_0 0 rfl rfl ?_
  refine z_iconst (v := 0) hc dX10_pools_1 rfl ?_
  refine z_putI hc (ci := 10) (k := 0) (by decide) (by decide) zly10 lM1 (zkM lM1) wFX10_162 rfl rfl rfl rfl dX10_pools_2 ?_
  refine zJ.letM (fun u1 e1 => ?_)
  refine z_aload_n hc dX10_pools_5 0 rfl rfl ?_
  refine z_callV (av := []) (enc' := eI) hc rfl (sMo_wets _) (ci := 10) (by decide) lM1 (zkM lM1) rfl wMX10_438 hpyX10_wets hmyX10_wets (rm_ok hRm (Nat.le_of_ble_eq_true rfl) (Nat.le_of_ble_eq_true rfl)) (Nat.le_of_ble_eq_true rfl) hRm.2.2 dX10_pools_6 (fun c1 u2 f1 => ?_)
  refine z_istore_n (L' := [(1, .int c1), (0, .ref 1)]) hc dX10_pools_9 rfl (by decide) rfl rfl ?_
  refine z_iconst (v := 0) hc dX10_pools_10 rfl ?_
  refine z_istore_n (L' := [(2, .int 0), (1, .int c1), (0, .ref 1)]) hc dX10_pools_11 rfl (by decide) rfl rfl ?_
  refine zJ.sub (L' := [(0, .ref 1), (1, .int c1), (2, .int 0)]) [2, 1, 0] rfl ?_
  exact sMo_pools_12 hc hRm zF c1 0 _
set_option maxRecDepth 100000 in
set_option maxHeartbeats 4000000 in
theorem sMo_bridges_90 {fin : Int32 × zM} (hc : zCx p s mi args meth c (wM D b) m0 RX10 cX10_bridges 4 (some .int)) (hRm : R.frames = 2 ∧ R.locals = 47 ∧ R.cells = zc (wM D b) m0 fin.2 ∧ R.slots = zs (wM D b) m0 fin.2) {zr21 : Int32 → Int32 → Int32 → zM → Option (Int32 × zM)} (hr21 : ∀ (v1 : Int32) (v2 : Int32) (v3 : Int32) (u : zM), zJ eI p l e R s mi args below meth c (wM D b) m0 4 fin 21 [(0, .ref 1), (1, .int v1), (2, .int v2), (3, .int v3)] [] u (zr21 v1 v2 v3 u)) (v2 : Int32) (v3 : Int32) (s0 : Int32) (s1 : Int32) (u : zM) : zJ eI p l e R s mi args below meth c (wM D b) m0 4 fin 90 [(0, .ref 1), (2, .int v2), (3, .int v3)] [.int s1, .int s0] u (Mo_bridges_90 zr21 v2 v3 s0 s1 u) := by
  unfold Mo_bridges_90
  refine z_iadd hc dX10_bridges_90 ?_
  refine zJ.letI (fun x1 e1 => ?_)
  refine z_istore_n (L' := [(1, .int x1), (0, .ref 1), (2, .int v2), (3, .int v3)]) hc dX10_bridges_91 rfl (by decide) rfl rfl ?_
  refine z_aload_n hc dX10_bridges_92 1 rfl rfl ?_
  refine z_getR (x := 9) hc (ci := 10) (k := 16) (by decide) (by decide) zly10 lM1 (zkM lM1) wFX10_32 rfl dX10_bridges_93 rfl (by decide) ?_
  refine z_iload_n hc dX10_bridges_96 2 rfl rfl ?_
  refine z_dup2 hc dX10_bridges_97 rfl rfl ?_
  refine zJ.chk _ (fun h1 => ?_)
  refine z_iald (k := (ix v2)) hc lM9 (zkM lM9) h1 rfl dX10_bridges_98 ?_
  refine z_iconst (v := 1) hc dX10_bridges_99 rfl ?_
  refine z_iload_n hc dX10_bridges_100 3 rfl rfl ?_
  refine z_ishl hc dX10_bridges_101 ?_
  refine z_ixor hc dX10_bridges_102 ?_
  refine zJ.chk _ (fun h2 => ?_)
  refine z_iast (k := (ix v2)) hc lM9 (zkM lM9) h2 rfl dX10_bridges_103 ?_
  refine zJ.letM (fun u1 e2 => ?_)
  refine z_aload_n hc dX10_bridges_104 1 rfl rfl ?_
  refine z_getR (x := 9) hc (ci := 10) (k := 16) (by decide) (by decide) zly10 lM1 (zkM lM1) wFX10_32 rfl dX10_bridges_105 rfl (by decide) ?_
  refine z_iload_n hc dX10_bridges_108 3 rfl rfl ?_
  refine z_dup2 hc dX10_bridges_109 rfl rfl ?_
  refine zJ.chk _ (fun h3 => ?_)
  refine z_iald (k := (ix v3)) hc lM9 (zkM lM9) h3 rfl dX10_bridges_110 ?_
  refine z_iconst (v := 1) hc dX10_bridges_111 rfl ?_
  refine z_iload_n hc dX10_bridges_112 2 rfl rfl ?_
  refine z_ishl hc dX10_bridges_113 ?_
  refine z_ixor hc dX10_bridges_114 ?_
  refine zJ.chk _ (fun h4 => ?_)
  refine z_iast (k := (ix v3)) hc lM9 (zkM lM9) h4 rfl dX10_bridges_115 ?_
  refine zJ.letM (fun u2 e3 => ?_)
  refine z_iinc (L' := [(3, .int (v3 + 1)), (1, .int x1), (0, .ref 1), (2, .int v2)]) hc dX10_bridges_116 3 rfl (v := (v3 + 1)) rfl (by decide) rfl rfl ?_
  refine z_goto (tgt := 21) hc dX10_bridges_119 (by decide) ?_
  refine zJ.sub (L' := [(0, .ref 1), (1, .int x1), (2, .int v2), (3, .int (v3 + 1))]) [2, 1, 3, 0] rfl ?_
  exact hr21 x1 v2 (v3 + 1) _
set_option maxRecDepth 100000 in
set_option maxHeartbeats 4000000 in
theorem sMo_bridges_21b {fin : Int32 × zM} (hc : zCx p s mi args meth c (wM D b) m0 RX10 cX10_bridges 4 (some .int)) (hRm : R.frames = 2 ∧ R.locals = 47 ∧ R.cells = zc (wM D b) m0 fin.2 ∧ R.slots = zs (wM D b) m0 fin.2) {zr9 : Int32 → Int32 → zM → Option (Int32 × zM)} (hr9 : ∀ (v1 : Int32) (v2 : Int32) (u : zM), zJ eI p l e R s mi args below meth c (wM D b) m0 4 fin 9 [(0, .ref 1), (1, .int v1), (2, .int v2)] [] u (zr9 v1 v2 u)) {zr21 : Int32 → Int32 → Int32 → zM → Option (Int32 × zM)} (hr21 : ∀ (v1 : Int32) (v2 : Int32) (v3 : Int32) (u : zM), zJ eI p l e R s mi args below meth c (wM D b) m0 4 fin 21 [(0, .ref 1), (1, .int v1), (2, .int v2), (3, .int v3)] [] u (zr21 v1 v2 v3 u)) (v1 : Int32) (v2 : Int32) (v3 : Int32) (u : zM) : zJ eI p l e R s mi args below meth c (wM D b) m0 4 fin 21 [(0, .ref 1), (1, .int v1), (2, .int v2), (3, .int v3)] [] u (Mo_bridges_21b zr9 zr21 v1 v2 v3 u) := by
  unfold Mo_bridges_21b
  refine z_iload_n hc dX10_bridges_21 3 rfl rfl ?_
  refine z_iload_n hc dX10_bridges_22 2 rfl rfl ?_
  refine z_icmp_ge (tgt := 122) hc dX10_bridges_23 (by decide) _ (fun h1 => ?_) (fun h1 => ?_)
  · refine z_iinc (L' := [(2, .int (v2 + 1)), (0, .ref 1), (1, .int v1), (3, .int v3)]) hc dX10_bridges_122 2 rfl (v := (v2 + 1)) rfl (by decide) rfl rfl ?_
    refine z_goto (tgt := 9) hc dX10_bridges_125 (by decide) ?_
    refine zJ.sub (L' := [(0, .ref 1), (1, .int v1), (2, .int (v2 + 1))]) [1, 2, 0] rfl ?_
    exact hr9 v1 (v2 + 1) _
  · refine z_aload_n hc dX10_bridges_26 0 rfl rfl ?_
    refine z_getR (x := 9) hc (ci := 10) (k := 16) (by decide) (by decide) zly10 lM1 (zkM lM1) wFX10_32 rfl dX10_bridges_27 rfl (by decide) ?_
    refine z_iload_n hc dX10_bridges_30 2 rfl rfl ?_
    refine zJ.chk _ (fun h2 => ?_)
    refine z_iald (k := (ix v2)) hc lM9 (zkM lM9) h2 rfl dX10_bridges_31 ?_
    refine z_iload_n hc dX10_bridges_32 3 rfl rfl ?_
    refine z_ishr hc dX10_bridges_33 ?_
    refine z_iconst (v := 1) hc dX10_bridges_34 rfl ?_
    refine z_iand hc dX10_bridges_35 ?_
    refine z_if_ne (tgt := 42) hc dX10_bridges_36 (by decide) _ (fun h3 => ?_) (fun h3 => ?_)
    · refine z_aload_n hc dX10_bridges_42 0 rfl rfl ?_
      refine z_getR (x := 9) hc (ci := 10) (k := 16) (by decide) (by decide) zly10 lM1 (zkM lM1) wFX10_32 rfl dX10_bridges_43 rfl (by decide) ?_
      refine z_iload_n hc dX10_bridges_46 2 rfl rfl ?_
      refine z_dup2 hc dX10_bridges_47 rfl rfl ?_
      refine zJ.chk _ (fun h4 => ?_)
      refine z_iald (k := (ix v2)) hc lM9 (zkM lM9) h4 rfl dX10_bridges_48 ?_
      refine z_iconst (v := 1) hc dX10_bridges_49 rfl ?_
      refine z_iload_n hc dX10_bridges_50 3 rfl rfl ?_
      refine z_ishl hc dX10_bridges_51 ?_
      refine z_ixor hc dX10_bridges_52 ?_
      refine zJ.chk _ (fun h5 => ?_)
      refine z_iast (k := (ix v2)) hc lM9 (zkM lM9) h5 rfl dX10_bridges_53 ?_
      refine zJ.letM (fun u1 e1 => ?_)
      refine z_aload_n hc dX10_bridges_54 0 rfl rfl ?_
      refine z_getR (x := 9) hc (ci := 10) (k := 16) (by decide) (by decide) zly10 lM1 (zkM lM1) wFX10_32 rfl dX10_bridges_55 rfl (by decide) ?_
      refine z_iload_n hc dX10_bridges_58 3 rfl rfl ?_
      refine z_dup2 hc dX10_bridges_59 rfl rfl ?_
      refine zJ.chk _ (fun h6 => ?_)
      refine z_iald (k := (ix v3)) hc lM9 (zkM lM9) h6 rfl dX10_bridges_60 ?_
      refine z_iconst (v := 1) hc dX10_bridges_61 rfl ?_
      refine z_iload_n hc dX10_bridges_62 2 rfl rfl ?_
      refine z_ishl hc dX10_bridges_63 ?_
      refine z_ixor hc dX10_bridges_64 ?_
      refine zJ.chk _ (fun h7 => ?_)
      refine z_iast (k := (ix v3)) hc lM9 (zkM lM9) h7 rfl dX10_bridges_65 ?_
      refine zJ.letM (fun u2 e2 => ?_)
      refine z_iload_n hc dX10_bridges_66 1 rfl rfl ?_
      refine z_aload_n hc dX10_bridges_67 0 rfl rfl ?_
      refine z_iconst (v := 1) hc dX10_bridges_68 rfl ?_
      refine z_iload_n hc dX10_bridges_69 2 rfl rfl ?_
      refine z_ishl hc dX10_bridges_70 ?_
      refine z_aload_n hc dX10_bridges_71 0 rfl rfl ?_
      refine z_callV (av := []) (enc' := eI) hc rfl (sMo_every _) (ci := 10) (by decide) lM1 (zkM lM1) rfl wMX10_497 hpyX10_every hmyX10_every (rm_ok hRm (Nat.le_of_ble_eq_true rfl) (Nat.le_of_ble_eq_true rfl)) (Nat.le_of_ble_eq_true rfl) hRm.2.2 dX10_bridges_72 (fun c1 u3 f1 => ?_)
      refine z_callV (av := [.int (1 <<< (v2 &&& 31)), .int c1]) (enc' := eI) hc rfl (sMo_spreads (1 <<< (v2 &&& 31)) c1 _) (ci := 10) (by decide) lM1 (zkM lM1) rfl wMX10_500 hpyX10_spreads hmyX10_spreads (rm_ok hRm (Nat.le_of_ble_eq_true rfl) (Nat.le_of_ble_eq_true rfl)) (Nat.le_of_ble_eq_true rfl) hRm.2.2 dX10_bridges_75 (fun c2 u4 f2 => ?_)
      refine z_iload_n hc dX10_bridges_78 3 rfl rfl ?_
      refine z_ishr hc dX10_bridges_79 ?_
      refine z_iconst (v := 1) hc dX10_bridges_80 rfl ?_
      refine z_iand hc dX10_bridges_81 ?_
      refine z_if_ne (tgt := 89) hc dX10_bridges_82 (by decide) _ (fun h8 => ?_) (fun h8 => ?_)
      · refine z_iconst (v := 0) hc dX10_bridges_89 rfl ?_
        refine zJ.sub (L' := [(0, .ref 1), (2, .int v2), (3, .int v3)]) [0, 2, 3] rfl ?_
        exact sMo_bridges_90 hc hRm hr21 v2 v3 v1 0 _
      · refine z_iconst (v := 1) hc dX10_bridges_85 rfl ?_
        refine z_goto (tgt := 90) hc dX10_bridges_86 (by decide) ?_
        refine zJ.sub (L' := [(0, .ref 1), (2, .int v2), (3, .int v3)]) [0, 2, 3] rfl ?_
        exact sMo_bridges_90 hc hRm hr21 v2 v3 v1 1 _
    · refine z_goto (tgt := 116) hc dX10_bridges_39 (by decide) ?_
      refine z_iinc (L' := [(3, .int (v3 + 1)), (0, .ref 1), (1, .int v1), (2, .int v2)]) hc dX10_bridges_116 3 rfl (v := (v3 + 1)) rfl (by decide) rfl rfl ?_
      refine z_goto (tgt := 21) hc dX10_bridges_119 (by decide) ?_
      refine zJ.sub (L' := [(0, .ref 1), (1, .int v1), (2, .int v2), (3, .int (v3 + 1))]) [1, 2, 3, 0] rfl ?_
      exact hr21 v1 v2 (v3 + 1) _
set_option maxRecDepth 100000 in
set_option maxHeartbeats 4000000 in
theorem sMo_bridges_21 {fin : Int32 × zM} (hc : zCx p s mi args meth c (wM D b) m0 RX10 cX10_bridges 4 (some .int)) (hRm : R.frames = 2 ∧ R.locals = 47 ∧ R.cells = zc (wM D b) m0 fin.2 ∧ R.slots = zs (wM D b) m0 fin.2) {zr9 : Int32 → Int32 → zM → Option (Int32 × zM)} (hr9 : ∀ (v1 : Int32) (v2 : Int32) (u : zM), zJ eI p l e R s mi args below meth c (wM D b) m0 4 fin 9 [(0, .ref 1), (1, .int v1), (2, .int v2)] [] u (zr9 v1 v2 u)) : ∀ (zf : Nat) (v1 : Int32) (v2 : Int32) (v3 : Int32) (u : zM), zJ eI p l e R s mi args below meth c (wM D b) m0 4 fin 21 [(0, .ref 1), (1, .int v1), (2, .int v2), (3, .int v3)] [] u (Mo_bridges_21 zf zr9 v1 v2 v3 u) := by
  intro zf
  induction zf with
  | zero => intro v1 v2 v3 u; exact zJ.nil
  | succ zf ih => intro v1 v2 v3 u; exact sMo_bridges_21b hc hRm hr9 ih v1 v2 v3 u
set_option maxRecDepth 100000 in
set_option maxHeartbeats 4000000 in
theorem sMo_bridges_9b {fin : Int32 × zM} (hc : zCx p s mi args meth c (wM D b) m0 RX10 cX10_bridges 4 (some .int)) (hRm : R.frames = 2 ∧ R.locals = 47 ∧ R.cells = zc (wM D b) m0 fin.2 ∧ R.slots = zs (wM D b) m0 fin.2) {zr9 : Int32 → Int32 → zM → Option (Int32 × zM)} (hr9 : ∀ (v1 : Int32) (v2 : Int32) (u : zM), zJ eI p l e R s mi args below meth c (wM D b) m0 4 fin 9 [(0, .ref 1), (1, .int v1), (2, .int v2)] [] u (zr9 v1 v2 u)) (v1 : Int32) (v2 : Int32) (u : zM) : zJ eI p l e R s mi args below meth c (wM D b) m0 4 fin 9 [(0, .ref 1), (1, .int v1), (2, .int v2)] [] u (Mo_bridges_9b zr9 v1 v2 u) := by
  unfold Mo_bridges_9b
  refine z_iload_n hc dX10_bridges_9 2 rfl rfl ?_
  refine z_aload_n hc dX10_bridges_10 0 rfl rfl ?_
  refine z_getR (x := 3) hc (ci := 10) (k := 10) (by decide) (by decide) zly10 lM1 (zkM lM1) wFX10_13 rfl dX10_bridges_11 rfl (by decide) ?_
  refine z_iconst (v := 0) hc dX10_bridges_14 rfl ?_
  refine z_iald (k := 0) hc lM3 (zkM lM3) rfl rfl dX10_bridges_15 ?_
  refine z_icmp_ge (tgt := 128) hc dX10_bridges_16 (by decide) _ (fun h1 => ?_) (fun h1 => ?_)
  · refine z_iload_n hc dX10_bridges_128 1 rfl rfl ?_
    exact z_iret hc dX10_bridges_129
  · refine z_iconst (v := 0) hc dX10_bridges_19 rfl ?_
    refine z_istore_n (L' := [(3, .int 0), (0, .ref 1), (1, .int v1), (2, .int v2)]) hc dX10_bridges_20 rfl (by decide) rfl rfl ?_
    refine zJ.sub (L' := [(0, .ref 1), (1, .int v1), (2, .int v2), (3, .int 0)]) [1, 2, 3, 0] rfl ?_
    exact sMo_bridges_21 hc hRm hr9 zF v1 v2 0 _
set_option maxRecDepth 100000 in
set_option maxHeartbeats 4000000 in
theorem sMo_bridges_9 {fin : Int32 × zM} (hc : zCx p s mi args meth c (wM D b) m0 RX10 cX10_bridges 4 (some .int)) (hRm : R.frames = 2 ∧ R.locals = 47 ∧ R.cells = zc (wM D b) m0 fin.2 ∧ R.slots = zs (wM D b) m0 fin.2) : ∀ (zf : Nat) (v1 : Int32) (v2 : Int32) (u : zM), zJ eI p l e R s mi args below meth c (wM D b) m0 4 fin 9 [(0, .ref 1), (1, .int v1), (2, .int v2)] [] u (Mo_bridges_9 zf v1 v2 u) := by
  intro zf
  induction zf with
  | zero => intro v1 v2 u; exact zJ.nil
  | succ zf ih => intro v1 v2 u; exact sMo_bridges_9b hc hRm ih v1 v2 u
set_option maxRecDepth 100000 in
set_option maxHeartbeats 4000000 in
theorem sMo_bridges : ∀ (u : zM) r m1, Mo_bridges u = some (r, m1) → zMet l (wM D b) 2 47 yX10_bridges cX10_bridges 4 (some .int) [.ref 1] u (eI r) m1 := by
  intro u
  refine zMet.of (L := [(0, .ref 1)]) RX10 (by decide +kernel) rfl (Nat.le_of_ble_eq_true rfl) (fun h => by cases h) rfl (fun p e s mi args below meth c R fin hc hin hRm => ?_)
  unfold Mo_bridges
  refine z_aload_n hc dX10_bridges_0 0 rfl rfl ?_
  refine z_iconst (v := 0) hc dX10_bridges_1 rfl ?_
  refine z_putI hc (ci := 10) (k := 0) (by decide) (by decide) zly10 lM1 (zkM lM1) wFX10_162 rfl rfl rfl rfl dX10_bridges_2 ?_
  refine zJ.letM (fun u1 e1 => ?_)
  refine z_iconst (v := 0) hc dX10_bridges_5 rfl ?_
  refine z_istore_n (L' := [(1, .int 0), (0, .ref 1)]) hc dX10_bridges_6 rfl (by decide) rfl rfl ?_
  refine z_iconst (v := 0) hc dX10_bridges_7 rfl ?_
  refine z_istore_n (L' := [(2, .int 0), (1, .int 0), (0, .ref 1)]) hc dX10_bridges_8 rfl (by decide) rfl rfl ?_
  refine zJ.sub (L' := [(0, .ref 1), (1, .int 0), (2, .int 0)]) [2, 1, 0] rfl ?_
  exact sMo_bridges_9 hc hRm zF 0 0 _
set_option maxRecDepth 100000 in
set_option maxHeartbeats 4000000 in
theorem sMo_warm_11b {fin : Int32 × zM} (hc : zCx p s mi args meth c (wM D b) m0 RX10 cX10_warm 5 (some .int)) (hRm : R.frames = 1 ∧ R.locals = 23 ∧ R.cells = zc (wM D b) m0 fin.2 ∧ R.slots = zs (wM D b) m0 fin.2) {zr11 : Int32 → Int32 → Int32 → zM → Option (Int32 × zM)} (hr11 : ∀ (v1 : Int32) (v2 : Int32) (v3 : Int32) (u : zM), zJ eI p l e R s mi args below meth c (wM D b) m0 5 fin 11 [(0, .ref 1), (1, .int v1), (2, .int v2), (3, .int v3)] [] u (zr11 v1 v2 v3 u)) (v1 : Int32) (v2 : Int32) (v3 : Int32) (u : zM) : zJ eI p l e R s mi args below meth c (wM D b) m0 5 fin 11 [(0, .ref 1), (1, .int v1), (2, .int v2), (3, .int v3)] [] u (Mo_warm_11b zr11 v1 v2 v3 u) := by
  unfold Mo_warm_11b
  refine z_iload_n hc dX10_warm_11 3 rfl rfl ?_
  refine z_aload_n hc dX10_warm_12 0 rfl rfl ?_
  refine z_getR (x := 3) hc (ci := 10) (k := 10) (by decide) (by decide) zly10 lM1 (zkM lM1) wFX10_13 rfl dX10_warm_13 rfl (by decide) ?_
  refine z_iconst (v := 0) hc dX10_warm_16 rfl ?_
  refine z_iald (k := 0) hc lM3 (zkM lM3) rfl rfl dX10_warm_17 ?_
  refine z_icmp_ge (tgt := 51) hc dX10_warm_18 (by decide) _ (fun h1 => ?_) (fun h1 => ?_)
  · refine z_iload_n hc dX10_warm_51 1 rfl rfl ?_
    exact z_iret hc dX10_warm_52
  · refine z_aload_n hc dX10_warm_21 0 rfl rfl ?_
    refine z_iload_n hc dX10_warm_22 3 rfl rfl ?_
    refine z_callV (av := [.int v3]) (enc' := eI) hc rfl (sMo_whoAt v3 _) (ci := 10) (by decide) lM1 (zkM lM1) rfl wMX10_419 hpyX10_whoAt hmyX10_whoAt (rm_ok hRm (Nat.le_of_ble_eq_true rfl) (Nat.le_of_ble_eq_true rfl)) (Nat.le_of_ble_eq_true rfl) hRm.2.2 dX10_warm_23 (fun c1 u1 f1 => ?_)
    refine z_callS (av := [.int c1]) (enc' := eI) hc rfl (sMo_bits c1 _) wMX10_393 hpyX10_bits hmyX10_bits (rm_ok hRm (Nat.le_of_ble_eq_true rfl) (Nat.le_of_ble_eq_true rfl)) (Nat.le_of_ble_eq_true rfl) hRm.2.2 dX10_warm_26 (fun c2 u2 f2 => ?_)
    refine z_istore (L' := [(4, .int c2), (0, .ref 1), (1, .int v1), (2, .int v2), (3, .int v3)]) hc dX10_warm_29 (by decide) rfl rfl ?_
    refine z_iload hc dX10_warm_31 0 rfl ?_
    refine z_iload_n hc dX10_warm_33 3 rfl rfl ?_
    refine z_icmp_gt (tgt := 40) hc dX10_warm_34 (by decide) _ (fun h2 => ?_) (fun h2 => ?_)
    · refine z_iload hc dX10_warm_40 0 rfl ?_
      refine z_istore_n (L' := [(2, .int c2), (4, .int c2), (0, .ref 1), (1, .int v1), (3, .int v3)]) hc dX10_warm_42 rfl (by decide) rfl rfl ?_
      refine z_iload_n hc dX10_warm_43 4 rfl rfl ?_
      refine z_istore_n (L' := [(1, .int v3), (2, .int c2), (4, .int c2), (0, .ref 1), (3, .int v3)]) hc dX10_warm_44 rfl (by decide) rfl rfl ?_
      refine z_iinc (L' := [(3, .int (v3 + 1)), (1, .int v3), (2, .int c2), (4, .int c2), (0, .ref 1)]) hc dX10_warm_45 4 rfl (v := (v3 + 1)) rfl (by decide) rfl rfl ?_
      refine z_goto (tgt := 11) hc dX10_warm_48 (by decide) ?_
      refine zJ.sub (L' := [(0, .ref 1), (1, .int v3), (2, .int c2), (3, .int (v3 + 1))]) [4, 1, 2, 0] rfl ?_
      exact hr11 v3 c2 (v3 + 1) _
    · refine z_goto (tgt := 45) hc dX10_warm_37 (by decide) ?_
      refine z_iinc (L' := [(3, .int (v3 + 1)), (4, .int c2), (0, .ref 1), (1, .int v1), (2, .int v2)]) hc dX10_warm_45 4 rfl (v := (v3 + 1)) rfl (by decide) rfl rfl ?_
      refine z_goto (tgt := 11) hc dX10_warm_48 (by decide) ?_
      refine zJ.sub (L' := [(0, .ref 1), (1, .int v1), (2, .int v2), (3, .int (v3 + 1))]) [2, 3, 4, 0] rfl ?_
      exact hr11 v1 v2 (v3 + 1) _
set_option maxRecDepth 100000 in
set_option maxHeartbeats 4000000 in
theorem sMo_warm_11 {fin : Int32 × zM} (hc : zCx p s mi args meth c (wM D b) m0 RX10 cX10_warm 5 (some .int)) (hRm : R.frames = 1 ∧ R.locals = 23 ∧ R.cells = zc (wM D b) m0 fin.2 ∧ R.slots = zs (wM D b) m0 fin.2) : ∀ (zf : Nat) (v1 : Int32) (v2 : Int32) (v3 : Int32) (u : zM), zJ eI p l e R s mi args below meth c (wM D b) m0 5 fin 11 [(0, .ref 1), (1, .int v1), (2, .int v2), (3, .int v3)] [] u (Mo_warm_11 zf v1 v2 v3 u) := by
  intro zf
  induction zf with
  | zero => intro v1 v2 v3 u; exact zJ.nil
  | succ zf ih => intro v1 v2 v3 u; exact sMo_warm_11b hc hRm ih v1 v2 v3 u
set_option maxRecDepth 100000 in
set_option maxHeartbeats 4000000 in
theorem sMo_warm : ∀ (u : zM) r m1, Mo_warm u = some (r, m1) → zMet l (wM D b) 1 23 yX10_warm cX10_warm 5 (some .int) [.ref 1] u (eI r) m1 := by
  intro u
  refine zMet.of (L := [(0, .ref 1)]) RX10 (by decide +kernel) rfl (Nat.le_of_ble_eq_true rfl) (fun h => by cases h) rfl (fun p e s mi args below meth c R fin hc hin hRm => ?_)
  unfold Mo_warm
  refine z_aload_n hc dX10_warm_0 0 rfl rfl ?_
  refine z_iconst (v := 0) hc dX10_warm_1 rfl ?_
  refine z_putI hc (ci := 10) (k := 0) (by decide) (by decide) zly10 lM1 (zkM lM1) wFX10_162 rfl rfl rfl rfl dX10_warm_2 ?_
  refine zJ.letM (fun u1 e1 => ?_)
  refine z_iconst (v := (-1)) hc dX10_warm_5 rfl ?_
  refine z_istore_n (L' := [(1, .int (-1)), (0, .ref 1)]) hc dX10_warm_6 rfl (by decide) rfl rfl ?_
  refine z_iconst (v := 0) hc dX10_warm_7 rfl ?_
  refine z_istore_n (L' := [(2, .int 0), (1, .int (-1)), (0, .ref 1)]) hc dX10_warm_8 rfl (by decide) rfl rfl ?_
  refine z_iconst (v := 0) hc dX10_warm_9 rfl ?_
  refine z_istore_n (L' := [(3, .int 0), (2, .int 0), (1, .int (-1)), (0, .ref 1)]) hc dX10_warm_10 rfl (by decide) rfl rfl ?_
  refine zJ.sub (L' := [(0, .ref 1), (1, .int (-1)), (2, .int 0), (3, .int 0)]) [3, 2, 1, 0] rfl ?_
  exact sMo_warm_11 hc hRm zF (-1) 0 0 _
set_option maxRecDepth 100000 in
set_option maxHeartbeats 4000000 in
theorem sMo_hunted_27b {fin : Int32 × zM} (hc : zCx p s mi args meth c (wM D b) m0 RX10 cX10_hunted 6 (some .int)) (hRm : R.frames = 0 ∧ R.locals = 0 ∧ R.cells = zc (wM D b) m0 fin.2 ∧ R.slots = zs (wM D b) m0 fin.2) {zr11 : Int32 → Int32 → Int32 → zM → Option (Int32 × zM)} (hr11 : ∀ (v1 : Int32) (v2 : Int32) (v3 : Int32) (u : zM), zJ eI p l e R s mi args below meth c (wM D b) m0 6 fin 11 [(0, .ref 1), (1, .int v1), (2, .int v2), (3, .int v3)] [] u (zr11 v1 v2 v3 u)) {zr27 : Int32 → Int32 → Int32 → Int32 → Int32 → zM → Option (Int32 × zM)} (hr27 : ∀ (v1 : Int32) (v2 : Int32) (v3 : Int32) (v4 : Int32) (v5 : Int32) (u : zM), zJ eI p l e R s mi args below meth c (wM D b) m0 6 fin 27 [(0, .ref 1), (1, .int v1), (2, .int v2), (3, .int v3), (4, .int v4), (5, .int v5)] [] u (zr27 v1 v2 v3 v4 v5 u)) (v1 : Int32) (v2 : Int32) (v3 : Int32) (v4 : Int32) (v5 : Int32) (u : zM) : zJ eI p l e R s mi args below meth c (wM D b) m0 6 fin 27 [(0, .ref 1), (1, .int v1), (2, .int v2), (3, .int v3), (4, .int v4), (5, .int v5)] [] u (Mo_hunted_27b zr11 zr27 v1 v2 v3 v4 v5 u) := by
  unfold Mo_hunted_27b
  refine z_iload hc dX10_hunted_27 5 rfl ?_
  refine z_aload_n hc dX10_hunted_29 0 rfl rfl ?_
  refine z_getR (x := 3) hc (ci := 10) (k := 10) (by decide) (by decide) zly10 lM1 (zkM lM1) wFX10_13 rfl dX10_hunted_30 rfl (by decide) ?_
  refine z_iconst (v := 4) hc dX10_hunted_33 rfl ?_
  refine z_iald (k := 4) hc lM3 (zkM lM3) rfl rfl dX10_hunted_34 ?_
  refine z_icmp_ge (tgt := 79) hc dX10_hunted_35 (by decide) _ (fun h1 => ?_) (fun h1 => ?_)
  · refine z_iload hc dX10_hunted_79 4 rfl ?_
    refine z_iload_n hc dX10_hunted_81 2 rfl rfl ?_
    refine z_icmp_gt (tgt := 88) hc dX10_hunted_82 (by decide) _ (fun h2 => ?_) (fun h2 => ?_)
    · refine z_iload hc dX10_hunted_88 4 rfl ?_
      refine z_istore_n (L' := [(2, .int v4), (0, .ref 1), (1, .int v1), (3, .int v3), (4, .int v4), (5, .int v5)]) hc dX10_hunted_90 rfl (by decide) rfl rfl ?_
      refine z_iload_n hc dX10_hunted_91 3 rfl rfl ?_
      refine z_istore_n (L' := [(1, .int v3), (2, .int v4), (0, .ref 1), (3, .int v3), (4, .int v4), (5, .int v5)]) hc dX10_hunted_92 rfl (by decide) rfl rfl ?_
      refine z_iinc (L' := [(3, .int (v3 + 1)), (1, .int v3), (2, .int v4), (0, .ref 1), (4, .int v4), (5, .int v5)]) hc dX10_hunted_93 3 rfl (v := (v3 + 1)) rfl (by decide) rfl rfl ?_
      refine z_goto (tgt := 11) hc dX10_hunted_96 (by decide) ?_
      refine zJ.sub (L' := [(0, .ref 1), (1, .int v3), (2, .int v4), (3, .int (v3 + 1))]) [3, 1, 2, 0] rfl ?_
      exact hr11 v3 v4 (v3 + 1) _
    · refine z_goto (tgt := 93) hc dX10_hunted_85 (by decide) ?_
      refine z_iinc (L' := [(3, .int (v3 + 1)), (0, .ref 1), (1, .int v1), (2, .int v2), (4, .int v4), (5, .int v5)]) hc dX10_hunted_93 3 rfl (v := (v3 + 1)) rfl (by decide) rfl rfl ?_
      refine z_goto (tgt := 11) hc dX10_hunted_96 (by decide) ?_
      refine zJ.sub (L' := [(0, .ref 1), (1, .int v1), (2, .int v2), (3, .int (v3 + 1))]) [1, 2, 3, 0] rfl ?_
      exact hr11 v1 v2 (v3 + 1) _
  · refine z_iload hc dX10_hunted_38 4 rfl ?_
    refine z_aload_n hc dX10_hunted_40 0 rfl rfl ?_
    refine z_getR (x := 14) hc (ci := 10) (k := 21) (by decide) (by decide) zly10 lM1 (zkM lM1) wFX10_47 rfl dX10_hunted_41 rfl (by decide) ?_
    refine z_iload hc dX10_hunted_44 5 rfl ?_
    refine zJ.chk _ (fun h3 => ?_)
    refine z_iald (k := (ix v5)) hc lM14 (zkM lM14) h3 rfl dX10_hunted_46 ?_
    refine z_iload_n hc dX10_hunted_47 3 rfl rfl ?_
    refine z_icmp_ne (tgt := 69) hc dX10_hunted_48 (by decide) _ (fun h4 => ?_) (fun h4 => ?_)
    · refine z_iconst (v := 0) hc dX10_hunted_69 rfl ?_
      refine z_iadd hc dX10_hunted_70 ?_
      refine zJ.letI (fun x1 e1 => ?_)
      refine z_istore (L' := [(4, .int x1), (0, .ref 1), (1, .int v1), (2, .int v2), (3, .int v3), (5, .int v5)]) hc dX10_hunted_71 (by decide) rfl rfl ?_
      refine z_iinc (L' := [(5, .int (v5 + 1)), (4, .int x1), (0, .ref 1), (1, .int v1), (2, .int v2), (3, .int v3)]) hc dX10_hunted_73 5 rfl (v := (v5 + 1)) rfl (by decide) rfl rfl ?_
      refine z_goto (tgt := 27) hc dX10_hunted_76 (by decide) ?_
      refine zJ.sub (L' := [(0, .ref 1), (1, .int v1), (2, .int v2), (3, .int v3), (4, .int x1), (5, .int (v5 + 1))]) [2, 3, 4, 5, 1, 0] rfl ?_
      exact hr27 v1 v2 v3 x1 (v5 + 1) _
    · refine z_aload_n hc dX10_hunted_51 0 rfl rfl ?_
      refine z_getR (x := 40) hc (ci := 10) (k := 50) (by decide) (by decide) zly10 lM1 (zkM lM1) wFX10_126 rfl dX10_hunted_52 rfl (by decide) ?_
      refine z_bipush (v := 19) hc dX10_hunted_55 rfl ?_
      refine z_iload hc dX10_hunted_57 5 rfl ?_
      refine z_iadd hc dX10_hunted_59 ?_
      refine zJ.chk _ (fun h5 => ?_)
      refine z_iald (k := (ix (19 + v5))) hc lM40 (zkM lM40) h5 rfl dX10_hunted_60 ?_
      refine z_iconst (v := 3) hc dX10_hunted_61 rfl ?_
      refine z_icmp_eq (tgt := 69) hc dX10_hunted_62 (by decide) _ (fun h6 => ?_) (fun h6 => ?_)
      · refine z_iconst (v := 0) hc dX10_hunted_69 rfl ?_
        refine z_iadd hc dX10_hunted_70 ?_
        refine zJ.letI (fun x2 e2 => ?_)
        refine z_istore (L' := [(4, .int x2), (0, .ref 1), (1, .int v1), (2, .int v2), (3, .int v3), (5, .int v5)]) hc dX10_hunted_71 (by decide) rfl rfl ?_
        refine z_iinc (L' := [(5, .int (v5 + 1)), (4, .int x2), (0, .ref 1), (1, .int v1), (2, .int v2), (3, .int v3)]) hc dX10_hunted_73 5 rfl (v := (v5 + 1)) rfl (by decide) rfl rfl ?_
        refine z_goto (tgt := 27) hc dX10_hunted_76 (by decide) ?_
        refine zJ.sub (L' := [(0, .ref 1), (1, .int v1), (2, .int v2), (3, .int v3), (4, .int x2), (5, .int (v5 + 1))]) [2, 3, 4, 5, 1, 0] rfl ?_
        exact hr27 v1 v2 v3 x2 (v5 + 1) _
      · refine z_iconst (v := 1) hc dX10_hunted_65 rfl ?_
        refine z_goto (tgt := 70) hc dX10_hunted_66 (by decide) ?_
        refine z_iadd hc dX10_hunted_70 ?_
        refine zJ.letI (fun x3 e3 => ?_)
        refine z_istore (L' := [(4, .int x3), (0, .ref 1), (1, .int v1), (2, .int v2), (3, .int v3), (5, .int v5)]) hc dX10_hunted_71 (by decide) rfl rfl ?_
        refine z_iinc (L' := [(5, .int (v5 + 1)), (4, .int x3), (0, .ref 1), (1, .int v1), (2, .int v2), (3, .int v3)]) hc dX10_hunted_73 5 rfl (v := (v5 + 1)) rfl (by decide) rfl rfl ?_
        refine z_goto (tgt := 27) hc dX10_hunted_76 (by decide) ?_
        refine zJ.sub (L' := [(0, .ref 1), (1, .int v1), (2, .int v2), (3, .int v3), (4, .int x3), (5, .int (v5 + 1))]) [2, 3, 4, 5, 1, 0] rfl ?_
        exact hr27 v1 v2 v3 x3 (v5 + 1) _
set_option maxRecDepth 100000 in
set_option maxHeartbeats 4000000 in
theorem sMo_hunted_27 {fin : Int32 × zM} (hc : zCx p s mi args meth c (wM D b) m0 RX10 cX10_hunted 6 (some .int)) (hRm : R.frames = 0 ∧ R.locals = 0 ∧ R.cells = zc (wM D b) m0 fin.2 ∧ R.slots = zs (wM D b) m0 fin.2) {zr11 : Int32 → Int32 → Int32 → zM → Option (Int32 × zM)} (hr11 : ∀ (v1 : Int32) (v2 : Int32) (v3 : Int32) (u : zM), zJ eI p l e R s mi args below meth c (wM D b) m0 6 fin 11 [(0, .ref 1), (1, .int v1), (2, .int v2), (3, .int v3)] [] u (zr11 v1 v2 v3 u)) : ∀ (zf : Nat) (v1 : Int32) (v2 : Int32) (v3 : Int32) (v4 : Int32) (v5 : Int32) (u : zM), zJ eI p l e R s mi args below meth c (wM D b) m0 6 fin 27 [(0, .ref 1), (1, .int v1), (2, .int v2), (3, .int v3), (4, .int v4), (5, .int v5)] [] u (Mo_hunted_27 zf zr11 v1 v2 v3 v4 v5 u) := by
  intro zf
  induction zf with
  | zero => intro v1 v2 v3 v4 v5 u; exact zJ.nil
  | succ zf ih => intro v1 v2 v3 v4 v5 u; exact sMo_hunted_27b hc hRm hr11 ih v1 v2 v3 v4 v5 u
set_option maxRecDepth 100000 in
set_option maxHeartbeats 4000000 in
theorem sMo_hunted_11b {fin : Int32 × zM} (hc : zCx p s mi args meth c (wM D b) m0 RX10 cX10_hunted 6 (some .int)) (hRm : R.frames = 0 ∧ R.locals = 0 ∧ R.cells = zc (wM D b) m0 fin.2 ∧ R.slots = zs (wM D b) m0 fin.2) {zr11 : Int32 → Int32 → Int32 → zM → Option (Int32 × zM)} (hr11 : ∀ (v1 : Int32) (v2 : Int32) (v3 : Int32) (u : zM), zJ eI p l e R s mi args below meth c (wM D b) m0 6 fin 11 [(0, .ref 1), (1, .int v1), (2, .int v2), (3, .int v3)] [] u (zr11 v1 v2 v3 u)) (v1 : Int32) (v2 : Int32) (v3 : Int32) (u : zM) : zJ eI p l e R s mi args below meth c (wM D b) m0 6 fin 11 [(0, .ref 1), (1, .int v1), (2, .int v2), (3, .int v3)] [] u (Mo_hunted_11b zr11 v1 v2 v3 u) := by
  unfold Mo_hunted_11b
  refine z_iload_n hc dX10_hunted_11 3 rfl rfl ?_
  refine z_aload_n hc dX10_hunted_12 0 rfl rfl ?_
  refine z_getR (x := 3) hc (ci := 10) (k := 10) (by decide) (by decide) zly10 lM1 (zkM lM1) wFX10_13 rfl dX10_hunted_13 rfl (by decide) ?_
  refine z_iconst (v := 2) hc dX10_hunted_16 rfl ?_
  refine z_iald (k := 2) hc lM3 (zkM lM3) rfl rfl dX10_hunted_17 ?_
  refine z_icmp_ge (tgt := 99) hc dX10_hunted_18 (by decide) _ (fun h1 => ?_) (fun h1 => ?_)
  · refine z_iload_n hc dX10_hunted_99 1 rfl rfl ?_
    exact z_iret hc dX10_hunted_100
  · refine z_iconst (v := 0) hc dX10_hunted_21 rfl ?_
    refine z_istore (L' := [(4, .int 0), (0, .ref 1), (1, .int v1), (2, .int v2), (3, .int v3)]) hc dX10_hunted_22 (by decide) rfl rfl ?_
    refine z_iconst (v := 0) hc dX10_hunted_24 rfl ?_
    refine z_istore (L' := [(5, .int 0), (4, .int 0), (0, .ref 1), (1, .int v1), (2, .int v2), (3, .int v3)]) hc dX10_hunted_25 (by decide) rfl rfl ?_
    refine zJ.sub (L' := [(0, .ref 1), (1, .int v1), (2, .int v2), (3, .int v3), (4, .int 0), (5, .int 0)]) [2, 3, 4, 5, 1, 0] rfl ?_
    exact sMo_hunted_27 hc hRm hr11 zF v1 v2 v3 0 0 _
set_option maxRecDepth 100000 in
set_option maxHeartbeats 4000000 in
theorem sMo_hunted_11 {fin : Int32 × zM} (hc : zCx p s mi args meth c (wM D b) m0 RX10 cX10_hunted 6 (some .int)) (hRm : R.frames = 0 ∧ R.locals = 0 ∧ R.cells = zc (wM D b) m0 fin.2 ∧ R.slots = zs (wM D b) m0 fin.2) : ∀ (zf : Nat) (v1 : Int32) (v2 : Int32) (v3 : Int32) (u : zM), zJ eI p l e R s mi args below meth c (wM D b) m0 6 fin 11 [(0, .ref 1), (1, .int v1), (2, .int v2), (3, .int v3)] [] u (Mo_hunted_11 zf v1 v2 v3 u) := by
  intro zf
  induction zf with
  | zero => intro v1 v2 v3 u; exact zJ.nil
  | succ zf ih => intro v1 v2 v3 u; exact sMo_hunted_11b hc hRm ih v1 v2 v3 u
set_option maxRecDepth 100000 in
set_option maxHeartbeats 4000000 in
theorem sMo_hunted : ∀ (u : zM) r m1, Mo_hunted u = some (r, m1) → zMet l (wM D b) 0 0 yX10_hunted cX10_hunted 6 (some .int) [.ref 1] u (eI r) m1 := by
  intro u
  refine zMet.of (L := [(0, .ref 1)]) RX10 (by decide +kernel) rfl (Nat.le_of_ble_eq_true rfl) (fun h => by cases h) rfl (fun p e s mi args below meth c R fin hc hin hRm => ?_)
  unfold Mo_hunted
  refine z_aload_n hc dX10_hunted_0 0 rfl rfl ?_
  refine z_iconst (v := 0) hc dX10_hunted_1 rfl ?_
  refine z_putI hc (ci := 10) (k := 0) (by decide) (by decide) zly10 lM1 (zkM lM1) wFX10_162 rfl rfl rfl rfl dX10_hunted_2 ?_
  refine zJ.letM (fun u1 e1 => ?_)
  refine z_iconst (v := (-1)) hc dX10_hunted_5 rfl ?_
  refine z_istore_n (L' := [(1, .int (-1)), (0, .ref 1)]) hc dX10_hunted_6 rfl (by decide) rfl rfl ?_
  refine z_iconst (v := 0) hc dX10_hunted_7 rfl ?_
  refine z_istore_n (L' := [(2, .int 0), (1, .int (-1)), (0, .ref 1)]) hc dX10_hunted_8 rfl (by decide) rfl rfl ?_
  refine z_iconst (v := 0) hc dX10_hunted_9 rfl ?_
  refine z_istore_n (L' := [(3, .int 0), (2, .int 0), (1, .int (-1)), (0, .ref 1)]) hc dX10_hunted_10 rfl (by decide) rfl rfl ?_
  refine zJ.sub (L' := [(0, .ref 1), (1, .int (-1)), (2, .int 0), (3, .int 0)]) [3, 2, 1, 0] rfl ?_
  exact sMo_hunted_11 hc hRm zF (-1) 0 0 _
set_option maxRecDepth 100000 in
set_option maxHeartbeats 4000000 in
theorem sMo_laysRains_10b {fin : Unit × zM} (hc : zCx p s mi args meth c (wM D b) m0 RX10 cX10_laysRains 3 none) (hRm : R.frames = 4 ∧ R.locals = 91 ∧ R.cells = zc (wM D b) m0 fin.2 ∧ R.slots = zs (wM D b) m0 fin.2) {zr2 : Int32 → zM → Option (Unit × zM)} (hr2 : ∀ (v1 : Int32) (u : zM), zJ eV p l e R s mi args below meth c (wM D b) m0 3 fin 2 [(0, .ref 1), (1, .int v1)] [] u (zr2 v1 u)) {zr10 : Int32 → Int32 → zM → Option (Unit × zM)} (hr10 : ∀ (v1 : Int32) (v2 : Int32) (u : zM), zJ eV p l e R s mi args below meth c (wM D b) m0 3 fin 10 [(0, .ref 1), (1, .int v1), (2, .int v2)] [] u (zr10 v1 v2 u)) (v1 : Int32) (v2 : Int32) (u : zM) : zJ eV p l e R s mi args below meth c (wM D b) m0 3 fin 10 [(0, .ref 1), (1, .int v1), (2, .int v2)] [] u (Mo_laysRains_10b zr2 zr10 v1 v2 u) := by
  unfold Mo_laysRains_10b
  refine z_iload_n hc dX10_laysRains_10 2 rfl rfl ?_
  refine z_aload_n hc dX10_laysRains_11 0 rfl rfl ?_
  refine z_getR (x := 3) hc (ci := 10) (k := 10) (by decide) (by decide) zly10 lM1 (zkM lM1) wFX10_13 rfl dX10_laysRains_12 rfl (by decide) ?_
  refine z_iconst (v := 0) hc dX10_laysRains_15 rfl ?_
  refine z_iald (k := 0) hc lM3 (zkM lM3) rfl rfl dX10_laysRains_16 ?_
  refine z_icmp_ge (tgt := 43) hc dX10_laysRains_17 (by decide) _ (fun h1 => ?_) (fun h1 => ?_)
  · refine z_iinc (L' := [(1, .int (v1 + 1)), (0, .ref 1), (2, .int v2)]) hc dX10_laysRains_43 1 rfl (v := (v1 + 1)) rfl (by decide) rfl rfl ?_
    refine z_goto (tgt := 2) hc dX10_laysRains_46 (by decide) ?_
    refine zJ.sub (L' := [(0, .ref 1), (1, .int (v1 + 1))]) [1, 0] rfl ?_
    exact hr2 (v1 + 1) _
  · refine z_aload_n hc dX10_laysRains_20 0 rfl rfl ?_
    refine z_getR (x := 50) hc (ci := 10) (k := 65) (by decide) (by decide) zly10 lM1 (zkM lM1) wFX10_156 rfl dX10_laysRains_21 rfl (by decide) ?_
    refine z_bipush (v := 7) hc dX10_laysRains_24 rfl ?_
    refine z_iload_n hc dX10_laysRains_26 1 rfl rfl ?_
    refine z_imul hc dX10_laysRains_27 ?_
    refine z_iload_n hc dX10_laysRains_28 2 rfl rfl ?_
    refine z_iadd hc dX10_laysRains_29 ?_
    refine z_aload_n hc dX10_laysRains_30 0 rfl rfl ?_
    refine z_iload_n hc dX10_laysRains_31 2 rfl rfl ?_
    refine z_iload_n hc dX10_laysRains_32 1 rfl rfl ?_
    refine z_callV (av := [.int v2, .int v1]) (enc' := eI) hc rfl (sMo_wetBy v2 v1 _) (ci := 10) (by decide) lM1 (zkM lM1) rfl wMX10_403 hpyX10_wetBy hmyX10_wetBy (rm_ok hRm (Nat.le_of_ble_eq_true rfl) (Nat.le_of_ble_eq_true rfl)) (Nat.le_of_ble_eq_true rfl) hRm.2.2 dX10_laysRains_33 (fun c1 u1 f1 => ?_)
    refine zJ.chk _ (fun h2 => ?_)
    refine z_iast (k := (ix ((7 * v1) + v2))) hc lM50 (zkM lM50) h2 rfl dX10_laysRains_36 ?_
    refine zJ.letM (fun u2 e1 => ?_)
    refine z_iinc (L' := [(2, .int (v2 + 1)), (0, .ref 1), (1, .int v1)]) hc dX10_laysRains_37 2 rfl (v := (v2 + 1)) rfl (by decide) rfl rfl ?_
    refine z_goto (tgt := 10) hc dX10_laysRains_40 (by decide) ?_
    refine zJ.sub (L' := [(0, .ref 1), (1, .int v1), (2, .int (v2 + 1))]) [1, 2, 0] rfl ?_
    exact hr10 v1 (v2 + 1) _
set_option maxRecDepth 100000 in
set_option maxHeartbeats 4000000 in
theorem sMo_laysRains_10 {fin : Unit × zM} (hc : zCx p s mi args meth c (wM D b) m0 RX10 cX10_laysRains 3 none) (hRm : R.frames = 4 ∧ R.locals = 91 ∧ R.cells = zc (wM D b) m0 fin.2 ∧ R.slots = zs (wM D b) m0 fin.2) {zr2 : Int32 → zM → Option (Unit × zM)} (hr2 : ∀ (v1 : Int32) (u : zM), zJ eV p l e R s mi args below meth c (wM D b) m0 3 fin 2 [(0, .ref 1), (1, .int v1)] [] u (zr2 v1 u)) : ∀ (zf : Nat) (v1 : Int32) (v2 : Int32) (u : zM), zJ eV p l e R s mi args below meth c (wM D b) m0 3 fin 10 [(0, .ref 1), (1, .int v1), (2, .int v2)] [] u (Mo_laysRains_10 zf zr2 v1 v2 u) := by
  intro zf
  induction zf with
  | zero => intro v1 v2 u; exact zJ.nil
  | succ zf ih => intro v1 v2 u; exact sMo_laysRains_10b hc hRm hr2 ih v1 v2 u
set_option maxRecDepth 100000 in
set_option maxHeartbeats 4000000 in
theorem sMo_laysRains_2b {fin : Unit × zM} (hc : zCx p s mi args meth c (wM D b) m0 RX10 cX10_laysRains 3 none) (hRm : R.frames = 4 ∧ R.locals = 91 ∧ R.cells = zc (wM D b) m0 fin.2 ∧ R.slots = zs (wM D b) m0 fin.2) {zr2 : Int32 → zM → Option (Unit × zM)} (hr2 : ∀ (v1 : Int32) (u : zM), zJ eV p l e R s mi args below meth c (wM D b) m0 3 fin 2 [(0, .ref 1), (1, .int v1)] [] u (zr2 v1 u)) (v1 : Int32) (u : zM) : zJ eV p l e R s mi args below meth c (wM D b) m0 3 fin 2 [(0, .ref 1), (1, .int v1)] [] u (Mo_laysRains_2b zr2 v1 u) := by
  unfold Mo_laysRains_2b
  refine z_iload_n hc dX10_laysRains_2 1 rfl rfl ?_
  refine z_bipush (v := 10) hc dX10_laysRains_3 rfl ?_
  refine z_icmp_ge (tgt := 49) hc dX10_laysRains_5 (by decide) _ (fun h1 => ?_) (fun h1 => ?_)
  · exact z_vret hc dX10_laysRains_49
  · refine z_iconst (v := 0) hc dX10_laysRains_8 rfl ?_
    refine z_istore_n (L' := [(2, .int 0), (0, .ref 1), (1, .int v1)]) hc dX10_laysRains_9 rfl (by decide) rfl rfl ?_
    refine zJ.sub (L' := [(0, .ref 1), (1, .int v1), (2, .int 0)]) [1, 2, 0] rfl ?_
    exact sMo_laysRains_10 hc hRm hr2 zF v1 0 _
set_option maxRecDepth 100000 in
set_option maxHeartbeats 4000000 in
theorem sMo_laysRains_2 {fin : Unit × zM} (hc : zCx p s mi args meth c (wM D b) m0 RX10 cX10_laysRains 3 none) (hRm : R.frames = 4 ∧ R.locals = 91 ∧ R.cells = zc (wM D b) m0 fin.2 ∧ R.slots = zs (wM D b) m0 fin.2) : ∀ (zf : Nat) (v1 : Int32) (u : zM), zJ eV p l e R s mi args below meth c (wM D b) m0 3 fin 2 [(0, .ref 1), (1, .int v1)] [] u (Mo_laysRains_2 zf v1 u) := by
  intro zf
  induction zf with
  | zero => intro v1 u; exact zJ.nil
  | succ zf ih => intro v1 u; exact sMo_laysRains_2b hc hRm ih v1 u
set_option maxRecDepth 100000 in
set_option maxHeartbeats 4000000 in
theorem sMo_laysRains : ∀ (u : zM) r m1, Mo_laysRains u = some (r, m1) → zMet l (wM D b) 4 91 yX10_laysRains cX10_laysRains 3 none [.ref 1] u (eV r) m1 := by
  intro u
  refine zMet.of (L := [(0, .ref 1)]) RX10 (by decide +kernel) rfl (Nat.le_of_ble_eq_true rfl) (fun h => by cases h) rfl (fun p e s mi args below meth c R fin hc hin hRm => ?_)
  unfold Mo_laysRains
  refine z_iconst (v := 0) hc dX10_laysRains_0 rfl ?_
  refine z_istore_n (L' := [(1, .int 0), (0, .ref 1)]) hc dX10_laysRains_1 rfl (by decide) rfl rfl ?_
  refine zJ.sub (L' := [(0, .ref 1), (1, .int 0)]) [1, 0] rfl ?_
  exact sMo_laysRains_2 hc hRm zF 0 _
set_option maxRecDepth 100000 in
set_option maxHeartbeats 4000000 in
theorem sMo_see : ∀ (v1 : Int32) (v2 : Int32) (v3 : Int32) (u : zM) r m1, Mo_see v1 v2 v3 u = some (r, m1) → zMet l (wM D b) 1 22 yX10_see cX10_see 4 (some .boolean) [.ref 1, .int v1, .int v2, .int v3] u (eI r) m1 := by
  intro v1 v2 v3 u
  refine zMet.of (L := [(0, .ref 1), (1, .int v1), (2, .int v2), (3, .int v3)]) RX10 (by decide +kernel) rfl (Nat.le_of_ble_eq_true rfl) (fun h => by cases h) rfl (fun p e s mi args below meth c R fin hc hin hRm => ?_)
  unfold Mo_see
  refine z_aload_n hc dX10_see_0 0 rfl rfl ?_
  refine z_iconst (v := 0) hc dX10_see_1 rfl ?_
  refine z_putI hc (ci := 10) (k := 0) (by decide) (by decide) zly10 lM1 (zkM lM1) wFX10_162 rfl rfl rfl rfl dX10_see_2 ?_
  refine zJ.letM (fun u1 e1 => ?_)
  refine z_aload_n hc dX10_see_5 0 rfl rfl ?_
  refine z_iload_n hc dX10_see_6 1 rfl rfl ?_
  refine z_callV (av := [.int v1]) (enc' := eI) hc rfl (sMo_isPlace v1 _) (ci := 10) (by decide) lM1 (zkM lM1) rfl wMX10_416 hpyX10_isPlace hmyX10_isPlace (rm_ok hRm (Nat.le_of_ble_eq_true rfl) (Nat.le_of_ble_eq_true rfl)) (Nat.le_of_ble_eq_true rfl) hRm.2.2 dX10_see_7 (fun c1 u2 f1 => ?_)
  refine z_if_eq (tgt := 34) hc dX10_see_10 (by decide) _ (fun h1 => ?_) (fun h1 => ?_)
  · refine z_iconst (v := 0) hc dX10_see_34 rfl ?_
    exact z_zret hc rfl dX10_see_35
  · refine z_iload_n hc dX10_see_13 2 rfl rfl ?_
    refine z_iconst (v := 0) hc dX10_see_14 rfl ?_
    refine z_bipush (v := 9) hc dX10_see_15 rfl ?_
    refine z_callS (av := [.int v2, .int 0, .int 9]) (enc' := eI) hc rfl (sMo_within v2 0 9 _) wMX10_293 hpyX10_within hmyX10_within (rm_ok hRm (Nat.le_of_ble_eq_true rfl) (Nat.le_of_ble_eq_true rfl)) (Nat.le_of_ble_eq_true rfl) hRm.2.2 dX10_see_17 (fun c2 u3 f2 => ?_)
    refine z_if_eq (tgt := 34) hc dX10_see_20 (by decide) _ (fun h2 => ?_) (fun h2 => ?_)
    · refine z_iconst (v := 0) hc dX10_see_34 rfl ?_
      exact z_zret hc rfl dX10_see_35
    · refine z_aload_n hc dX10_see_23 0 rfl rfl ?_
      refine z_getR (x := 36) hc (ci := 10) (k := 46) (by decide) (by decide) zly10 lM1 (zkM lM1) wFX10_114 rfl dX10_see_24 rfl (by decide) ?_
      refine z_iconst (v := 0) hc dX10_see_27 rfl ?_
      refine z_iald (k := 0) hc lM36 (zkM lM36) rfl rfl dX10_see_28 ?_
      refine z_bipush (v := 8) hc dX10_see_29 rfl ?_
      refine z_icmp_ne (tgt := 36) hc dX10_see_31 (by decide) _ (fun h3 => ?_) (fun h3 => ?_)
      · refine z_aload_n hc dX10_see_36 0 rfl rfl ?_
        refine z_getR (x := 37) hc (ci := 10) (k := 47) (by decide) (by decide) zly10 lM1 (zkM lM1) wFX10_117 rfl dX10_see_37 rfl (by decide) ?_
        refine z_aload_n hc dX10_see_40 0 rfl rfl ?_
        refine z_getR (x := 36) hc (ci := 10) (k := 46) (by decide) (by decide) zly10 lM1 (zkM lM1) wFX10_114 rfl dX10_see_41 rfl (by decide) ?_
        refine z_iconst (v := 0) hc dX10_see_44 rfl ?_
        refine z_iald (k := 0) hc lM36 (zkM lM36) rfl rfl dX10_see_45 ?_
        refine z_iload_n hc dX10_see_46 1 rfl rfl ?_
        refine zJ.chk _ (fun h4 => ?_)
        refine z_iast (k := (ix (gI u3 36 0))) hc lM37 (zkM lM37) h4 rfl dX10_see_47 ?_
        refine zJ.letM (fun u4 e2 => ?_)
        refine z_aload_n hc dX10_see_48 0 rfl rfl ?_
        refine z_getR (x := 38) hc (ci := 10) (k := 48) (by decide) (by decide) zly10 lM1 (zkM lM1) wFX10_120 rfl dX10_see_49 rfl (by decide) ?_
        refine z_aload_n hc dX10_see_52 0 rfl rfl ?_
        refine z_getR (x := 36) hc (ci := 10) (k := 46) (by decide) (by decide) zly10 lM1 (zkM lM1) wFX10_114 rfl dX10_see_53 rfl (by decide) ?_
        refine z_iconst (v := 0) hc dX10_see_56 rfl ?_
        refine z_iald (k := 0) hc lM36 (zkM lM36) rfl rfl dX10_see_57 ?_
        refine z_iload_n hc dX10_see_58 2 rfl rfl ?_
        refine zJ.chk _ (fun h5 => ?_)
        refine z_iast (k := (ix (gI u4 36 0))) hc lM38 (zkM lM38) h5 rfl dX10_see_59 ?_
        refine zJ.letM (fun u5 e3 => ?_)
        refine z_aload_n hc dX10_see_60 0 rfl rfl ?_
        refine z_getR (x := 39) hc (ci := 10) (k := 49) (by decide) (by decide) zly10 lM1 (zkM lM1) wFX10_123 rfl dX10_see_61 rfl (by decide) ?_
        refine z_aload_n hc dX10_see_64 0 rfl rfl ?_
        refine z_getR (x := 36) hc (ci := 10) (k := 46) (by decide) (by decide) zly10 lM1 (zkM lM1) wFX10_114 rfl dX10_see_65 rfl (by decide) ?_
        refine z_iconst (v := 0) hc dX10_see_68 rfl ?_
        refine z_iald (k := 0) hc lM36 (zkM lM36) rfl rfl dX10_see_69 ?_
        refine z_iload_n hc dX10_see_70 3 rfl rfl ?_
        refine zJ.chk _ (fun h6 => ?_)
        refine z_zast (k := (ix (gI u5 36 0))) hc lM39 (zkM lM39) h6 rfl dX10_see_71 ?_
        refine zJ.letM (fun u6 e4 => ?_)
        refine z_aload_n hc dX10_see_72 0 rfl rfl ?_
        refine z_getR (x := 36) hc (ci := 10) (k := 46) (by decide) (by decide) zly10 lM1 (zkM lM1) wFX10_114 rfl dX10_see_73 rfl (by decide) ?_
        refine z_iconst (v := 0) hc dX10_see_76 rfl ?_
        refine z_dup2 hc dX10_see_77 rfl rfl ?_
        refine z_iald (k := 0) hc lM36 (zkM lM36) rfl rfl dX10_see_78 ?_
        refine z_iconst (v := 1) hc dX10_see_79 rfl ?_
        refine z_iadd hc dX10_see_80 ?_
        refine z_iast (k := 0) hc lM36 (zkM lM36) rfl rfl dX10_see_81 ?_
        refine zJ.letM (fun u7 e5 => ?_)
        refine z_iconst (v := 1) hc dX10_see_82 rfl ?_
        exact z_zret hc rfl dX10_see_83
      · refine z_iconst (v := 0) hc dX10_see_34 rfl ?_
        exact z_zret hc rfl dX10_see_35
set_option maxRecDepth 100000 in
set_option maxHeartbeats 4000000 in
theorem sMo_isAsSeen_2b {fin : Int32 × zM} (hc : zCx p s mi args meth c (wM D b) m0 RX10 cX10_isAsSeen 3 (some .boolean)) (hRm : R.frames = 0 ∧ R.locals = 0 ∧ R.cells = zc (wM D b) m0 fin.2 ∧ R.slots = zs (wM D b) m0 fin.2) {zr2 : Int32 → Int32 → zM → Option (Int32 × zM)} (hr2 : ∀ (v1 : Int32) (v2 : Int32) (u : zM), zJ eI p l e R s mi args below meth c (wM D b) m0 3 fin 2 [(0, .ref 1), (1, .int v1), (2, .int v2)] [] u (zr2 v1 v2 u)) (v1 : Int32) (v2 : Int32) (u : zM) : zJ eI p l e R s mi args below meth c (wM D b) m0 3 fin 2 [(0, .ref 1), (1, .int v1), (2, .int v2)] [] u (Mo_isAsSeen_2b zr2 v1 v2 u) := by
  unfold Mo_isAsSeen_2b
  refine z_iload_n hc dX10_isAsSeen_2 2 rfl rfl ?_
  refine z_aload_n hc dX10_isAsSeen_3 0 rfl rfl ?_
  refine z_getR (x := 36) hc (ci := 10) (k := 46) (by decide) (by decide) zly10 lM1 (zkM lM1) wFX10_114 rfl dX10_isAsSeen_4 rfl (by decide) ?_
  refine z_iconst (v := 0) hc dX10_isAsSeen_7 rfl ?_
  refine z_iald (k := 0) hc lM36 (zkM lM36) rfl rfl dX10_isAsSeen_8 ?_
  refine z_icmp_ge (tgt := 59) hc dX10_isAsSeen_9 (by decide) _ (fun h1 => ?_) (fun h1 => ?_)
  · refine z_iconst (v := 1) hc dX10_isAsSeen_59 rfl ?_
    exact z_zret hc rfl dX10_isAsSeen_60
  · refine z_aload_n hc dX10_isAsSeen_12 0 rfl rfl ?_
    refine z_getR (x := 50) hc (ci := 10) (k := 65) (by decide) (by decide) zly10 lM1 (zkM lM1) wFX10_156 rfl dX10_isAsSeen_13 rfl (by decide) ?_
    refine z_bipush (v := 7) hc dX10_isAsSeen_16 rfl ?_
    refine z_iload_n hc dX10_isAsSeen_18 1 rfl rfl ?_
    refine z_imul hc dX10_isAsSeen_19 ?_
    refine z_aload_n hc dX10_isAsSeen_20 0 rfl rfl ?_
    refine z_getR (x := 37) hc (ci := 10) (k := 47) (by decide) (by decide) zly10 lM1 (zkM lM1) wFX10_117 rfl dX10_isAsSeen_21 rfl (by decide) ?_
    refine z_iload_n hc dX10_isAsSeen_24 2 rfl rfl ?_
    refine zJ.chk _ (fun h2 => ?_)
    refine z_iald (k := (ix v2)) hc lM37 (zkM lM37) h2 rfl dX10_isAsSeen_25 ?_
    refine z_iadd hc dX10_isAsSeen_26 ?_
    refine zJ.chk _ (fun h3 => ?_)
    refine z_iald (k := (ix ((7 * v1) + (gI u 37 (ix v2))))) hc lM50 (zkM lM50) h3 rfl dX10_isAsSeen_27 ?_
    refine z_aload_n hc dX10_isAsSeen_28 0 rfl rfl ?_
    refine z_getR (x := 38) hc (ci := 10) (k := 48) (by decide) (by decide) zly10 lM1 (zkM lM1) wFX10_120 rfl dX10_isAsSeen_29 rfl (by decide) ?_
    refine z_iload_n hc dX10_isAsSeen_32 2 rfl rfl ?_
    refine zJ.chk _ (fun h4 => ?_)
    refine z_iald (k := (ix v2)) hc lM38 (zkM lM38) h4 rfl dX10_isAsSeen_33 ?_
    refine z_icmp_lt (tgt := 41) hc dX10_isAsSeen_34 (by decide) _ (fun h5 => ?_) (fun h5 => ?_)
    · refine z_iconst (v := 0) hc dX10_isAsSeen_41 rfl ?_
      refine z_aload_n hc dX10_isAsSeen_42 0 rfl rfl ?_
      refine z_getR (x := 39) hc (ci := 10) (k := 49) (by decide) (by decide) zly10 lM1 (zkM lM1) wFX10_123 rfl dX10_isAsSeen_43 rfl (by decide) ?_
      refine z_iload_n hc dX10_isAsSeen_46 2 rfl rfl ?_
      refine zJ.chk _ (fun h6 => ?_)
      refine z_zald (k := (ix v2)) hc lM39 (zkM lM39) h6 rfl dX10_isAsSeen_47 ?_
      refine z_icmp_eq (tgt := 53) hc dX10_isAsSeen_48 (by decide) _ (fun h7 => ?_) (fun h7 => ?_)
      · refine z_iinc (L' := [(2, .int (v2 + 1)), (0, .ref 1), (1, .int v1)]) hc dX10_isAsSeen_53 2 rfl (v := (v2 + 1)) rfl (by decide) rfl rfl ?_
        refine z_goto (tgt := 2) hc dX10_isAsSeen_56 (by decide) ?_
        refine zJ.sub (L' := [(0, .ref 1), (1, .int v1), (2, .int (v2 + 1))]) [1, 2, 0] rfl ?_
        exact hr2 v1 (v2 + 1) _
      · refine z_iconst (v := 0) hc dX10_isAsSeen_51 rfl ?_
        exact z_zret hc rfl dX10_isAsSeen_52
    · refine z_iconst (v := 1) hc dX10_isAsSeen_37 rfl ?_
      refine z_goto (tgt := 42) hc dX10_isAsSeen_38 (by decide) ?_
      refine z_aload_n hc dX10_isAsSeen_42 0 rfl rfl ?_
      refine z_getR (x := 39) hc (ci := 10) (k := 49) (by decide) (by decide) zly10 lM1 (zkM lM1) wFX10_123 rfl dX10_isAsSeen_43 rfl (by decide) ?_
      refine z_iload_n hc dX10_isAsSeen_46 2 rfl rfl ?_
      refine zJ.chk _ (fun h8 => ?_)
      refine z_zald (k := (ix v2)) hc lM39 (zkM lM39) h8 rfl dX10_isAsSeen_47 ?_
      refine z_icmp_eq (tgt := 53) hc dX10_isAsSeen_48 (by decide) _ (fun h9 => ?_) (fun h9 => ?_)
      · refine z_iinc (L' := [(2, .int (v2 + 1)), (0, .ref 1), (1, .int v1)]) hc dX10_isAsSeen_53 2 rfl (v := (v2 + 1)) rfl (by decide) rfl rfl ?_
        refine z_goto (tgt := 2) hc dX10_isAsSeen_56 (by decide) ?_
        refine zJ.sub (L' := [(0, .ref 1), (1, .int v1), (2, .int (v2 + 1))]) [1, 2, 0] rfl ?_
        exact hr2 v1 (v2 + 1) _
      · refine z_iconst (v := 0) hc dX10_isAsSeen_51 rfl ?_
        exact z_zret hc rfl dX10_isAsSeen_52
set_option maxRecDepth 100000 in
set_option maxHeartbeats 4000000 in
theorem sMo_isAsSeen_2 {fin : Int32 × zM} (hc : zCx p s mi args meth c (wM D b) m0 RX10 cX10_isAsSeen 3 (some .boolean)) (hRm : R.frames = 0 ∧ R.locals = 0 ∧ R.cells = zc (wM D b) m0 fin.2 ∧ R.slots = zs (wM D b) m0 fin.2) : ∀ (zf : Nat) (v1 : Int32) (v2 : Int32) (u : zM), zJ eI p l e R s mi args below meth c (wM D b) m0 3 fin 2 [(0, .ref 1), (1, .int v1), (2, .int v2)] [] u (Mo_isAsSeen_2 zf v1 v2 u) := by
  intro zf
  induction zf with
  | zero => intro v1 v2 u; exact zJ.nil
  | succ zf ih => intro v1 v2 u; exact sMo_isAsSeen_2b hc hRm ih v1 v2 u
set_option maxRecDepth 100000 in
set_option maxHeartbeats 4000000 in
theorem sMo_isAsSeen : ∀ (v1 : Int32) (u : zM) r m1, Mo_isAsSeen v1 u = some (r, m1) → zMet l (wM D b) 0 0 yX10_isAsSeen cX10_isAsSeen 3 (some .boolean) [.ref 1, .int v1] u (eI r) m1 := by
  intro v1 u
  refine zMet.of (L := [(0, .ref 1), (1, .int v1)]) RX10 (by decide +kernel) rfl (Nat.le_of_ble_eq_true rfl) (fun h => by cases h) rfl (fun p e s mi args below meth c R fin hc hin hRm => ?_)
  unfold Mo_isAsSeen
  refine z_iconst (v := 0) hc dX10_isAsSeen_0 rfl ?_
  refine z_istore_n (L' := [(2, .int 0), (0, .ref 1), (1, .int v1)]) hc dX10_isAsSeen_1 rfl (by decide) rfl rfl ?_
  refine zJ.sub (L' := [(0, .ref 1), (1, .int v1), (2, .int 0)]) [1, 2, 0] rfl ?_
  exact sMo_isAsSeen_2 hc hRm zF v1 0 _
set_option maxRecDepth 100000 in
set_option maxHeartbeats 4000000 in
theorem sMo_rains_13b {fin : Int32 × zM} (hc : zCx p s mi args meth c (wM D b) m0 RX10 cX10_rains 3 (some .int)) (hRm : R.frames = 5 ∧ R.locals = 113 ∧ R.cells = zc (wM D b) m0 fin.2 ∧ R.slots = zs (wM D b) m0 fin.2) {zr13 : Int32 → Int32 → zM → Option (Int32 × zM)} (hr13 : ∀ (v1 : Int32) (v2 : Int32) (u : zM), zJ eI p l e R s mi args below meth c (wM D b) m0 3 fin 13 [(0, .ref 1), (1, .int v1), (2, .int v2)] [] u (zr13 v1 v2 u)) (v1 : Int32) (v2 : Int32) (u : zM) : zJ eI p l e R s mi args below meth c (wM D b) m0 3 fin 13 [(0, .ref 1), (1, .int v1), (2, .int v2)] [] u (Mo_rains_13b zr13 v1 v2 u) := by
  unfold Mo_rains_13b
  refine z_iload_n hc dX10_rains_13 2 rfl rfl ?_
  refine z_bipush (v := 10) hc dX10_rains_14 rfl ?_
  refine z_icmp_ge (tgt := 43) hc dX10_rains_16 (by decide) _ (fun h1 => ?_) (fun h1 => ?_)
  · refine z_iload_n hc dX10_rains_43 1 rfl rfl ?_
    exact z_iret hc dX10_rains_44
  · refine z_iload_n hc dX10_rains_19 1 rfl rfl ?_
    refine z_aload_n hc dX10_rains_20 0 rfl rfl ?_
    refine z_iload_n hc dX10_rains_21 2 rfl rfl ?_
    refine z_callV (av := [.int v2]) (enc' := eI) hc rfl (sMo_isAsSeen v2 _) (ci := 10) (by decide) lM1 (zkM lM1) rfl wMX10_509 hpyX10_isAsSeen hmyX10_isAsSeen (rm_ok hRm (Nat.le_of_ble_eq_true rfl) (Nat.le_of_ble_eq_true rfl)) (Nat.le_of_ble_eq_true rfl) hRm.2.2 dX10_rains_22 (fun c1 u1 f1 => ?_)
    refine z_if_eq (tgt := 34) hc dX10_rains_25 (by decide) _ (fun h2 => ?_) (fun h2 => ?_)
    · refine z_iconst (v := 0) hc dX10_rains_34 rfl ?_
      refine z_ior hc dX10_rains_35 ?_
      refine zJ.letI (fun x1 e1 => ?_)
      refine z_istore_n (L' := [(1, .int x1), (0, .ref 1), (2, .int v2)]) hc dX10_rains_36 rfl (by decide) rfl rfl ?_
      refine z_iinc (L' := [(2, .int (v2 + 1)), (1, .int x1), (0, .ref 1)]) hc dX10_rains_37 2 rfl (v := (v2 + 1)) rfl (by decide) rfl rfl ?_
      refine z_goto (tgt := 13) hc dX10_rains_40 (by decide) ?_
      refine zJ.sub (L' := [(0, .ref 1), (1, .int x1), (2, .int (v2 + 1))]) [2, 1, 0] rfl ?_
      exact hr13 x1 (v2 + 1) _
    · refine z_iconst (v := 1) hc dX10_rains_28 rfl ?_
      refine z_iload_n hc dX10_rains_29 2 rfl rfl ?_
      refine z_ishl hc dX10_rains_30 ?_
      refine z_goto (tgt := 35) hc dX10_rains_31 (by decide) ?_
      refine z_ior hc dX10_rains_35 ?_
      refine zJ.letI (fun x2 e2 => ?_)
      refine z_istore_n (L' := [(1, .int x2), (0, .ref 1), (2, .int v2)]) hc dX10_rains_36 rfl (by decide) rfl rfl ?_
      refine z_iinc (L' := [(2, .int (v2 + 1)), (1, .int x2), (0, .ref 1)]) hc dX10_rains_37 2 rfl (v := (v2 + 1)) rfl (by decide) rfl rfl ?_
      refine z_goto (tgt := 13) hc dX10_rains_40 (by decide) ?_
      refine zJ.sub (L' := [(0, .ref 1), (1, .int x2), (2, .int (v2 + 1))]) [2, 1, 0] rfl ?_
      exact hr13 x2 (v2 + 1) _
set_option maxRecDepth 100000 in
set_option maxHeartbeats 4000000 in
theorem sMo_rains_13 {fin : Int32 × zM} (hc : zCx p s mi args meth c (wM D b) m0 RX10 cX10_rains 3 (some .int)) (hRm : R.frames = 5 ∧ R.locals = 113 ∧ R.cells = zc (wM D b) m0 fin.2 ∧ R.slots = zs (wM D b) m0 fin.2) : ∀ (zf : Nat) (v1 : Int32) (v2 : Int32) (u : zM), zJ eI p l e R s mi args below meth c (wM D b) m0 3 fin 13 [(0, .ref 1), (1, .int v1), (2, .int v2)] [] u (Mo_rains_13 zf v1 v2 u) := by
  intro zf
  induction zf with
  | zero => intro v1 v2 u; exact zJ.nil
  | succ zf ih => intro v1 v2 u; exact sMo_rains_13b hc hRm ih v1 v2 u
set_option maxRecDepth 100000 in
set_option maxHeartbeats 4000000 in
theorem sMo_rains : ∀ (u : zM) r m1, Mo_rains u = some (r, m1) → zMet l (wM D b) 5 113 yX10_rains cX10_rains 3 (some .int) [.ref 1] u (eI r) m1 := by
  intro u
  refine zMet.of (L := [(0, .ref 1)]) RX10 (by decide +kernel) rfl (Nat.le_of_ble_eq_true rfl) (fun h => by cases h) rfl (fun p e s mi args below meth c R fin hc hin hRm => ?_)
  unfold Mo_rains
  refine z_aload_n hc dX10_rains_0 0 rfl rfl ?_
  refine z_iconst (v := 0) hc dX10_rains_1 rfl ?_
  refine z_putI hc (ci := 10) (k := 0) (by decide) (by decide) zly10 lM1 (zkM lM1) wFX10_162 rfl rfl rfl rfl dX10_rains_2 ?_
  refine zJ.letM (fun u1 e1 => ?_)
  refine z_aload_n hc dX10_rains_5 0 rfl rfl ?_
  refine z_callV (av := []) (enc' := eV) hc rfl (sMo_laysRains _) (ci := 10) (by decide) lM1 (zkM lM1) rfl wMX10_506 hpyX10_laysRains hmyX10_laysRains (rm_ok hRm (Nat.le_of_ble_eq_true rfl) (Nat.le_of_ble_eq_true rfl)) (Nat.le_of_ble_eq_true rfl) hRm.2.2 dX10_rains_6 (fun c1 u2 f1 => ?_)
  refine z_iconst (v := 0) hc dX10_rains_9 rfl ?_
  refine z_istore_n (L' := [(1, .int 0), (0, .ref 1)]) hc dX10_rains_10 rfl (by decide) rfl rfl ?_
  refine z_iconst (v := 0) hc dX10_rains_11 rfl ?_
  refine z_istore_n (L' := [(2, .int 0), (1, .int 0), (0, .ref 1)]) hc dX10_rains_12 rfl (by decide) rfl rfl ?_
  refine zJ.sub (L' := [(0, .ref 1), (1, .int 0), (2, .int 0)]) [2, 1, 0] rfl ?_
  exact sMo_rains_13 hc hRm zF 0 0 _
set_option maxRecDepth 100000 in
set_option maxHeartbeats 4000000 in
theorem sMo_look_50b {fin : Int32 × zM} (hc : zCx p s mi args meth c (wM D b) m0 RX10 cX10_look 9 (some .int)) (hRm : R.frames = 6 ∧ R.locals = 135 ∧ R.cells = zc (wM D b) m0 fin.2 ∧ R.slots = zs (wM D b) m0 fin.2) {zr37 : Int32 → Int32 → Int32 → Int32 → Int32 → Int32 → zM → Option (Int32 × zM)} (hr37 : ∀ (v1 : Int32) (v2 : Int32) (v3 : Int32) (v4 : Int32) (v5 : Int32) (v6 : Int32) (u : zM), zJ eI p l e R s mi args below meth c (wM D b) m0 9 fin 37 [(0, .ref 1), (1, .int v1), (2, .int v2), (3, .int v3), (4, .int v4), (5, .int v5), (6, .int v6)] [] u (zr37 v1 v2 v3 v4 v5 v6 u)) {zr50 : Int32 → Int32 → Int32 → Int32 → Int32 → Int32 → Int32 → Int32 → zM → Option (Int32 × zM)} (hr50 : ∀ (v1 : Int32) (v2 : Int32) (v3 : Int32) (v4 : Int32) (v5 : Int32) (v6 : Int32) (v7 : Int32) (v8 : Int32) (u : zM), zJ eI p l e R s mi args below meth c (wM D b) m0 9 fin 50 [(0, .ref 1), (1, .int v1), (2, .int v2), (3, .int v3), (4, .int v4), (5, .int v5), (6, .int v6), (7, .int v7), (8, .int v8)] [] u (zr50 v1 v2 v3 v4 v5 v6 v7 v8 u)) (v1 : Int32) (v2 : Int32) (v3 : Int32) (v4 : Int32) (v5 : Int32) (v6 : Int32) (v7 : Int32) (v8 : Int32) (u : zM) : zJ eI p l e R s mi args below meth c (wM D b) m0 9 fin 50 [(0, .ref 1), (1, .int v1), (2, .int v2), (3, .int v3), (4, .int v4), (5, .int v5), (6, .int v6), (7, .int v7), (8, .int v8)] [] u (Mo_look_50b zr37 zr50 v1 v2 v3 v4 v5 v6 v7 v8 u) := by
  unfold Mo_look_50b
  refine z_iload hc dX10_look_50 8 rfl ?_
  refine z_bipush (v := 10) hc dX10_look_52 rfl ?_
  refine z_icmp_ge (tgt := 101) hc dX10_look_54 (by decide) _ (fun h1 => ?_) (fun h1 => ?_)
  · refine z_iload hc dX10_look_101 7 rfl ?_
    refine z_iload_n hc dX10_look_103 2 rfl rfl ?_
    refine z_iload hc dX10_look_104 7 rfl ?_
    refine z_isub hc dX10_look_106 ?_
    refine z_callS (av := [.int v7, .int (v2 - v7)]) (enc' := eI) hc rfl (sJm_max (w := wM D b) rfl v7 (v2 - v7) _) wMX10_475 hpyJ9_max_7cf53 hmyJ9_max_7cf53 (rm_ok hRm (Nat.le_of_ble_eq_true rfl) (Nat.le_of_ble_eq_true rfl)) (Nat.le_of_ble_eq_true rfl) hRm.2.2 dX10_look_107 (fun c1 u1 f1 => ?_)
    refine z_istore (L' := [(7, .int c1), (0, .ref 1), (1, .int v1), (2, .int v2), (3, .int v3), (4, .int v4), (5, .int v5), (6, .int v6), (8, .int v8)]) hc dX10_look_110 (by decide) rfl rfl ?_
    refine z_iload hc dX10_look_112 0 rfl ?_
    refine z_iload_n hc dX10_look_114 4 rfl rfl ?_
    refine z_icmp_lt (tgt := 121) hc dX10_look_115 (by decide) _ (fun h2 => ?_) (fun h2 => ?_)
    · refine z_iload hc dX10_look_121 0 rfl ?_
      refine z_istore_n (L' := [(3, .int c1), (7, .int c1), (0, .ref 1), (1, .int v1), (2, .int v2), (4, .int v4), (5, .int v5), (6, .int v6), (8, .int v8)]) hc dX10_look_123 rfl (by decide) rfl rfl ?_
      refine z_bipush (v := 10) hc dX10_look_124 rfl ?_
      refine z_iload hc dX10_look_126 6 rfl ?_
      refine z_imul hc dX10_look_128 ?_
      refine z_iload hc dX10_look_129 7 rfl ?_
      refine z_iadd hc dX10_look_131 ?_
      refine zJ.letI (fun x1 e1 => ?_)
      refine z_istore (L' := [(4, .int x1), (3, .int c1), (7, .int c1), (0, .ref 1), (1, .int v1), (2, .int v2), (5, .int v5), (6, .int v6), (8, .int v8)]) hc dX10_look_132 (by decide) rfl rfl ?_
      refine z_iinc (L' := [(6, .int (v6 + 1)), (4, .int x1), (3, .int c1), (7, .int c1), (0, .ref 1), (1, .int v1), (2, .int v2), (5, .int v5), (8, .int v8)]) hc dX10_look_134 7 rfl (v := (v6 + 1)) rfl (by decide) rfl rfl ?_
      refine z_goto (tgt := 37) hc dX10_look_137 (by decide) ?_
      refine zJ.sub (L' := [(0, .ref 1), (1, .int v1), (2, .int v2), (3, .int c1), (4, .int x1), (5, .int v5), (6, .int (v6 + 1))]) [4, 5, 6, 2, 1, 7, 0] rfl ?_
      exact hr37 v1 v2 c1 x1 v5 (v6 + 1) _
    · refine z_goto (tgt := 134) hc dX10_look_118 (by decide) ?_
      refine z_iinc (L' := [(6, .int (v6 + 1)), (7, .int c1), (0, .ref 1), (1, .int v1), (2, .int v2), (3, .int v3), (4, .int v4), (5, .int v5), (8, .int v8)]) hc dX10_look_134 7 rfl (v := (v6 + 1)) rfl (by decide) rfl rfl ?_
      refine z_goto (tgt := 37) hc dX10_look_137 (by decide) ?_
      refine zJ.sub (L' := [(0, .ref 1), (1, .int v1), (2, .int v2), (3, .int v3), (4, .int v4), (5, .int v5), (6, .int (v6 + 1))]) [2, 3, 4, 5, 6, 7, 0] rfl ?_
      exact hr37 v1 v2 v3 v4 v5 (v6 + 1) _
  · refine z_iload hc dX10_look_57 7 rfl ?_
    refine z_iload_n hc dX10_look_59 1 rfl rfl ?_
    refine z_iload hc dX10_look_60 8 rfl ?_
    refine z_ishr hc dX10_look_62 ?_
    refine z_iconst (v := 1) hc dX10_look_63 rfl ?_
    refine z_iand hc dX10_look_64 ?_
    refine z_iconst (v := 1) hc dX10_look_65 rfl ?_
    refine z_icmp_ne (tgt := 91) hc dX10_look_66 (by decide) _ (fun h3 => ?_) (fun h3 => ?_)
    · refine z_iconst (v := 0) hc dX10_look_91 rfl ?_
      refine z_iadd hc dX10_look_92 ?_
      refine zJ.letI (fun x2 e2 => ?_)
      refine z_istore (L' := [(7, .int x2), (0, .ref 1), (1, .int v1), (2, .int v2), (3, .int v3), (4, .int v4), (5, .int v5), (6, .int v6), (8, .int v8)]) hc dX10_look_93 (by decide) rfl rfl ?_
      refine z_iinc (L' := [(8, .int (v8 + 1)), (7, .int x2), (0, .ref 1), (1, .int v1), (2, .int v2), (3, .int v3), (4, .int v4), (5, .int v5), (6, .int v6)]) hc dX10_look_95 8 rfl (v := (v8 + 1)) rfl (by decide) rfl rfl ?_
      refine z_goto (tgt := 50) hc dX10_look_98 (by decide) ?_
      refine zJ.sub (L' := [(0, .ref 1), (1, .int v1), (2, .int v2), (3, .int v3), (4, .int v4), (5, .int v5), (6, .int v6), (7, .int x2), (8, .int (v8 + 1))]) [2, 3, 4, 5, 6, 7, 8, 1, 0] rfl ?_
      exact hr50 v1 v2 v3 v4 v5 v6 x2 (v8 + 1) _
    · refine z_aload_n hc dX10_look_69 0 rfl rfl ?_
      refine z_getR (x := 50) hc (ci := 10) (k := 65) (by decide) (by decide) zly10 lM1 (zkM lM1) wFX10_156 rfl dX10_look_70 rfl (by decide) ?_
      refine z_bipush (v := 7) hc dX10_look_73 rfl ?_
      refine z_iload hc dX10_look_75 8 rfl ?_
      refine z_imul hc dX10_look_77 ?_
      refine z_iload hc dX10_look_78 5 rfl ?_
      refine z_iadd hc dX10_look_80 ?_
      refine zJ.chk _ (fun h4 => ?_)
      refine z_iald (k := (ix ((7 * v8) + v5))) hc lM50 (zkM lM50) h4 rfl dX10_look_81 ?_
      refine z_iload hc dX10_look_82 6 rfl ?_
      refine z_icmp_lt (tgt := 91) hc dX10_look_84 (by decide) _ (fun h5 => ?_) (fun h5 => ?_)
      · refine z_iconst (v := 0) hc dX10_look_91 rfl ?_
        refine z_iadd hc dX10_look_92 ?_
        refine zJ.letI (fun x3 e3 => ?_)
        refine z_istore (L' := [(7, .int x3), (0, .ref 1), (1, .int v1), (2, .int v2), (3, .int v3), (4, .int v4), (5, .int v5), (6, .int v6), (8, .int v8)]) hc dX10_look_93 (by decide) rfl rfl ?_
        refine z_iinc (L' := [(8, .int (v8 + 1)), (7, .int x3), (0, .ref 1), (1, .int v1), (2, .int v2), (3, .int v3), (4, .int v4), (5, .int v5), (6, .int v6)]) hc dX10_look_95 8 rfl (v := (v8 + 1)) rfl (by decide) rfl rfl ?_
        refine z_goto (tgt := 50) hc dX10_look_98 (by decide) ?_
        refine zJ.sub (L' := [(0, .ref 1), (1, .int v1), (2, .int v2), (3, .int v3), (4, .int v4), (5, .int v5), (6, .int v6), (7, .int x3), (8, .int (v8 + 1))]) [2, 3, 4, 5, 6, 7, 8, 1, 0] rfl ?_
        exact hr50 v1 v2 v3 v4 v5 v6 x3 (v8 + 1) _
      · refine z_iconst (v := 1) hc dX10_look_87 rfl ?_
        refine z_goto (tgt := 92) hc dX10_look_88 (by decide) ?_
        refine z_iadd hc dX10_look_92 ?_
        refine zJ.letI (fun x4 e4 => ?_)
        refine z_istore (L' := [(7, .int x4), (0, .ref 1), (1, .int v1), (2, .int v2), (3, .int v3), (4, .int v4), (5, .int v5), (6, .int v6), (8, .int v8)]) hc dX10_look_93 (by decide) rfl rfl ?_
        refine z_iinc (L' := [(8, .int (v8 + 1)), (7, .int x4), (0, .ref 1), (1, .int v1), (2, .int v2), (3, .int v3), (4, .int v4), (5, .int v5), (6, .int v6)]) hc dX10_look_95 8 rfl (v := (v8 + 1)) rfl (by decide) rfl rfl ?_
        refine z_goto (tgt := 50) hc dX10_look_98 (by decide) ?_
        refine zJ.sub (L' := [(0, .ref 1), (1, .int v1), (2, .int v2), (3, .int v3), (4, .int v4), (5, .int v5), (6, .int v6), (7, .int x4), (8, .int (v8 + 1))]) [2, 3, 4, 5, 6, 7, 8, 1, 0] rfl ?_
        exact hr50 v1 v2 v3 v4 v5 v6 x4 (v8 + 1) _
set_option maxRecDepth 100000 in
set_option maxHeartbeats 4000000 in
theorem sMo_look_50 {fin : Int32 × zM} (hc : zCx p s mi args meth c (wM D b) m0 RX10 cX10_look 9 (some .int)) (hRm : R.frames = 6 ∧ R.locals = 135 ∧ R.cells = zc (wM D b) m0 fin.2 ∧ R.slots = zs (wM D b) m0 fin.2) {zr37 : Int32 → Int32 → Int32 → Int32 → Int32 → Int32 → zM → Option (Int32 × zM)} (hr37 : ∀ (v1 : Int32) (v2 : Int32) (v3 : Int32) (v4 : Int32) (v5 : Int32) (v6 : Int32) (u : zM), zJ eI p l e R s mi args below meth c (wM D b) m0 9 fin 37 [(0, .ref 1), (1, .int v1), (2, .int v2), (3, .int v3), (4, .int v4), (5, .int v5), (6, .int v6)] [] u (zr37 v1 v2 v3 v4 v5 v6 u)) : ∀ (zf : Nat) (v1 : Int32) (v2 : Int32) (v3 : Int32) (v4 : Int32) (v5 : Int32) (v6 : Int32) (v7 : Int32) (v8 : Int32) (u : zM), zJ eI p l e R s mi args below meth c (wM D b) m0 9 fin 50 [(0, .ref 1), (1, .int v1), (2, .int v2), (3, .int v3), (4, .int v4), (5, .int v5), (6, .int v6), (7, .int v7), (8, .int v8)] [] u (Mo_look_50 zf zr37 v1 v2 v3 v4 v5 v6 v7 v8 u) := by
  intro zf
  induction zf with
  | zero => intro v1 v2 v3 v4 v5 v6 v7 v8 u; exact zJ.nil
  | succ zf ih => intro v1 v2 v3 v4 v5 v6 v7 v8 u; exact sMo_look_50b hc hRm hr37 ih v1 v2 v3 v4 v5 v6 v7 v8 u
set_option maxRecDepth 100000 in
set_option maxHeartbeats 4000000 in
theorem sMo_look_37b {fin : Int32 × zM} (hc : zCx p s mi args meth c (wM D b) m0 RX10 cX10_look 9 (some .int)) (hRm : R.frames = 6 ∧ R.locals = 135 ∧ R.cells = zc (wM D b) m0 fin.2 ∧ R.slots = zs (wM D b) m0 fin.2) {zr23 : Int32 → Int32 → Int32 → Int32 → Int32 → zM → Option (Int32 × zM)} (hr23 : ∀ (v1 : Int32) (v2 : Int32) (v3 : Int32) (v4 : Int32) (v5 : Int32) (u : zM), zJ eI p l e R s mi args below meth c (wM D b) m0 9 fin 23 [(0, .ref 1), (1, .int v1), (2, .int v2), (3, .int v3), (4, .int v4), (5, .int v5)] [] u (zr23 v1 v2 v3 v4 v5 u)) {zr37 : Int32 → Int32 → Int32 → Int32 → Int32 → Int32 → zM → Option (Int32 × zM)} (hr37 : ∀ (v1 : Int32) (v2 : Int32) (v3 : Int32) (v4 : Int32) (v5 : Int32) (v6 : Int32) (u : zM), zJ eI p l e R s mi args below meth c (wM D b) m0 9 fin 37 [(0, .ref 1), (1, .int v1), (2, .int v2), (3, .int v3), (4, .int v4), (5, .int v5), (6, .int v6)] [] u (zr37 v1 v2 v3 v4 v5 v6 u)) (v1 : Int32) (v2 : Int32) (v3 : Int32) (v4 : Int32) (v5 : Int32) (v6 : Int32) (u : zM) : zJ eI p l e R s mi args below meth c (wM D b) m0 9 fin 37 [(0, .ref 1), (1, .int v1), (2, .int v2), (3, .int v3), (4, .int v4), (5, .int v5), (6, .int v6)] [] u (Mo_look_37b zr23 zr37 v1 v2 v3 v4 v5 v6 u) := by
  unfold Mo_look_37b
  refine z_iload hc dX10_look_37 6 rfl ?_
  refine z_bipush (v := 10) hc dX10_look_39 rfl ?_
  refine z_icmp_ge (tgt := 140) hc dX10_look_41 (by decide) _ (fun h1 => ?_) (fun h1 => ?_)
  · refine z_iinc (L' := [(5, .int (v5 + 1)), (0, .ref 1), (1, .int v1), (2, .int v2), (3, .int v3), (4, .int v4), (6, .int v6)]) hc dX10_look_140 5 rfl (v := (v5 + 1)) rfl (by decide) rfl rfl ?_
    refine z_goto (tgt := 23) hc dX10_look_143 (by decide) ?_
    refine zJ.sub (L' := [(0, .ref 1), (1, .int v1), (2, .int v2), (3, .int v3), (4, .int v4), (5, .int (v5 + 1))]) [1, 2, 3, 4, 5, 0] rfl ?_
    exact hr23 v1 v2 v3 v4 (v5 + 1) _
  · refine z_iconst (v := 0) hc dX10_look_44 rfl ?_
    refine z_istore (L' := [(7, .int 0), (0, .ref 1), (1, .int v1), (2, .int v2), (3, .int v3), (4, .int v4), (5, .int v5), (6, .int v6)]) hc dX10_look_45 (by decide) rfl rfl ?_
    refine z_iconst (v := 0) hc dX10_look_47 rfl ?_
    refine z_istore (L' := [(8, .int 0), (7, .int 0), (0, .ref 1), (1, .int v1), (2, .int v2), (3, .int v3), (4, .int v4), (5, .int v5), (6, .int v6)]) hc dX10_look_48 (by decide) rfl rfl ?_
    refine zJ.sub (L' := [(0, .ref 1), (1, .int v1), (2, .int v2), (3, .int v3), (4, .int v4), (5, .int v5), (6, .int v6), (7, .int 0), (8, .int 0)]) [2, 3, 4, 5, 6, 7, 8, 1, 0] rfl ?_
    exact sMo_look_50 hc hRm hr37 zF v1 v2 v3 v4 v5 v6 0 0 _
set_option maxRecDepth 100000 in
set_option maxHeartbeats 4000000 in
theorem sMo_look_37 {fin : Int32 × zM} (hc : zCx p s mi args meth c (wM D b) m0 RX10 cX10_look 9 (some .int)) (hRm : R.frames = 6 ∧ R.locals = 135 ∧ R.cells = zc (wM D b) m0 fin.2 ∧ R.slots = zs (wM D b) m0 fin.2) {zr23 : Int32 → Int32 → Int32 → Int32 → Int32 → zM → Option (Int32 × zM)} (hr23 : ∀ (v1 : Int32) (v2 : Int32) (v3 : Int32) (v4 : Int32) (v5 : Int32) (u : zM), zJ eI p l e R s mi args below meth c (wM D b) m0 9 fin 23 [(0, .ref 1), (1, .int v1), (2, .int v2), (3, .int v3), (4, .int v4), (5, .int v5)] [] u (zr23 v1 v2 v3 v4 v5 u)) : ∀ (zf : Nat) (v1 : Int32) (v2 : Int32) (v3 : Int32) (v4 : Int32) (v5 : Int32) (v6 : Int32) (u : zM), zJ eI p l e R s mi args below meth c (wM D b) m0 9 fin 37 [(0, .ref 1), (1, .int v1), (2, .int v2), (3, .int v3), (4, .int v4), (5, .int v5), (6, .int v6)] [] u (Mo_look_37 zf zr23 v1 v2 v3 v4 v5 v6 u) := by
  intro zf
  induction zf with
  | zero => intro v1 v2 v3 v4 v5 v6 u; exact zJ.nil
  | succ zf ih => intro v1 v2 v3 v4 v5 v6 u; exact sMo_look_37b hc hRm hr23 ih v1 v2 v3 v4 v5 v6 u
set_option maxRecDepth 100000 in
set_option maxHeartbeats 4000000 in
theorem sMo_look_23b {fin : Int32 × zM} (hc : zCx p s mi args meth c (wM D b) m0 RX10 cX10_look 9 (some .int)) (hRm : R.frames = 6 ∧ R.locals = 135 ∧ R.cells = zc (wM D b) m0 fin.2 ∧ R.slots = zs (wM D b) m0 fin.2) {zr23 : Int32 → Int32 → Int32 → Int32 → Int32 → zM → Option (Int32 × zM)} (hr23 : ∀ (v1 : Int32) (v2 : Int32) (v3 : Int32) (v4 : Int32) (v5 : Int32) (u : zM), zJ eI p l e R s mi args below meth c (wM D b) m0 9 fin 23 [(0, .ref 1), (1, .int v1), (2, .int v2), (3, .int v3), (4, .int v4), (5, .int v5)] [] u (zr23 v1 v2 v3 v4 v5 u)) (v1 : Int32) (v2 : Int32) (v3 : Int32) (v4 : Int32) (v5 : Int32) (u : zM) : zJ eI p l e R s mi args below meth c (wM D b) m0 9 fin 23 [(0, .ref 1), (1, .int v1), (2, .int v2), (3, .int v3), (4, .int v4), (5, .int v5)] [] u (Mo_look_23b zr23 v1 v2 v3 v4 v5 u) := by
  unfold Mo_look_23b
  refine z_iload hc dX10_look_23 5 rfl ?_
  refine z_aload_n hc dX10_look_25 0 rfl rfl ?_
  refine z_getR (x := 3) hc (ci := 10) (k := 10) (by decide) (by decide) zly10 lM1 (zkM lM1) wFX10_13 rfl dX10_look_26 rfl (by decide) ?_
  refine z_iconst (v := 0) hc dX10_look_29 rfl ?_
  refine z_iald (k := 0) hc lM3 (zkM lM3) rfl rfl dX10_look_30 ?_
  refine z_icmp_ge (tgt := 146) hc dX10_look_31 (by decide) _ (fun h1 => ?_) (fun h1 => ?_)
  · refine z_iload hc dX10_look_146 4 rfl ?_
    exact z_iret hc dX10_look_148
  · refine z_iconst (v := 1) hc dX10_look_34 rfl ?_
    refine z_istore (L' := [(6, .int 1), (0, .ref 1), (1, .int v1), (2, .int v2), (3, .int v3), (4, .int v4), (5, .int v5)]) hc dX10_look_35 (by decide) rfl rfl ?_
    refine zJ.sub (L' := [(0, .ref 1), (1, .int v1), (2, .int v2), (3, .int v3), (4, .int v4), (5, .int v5), (6, .int 1)]) [1, 2, 3, 4, 5, 6, 0] rfl ?_
    exact sMo_look_37 hc hRm hr23 zF v1 v2 v3 v4 v5 1 _
set_option maxRecDepth 100000 in
set_option maxHeartbeats 4000000 in
theorem sMo_look_23 {fin : Int32 × zM} (hc : zCx p s mi args meth c (wM D b) m0 RX10 cX10_look 9 (some .int)) (hRm : R.frames = 6 ∧ R.locals = 135 ∧ R.cells = zc (wM D b) m0 fin.2 ∧ R.slots = zs (wM D b) m0 fin.2) : ∀ (zf : Nat) (v1 : Int32) (v2 : Int32) (v3 : Int32) (v4 : Int32) (v5 : Int32) (u : zM), zJ eI p l e R s mi args below meth c (wM D b) m0 9 fin 23 [(0, .ref 1), (1, .int v1), (2, .int v2), (3, .int v3), (4, .int v4), (5, .int v5)] [] u (Mo_look_23 zf v1 v2 v3 v4 v5 u) := by
  intro zf
  induction zf with
  | zero => intro v1 v2 v3 v4 v5 u; exact zJ.nil
  | succ zf ih => intro v1 v2 v3 v4 v5 u; exact sMo_look_23b hc hRm ih v1 v2 v3 v4 v5 u
set_option maxRecDepth 100000 in
set_option maxHeartbeats 4000000 in
theorem sMo_look : ∀ (u : zM) r m1, Mo_look u = some (r, m1) → zMet l (wM D b) 6 135 yX10_look cX10_look 9 (some .int) [.ref 1] u (eI r) m1 := by
  intro u
  refine zMet.of (L := [(0, .ref 1)]) RX10 (by decide +kernel) rfl (Nat.le_of_ble_eq_true rfl) (fun h => by cases h) rfl (fun p e s mi args below meth c R fin hc hin hRm => ?_)
  unfold Mo_look
  refine z_aload_n hc dX10_look_0 0 rfl rfl ?_
  refine z_iconst (v := 0) hc dX10_look_1 rfl ?_
  refine z_putI hc (ci := 10) (k := 0) (by decide) (by decide) zly10 lM1 (zkM lM1) wFX10_162 rfl rfl rfl rfl dX10_look_2 ?_
  refine zJ.letM (fun u1 e1 => ?_)
  refine z_aload_n hc dX10_look_5 0 rfl rfl ?_
  refine z_callV (av := []) (enc' := eI) hc rfl (sMo_rains _) (ci := 10) (by decide) lM1 (zkM lM1) rfl wMX10_512 hpyX10_rains hmyX10_rains (rm_ok hRm (Nat.le_of_ble_eq_true rfl) (Nat.le_of_ble_eq_true rfl)) (Nat.le_of_ble_eq_true rfl) hRm.2.2 dX10_look_6 (fun c1 u2 f1 => ?_)
  refine z_istore_n (L' := [(1, .int c1), (0, .ref 1)]) hc dX10_look_9 rfl (by decide) rfl rfl ?_
  refine z_iload_n hc dX10_look_10 0 rfl rfl ?_
  refine z_callS (av := [.int c1]) (enc' := eI) hc rfl (sMo_bits c1 _) wMX10_393 hpyX10_bits hmyX10_bits (rm_ok hRm (Nat.le_of_ble_eq_true rfl) (Nat.le_of_ble_eq_true rfl)) (Nat.le_of_ble_eq_true rfl) hRm.2.2 dX10_look_11 (fun c2 u3 f2 => ?_)
  refine z_istore_n (L' := [(2, .int c2), (1, .int c1), (0, .ref 1)]) hc dX10_look_14 rfl (by decide) rfl rfl ?_
  refine z_iload_n hc dX10_look_15 0 rfl rfl ?_
  refine z_istore_n (L' := [(3, .int c2), (2, .int c2), (1, .int c1), (0, .ref 1)]) hc dX10_look_16 rfl (by decide) rfl rfl ?_
  refine z_iconst (v := (-1)) hc dX10_look_17 rfl ?_
  refine z_istore (L' := [(4, .int (-1)), (3, .int c2), (2, .int c2), (1, .int c1), (0, .ref 1)]) hc dX10_look_18 (by decide) rfl rfl ?_
  refine z_iconst (v := 0) hc dX10_look_20 rfl ?_
  refine z_istore (L' := [(5, .int 0), (4, .int (-1)), (3, .int c2), (2, .int c2), (1, .int c1), (0, .ref 1)]) hc dX10_look_21 (by decide) rfl rfl ?_
  refine zJ.sub (L' := [(0, .ref 1), (1, .int c1), (2, .int c2), (3, .int c2), (4, .int (-1)), (5, .int 0)]) [5, 4, 3, 2, 1, 0] rfl ?_
  exact sMo_look_23 hc hRm zF c1 c2 c2 (-1) 0 _
set_option maxRecDepth 100000 in
set_option maxHeartbeats 4000000 in
theorem sMo_chance_135 {fin : Int32 × zM} (hc : zCx p s mi args meth c (wM D b) m0 RX10 cX10_chance 13 (some .int)) (hRm : R.frames = 5 ∧ R.locals = 113 ∧ R.cells = zc (wM D b) m0 fin.2 ∧ R.slots = zs (wM D b) m0 fin.2) {zr94 : Int32 → Int32 → Int32 → Int64 → Int64 → Int32 → Int64 → Int32 → zM → Option (Int32 × zM)} (hr94 : ∀ (v1 : Int32) (v2 : Int32) (v3 : Int32) (v4 : Int64) (v6 : Int64) (v8 : Int32) (v9 : Int64) (v11 : Int32) (u : zM), zJ eI p l e R s mi args below meth c (wM D b) m0 13 fin 94 [(0, .ref 1), (1, .int v1), (2, .int v2), (3, .int v3), (4, .long v4), (6, .long v6), (8, .int v8), (9, .long v9), (11, .int v11)] [] u (zr94 v1 v2 v3 v4 v6 v8 v9 v11 u)) (v1 : Int32) (v2 : Int32) (v3 : Int32) (v4 : Int64) (v6 : Int64) (v8 : Int32) (v11 : Int32) (v12 : Int32) (s0 : Int64) (s1 : Int64) (u : zM) : zJ eI p l e R s mi args below meth c (wM D b) m0 13 fin 135 [(0, .ref 1), (1, .int v1), (2, .int v2), (3, .int v3), (4, .long v4), (6, .long v6), (8, .int v8), (11, .int v11), (12, .int v12)] [.long s1, .long s0] u (Mo_chance_135 zr94 v1 v2 v3 v4 v6 v8 v11 v12 s0 s1 u) := by
  unfold Mo_chance_135
  refine z_lmul hc dX10_chance_135 ?_
  refine zJ.letL (fun x1 e1 => ?_)
  refine z_lstore (L' := [(9, .long x1), (0, .ref 1), (1, .int v1), (2, .int v2), (3, .int v3), (4, .long v4), (6, .long v6), (8, .int v8), (11, .int v11), (12, .int v12)]) hc dX10_chance_136 (by decide) rfl rfl ?_
  refine z_aload_n hc dX10_chance_138 1 rfl rfl ?_
  refine z_iload hc dX10_chance_139 9 rfl ?_
  refine z_if_eq (tgt := 149) hc dX10_chance_141 (by decide) _ (fun h1 => ?_) (fun h1 => ?_)
  · refine z_iconst (v := 0) hc dX10_chance_149 rfl ?_
    refine z_callV (av := [.int 0]) (enc' := eV) hc rfl (sMo_passes 0 _) (ci := 10) (by decide) lM1 (zkM lM1) rfl wMX10_413 hpyX10_passes hmyX10_passes (rm_ok hRm (Nat.le_of_ble_eq_true rfl) (Nat.le_of_ble_eq_true rfl)) (Nat.le_of_ble_eq_true rfl) hRm.2.2 dX10_chance_150 (fun c1 u1 f1 => ?_)
    refine z_iinc (L' := [(11, .int (v11 + 1)), (9, .long x1), (0, .ref 1), (1, .int v1), (2, .int v2), (3, .int v3), (4, .long v4), (6, .long v6), (8, .int v8), (12, .int v12)]) hc dX10_chance_153 8 rfl (v := (v11 + 1)) rfl (by decide) rfl rfl ?_
    refine z_goto (tgt := 94) hc dX10_chance_156 (by decide) ?_
    refine zJ.sub (L' := [(0, .ref 1), (1, .int v1), (2, .int v2), (3, .int v3), (4, .long v4), (6, .long v6), (8, .int v8), (9, .long x1), (11, .int (v11 + 1))]) [2, 3, 4, 5, 6, 7, 8, 1, 0] rfl ?_
    exact hr94 v1 v2 v3 v4 v6 v8 x1 (v11 + 1) _
  · refine z_bipush (v := 9) hc dX10_chance_144 rfl ?_
    refine z_goto (tgt := 150) hc dX10_chance_146 (by decide) ?_
    refine z_callV (av := [.int 9]) (enc' := eV) hc rfl (sMo_passes 9 _) (ci := 10) (by decide) lM1 (zkM lM1) rfl wMX10_413 hpyX10_passes hmyX10_passes (rm_ok hRm (Nat.le_of_ble_eq_true rfl) (Nat.le_of_ble_eq_true rfl)) (Nat.le_of_ble_eq_true rfl) hRm.2.2 dX10_chance_150 (fun c2 u2 f2 => ?_)
    refine z_iinc (L' := [(11, .int (v11 + 1)), (9, .long x1), (0, .ref 1), (1, .int v1), (2, .int v2), (3, .int v3), (4, .long v4), (6, .long v6), (8, .int v8), (12, .int v12)]) hc dX10_chance_153 8 rfl (v := (v11 + 1)) rfl (by decide) rfl rfl ?_
    refine z_goto (tgt := 94) hc dX10_chance_156 (by decide) ?_
    refine zJ.sub (L' := [(0, .ref 1), (1, .int v1), (2, .int v2), (3, .int v3), (4, .long v4), (6, .long v6), (8, .int v8), (9, .long x1), (11, .int (v11 + 1))]) [2, 3, 4, 5, 6, 7, 8, 1, 0] rfl ?_
    exact hr94 v1 v2 v3 v4 v6 v8 x1 (v11 + 1) _
set_option maxRecDepth 100000 in
set_option maxHeartbeats 4000000 in
theorem sMo_chance_116 {fin : Int32 × zM} (hc : zCx p s mi args meth c (wM D b) m0 RX10 cX10_chance 13 (some .int)) (hRm : R.frames = 5 ∧ R.locals = 113 ∧ R.cells = zc (wM D b) m0 fin.2 ∧ R.slots = zs (wM D b) m0 fin.2) {zr94 : Int32 → Int32 → Int32 → Int64 → Int64 → Int32 → Int64 → Int32 → zM → Option (Int32 × zM)} (hr94 : ∀ (v1 : Int32) (v2 : Int32) (v3 : Int32) (v4 : Int64) (v6 : Int64) (v8 : Int32) (v9 : Int64) (v11 : Int32) (u : zM), zJ eI p l e R s mi args below meth c (wM D b) m0 13 fin 94 [(0, .ref 1), (1, .int v1), (2, .int v2), (3, .int v3), (4, .long v4), (6, .long v6), (8, .int v8), (9, .long v9), (11, .int v11)] [] u (zr94 v1 v2 v3 v4 v6 v8 v9 v11 u)) (v1 : Int32) (v2 : Int32) (v3 : Int32) (v4 : Int64) (v6 : Int64) (v8 : Int32) (v9 : Int64) (v11 : Int32) (s0 : Int32) (u : zM) : zJ eI p l e R s mi args below meth c (wM D b) m0 13 fin 116 [(0, .ref 1), (1, .int v1), (2, .int v2), (3, .int v3), (4, .long v4), (6, .long v6), (8, .int v8), (9, .long v9), (11, .int v11)] [.int s0] u (Mo_chance_116 zr94 v1 v2 v3 v4 v6 v8 v9 v11 s0 u) := by
  unfold Mo_chance_116
  refine z_istore (L' := [(12, .int s0), (0, .ref 1), (1, .int v1), (2, .int v2), (3, .int v3), (4, .long v4), (6, .long v6), (8, .int v8), (9, .long v9), (11, .int v11)]) hc dX10_chance_116 (by decide) rfl rfl ?_
  refine z_lload hc dX10_chance_118 8 rfl ?_
  refine z_iload hc dX10_chance_120 0 rfl ?_
  refine z_if_eq (tgt := 130) hc dX10_chance_122 (by decide) _ (fun h1 => ?_) (fun h1 => ?_)
  · refine z_bipush (v := 10) hc dX10_chance_130 rfl ?_
    refine z_iload_n hc dX10_chance_132 4 rfl rfl ?_
    refine z_isub hc dX10_chance_133 ?_
    refine z_i2l hc dX10_chance_134 ?_
    refine zJ.sub (L' := [(0, .ref 1), (1, .int v1), (2, .int v2), (3, .int v3), (4, .long v4), (6, .long v6), (8, .int v8), (11, .int v11), (12, .int s0)]) [1, 2, 3, 4, 5, 6, 7, 9, 0] rfl ?_
    exact sMo_chance_135 hc hRm hr94 v1 v2 v3 v4 v6 v8 v11 s0 v9 (Int32.toInt64 (10 - v3)) _
  · refine z_iload_n hc dX10_chance_125 4 rfl rfl ?_
    refine z_i2l hc dX10_chance_126 ?_
    refine z_goto (tgt := 135) hc dX10_chance_127 (by decide) ?_
    refine zJ.sub (L' := [(0, .ref 1), (1, .int v1), (2, .int v2), (3, .int v3), (4, .long v4), (6, .long v6), (8, .int v8), (11, .int v11), (12, .int s0)]) [1, 2, 3, 4, 5, 6, 7, 9, 0] rfl ?_
    exact sMo_chance_135 hc hRm hr94 v1 v2 v3 v4 v6 v8 v11 s0 v9 (Int32.toInt64 v3) _
set_option maxRecDepth 100000 in
set_option maxHeartbeats 4000000 in
theorem sMo_chance_94b {fin : Int32 × zM} (hc : zCx p s mi args meth c (wM D b) m0 RX10 cX10_chance 13 (some .int)) (hRm : R.frames = 5 ∧ R.locals = 113 ∧ R.cells = zc (wM D b) m0 fin.2 ∧ R.slots = zs (wM D b) m0 fin.2) {zr80 : Int32 → Int32 → Int32 → Int64 → Int64 → Int32 → zM → Option (Int32 × zM)} (hr80 : ∀ (v1 : Int32) (v2 : Int32) (v3 : Int32) (v4 : Int64) (v6 : Int64) (v8 : Int32) (u : zM), zJ eI p l e R s mi args below meth c (wM D b) m0 13 fin 80 [(0, .ref 1), (1, .int v1), (2, .int v2), (3, .int v3), (4, .long v4), (6, .long v6), (8, .int v8)] [] u (zr80 v1 v2 v3 v4 v6 v8 u)) {zr94 : Int32 → Int32 → Int32 → Int64 → Int64 → Int32 → Int64 → Int32 → zM → Option (Int32 × zM)} (hr94 : ∀ (v1 : Int32) (v2 : Int32) (v3 : Int32) (v4 : Int64) (v6 : Int64) (v8 : Int32) (v9 : Int64) (v11 : Int32) (u : zM), zJ eI p l e R s mi args below meth c (wM D b) m0 13 fin 94 [(0, .ref 1), (1, .int v1), (2, .int v2), (3, .int v3), (4, .long v4), (6, .long v6), (8, .int v8), (9, .long v9), (11, .int v11)] [] u (zr94 v1 v2 v3 v4 v6 v8 v9 v11 u)) (v1 : Int32) (v2 : Int32) (v3 : Int32) (v4 : Int64) (v6 : Int64) (v8 : Int32) (v9 : Int64) (v11 : Int32) (u : zM) : zJ eI p l e R s mi args below meth c (wM D b) m0 13 fin 94 [(0, .ref 1), (1, .int v1), (2, .int v2), (3, .int v3), (4, .long v4), (6, .long v6), (8, .int v8), (9, .long v9), (11, .int v11)] [] u (Mo_chance_94b zr80 zr94 v1 v2 v3 v4 v6 v8 v9 v11 u) := by
  unfold Mo_chance_94b
  refine z_iload hc dX10_chance_94 8 rfl ?_
  refine z_iload_n hc dX10_chance_96 2 rfl rfl ?_
  refine z_icmp_ge (tgt := 159) hc dX10_chance_97 (by decide) _ (fun h1 => ?_) (fun h1 => ?_)
  · refine z_aload_n hc dX10_chance_159 0 rfl rfl ?_
    refine z_getR (x := 40) hc (ci := 10) (k := 50) (by decide) (by decide) zly10 lM1 (zkM lM1) wFX10_126 rfl dX10_chance_160 rfl (by decide) ?_
    refine z_iconst (v := 1) hc dX10_chance_163 rfl ?_
    refine z_iload_n hc dX10_chance_164 1 rfl rfl ?_
    refine z_iadd hc dX10_chance_165 ?_
    refine zJ.chk _ (fun h2 => ?_)
    refine z_iald (k := (ix (1 + v1))) hc lM40 (zkM lM40) h2 rfl dX10_chance_166 ?_
    refine z_if_le (tgt := 177) hc dX10_chance_167 (by decide) _ (fun h3 => ?_) (fun h3 => ?_)
    · refine z_aload_n hc dX10_chance_177 0 rfl rfl ?_
      refine z_getR (x := 42) hc (ci := 10) (k := 52) (by decide) (by decide) zly10 lM1 (zkM lM1) wFX10_132 rfl dX10_chance_178 rfl (by decide) ?_
      refine z_iconst (v := 0) hc dX10_chance_181 rfl ?_
      refine z_aload_n hc dX10_chance_182 0 rfl rfl ?_
      refine z_getR (x := 40) hc (ci := 10) (k := 50) (by decide) (by decide) zly10 lM1 (zkM lM1) wFX10_126 rfl dX10_chance_183 rfl (by decide) ?_
      refine z_iconst (v := 0) hc dX10_chance_186 rfl ?_
      refine z_callS (av := [.ref 42, .int 0, .ref 40, .int 0]) (enc' := eV) hc rfl (sMo_copies 42 0 40 0 _) wMX10_434 hpyX10_copies hmyX10_copies (rm_ok hRm (Nat.le_of_ble_eq_true rfl) (Nat.le_of_ble_eq_true rfl)) (Nat.le_of_ble_eq_true rfl) hRm.2.2 dX10_chance_187 (fun c1 u1 f1 => ?_)
      refine z_iinc (L' := [(8, .int (v8 + 1)), (0, .ref 1), (1, .int v1), (2, .int v2), (3, .int v3), (4, .long v4), (6, .long v6), (9, .long v9), (11, .int v11)]) hc dX10_chance_190 6 rfl (v := (v8 + 1)) rfl (by decide) rfl rfl ?_
      refine z_goto (tgt := 80) hc dX10_chance_193 (by decide) ?_
      refine zJ.sub (L' := [(0, .ref 1), (1, .int v1), (2, .int v2), (3, .int v3), (4, .long v4), (6, .long v6), (8, .int (v8 + 1))]) [1, 2, 3, 4, 5, 6, 0] rfl ?_
      exact hr80 v1 v2 v3 v4 v6 (v8 + 1) _
    · refine z_lload hc dX10_chance_170 4 rfl ?_
      refine z_lload hc dX10_chance_172 7 rfl ?_
      refine z_ladd hc dX10_chance_174 ?_
      refine zJ.letL (fun x1 e1 => ?_)
      refine z_lstore (L' := [(4, .long x1), (0, .ref 1), (1, .int v1), (2, .int v2), (3, .int v3), (6, .long v6), (8, .int v8), (9, .long v9), (11, .int v11)]) hc dX10_chance_175 (by decide) rfl rfl ?_
      refine z_aload_n hc dX10_chance_177 1 rfl rfl ?_
      refine z_getR (x := 42) hc (ci := 10) (k := 52) (by decide) (by decide) zly10 lM1 (zkM lM1) wFX10_132 rfl dX10_chance_178 rfl (by decide) ?_
      refine z_iconst (v := 0) hc dX10_chance_181 rfl ?_
      refine z_aload_n hc dX10_chance_182 1 rfl rfl ?_
      refine z_getR (x := 40) hc (ci := 10) (k := 50) (by decide) (by decide) zly10 lM1 (zkM lM1) wFX10_126 rfl dX10_chance_183 rfl (by decide) ?_
      refine z_iconst (v := 0) hc dX10_chance_186 rfl ?_
      refine z_callS (av := [.ref 42, .int 0, .ref 40, .int 0]) (enc' := eV) hc rfl (sMo_copies 42 0 40 0 _) wMX10_434 hpyX10_copies hmyX10_copies (rm_ok hRm (Nat.le_of_ble_eq_true rfl) (Nat.le_of_ble_eq_true rfl)) (Nat.le_of_ble_eq_true rfl) hRm.2.2 dX10_chance_187 (fun c2 u2 f2 => ?_)
      refine z_iinc (L' := [(8, .int (v8 + 1)), (4, .long x1), (0, .ref 1), (1, .int v1), (2, .int v2), (3, .int v3), (6, .long v6), (9, .long v9), (11, .int v11)]) hc dX10_chance_190 6 rfl (v := (v8 + 1)) rfl (by decide) rfl rfl ?_
      refine z_goto (tgt := 80) hc dX10_chance_193 (by decide) ?_
      refine zJ.sub (L' := [(0, .ref 1), (1, .int v1), (2, .int v2), (3, .int v3), (4, .long x1), (6, .long v6), (8, .int (v8 + 1))]) [2, 3, 4, 5, 1, 6, 0] rfl ?_
      exact hr80 v1 v2 v3 x1 v6 (v8 + 1) _
  · refine z_iload hc dX10_chance_100 6 rfl ?_
    refine z_iload hc dX10_chance_102 8 rfl ?_
    refine z_ishr hc dX10_chance_104 ?_
    refine z_iconst (v := 1) hc dX10_chance_105 rfl ?_
    refine z_iand hc dX10_chance_106 ?_
    refine z_iconst (v := 1) hc dX10_chance_107 rfl ?_
    refine z_icmp_ne (tgt := 115) hc dX10_chance_108 (by decide) _ (fun h4 => ?_) (fun h4 => ?_)
    · refine z_iconst (v := 0) hc dX10_chance_115 rfl ?_
      exact sMo_chance_116 hc hRm hr94 v1 v2 v3 v4 v6 v8 v9 v11 0 _
    · refine z_iconst (v := 1) hc dX10_chance_111 rfl ?_
      refine z_goto (tgt := 116) hc dX10_chance_112 (by decide) ?_
      exact sMo_chance_116 hc hRm hr94 v1 v2 v3 v4 v6 v8 v9 v11 1 _
set_option maxRecDepth 100000 in
set_option maxHeartbeats 4000000 in
theorem sMo_chance_94 {fin : Int32 × zM} (hc : zCx p s mi args meth c (wM D b) m0 RX10 cX10_chance 13 (some .int)) (hRm : R.frames = 5 ∧ R.locals = 113 ∧ R.cells = zc (wM D b) m0 fin.2 ∧ R.slots = zs (wM D b) m0 fin.2) {zr80 : Int32 → Int32 → Int32 → Int64 → Int64 → Int32 → zM → Option (Int32 × zM)} (hr80 : ∀ (v1 : Int32) (v2 : Int32) (v3 : Int32) (v4 : Int64) (v6 : Int64) (v8 : Int32) (u : zM), zJ eI p l e R s mi args below meth c (wM D b) m0 13 fin 80 [(0, .ref 1), (1, .int v1), (2, .int v2), (3, .int v3), (4, .long v4), (6, .long v6), (8, .int v8)] [] u (zr80 v1 v2 v3 v4 v6 v8 u)) : ∀ (zf : Nat) (v1 : Int32) (v2 : Int32) (v3 : Int32) (v4 : Int64) (v6 : Int64) (v8 : Int32) (v9 : Int64) (v11 : Int32) (u : zM), zJ eI p l e R s mi args below meth c (wM D b) m0 13 fin 94 [(0, .ref 1), (1, .int v1), (2, .int v2), (3, .int v3), (4, .long v4), (6, .long v6), (8, .int v8), (9, .long v9), (11, .int v11)] [] u (Mo_chance_94 zf zr80 v1 v2 v3 v4 v6 v8 v9 v11 u) := by
  intro zf
  induction zf with
  | zero => intro v1 v2 v3 v4 v6 v8 v9 v11 u; exact zJ.nil
  | succ zf ih => intro v1 v2 v3 v4 v6 v8 v9 v11 u; exact sMo_chance_94b hc hRm hr80 ih v1 v2 v3 v4 v6 v8 v9 v11 u
set_option maxRecDepth 100000 in
set_option maxHeartbeats 4000000 in
theorem sMo_chance_80b {fin : Int32 × zM} (hc : zCx p s mi args meth c (wM D b) m0 RX10 cX10_chance 13 (some .int)) (hRm : R.frames = 5 ∧ R.locals = 113 ∧ R.cells = zc (wM D b) m0 fin.2 ∧ R.slots = zs (wM D b) m0 fin.2) {zr80 : Int32 → Int32 → Int32 → Int64 → Int64 → Int32 → zM → Option (Int32 × zM)} (hr80 : ∀ (v1 : Int32) (v2 : Int32) (v3 : Int32) (v4 : Int64) (v6 : Int64) (v8 : Int32) (u : zM), zJ eI p l e R s mi args below meth c (wM D b) m0 13 fin 80 [(0, .ref 1), (1, .int v1), (2, .int v2), (3, .int v3), (4, .long v4), (6, .long v6), (8, .int v8)] [] u (zr80 v1 v2 v3 v4 v6 v8 u)) (v1 : Int32) (v2 : Int32) (v3 : Int32) (v4 : Int64) (v6 : Int64) (v8 : Int32) (u : zM) : zJ eI p l e R s mi args below meth c (wM D b) m0 13 fin 80 [(0, .ref 1), (1, .int v1), (2, .int v2), (3, .int v3), (4, .long v4), (6, .long v6), (8, .int v8)] [] u (Mo_chance_80b zr80 v1 v2 v3 v4 v6 v8 u) := by
  unfold Mo_chance_80b
  refine z_iload hc dX10_chance_80 6 rfl ?_
  refine z_iconst (v := 1) hc dX10_chance_82 rfl ?_
  refine z_iload_n hc dX10_chance_83 2 rfl rfl ?_
  refine z_ishl hc dX10_chance_84 ?_
  refine z_icmp_ge (tgt := 196) hc dX10_chance_85 (by decide) _ (fun h1 => ?_) (fun h1 => ?_)
  · refine z_lload hc dX10_chance_196 4 rfl ?_
    refine z_ldc2 (v := 1000000) hc wKX10_517 dX10_chance_198 ?_
    refine z_lmul hc dX10_chance_201 ?_
    refine z_lload hc dX10_chance_202 5 rfl ?_
    refine zJ.cut _ (fun _ => zJ.nil) (fun h2 => ?_)
    refine z_ldiv hc h2 dX10_chance_204 ?_
    refine z_l2i hc dX10_chance_205 ?_
    exact z_iret hc dX10_chance_206
  · refine z_lconst (v := 1) hc dX10_chance_88 rfl ?_
    refine z_lstore (L' := [(9, .long 1), (0, .ref 1), (1, .int v1), (2, .int v2), (3, .int v3), (4, .long v4), (6, .long v6), (8, .int v8)]) hc dX10_chance_89 (by decide) rfl rfl ?_
    refine z_iconst (v := 0) hc dX10_chance_91 rfl ?_
    refine z_istore (L' := [(11, .int 0), (9, .long 1), (0, .ref 1), (1, .int v1), (2, .int v2), (3, .int v3), (4, .long v4), (6, .long v6), (8, .int v8)]) hc dX10_chance_92 (by decide) rfl rfl ?_
    refine zJ.sub (L' := [(0, .ref 1), (1, .int v1), (2, .int v2), (3, .int v3), (4, .long v4), (6, .long v6), (8, .int v8), (9, .long 1), (11, .int 0)]) [2, 3, 4, 5, 6, 7, 8, 1, 0] rfl ?_
    exact sMo_chance_94 hc hRm hr80 zF v1 v2 v3 v4 v6 v8 1 0 _
set_option maxRecDepth 100000 in
set_option maxHeartbeats 4000000 in
theorem sMo_chance_80 {fin : Int32 × zM} (hc : zCx p s mi args meth c (wM D b) m0 RX10 cX10_chance 13 (some .int)) (hRm : R.frames = 5 ∧ R.locals = 113 ∧ R.cells = zc (wM D b) m0 fin.2 ∧ R.slots = zs (wM D b) m0 fin.2) : ∀ (zf : Nat) (v1 : Int32) (v2 : Int32) (v3 : Int32) (v4 : Int64) (v6 : Int64) (v8 : Int32) (u : zM), zJ eI p l e R s mi args below meth c (wM D b) m0 13 fin 80 [(0, .ref 1), (1, .int v1), (2, .int v2), (3, .int v3), (4, .long v4), (6, .long v6), (8, .int v8)] [] u (Mo_chance_80 zf v1 v2 v3 v4 v6 v8 u) := by
  intro zf
  induction zf with
  | zero => intro v1 v2 v3 v4 v6 v8 u; exact zJ.nil
  | succ zf ih => intro v1 v2 v3 v4 v6 v8 u; exact sMo_chance_80b hc hRm ih v1 v2 v3 v4 v6 v8 u
set_option maxRecDepth 100000 in
set_option maxHeartbeats 4000000 in
theorem sMo_chance_44b {fin : Int32 × zM} (hc : zCx p s mi args meth c (wM D b) m0 RX10 cX10_chance 13 (some .int)) (hRm : R.frames = 5 ∧ R.locals = 113 ∧ R.cells = zc (wM D b) m0 fin.2 ∧ R.slots = zs (wM D b) m0 fin.2) {zr44 : Int32 → Int32 → Int32 → Int64 → Int64 → Int32 → zM → Option (Int32 × zM)} (hr44 : ∀ (v1 : Int32) (v2 : Int32) (v3 : Int32) (v4 : Int64) (v6 : Int64) (v8 : Int32) (u : zM), zJ eI p l e R s mi args below meth c (wM D b) m0 13 fin 44 [(0, .ref 1), (1, .int v1), (2, .int v2), (3, .int v3), (4, .long v4), (6, .long v6), (8, .int v8)] [] u (zr44 v1 v2 v3 v4 v6 v8 u)) (v1 : Int32) (v2 : Int32) (v3 : Int32) (v4 : Int64) (v6 : Int64) (v8 : Int32) (u : zM) : zJ eI p l e R s mi args below meth c (wM D b) m0 13 fin 44 [(0, .ref 1), (1, .int v1), (2, .int v2), (3, .int v3), (4, .long v4), (6, .long v6), (8, .int v8)] [] u (Mo_chance_44b zr44 v1 v2 v3 v4 v6 v8 u) := by
  unfold Mo_chance_44b
  refine z_iload hc dX10_chance_44 6 rfl ?_
  refine z_iload_n hc dX10_chance_46 2 rfl rfl ?_
  refine z_icmp_ge (tgt := 64) hc dX10_chance_47 (by decide) _ (fun h1 => ?_) (fun h1 => ?_)
  · refine z_aload_n hc dX10_chance_64 0 rfl rfl ?_
    refine z_getR (x := 40) hc (ci := 10) (k := 50) (by decide) (by decide) zly10 lM1 (zkM lM1) wFX10_126 rfl dX10_chance_65 rfl (by decide) ?_
    refine z_iconst (v := 0) hc dX10_chance_68 rfl ?_
    refine z_aload_n hc dX10_chance_69 0 rfl rfl ?_
    refine z_getR (x := 42) hc (ci := 10) (k := 52) (by decide) (by decide) zly10 lM1 (zkM lM1) wFX10_132 rfl dX10_chance_70 rfl (by decide) ?_
    refine z_iconst (v := 0) hc dX10_chance_73 rfl ?_
    refine z_callS (av := [.ref 40, .int 0, .ref 42, .int 0]) (enc' := eV) hc rfl (sMo_copies 40 0 42 0 _) wMX10_434 hpyX10_copies hmyX10_copies (rm_ok hRm (Nat.le_of_ble_eq_true rfl) (Nat.le_of_ble_eq_true rfl)) (Nat.le_of_ble_eq_true rfl) hRm.2.2 dX10_chance_74 (fun c1 u1 f1 => ?_)
    refine z_iconst (v := 0) hc dX10_chance_77 rfl ?_
    refine z_istore (L' := [(8, .int 0), (0, .ref 1), (1, .int v1), (2, .int v2), (3, .int v3), (4, .long v4), (6, .long v6)]) hc dX10_chance_78 (by decide) rfl rfl ?_
    refine zJ.sub (L' := [(0, .ref 1), (1, .int v1), (2, .int v2), (3, .int v3), (4, .long v4), (6, .long v6), (8, .int 0)]) [1, 2, 3, 4, 5, 6, 0] rfl ?_
    exact sMo_chance_80 hc hRm zF v1 v2 v3 v4 v6 0 _
  · refine z_lload hc dX10_chance_50 5 rfl ?_
    refine z_ldc2 (v := 10) hc wKX10_515 dX10_chance_52 ?_
    refine z_lmul hc dX10_chance_55 ?_
    refine zJ.letL (fun x1 e1 => ?_)
    refine z_lstore (L' := [(6, .long x1), (0, .ref 1), (1, .int v1), (2, .int v2), (3, .int v3), (4, .long v4), (8, .int v8)]) hc dX10_chance_56 (by decide) rfl rfl ?_
    refine z_iinc (L' := [(8, .int (v8 + 1)), (6, .long x1), (0, .ref 1), (1, .int v1), (2, .int v2), (3, .int v3), (4, .long v4)]) hc dX10_chance_58 6 rfl (v := (v8 + 1)) rfl (by decide) rfl rfl ?_
    refine z_goto (tgt := 44) hc dX10_chance_61 (by decide) ?_
    refine zJ.sub (L' := [(0, .ref 1), (1, .int v1), (2, .int v2), (3, .int v3), (4, .long v4), (6, .long x1), (8, .int (v8 + 1))]) [2, 3, 4, 5, 6, 1, 0] rfl ?_
    exact hr44 v1 v2 v3 v4 x1 (v8 + 1) _
set_option maxRecDepth 100000 in
set_option maxHeartbeats 4000000 in
theorem sMo_chance_44 {fin : Int32 × zM} (hc : zCx p s mi args meth c (wM D b) m0 RX10 cX10_chance 13 (some .int)) (hRm : R.frames = 5 ∧ R.locals = 113 ∧ R.cells = zc (wM D b) m0 fin.2 ∧ R.slots = zs (wM D b) m0 fin.2) : ∀ (zf : Nat) (v1 : Int32) (v2 : Int32) (v3 : Int32) (v4 : Int64) (v6 : Int64) (v8 : Int32) (u : zM), zJ eI p l e R s mi args below meth c (wM D b) m0 13 fin 44 [(0, .ref 1), (1, .int v1), (2, .int v2), (3, .int v3), (4, .long v4), (6, .long v6), (8, .int v8)] [] u (Mo_chance_44 zf v1 v2 v3 v4 v6 v8 u) := by
  intro zf
  induction zf with
  | zero => intro v1 v2 v3 v4 v6 v8 u; exact zJ.nil
  | succ zf ih => intro v1 v2 v3 v4 v6 v8 u; exact sMo_chance_44b hc hRm ih v1 v2 v3 v4 v6 v8 u
set_option maxRecDepth 100000 in
set_option maxHeartbeats 4000000 in
theorem sMo_chance : ∀ (v1 : Int32) (v2 : Int32) (v3 : Int32) (u : zM) r m1, Mo_chance v1 v2 v3 u = some (r, m1) → zMet l (wM D b) 5 113 yX10_chance cX10_chance 13 (some .int) [.ref 1, .int v1, .int v2, .int v3] u (eI r) m1 := by
  intro v1 v2 v3 u
  refine zMet.of (L := [(0, .ref 1), (1, .int v1), (2, .int v2), (3, .int v3)]) RX10 (by decide +kernel) rfl (Nat.le_of_ble_eq_true rfl) (fun h => by cases h) rfl (fun p e s mi args below meth c R fin hc hin hRm => ?_)
  unfold Mo_chance
  refine z_aload_n hc dX10_chance_0 0 rfl rfl ?_
  refine z_iconst (v := 0) hc dX10_chance_1 rfl ?_
  refine z_putI hc (ci := 10) (k := 0) (by decide) (by decide) zly10 lM1 (zkM lM1) wFX10_162 rfl rfl rfl rfl dX10_chance_2 ?_
  refine zJ.letM (fun u1 e1 => ?_)
  refine z_aload_n hc dX10_chance_5 0 rfl rfl ?_
  refine z_iload_n hc dX10_chance_6 1 rfl rfl ?_
  refine z_callV (av := [.int v1]) (enc' := eI) hc rfl (sMo_isPlace v1 _) (ci := 10) (by decide) lM1 (zkM lM1) rfl wMX10_416 hpyX10_isPlace hmyX10_isPlace (rm_ok hRm (Nat.le_of_ble_eq_true rfl) (Nat.le_of_ble_eq_true rfl)) (Nat.le_of_ble_eq_true rfl) hRm.2.2 dX10_chance_7 (fun c1 u2 f1 => ?_)
  refine z_if_eq (tgt := 33) hc dX10_chance_10 (by decide) _ (fun h1 => ?_) (fun h1 => ?_)
  · refine z_iconst (v := (-1)) hc dX10_chance_33 rfl ?_
    exact z_iret hc dX10_chance_34
  · refine z_iload_n hc dX10_chance_13 2 rfl rfl ?_
    refine z_iconst (v := 1) hc dX10_chance_14 rfl ?_
    refine z_bipush (v := 6) hc dX10_chance_15 rfl ?_
    refine z_callS (av := [.int v2, .int 1, .int 6]) (enc' := eI) hc rfl (sMo_within v2 1 6 _) wMX10_293 hpyX10_within hmyX10_within (rm_ok hRm (Nat.le_of_ble_eq_true rfl) (Nat.le_of_ble_eq_true rfl)) (Nat.le_of_ble_eq_true rfl) hRm.2.2 dX10_chance_17 (fun c2 u3 f2 => ?_)
    refine z_if_eq (tgt := 33) hc dX10_chance_20 (by decide) _ (fun h2 => ?_) (fun h2 => ?_)
    · refine z_iconst (v := (-1)) hc dX10_chance_33 rfl ?_
      exact z_iret hc dX10_chance_34
    · refine z_iload_n hc dX10_chance_23 3 rfl rfl ?_
      refine z_iconst (v := 0) hc dX10_chance_24 rfl ?_
      refine z_bipush (v := 10) hc dX10_chance_25 rfl ?_
      refine z_callS (av := [.int v3, .int 0, .int 10]) (enc' := eI) hc rfl (sMo_within v3 0 10 _) wMX10_293 hpyX10_within hmyX10_within (rm_ok hRm (Nat.le_of_ble_eq_true rfl) (Nat.le_of_ble_eq_true rfl)) (Nat.le_of_ble_eq_true rfl) hRm.2.2 dX10_chance_27 (fun c3 u4 f3 => ?_)
      refine z_if_ne (tgt := 35) hc dX10_chance_30 (by decide) _ (fun h3 => ?_) (fun h3 => ?_)
      · refine z_lconst (v := 0) hc dX10_chance_35 rfl ?_
        refine z_lstore (L' := [(4, .long 0), (0, .ref 1), (1, .int v1), (2, .int v2), (3, .int v3)]) hc dX10_chance_36 (by decide) rfl rfl ?_
        refine z_lconst (v := 1) hc dX10_chance_38 rfl ?_
        refine z_lstore (L' := [(6, .long 1), (4, .long 0), (0, .ref 1), (1, .int v1), (2, .int v2), (3, .int v3)]) hc dX10_chance_39 (by decide) rfl rfl ?_
        refine z_iconst (v := 0) hc dX10_chance_41 rfl ?_
        refine z_istore (L' := [(8, .int 0), (6, .long 1), (4, .long 0), (0, .ref 1), (1, .int v1), (2, .int v2), (3, .int v3)]) hc dX10_chance_42 (by decide) rfl rfl ?_
        refine zJ.sub (L' := [(0, .ref 1), (1, .int v1), (2, .int v2), (3, .int v3), (4, .long 0), (6, .long 1), (8, .int 0)]) [3, 4, 5, 6, 2, 1, 0] rfl ?_
        exact sMo_chance_44 hc hRm zF v1 v2 v3 0 1 0 _
      · refine z_iconst (v := (-1)) hc dX10_chance_33 rfl ?_
        exact z_iret hc dX10_chance_34
set_option maxRecDepth 100000 in
set_option maxHeartbeats 4000000 in
theorem sMo_getsBy : ∀ (v0 : Int32) (v1 : Int32) (v2 : Int32) (v3 : Int32) (v4 : Int32) (u : zM) r m1, Mo_getsBy v0 v1 v2 v3 v4 u = some (r, m1) → zMet l (wM D b) 0 0 yX10_getsBy cX10_getsBy 5 (some .int) [.int v0, .int v1, .int v2, .int v3, .int v4] u (eI r) m1 := by
  intro v0 v1 v2 v3 v4 u
  refine zMet.of (L := [(0, .int v0), (1, .int v1), (2, .int v2), (3, .int v3), (4, .int v4)]) RX10 (by decide +kernel) rfl (Nat.le_of_ble_eq_true rfl) (fun h => by cases h) rfl (fun p e s mi args below meth c R fin hc hin hRm => ?_)
  unfold Mo_getsBy
  refine z_iload_n hc dX10_getsBy_0 3 rfl rfl ?_
  refine z_iconst (v := 1) hc dX10_getsBy_1 rfl ?_
  refine z_icmp_ne (tgt := 20) hc dX10_getsBy_2 (by decide) _ (fun h1 => ?_) (fun h1 => ?_)
  · refine z_iload hc dX10_getsBy_20 4 rfl ?_
    refine z_iconst (v := 1) hc dX10_getsBy_22 rfl ?_
    refine z_icmp_ne (tgt := 30) hc dX10_getsBy_23 (by decide) _ (fun h2 => ?_) (fun h2 => ?_)
    · refine z_iconst (v := 0) hc dX10_getsBy_30 rfl ?_
      exact z_iret hc dX10_getsBy_31
    · refine z_iload_n hc dX10_getsBy_26 2 rfl rfl ?_
      refine z_goto (tgt := 31) hc dX10_getsBy_27 (by decide) ?_
      exact z_iret hc dX10_getsBy_31
  · refine z_iload hc dX10_getsBy_5 4 rfl ?_
    refine z_iconst (v := 1) hc dX10_getsBy_7 rfl ?_
    refine z_icmp_ne (tgt := 15) hc dX10_getsBy_8 (by decide) _ (fun h3 => ?_) (fun h3 => ?_)
    · refine z_iload_n hc dX10_getsBy_15 1 rfl rfl ?_
      refine z_ineg hc dX10_getsBy_16 ?_
      refine z_goto (tgt := 31) hc dX10_getsBy_17 (by decide) ?_
      exact z_iret hc dX10_getsBy_31
    · refine z_iload_n hc dX10_getsBy_11 0 rfl rfl ?_
      refine z_goto (tgt := 31) hc dX10_getsBy_12 (by decide) ?_
      exact z_iret hc dX10_getsBy_31
set_option maxRecDepth 100000 in
set_option maxHeartbeats 4000000 in
theorem sMo_rests_61b {fin : Int32 × zM} (hc : zCx p s mi args meth c (wM D b) m0 RX10 cX10_rests 9 (some .int)) (hRm : R.frames = 1 ∧ R.locals = 24 ∧ R.cells = zc (wM D b) m0 fin.2 ∧ R.slots = zs (wM D b) m0 fin.2) {zr61 : Int32 → Int32 → Int32 → Int32 → Int32 → Int32 → zM → Option (Int32 × zM)} (hr61 : ∀ (v1 : Int32) (v2 : Int32) (v3 : Int32) (v4 : Int32) (v5 : Int32) (v6 : Int32) (u : zM), zJ eI p l e R s mi args below meth c (wM D b) m0 9 fin 61 [(0, .ref 1), (1, .int v1), (2, .int v2), (3, .int v3), (4, .int v4), (5, .int v5), (6, .int v6)] [] u (zr61 v1 v2 v3 v4 v5 v6 u)) (v1 : Int32) (v2 : Int32) (v3 : Int32) (v4 : Int32) (v5 : Int32) (v6 : Int32) (u : zM) : zJ eI p l e R s mi args below meth c (wM D b) m0 9 fin 61 [(0, .ref 1), (1, .int v1), (2, .int v2), (3, .int v3), (4, .int v4), (5, .int v5), (6, .int v6)] [] u (Mo_rests_61b zr61 v1 v2 v3 v4 v5 v6 u) := by
  unfold Mo_rests_61b
  refine z_iload hc dX10_rests_61 6 rfl ?_
  refine z_iconst (v := 4) hc dX10_rests_63 rfl ?_
  refine z_icmp_ge (tgt := 151) hc dX10_rests_64 (by decide) _ (fun h1 => ?_) (fun h1 => ?_)
  · refine z_aload_n hc dX10_rests_151 0 rfl rfl ?_
    refine z_iload hc dX10_rests_152 4 rfl ?_
    refine z_iconst (v := (-1)) hc dX10_rests_154 rfl ?_
    refine z_icmp_ne (tgt := 162) hc dX10_rests_155 (by decide) _ (fun h2 => ?_) (fun h2 => ?_)
    · refine z_iconst (v := 1) hc dX10_rests_162 rfl ?_
      refine z_putI hc (ci := 10) (k := 0) (by decide) (by decide) zly10 lM1 (zkM lM1) wFX10_162 rfl rfl rfl rfl dX10_rests_163 ?_
      refine zJ.letM (fun u1 e1 => ?_)
      refine z_iload hc dX10_rests_166 4 rfl ?_
      refine z_iconst (v := (-1)) hc dX10_rests_168 rfl ?_
      refine z_icmp_ne (tgt := 177) hc dX10_rests_169 (by decide) _ (fun h3 => ?_) (fun h3 => ?_)
      · refine z_iconst (v := 0) hc dX10_rests_177 rfl ?_
        exact z_iret hc dX10_rests_178
      · refine z_iload hc dX10_rests_172 5 rfl ?_
        refine z_goto (tgt := 178) hc dX10_rests_174 (by decide) ?_
        exact z_iret hc dX10_rests_178
    · refine z_iconst (v := 0) hc dX10_rests_158 rfl ?_
      refine z_goto (tgt := 163) hc dX10_rests_159 (by decide) ?_
      refine z_putI hc (ci := 10) (k := 0) (by decide) (by decide) zly10 lM1 (zkM lM1) wFX10_162 rfl rfl rfl rfl dX10_rests_163 ?_
      refine zJ.letM (fun u2 e2 => ?_)
      refine z_iload hc dX10_rests_166 4 rfl ?_
      refine z_iconst (v := (-1)) hc dX10_rests_168 rfl ?_
      refine z_icmp_ne (tgt := 177) hc dX10_rests_169 (by decide) _ (fun h4 => ?_) (fun h4 => ?_)
      · refine z_iconst (v := 0) hc dX10_rests_177 rfl ?_
        exact z_iret hc dX10_rests_178
      · refine z_iload hc dX10_rests_172 5 rfl ?_
        refine z_goto (tgt := 178) hc dX10_rests_174 (by decide) ?_
        exact z_iret hc dX10_rests_178
  · refine z_iload hc dX10_rests_67 6 rfl ?_
    refine z_iconst (v := 2) hc dX10_rests_69 rfl ?_
    refine z_idiv hc (by decide) dX10_rests_70 ?_
    refine zJ.letI (fun x1 e3 => ?_)
    refine z_istore (L' := [(7, .int x1), (0, .ref 1), (1, .int v1), (2, .int v2), (3, .int v3), (4, .int v4), (5, .int v5), (6, .int v6)]) hc dX10_rests_71 (by decide) rfl rfl ?_
    refine z_iload hc dX10_rests_73 7 rfl ?_
    refine z_iconst (v := 2) hc dX10_rests_75 rfl ?_
    refine z_irem hc (by decide) dX10_rests_76 ?_
    refine zJ.letI (fun x2 e4 => ?_)
    refine z_istore (L' := [(8, .int x2), (7, .int x1), (0, .ref 1), (1, .int v1), (2, .int v2), (3, .int v3), (4, .int v4), (5, .int v5), (6, .int v6)]) hc dX10_rests_77 (by decide) rfl rfl ?_
    refine z_iload_n hc dX10_rests_79 3 rfl rfl ?_
    refine z_iload_n hc dX10_rests_80 4 rfl rfl ?_
    refine z_iload_n hc dX10_rests_81 5 rfl rfl ?_
    refine z_iconst (v := 1) hc dX10_rests_82 rfl ?_
    refine z_iload hc dX10_rests_83 1 rfl ?_
    refine z_isub hc dX10_rests_85 ?_
    refine z_iload hc dX10_rests_86 0 rfl ?_
    refine z_callS (av := [.int v1, .int v2, .int v3, .int (1 - x1), .int x2]) (enc' := eI) hc rfl (sMo_getsBy v1 v2 v3 (1 - x1) x2 _) wMX10_519 hpyX10_getsBy hmyX10_getsBy (rm_ok hRm (Nat.le_of_ble_eq_true rfl) (Nat.le_of_ble_eq_true rfl)) (Nat.le_of_ble_eq_true rfl) hRm.2.2 dX10_rests_88 (fun c1 u3 f1 => ?_)
    refine z_iload_n hc dX10_rests_91 3 rfl rfl ?_
    refine z_iload_n hc dX10_rests_92 4 rfl rfl ?_
    refine z_iload_n hc dX10_rests_93 5 rfl rfl ?_
    refine z_iload hc dX10_rests_94 1 rfl ?_
    refine z_iload hc dX10_rests_96 0 rfl ?_
    refine z_callS (av := [.int v1, .int v2, .int v3, .int x1, .int x2]) (enc' := eI) hc rfl (sMo_getsBy v1 v2 v3 x1 x2 _) wMX10_519 hpyX10_getsBy hmyX10_getsBy (rm_ok hRm (Nat.le_of_ble_eq_true rfl) (Nat.le_of_ble_eq_true rfl)) (Nat.le_of_ble_eq_true rfl) hRm.2.2 dX10_rests_98 (fun c2 u4 f2 => ?_)
    refine z_icmp_gt (tgt := 145) hc dX10_rests_101 (by decide) _ (fun h5 => ?_) (fun h5 => ?_)
    · refine z_iinc (L' := [(6, .int (v6 + 1)), (8, .int x2), (7, .int x1), (0, .ref 1), (1, .int v1), (2, .int v2), (3, .int v3), (4, .int v4), (5, .int v5)]) hc dX10_rests_145 8 rfl (v := (v6 + 1)) rfl (by decide) rfl rfl ?_
      refine z_goto (tgt := 61) hc dX10_rests_148 (by decide) ?_
      refine zJ.sub (L' := [(0, .ref 1), (1, .int v1), (2, .int v2), (3, .int v3), (4, .int v4), (5, .int v5), (6, .int (v6 + 1))]) [3, 4, 5, 6, 7, 8, 0] rfl ?_
      exact hr61 v1 v2 v3 v4 v5 (v6 + 1) _
    · refine z_iload_n hc dX10_rests_104 3 rfl rfl ?_
      refine z_iload_n hc dX10_rests_105 4 rfl rfl ?_
      refine z_iload_n hc dX10_rests_106 5 rfl rfl ?_
      refine z_iconst (v := 1) hc dX10_rests_107 rfl ?_
      refine z_iload hc dX10_rests_108 0 rfl ?_
      refine z_isub hc dX10_rests_110 ?_
      refine z_iload hc dX10_rests_111 1 rfl ?_
      refine z_callS (av := [.int v1, .int v2, .int v3, .int (1 - x2), .int x1]) (enc' := eI) hc rfl (sMo_getsBy v1 v2 v3 (1 - x2) x1 _) wMX10_519 hpyX10_getsBy hmyX10_getsBy (rm_ok hRm (Nat.le_of_ble_eq_true rfl) (Nat.le_of_ble_eq_true rfl)) (Nat.le_of_ble_eq_true rfl) hRm.2.2 dX10_rests_113 (fun c3 u5 f3 => ?_)
      refine z_iload_n hc dX10_rests_116 3 rfl rfl ?_
      refine z_iload_n hc dX10_rests_117 4 rfl rfl ?_
      refine z_iload_n hc dX10_rests_118 5 rfl rfl ?_
      refine z_iload hc dX10_rests_119 0 rfl ?_
      refine z_iload hc dX10_rests_121 1 rfl ?_
      refine z_callS (av := [.int v1, .int v2, .int v3, .int x2, .int x1]) (enc' := eI) hc rfl (sMo_getsBy v1 v2 v3 x2 x1 _) wMX10_519 hpyX10_getsBy hmyX10_getsBy (rm_ok hRm (Nat.le_of_ble_eq_true rfl) (Nat.le_of_ble_eq_true rfl)) (Nat.le_of_ble_eq_true rfl) hRm.2.2 dX10_rests_123 (fun c4 u6 f4 => ?_)
      refine z_icmp_le (tgt := 132) hc dX10_rests_126 (by decide) _ (fun h6 => ?_) (fun h6 => ?_)
      · refine z_iload hc dX10_rests_132 7 rfl ?_
        refine z_iload hc dX10_rests_134 6 rfl ?_
        refine z_icmp_ne (tgt := 142) hc dX10_rests_136 (by decide) _ (fun h7 => ?_) (fun h7 => ?_)
        · refine z_iinc (L' := [(5, .int (v5 + 1)), (8, .int x2), (7, .int x1), (0, .ref 1), (1, .int v1), (2, .int v2), (3, .int v3), (4, .int v4), (6, .int v6)]) hc dX10_rests_142 7 rfl (v := (v5 + 1)) rfl (by decide) rfl rfl ?_
          refine z_iinc (L' := [(6, .int (v6 + 1)), (5, .int (v5 + 1)), (8, .int x2), (7, .int x1), (0, .ref 1), (1, .int v1), (2, .int v2), (3, .int v3), (4, .int v4)]) hc dX10_rests_145 8 rfl (v := (v6 + 1)) rfl (by decide) rfl rfl ?_
          refine z_goto (tgt := 61) hc dX10_rests_148 (by decide) ?_
          refine zJ.sub (L' := [(0, .ref 1), (1, .int v1), (2, .int v2), (3, .int v3), (4, .int v4), (5, .int (v5 + 1)), (6, .int (v6 + 1))]) [4, 5, 6, 7, 8, 1, 0] rfl ?_
          exact hr61 v1 v2 v3 v4 (v5 + 1) (v6 + 1) _
        · refine z_iload hc dX10_rests_139 8 rfl ?_
          exact z_iret hc dX10_rests_141
      · refine z_goto (tgt := 145) hc dX10_rests_129 (by decide) ?_
        refine z_iinc (L' := [(6, .int (v6 + 1)), (8, .int x2), (7, .int x1), (0, .ref 1), (1, .int v1), (2, .int v2), (3, .int v3), (4, .int v4), (5, .int v5)]) hc dX10_rests_145 8 rfl (v := (v6 + 1)) rfl (by decide) rfl rfl ?_
        refine z_goto (tgt := 61) hc dX10_rests_148 (by decide) ?_
        refine zJ.sub (L' := [(0, .ref 1), (1, .int v1), (2, .int v2), (3, .int v3), (4, .int v4), (5, .int v5), (6, .int (v6 + 1))]) [3, 4, 5, 6, 7, 8, 0] rfl ?_
        exact hr61 v1 v2 v3 v4 v5 (v6 + 1) _
set_option maxRecDepth 100000 in
set_option maxHeartbeats 4000000 in
theorem sMo_rests_61 {fin : Int32 × zM} (hc : zCx p s mi args meth c (wM D b) m0 RX10 cX10_rests 9 (some .int)) (hRm : R.frames = 1 ∧ R.locals = 24 ∧ R.cells = zc (wM D b) m0 fin.2 ∧ R.slots = zs (wM D b) m0 fin.2) : ∀ (zf : Nat) (v1 : Int32) (v2 : Int32) (v3 : Int32) (v4 : Int32) (v5 : Int32) (v6 : Int32) (u : zM), zJ eI p l e R s mi args below meth c (wM D b) m0 9 fin 61 [(0, .ref 1), (1, .int v1), (2, .int v2), (3, .int v3), (4, .int v4), (5, .int v5), (6, .int v6)] [] u (Mo_rests_61 zf v1 v2 v3 v4 v5 v6 u) := by
  intro zf
  induction zf with
  | zero => intro v1 v2 v3 v4 v5 v6 u; exact zJ.nil
  | succ zf ih => intro v1 v2 v3 v4 v5 v6 u; exact sMo_rests_61b hc hRm ih v1 v2 v3 v4 v5 v6 u
set_option maxRecDepth 100000 in
set_option maxHeartbeats 4000000 in
theorem sMo_rests_42 {fin : Int32 × zM} (hc : zCx p s mi args meth c (wM D b) m0 RX10 cX10_rests 9 (some .int)) (hRm : R.frames = 1 ∧ R.locals = 24 ∧ R.cells = zc (wM D b) m0 fin.2 ∧ R.slots = zs (wM D b) m0 fin.2) (v1 : Int32) (v2 : Int32) (v3 : Int32) (v4 : Int32) (s1 : Int32) (u : zM) : zJ eI p l e R s mi args below meth c (wM D b) m0 9 fin 42 [(0, .ref 1), (1, .int v1), (2, .int v2), (3, .int v3), (4, .int v4)] [.int s1, .ref 1] u (Mo_rests_42 v1 v2 v3 v4 s1 u) := by
  unfold Mo_rests_42
  refine z_putI hc (ci := 10) (k := 0) (by decide) (by decide) zly10 lM1 (zkM lM1) wFX10_162 rfl rfl rfl rfl dX10_rests_42 ?_
  refine zJ.letM (fun u1 e1 => ?_)
  refine z_aload_n hc dX10_rests_45 0 rfl rfl ?_
  refine z_getI hc (ci := 10) (k := 0) (by decide) (by decide) zly10 lM1 (zkM lM1) wFX10_162 rfl dX10_rests_46 ?_
  refine z_iconst (v := 1) hc dX10_rests_49 rfl ?_
  refine z_icmp_ne (tgt := 55) hc dX10_rests_50 (by decide) _ (fun h1 => ?_) (fun h1 => ?_)
  · refine z_iconst (v := 0) hc dX10_rests_55 rfl ?_
    refine z_istore (L' := [(5, .int 0), (0, .ref 1), (1, .int v1), (2, .int v2), (3, .int v3), (4, .int v4)]) hc dX10_rests_56 (by decide) rfl rfl ?_
    refine z_iconst (v := 0) hc dX10_rests_58 rfl ?_
    refine z_istore (L' := [(6, .int 0), (5, .int 0), (0, .ref 1), (1, .int v1), (2, .int v2), (3, .int v3), (4, .int v4)]) hc dX10_rests_59 (by decide) rfl rfl ?_
    refine zJ.sub (L' := [(0, .ref 1), (1, .int v1), (2, .int v2), (3, .int v3), (4, .int v4), (5, .int 0), (6, .int 0)]) [2, 3, 4, 5, 6, 1, 0] rfl ?_
    exact sMo_rests_61 hc hRm zF v1 v2 v3 v4 0 0 _
  · refine z_iconst (v := 0) hc dX10_rests_53 rfl ?_
    exact z_iret hc dX10_rests_54
set_option maxRecDepth 100000 in
set_option maxHeartbeats 4000000 in
theorem sMo_rests_41 {fin : Int32 × zM} (hc : zCx p s mi args meth c (wM D b) m0 RX10 cX10_rests 9 (some .int)) (hRm : R.frames = 1 ∧ R.locals = 24 ∧ R.cells = zc (wM D b) m0 fin.2 ∧ R.slots = zs (wM D b) m0 fin.2) (v1 : Int32) (v2 : Int32) (v3 : Int32) (v4 : Int32) (u : zM) : zJ eI p l e R s mi args below meth c (wM D b) m0 9 fin 41 [(0, .ref 1), (1, .int v1), (2, .int v2), (3, .int v3), (4, .int v4)] [.ref 1] u (Mo_rests_41 v1 v2 v3 v4 u) := by
  unfold Mo_rests_41
  refine z_iconst (v := 1) hc dX10_rests_41 rfl ?_
  exact sMo_rests_42 hc hRm v1 v2 v3 v4 1 _
set_option maxRecDepth 100000 in
set_option maxHeartbeats 4000000 in
theorem sMo_rests : ∀ (v1 : Int32) (v2 : Int32) (v3 : Int32) (v4 : Int32) (u : zM) r m1, Mo_rests v1 v2 v3 v4 u = some (r, m1) → zMet l (wM D b) 1 24 yX10_rests cX10_rests 9 (some .int) [.ref 1, .int v1, .int v2, .int v3, .int v4] u (eI r) m1 := by
  intro v1 v2 v3 v4 u
  refine zMet.of (L := [(0, .ref 1), (1, .int v1), (2, .int v2), (3, .int v3), (4, .int v4)]) RX10 (by decide +kernel) rfl (Nat.le_of_ble_eq_true rfl) (fun h => by cases h) rfl (fun p e s mi args below meth c R fin hc hin hRm => ?_)
  unfold Mo_rests
  refine z_aload_n hc dX10_rests_0 0 rfl rfl ?_
  refine z_iload_n hc dX10_rests_1 1 rfl rfl ?_
  refine z_iconst (v := 0) hc dX10_rests_2 rfl ?_
  refine z_bipush (v := 9) hc dX10_rests_3 rfl ?_
  refine z_callS (av := [.int v1, .int 0, .int 9]) (enc' := eI) hc rfl (sMo_within v1 0 9 _) wMX10_293 hpyX10_within hmyX10_within (rm_ok hRm (Nat.le_of_ble_eq_true rfl) (Nat.le_of_ble_eq_true rfl)) (Nat.le_of_ble_eq_true rfl) hRm.2.2 dX10_rests_5 (fun c1 u1 f1 => ?_)
  refine z_if_eq (tgt := 41) hc dX10_rests_8 (by decide) _ (fun h1 => ?_) (fun h1 => ?_)
  · exact sMo_rests_41 hc hRm v1 v2 v3 v4 _
  · refine z_iload_n hc dX10_rests_11 2 rfl rfl ?_
    refine z_iconst (v := 0) hc dX10_rests_12 rfl ?_
    refine z_bipush (v := 9) hc dX10_rests_13 rfl ?_
    refine z_callS (av := [.int v2, .int 0, .int 9]) (enc' := eI) hc rfl (sMo_within v2 0 9 _) wMX10_293 hpyX10_within hmyX10_within (rm_ok hRm (Nat.le_of_ble_eq_true rfl) (Nat.le_of_ble_eq_true rfl)) (Nat.le_of_ble_eq_true rfl) hRm.2.2 dX10_rests_15 (fun c2 u2 f2 => ?_)
    refine z_if_eq (tgt := 41) hc dX10_rests_18 (by decide) _ (fun h2 => ?_) (fun h2 => ?_)
    · exact sMo_rests_41 hc hRm v1 v2 v3 v4 _
    · refine z_iload_n hc dX10_rests_21 3 rfl rfl ?_
      refine z_iconst (v := 0) hc dX10_rests_22 rfl ?_
      refine z_bipush (v := 9) hc dX10_rests_23 rfl ?_
      refine z_callS (av := [.int v3, .int 0, .int 9]) (enc' := eI) hc rfl (sMo_within v3 0 9 _) wMX10_293 hpyX10_within hmyX10_within (rm_ok hRm (Nat.le_of_ble_eq_true rfl) (Nat.le_of_ble_eq_true rfl)) (Nat.le_of_ble_eq_true rfl) hRm.2.2 dX10_rests_25 (fun c3 u3 f3 => ?_)
      refine z_if_eq (tgt := 41) hc dX10_rests_28 (by decide) _ (fun h3 => ?_) (fun h3 => ?_)
      · exact sMo_rests_41 hc hRm v1 v2 v3 v4 _
      · refine z_iload hc dX10_rests_31 4 rfl ?_
        refine z_iconst (v := (-1)) hc dX10_rests_33 rfl ?_
        refine z_icmp_lt (tgt := 41) hc dX10_rests_34 (by decide) _ (fun h4 => ?_) (fun h4 => ?_)
        · exact sMo_rests_41 hc hRm v1 v2 v3 v4 _
        · refine z_iconst (v := 0) hc dX10_rests_37 rfl ?_
          refine z_goto (tgt := 42) hc dX10_rests_38 (by decide) ?_
          exact sMo_rests_42 hc hRm v1 v2 v3 v4 0 _
set_option maxRecDepth 100000 in
set_option maxHeartbeats 4000000 in
theorem sMo_draws : ∀ (v1 : Int32) (u : zM) r m1, Mo_draws v1 u = some (r, m1) → zMet l (wM D b) 0 0 yX10_draws cX10_draws 2 (some .int) [.ref 1, .int v1] u (eI r) m1 := by
  intro v1 u
  refine zMet.of (L := [(0, .ref 1), (1, .int v1)]) RX10 (by decide +kernel) rfl (Nat.le_of_ble_eq_true rfl) (fun h => by cases h) rfl (fun p e s mi args below meth c R fin hc hin hRm => ?_)
  unfold Mo_draws
  refine z_aload_n hc dX10_draws_0 0 rfl rfl ?_
  refine z_aload_n hc dX10_draws_1 0 rfl rfl ?_
  refine z_getL hc (ci := 10) (k := 66) (by decide) (by decide) zly10 lM1 (zkM lM1) wFX10_523 rfl dX10_draws_2 ?_
  refine z_ldc2 (v := 1103515245) hc wKX10_526 dX10_draws_5 ?_
  refine z_lmul hc dX10_draws_8 ?_
  refine z_ldc2 (v := 12345) hc wKX10_528 dX10_draws_9 ?_
  refine z_ladd hc dX10_draws_12 ?_
  refine z_ldc2 (v := 2147483648) hc wKX10_530 dX10_draws_13 ?_
  refine z_lrem hc (by decide) dX10_draws_16 ?_
  refine z_putL hc (ci := 10) (k := 66) (by decide) (by decide) zly10 lM1 (zkM lM1) wFX10_523 rfl rfl dX10_draws_17 ?_
  refine zJ.letM (fun u1 e1 => ?_)
  refine z_aload_n hc dX10_draws_20 0 rfl rfl ?_
  refine z_getL hc (ci := 10) (k := 66) (by decide) (by decide) zly10 lM1 (zkM lM1) wFX10_523 rfl dX10_draws_21 ?_
  refine z_ldc2 (v := 65536) hc wKX10_532 dX10_draws_24 ?_
  refine z_ldiv hc (by decide) dX10_draws_27 ?_
  refine z_iload_n hc dX10_draws_28 1 rfl rfl ?_
  refine z_i2l hc dX10_draws_29 ?_
  refine zJ.cut _ (fun _ => zJ.nil) (fun h1 => ?_)
  refine z_lrem hc h1 dX10_draws_30 ?_
  refine z_l2i hc dX10_draws_31 ?_
  exact z_iret hc dX10_draws_32
set_option maxRecDepth 100000 in
set_option maxHeartbeats 4000000 in
theorem sMo_livesDay_113 {fin : Unit × zM} (hc : zCx p s mi args meth c (wM D b) m0 RX10 cX10_livesDay 5 none) (hRm : R.frames = 6 ∧ R.locals = 133 ∧ R.cells = zc (wM D b) m0 fin.2 ∧ R.slots = zs (wM D b) m0 fin.2) (v3 : Int32) (v4 : Int32) (u : zM) : zJ eV p l e R s mi args below meth c (wM D b) m0 5 fin 113 [(0, .ref 1), (3, .int v3), (4, .int v4)] [] u (Mo_livesDay_113 v3 v4 u) := by
  unfold Mo_livesDay_113
  refine z_iload_n hc dX10_livesDay_113 1 rfl rfl ?_
  refine z_iconst (v := 4) hc dX10_livesDay_114 rfl ?_
  refine z_icmp_ne (tgt := 138) hc dX10_livesDay_115 (by decide) _ (fun h1 => ?_) (fun h1 => ?_)
  · refine z_aload_n hc dX10_livesDay_138 0 rfl rfl ?_
    refine z_callV (av := []) (enc' := eV) hc rfl (sMo_passesAsTold _) (ci := 10) (by decide) lM1 (zkM lM1) rfl wMX10_459 hpyX10_passesAsTold hmyX10_passesAsTold (rm_ok hRm (Nat.le_of_ble_eq_true rfl) (Nat.le_of_ble_eq_true rfl)) (Nat.le_of_ble_eq_true rfl) hRm.2.2 dX10_livesDay_139 (fun c1 u1 f1 => ?_)
    exact z_vret hc dX10_livesDay_142
  · refine z_aload_n hc dX10_livesDay_118 0 rfl rfl ?_
    refine z_iload hc dX10_livesDay_119 2 rfl ?_
    refine z_callV (av := [.int v4]) (enc' := eI) hc rfl (sMo_canServe v4 _) (ci := 10) (by decide) lM1 (zkM lM1) rfl wMX10_456 hpyX10_canServe hmyX10_canServe (rm_ok hRm (Nat.le_of_ble_eq_true rfl) (Nat.le_of_ble_eq_true rfl)) (Nat.le_of_ble_eq_true rfl) hRm.2.2 dX10_livesDay_121 (fun c2 u2 f2 => ?_)
    refine z_if_eq (tgt := 138) hc dX10_livesDay_124 (by decide) _ (fun h2 => ?_) (fun h2 => ?_)
    · refine z_aload_n hc dX10_livesDay_138 0 rfl rfl ?_
      refine z_callV (av := []) (enc' := eV) hc rfl (sMo_passesAsTold _) (ci := 10) (by decide) lM1 (zkM lM1) rfl wMX10_459 hpyX10_passesAsTold hmyX10_passesAsTold (rm_ok hRm (Nat.le_of_ble_eq_true rfl) (Nat.le_of_ble_eq_true rfl)) (Nat.le_of_ble_eq_true rfl) hRm.2.2 dX10_livesDay_139 (fun c3 u3 f3 => ?_)
      exact z_vret hc dX10_livesDay_142
    · refine z_aload_n hc dX10_livesDay_127 0 rfl rfl ?_
      refine z_getR (x := 40) hc (ci := 10) (k := 50) (by decide) (by decide) zly10 lM1 (zkM lM1) wFX10_126 rfl dX10_livesDay_128 rfl (by decide) ?_
      refine z_bipush (v := 19) hc dX10_livesDay_131 rfl ?_
      refine z_iload hc dX10_livesDay_133 2 rfl ?_
      refine z_iadd hc dX10_livesDay_135 ?_
      refine z_iconst (v := 3) hc dX10_livesDay_136 rfl ?_
      refine zJ.chk _ (fun h3 => ?_)
      refine z_iast (k := (ix (19 + v4))) hc lM40 (zkM lM40) h3 rfl dX10_livesDay_137 ?_
      refine zJ.letM (fun u4 e1 => ?_)
      refine z_aload_n hc dX10_livesDay_138 0 rfl rfl ?_
      refine z_callV (av := []) (enc' := eV) hc rfl (sMo_passesAsTold _) (ci := 10) (by decide) lM1 (zkM lM1) rfl wMX10_459 hpyX10_passesAsTold hmyX10_passesAsTold (rm_ok hRm (Nat.le_of_ble_eq_true rfl) (Nat.le_of_ble_eq_true rfl)) (Nat.le_of_ble_eq_true rfl) hRm.2.2 dX10_livesDay_139 (fun c4 u5 f4 => ?_)
      exact z_vret hc dX10_livesDay_142
set_option maxRecDepth 100000 in
set_option maxHeartbeats 4000000 in
theorem sMo_livesDay_61 {fin : Unit × zM} (hc : zCx p s mi args meth c (wM D b) m0 RX10 cX10_livesDay 5 none) (hRm : R.frames = 6 ∧ R.locals = 133 ∧ R.cells = zc (wM D b) m0 fin.2 ∧ R.slots = zs (wM D b) m0 fin.2) (v1 : Int32) (v3 : Int32) (u : zM) : zJ eV p l e R s mi args below meth c (wM D b) m0 5 fin 61 [(0, .ref 1), (1, .int v1), (3, .int v3)] [] u (Mo_livesDay_61 v1 v3 u) := by
  unfold Mo_livesDay_61
  refine z_iload_n hc dX10_livesDay_61 2 rfl rfl ?_
  refine z_iconst (v := 2) hc dX10_livesDay_62 rfl ?_
  refine z_icmp_le (tgt := 138) hc dX10_livesDay_63 (by decide) _ (fun h1 => ?_) (fun h1 => ?_)
  · refine z_aload_n hc dX10_livesDay_138 0 rfl rfl ?_
    refine z_callV (av := []) (enc' := eV) hc rfl (sMo_passesAsTold _) (ci := 10) (by decide) lM1 (zkM lM1) rfl wMX10_459 hpyX10_passesAsTold hmyX10_passesAsTold (rm_ok hRm (Nat.le_of_ble_eq_true rfl) (Nat.le_of_ble_eq_true rfl)) (Nat.le_of_ble_eq_true rfl) hRm.2.2 dX10_livesDay_139 (fun c1 u1 f1 => ?_)
    exact z_vret hc dX10_livesDay_142
  · refine z_aload_n hc dX10_livesDay_66 0 rfl rfl ?_
    refine z_getR (x := 3) hc (ci := 10) (k := 10) (by decide) (by decide) zly10 lM1 (zkM lM1) wFX10_13 rfl dX10_livesDay_67 rfl (by decide) ?_
    refine z_iconst (v := 4) hc dX10_livesDay_70 rfl ?_
    refine z_iald (k := 4) hc lM3 (zkM lM3) rfl rfl dX10_livesDay_71 ?_
    refine z_if_le (tgt := 138) hc dX10_livesDay_72 (by decide) _ (fun h2 => ?_) (fun h2 => ?_)
    · refine z_aload_n hc dX10_livesDay_138 0 rfl rfl ?_
      refine z_callV (av := []) (enc' := eV) hc rfl (sMo_passesAsTold _) (ci := 10) (by decide) lM1 (zkM lM1) rfl wMX10_459 hpyX10_passesAsTold hmyX10_passesAsTold (rm_ok hRm (Nat.le_of_ble_eq_true rfl) (Nat.le_of_ble_eq_true rfl)) (Nat.le_of_ble_eq_true rfl) hRm.2.2 dX10_livesDay_139 (fun c2 u2 f2 => ?_)
      exact z_vret hc dX10_livesDay_142
    · refine z_aload_n hc dX10_livesDay_75 0 rfl rfl ?_
      refine z_aload_n hc dX10_livesDay_76 0 rfl rfl ?_
      refine z_getR (x := 3) hc (ci := 10) (k := 10) (by decide) (by decide) zly10 lM1 (zkM lM1) wFX10_13 rfl dX10_livesDay_77 rfl (by decide) ?_
      refine z_iconst (v := 4) hc dX10_livesDay_80 rfl ?_
      refine z_iald (k := 4) hc lM3 (zkM lM3) rfl rfl dX10_livesDay_81 ?_
      refine z_callV (av := [.int (gI u 3 4)]) (enc' := eI) hc rfl (sMo_draws (gI u 3 4) _) (ci := 10) (by decide) lM1 (zkM lM1) rfl wMX10_534 hpyX10_draws hmyX10_draws (rm_ok hRm (Nat.le_of_ble_eq_true rfl) (Nat.le_of_ble_eq_true rfl)) (Nat.le_of_ble_eq_true rfl) hRm.2.2 dX10_livesDay_82 (fun c3 u3 f3 => ?_)
      refine z_istore (L' := [(4, .int c3), (0, .ref 1), (1, .int v1), (3, .int v3)]) hc dX10_livesDay_85 (by decide) rfl rfl ?_
      refine z_iload_n hc dX10_livesDay_87 3 rfl rfl ?_
      refine z_iconst (v := 3) hc dX10_livesDay_88 rfl ?_
      refine z_icmp_ne (tgt := 113) hc dX10_livesDay_89 (by decide) _ (fun h3 => ?_) (fun h3 => ?_)
      · refine zJ.sub (L' := [(0, .ref 1), (3, .int v3), (4, .int c3)]) [1, 3, 0] rfl ?_
        exact sMo_livesDay_113 hc hRm v3 c3 _
      · refine z_aload_n hc dX10_livesDay_92 1 rfl rfl ?_
        refine z_iload_n hc dX10_livesDay_93 2 rfl rfl ?_
        refine z_iload hc dX10_livesDay_94 0 rfl ?_
        refine z_callV (av := [.int v1, .int c3]) (enc' := eI) hc rfl (sMo_canTake v1 c3 _) (ci := 10) (by decide) lM1 (zkM lM1) rfl wMX10_444 hpyX10_canTake hmyX10_canTake (rm_ok hRm (Nat.le_of_ble_eq_true rfl) (Nat.le_of_ble_eq_true rfl)) (Nat.le_of_ble_eq_true rfl) hRm.2.2 dX10_livesDay_96 (fun c4 u4 f4 => ?_)
        refine z_if_eq (tgt := 113) hc dX10_livesDay_99 (by decide) _ (fun h4 => ?_) (fun h4 => ?_)
        · refine zJ.sub (L' := [(0, .ref 1), (3, .int v3), (4, .int c3)]) [1, 3, 0] rfl ?_
          exact sMo_livesDay_113 hc hRm v3 c3 _
        · refine z_aload_n hc dX10_livesDay_102 1 rfl rfl ?_
          refine z_getR (x := 40) hc (ci := 10) (k := 50) (by decide) (by decide) zly10 lM1 (zkM lM1) wFX10_126 rfl dX10_livesDay_103 rfl (by decide) ?_
          refine z_bipush (v := 19) hc dX10_livesDay_106 rfl ?_
          refine z_iload hc dX10_livesDay_108 0 rfl ?_
          refine z_iadd hc dX10_livesDay_110 ?_
          refine z_iload_n hc dX10_livesDay_111 2 rfl rfl ?_
          refine zJ.chk _ (fun h5 => ?_)
          refine z_iast (k := (ix (19 + c3))) hc lM40 (zkM lM40) h5 rfl dX10_livesDay_112 ?_
          refine zJ.letM (fun u5 e1 => ?_)
          refine zJ.sub (L' := [(0, .ref 1), (3, .int v3), (4, .int c3)]) [1, 3, 0] rfl ?_
          exact sMo_livesDay_113 hc hRm v3 c3 _
set_option maxRecDepth 100000 in
set_option maxHeartbeats 4000000 in
theorem sMo_livesDay : ∀ (u : zM) r m1, Mo_livesDay u = some (r, m1) → zMet l (wM D b) 6 133 yX10_livesDay cX10_livesDay 5 none [.ref 1] u (eV r) m1 := by
  intro u
  refine zMet.of (L := [(0, .ref 1)]) RX10 (by decide +kernel) rfl (Nat.le_of_ble_eq_true rfl) (fun h => by cases h) rfl (fun p e s mi args below meth c R fin hc hin hRm => ?_)
  unfold Mo_livesDay
  refine z_aload_n hc dX10_livesDay_0 0 rfl rfl ?_
  refine z_getR (x := 3) hc (ci := 10) (k := 10) (by decide) (by decide) zly10 lM1 (zkM lM1) wFX10_13 rfl dX10_livesDay_1 rfl (by decide) ?_
  refine z_iconst (v := 3) hc dX10_livesDay_4 rfl ?_
  refine z_iald (k := 3) hc lM3 (zkM lM3) rfl rfl dX10_livesDay_5 ?_
  refine z_if_le (tgt := 138) hc dX10_livesDay_6 (by decide) _ (fun h1 => ?_) (fun h1 => ?_)
  · refine z_aload_n hc dX10_livesDay_138 0 rfl rfl ?_
    refine z_callV (av := []) (enc' := eV) hc rfl (sMo_passesAsTold _) (ci := 10) (by decide) lM1 (zkM lM1) rfl wMX10_459 hpyX10_passesAsTold hmyX10_passesAsTold (rm_ok hRm (Nat.le_of_ble_eq_true rfl) (Nat.le_of_ble_eq_true rfl)) (Nat.le_of_ble_eq_true rfl) hRm.2.2 dX10_livesDay_139 (fun c1 u1 f1 => ?_)
    exact z_vret hc dX10_livesDay_142
  · refine z_aload_n hc dX10_livesDay_9 0 rfl rfl ?_
    refine z_aload_n hc dX10_livesDay_10 0 rfl rfl ?_
    refine z_getR (x := 3) hc (ci := 10) (k := 10) (by decide) (by decide) zly10 lM1 (zkM lM1) wFX10_13 rfl dX10_livesDay_11 rfl (by decide) ?_
    refine z_iconst (v := 3) hc dX10_livesDay_14 rfl ?_
    refine z_iald (k := 3) hc lM3 (zkM lM3) rfl rfl dX10_livesDay_15 ?_
    refine z_callV (av := [.int (gI u 3 3)]) (enc' := eI) hc rfl (sMo_draws (gI u 3 3) _) (ci := 10) (by decide) lM1 (zkM lM1) rfl wMX10_534 hpyX10_draws hmyX10_draws (rm_ok hRm (Nat.le_of_ble_eq_true rfl) (Nat.le_of_ble_eq_true rfl)) (Nat.le_of_ble_eq_true rfl) hRm.2.2 dX10_livesDay_16 (fun c2 u2 f2 => ?_)
    refine z_istore_n (L' := [(1, .int c2), (0, .ref 1)]) hc dX10_livesDay_19 rfl (by decide) rfl rfl ?_
    refine z_aload_n hc dX10_livesDay_20 1 rfl rfl ?_
    refine z_aload_n hc dX10_livesDay_21 1 rfl rfl ?_
    refine z_getR (x := 3) hc (ci := 10) (k := 10) (by decide) (by decide) zly10 lM1 (zkM lM1) wFX10_13 rfl dX10_livesDay_22 rfl (by decide) ?_
    refine z_iconst (v := 0) hc dX10_livesDay_25 rfl ?_
    refine z_iald (k := 0) hc lM3 (zkM lM3) rfl rfl dX10_livesDay_26 ?_
    refine z_callV (av := [.int (gI u2 3 0)]) (enc' := eI) hc rfl (sMo_draws (gI u2 3 0) _) (ci := 10) (by decide) lM1 (zkM lM1) rfl wMX10_534 hpyX10_draws hmyX10_draws (rm_ok hRm (Nat.le_of_ble_eq_true rfl) (Nat.le_of_ble_eq_true rfl)) (Nat.le_of_ble_eq_true rfl) hRm.2.2 dX10_livesDay_27 (fun c3 u3 f3 => ?_)
    refine z_istore_n (L' := [(2, .int c3), (1, .int c2), (0, .ref 1)]) hc dX10_livesDay_30 rfl (by decide) rfl rfl ?_
    refine z_aload_n hc dX10_livesDay_31 2 rfl rfl ?_
    refine z_iconst (v := 5) hc dX10_livesDay_32 rfl ?_
    refine z_callV (av := [.int 5]) (enc' := eI) hc rfl (sMo_draws 5 _) (ci := 10) (by decide) lM1 (zkM lM1) rfl wMX10_534 hpyX10_draws hmyX10_draws (rm_ok hRm (Nat.le_of_ble_eq_true rfl) (Nat.le_of_ble_eq_true rfl)) (Nat.le_of_ble_eq_true rfl) hRm.2.2 dX10_livesDay_33 (fun c4 u4 f4 => ?_)
    refine z_istore_n (L' := [(3, .int c4), (2, .int c3), (1, .int c2), (0, .ref 1)]) hc dX10_livesDay_36 rfl (by decide) rfl rfl ?_
    refine z_iload_n hc dX10_livesDay_37 0 rfl rfl ?_
    refine z_iconst (v := 3) hc dX10_livesDay_38 rfl ?_
    refine z_icmp_ge (tgt := 61) hc dX10_livesDay_39 (by decide) _ (fun h2 => ?_) (fun h2 => ?_)
    · refine zJ.sub (L' := [(0, .ref 1), (1, .int c2), (3, .int c4)]) [3, 2, 0] rfl ?_
      exact sMo_livesDay_61 hc hRm c2 c4 _
    · refine z_aload_n hc dX10_livesDay_42 3 rfl rfl ?_
      refine z_iload_n hc dX10_livesDay_43 2 rfl rfl ?_
      refine z_callV (av := [.int c2]) (enc' := eI) hc rfl (sMo_canSwim c2 _) (ci := 10) (by decide) lM1 (zkM lM1) rfl wMX10_450 hpyX10_canSwim hmyX10_canSwim (rm_ok hRm (Nat.le_of_ble_eq_true rfl) (Nat.le_of_ble_eq_true rfl)) (Nat.le_of_ble_eq_true rfl) hRm.2.2 dX10_livesDay_44 (fun c5 u5 f5 => ?_)
      refine z_iload_n hc dX10_livesDay_47 1 rfl rfl ?_
      refine z_ishr hc dX10_livesDay_48 ?_
      refine z_iconst (v := 1) hc dX10_livesDay_49 rfl ?_
      refine z_iand hc dX10_livesDay_50 ?_
      refine z_iconst (v := 1) hc dX10_livesDay_51 rfl ?_
      refine z_icmp_ne (tgt := 61) hc dX10_livesDay_52 (by decide) _ (fun h3 => ?_) (fun h3 => ?_)
      · refine zJ.sub (L' := [(0, .ref 1), (1, .int c2), (3, .int c4)]) [3, 2, 0] rfl ?_
        exact sMo_livesDay_61 hc hRm c2 c4 _
      · refine z_aload_n hc dX10_livesDay_55 3 rfl rfl ?_
        refine z_iload_n hc dX10_livesDay_56 2 rfl rfl ?_
        refine z_iload_n hc dX10_livesDay_57 1 rfl rfl ?_
        refine z_callV (av := [.int c2, .int c3]) (enc' := eV) hc rfl (sMo_swims c2 c3 _) (ci := 10) (by decide) lM1 (zkM lM1) rfl wMX10_453 hpyX10_swims hmyX10_swims (rm_ok hRm (Nat.le_of_ble_eq_true rfl) (Nat.le_of_ble_eq_true rfl)) (Nat.le_of_ble_eq_true rfl) hRm.2.2 dX10_livesDay_58 (fun c6 u6 f6 => ?_)
        refine zJ.sub (L' := [(0, .ref 1), (1, .int c2), (3, .int c4)]) [3, 2, 0] rfl ?_
        exact sMo_livesDay_61 hc hRm c2 c4 _
set_option maxRecDepth 100000 in
set_option maxHeartbeats 4000000 in
theorem sMo_sessions_104b {fin : Int32 × zM} (hc : zCx p s mi args meth c (wM D b) m0 RX10 cX10_sessions 8 (some .int)) (hRm : R.frames = 7 ∧ R.locals = 157 ∧ R.cells = zc (wM D b) m0 fin.2 ∧ R.slots = zs (wM D b) m0 fin.2) {zr104 : Int32 → Int32 → Int32 → Int32 → zM → Option (Int32 × zM)} (hr104 : ∀ (v3 : Int32) (v5 : Int32) (v6 : Int32) (v7 : Int32) (u : zM), zJ eI p l e R s mi args below meth c (wM D b) m0 8 fin 104 [(0, .ref 1), (3, .int v3), (5, .int v5), (6, .int v6), (7, .int v7)] [] u (zr104 v3 v5 v6 v7 u)) (v3 : Int32) (v5 : Int32) (v6 : Int32) (v7 : Int32) (u : zM) : zJ eI p l e R s mi args below meth c (wM D b) m0 8 fin 104 [(0, .ref 1), (3, .int v3), (5, .int v5), (6, .int v6), (7, .int v7)] [] u (Mo_sessions_104b zr104 v3 v5 v6 v7 u) := by
  unfold Mo_sessions_104b
  refine z_iload hc dX10_sessions_104 4 rfl ?_
  refine z_aload_n hc dX10_sessions_106 0 rfl rfl ?_
  refine z_getR (x := 3) hc (ci := 10) (k := 10) (by decide) (by decide) zly10 lM1 (zkM lM1) wFX10_13 rfl dX10_sessions_107 rfl (by decide) ?_
  refine z_iconst (v := 0) hc dX10_sessions_110 rfl ?_
  refine z_iald (k := 0) hc lM3 (zkM lM3) rfl rfl dX10_sessions_111 ?_
  refine z_icmp_ge (tgt := 135) hc dX10_sessions_112 (by decide) _ (fun h1 => ?_) (fun h1 => ?_)
  · refine z_aload_n hc dX10_sessions_135 0 rfl rfl ?_
    refine z_iconst (v := 0) hc dX10_sessions_136 rfl ?_
    refine z_callV (av := [.int 0]) (enc' := eI) hc rfl (sMo_whoAt 0 _) (ci := 10) (by decide) lM1 (zkM lM1) rfl wMX10_419 hpyX10_whoAt hmyX10_whoAt (rm_ok hRm (Nat.le_of_ble_eq_true rfl) (Nat.le_of_ble_eq_true rfl)) (Nat.le_of_ble_eq_true rfl) hRm.2.2 dX10_sessions_137 (fun c1 u1 f1 => ?_)
    refine z_istore (L' := [(7, .int c1), (0, .ref 1), (3, .int v3), (5, .int v5), (6, .int v6)]) hc dX10_sessions_140 (by decide) rfl rfl ?_
    refine z_aload_n hc dX10_sessions_142 1 rfl rfl ?_
    refine z_getR (x := 41) hc (ci := 10) (k := 51) (by decide) (by decide) zly10 lM1 (zkM lM1) wFX10_129 rfl dX10_sessions_143 rfl (by decide) ?_
    refine z_iconst (v := 0) hc dX10_sessions_146 rfl ?_
    refine z_aload_n hc dX10_sessions_147 1 rfl rfl ?_
    refine z_getR (x := 40) hc (ci := 10) (k := 50) (by decide) (by decide) zly10 lM1 (zkM lM1) wFX10_126 rfl dX10_sessions_148 rfl (by decide) ?_
    refine z_iconst (v := 0) hc dX10_sessions_151 rfl ?_
    refine z_callS (av := [.ref 41, .int 0, .ref 40, .int 0]) (enc' := eV) hc rfl (sMo_copies 41 0 40 0 _) wMX10_434 hpyX10_copies hmyX10_copies (rm_ok hRm (Nat.le_of_ble_eq_true rfl) (Nat.le_of_ble_eq_true rfl)) (Nat.le_of_ble_eq_true rfl) hRm.2.2 dX10_sessions_152 (fun c2 u2 f2 => ?_)
    refine z_iload_n hc dX10_sessions_155 2 rfl rfl ?_
    refine z_if_ne (tgt := 164) hc dX10_sessions_156 (by decide) _ (fun h2 => ?_) (fun h2 => ?_)
    · refine z_iload_n hc dX10_sessions_164 2 rfl rfl ?_
      refine z_iconst (v := 1) hc dX10_sessions_165 rfl ?_
      refine z_icmp_ne (tgt := 174) hc dX10_sessions_166 (by decide) _ (fun h3 => ?_) (fun h3 => ?_)
      · refine z_iload hc dX10_sessions_174 0 rfl ?_
        exact z_iret hc dX10_sessions_176
      · refine z_iload hc dX10_sessions_169 4 rfl ?_
        refine z_goto (tgt := 176) hc dX10_sessions_171 (by decide) ?_
        exact z_iret hc dX10_sessions_176
    · refine z_iload hc dX10_sessions_159 3 rfl ?_
      refine z_goto (tgt := 176) hc dX10_sessions_161 (by decide) ?_
      exact z_iret hc dX10_sessions_176
  · refine z_iload hc dX10_sessions_115 3 rfl ?_
    refine z_aload_n hc dX10_sessions_117 0 rfl rfl ?_
    refine z_getR (x := 40) hc (ci := 10) (k := 50) (by decide) (by decide) zly10 lM1 (zkM lM1) wFX10_126 rfl dX10_sessions_118 rfl (by decide) ?_
    refine z_iconst (v := 1) hc dX10_sessions_121 rfl ?_
    refine z_iload hc dX10_sessions_122 4 rfl ?_
    refine z_iadd hc dX10_sessions_124 ?_
    refine zJ.chk _ (fun h4 => ?_)
    refine z_iald (k := (ix (1 + v7))) hc lM40 (zkM lM40) h4 rfl dX10_sessions_125 ?_
    refine z_iadd hc dX10_sessions_126 ?_
    refine zJ.letI (fun x1 e1 => ?_)
    refine z_istore (L' := [(6, .int x1), (0, .ref 1), (3, .int v3), (5, .int v5), (7, .int v7)]) hc dX10_sessions_127 (by decide) rfl rfl ?_
    refine z_iinc (L' := [(7, .int (v7 + 1)), (6, .int x1), (0, .ref 1), (3, .int v3), (5, .int v5)]) hc dX10_sessions_129 4 rfl (v := (v7 + 1)) rfl (by decide) rfl rfl ?_
    refine z_goto (tgt := 104) hc dX10_sessions_132 (by decide) ?_
    refine zJ.sub (L' := [(0, .ref 1), (3, .int v3), (5, .int v5), (6, .int x1), (7, .int (v7 + 1))]) [2, 3, 4, 1, 0] rfl ?_
    exact hr104 v3 v5 x1 (v7 + 1) _
set_option maxRecDepth 100000 in
set_option maxHeartbeats 4000000 in
theorem sMo_sessions_104 {fin : Int32 × zM} (hc : zCx p s mi args meth c (wM D b) m0 RX10 cX10_sessions 8 (some .int)) (hRm : R.frames = 7 ∧ R.locals = 157 ∧ R.cells = zc (wM D b) m0 fin.2 ∧ R.slots = zs (wM D b) m0 fin.2) : ∀ (zf : Nat) (v3 : Int32) (v5 : Int32) (v6 : Int32) (v7 : Int32) (u : zM), zJ eI p l e R s mi args below meth c (wM D b) m0 8 fin 104 [(0, .ref 1), (3, .int v3), (5, .int v5), (6, .int v6), (7, .int v7)] [] u (Mo_sessions_104 zf v3 v5 v6 v7 u) := by
  intro zf
  induction zf with
  | zero => intro v3 v5 v6 v7 u; exact zJ.nil
  | succ zf ih => intro v3 v5 v6 v7 u; exact sMo_sessions_104b hc hRm ih v3 v5 v6 v7 u
set_option maxRecDepth 100000 in
set_option maxHeartbeats 4000000 in
theorem sMo_sessions_69b {fin : Int32 × zM} (hc : zCx p s mi args meth c (wM D b) m0 RX10 cX10_sessions 8 (some .int)) (hRm : R.frames = 7 ∧ R.locals = 157 ∧ R.cells = zc (wM D b) m0 fin.2 ∧ R.slots = zs (wM D b) m0 fin.2) {zr69 : Int32 → Int32 → Int32 → Int32 → zM → Option (Int32 × zM)} (hr69 : ∀ (v2 : Int32) (v3 : Int32) (v4 : Int32) (v5 : Int32) (u : zM), zJ eI p l e R s mi args below meth c (wM D b) m0 8 fin 69 [(0, .ref 1), (2, .int v2), (3, .int v3), (4, .int v4), (5, .int v5)] [] u (zr69 v2 v3 v4 v5 u)) (v2 : Int32) (v3 : Int32) (v4 : Int32) (v5 : Int32) (u : zM) : zJ eI p l e R s mi args below meth c (wM D b) m0 8 fin 69 [(0, .ref 1), (2, .int v2), (3, .int v3), (4, .int v4), (5, .int v5)] [] u (Mo_sessions_69b zr69 v2 v3 v4 v5 u) := by
  unfold Mo_sessions_69b
  refine z_iload hc dX10_sessions_69 4 rfl ?_
  refine z_iload_n hc dX10_sessions_71 1 rfl rfl ?_
  refine z_icmp_ge (tgt := 85) hc dX10_sessions_72 (by decide) _ (fun h1 => ?_) (fun h1 => ?_)
  · refine z_aload_n hc dX10_sessions_85 0 rfl rfl ?_
    refine z_iconst (v := 3) hc dX10_sessions_86 rfl ?_
    refine z_callV (av := [.int 3]) (enc' := eI) hc rfl (sMo_writsOf 3 _) (ci := 10) (by decide) lM1 (zkM lM1) rfl wMX10_428 hpyX10_writsOf hmyX10_writsOf (rm_ok hRm (Nat.le_of_ble_eq_true rfl) (Nat.le_of_ble_eq_true rfl)) (Nat.le_of_ble_eq_true rfl) hRm.2.2 dX10_sessions_87 (fun c1 u1 f1 => ?_)
    refine z_callS (av := [.int c1]) (enc' := eI) hc rfl (sMo_bits c1 _) wMX10_393 hpyX10_bits hmyX10_bits (rm_ok hRm (Nat.le_of_ble_eq_true rfl) (Nat.le_of_ble_eq_true rfl)) (Nat.le_of_ble_eq_true rfl) hRm.2.2 dX10_sessions_90 (fun c2 u2 f2 => ?_)
    refine z_iload hc dX10_sessions_93 3 rfl ?_
    refine z_isub hc dX10_sessions_95 ?_
    refine zJ.letI (fun x1 e1 => ?_)
    refine z_istore (L' := [(5, .int x1), (0, .ref 1), (2, .int v2), (3, .int v3), (4, .int v4)]) hc dX10_sessions_96 (by decide) rfl rfl ?_
    refine z_iconst (v := 0) hc dX10_sessions_98 rfl ?_
    refine z_istore (L' := [(6, .int 0), (5, .int x1), (0, .ref 1), (2, .int v2), (3, .int v3), (4, .int v4)]) hc dX10_sessions_99 (by decide) rfl rfl ?_
    refine z_iconst (v := 0) hc dX10_sessions_101 rfl ?_
    refine z_istore (L' := [(7, .int 0), (6, .int 0), (5, .int x1), (0, .ref 1), (2, .int v2), (3, .int v3), (4, .int v4)]) hc dX10_sessions_102 (by decide) rfl rfl ?_
    refine zJ.sub (L' := [(0, .ref 1), (3, .int v3), (5, .int x1), (6, .int 0), (7, .int 0)]) [3, 5, 2, 1, 0] rfl ?_
    exact sMo_sessions_104 hc hRm zF v3 x1 0 0 _
  · refine z_aload_n hc dX10_sessions_75 0 rfl rfl ?_
    refine z_callV (av := []) (enc' := eV) hc rfl (sMo_livesDay _) (ci := 10) (by decide) lM1 (zkM lM1) rfl wMX10_537 hpyX10_livesDay hmyX10_livesDay (rm_ok hRm (Nat.le_of_ble_eq_true rfl) (Nat.le_of_ble_eq_true rfl)) (Nat.le_of_ble_eq_true rfl) hRm.2.2 dX10_sessions_76 (fun c3 u3 f3 => ?_)
    refine z_iinc (L' := [(5, .int (v5 + 1)), (0, .ref 1), (2, .int v2), (3, .int v3), (4, .int v4)]) hc dX10_sessions_79 4 rfl (v := (v5 + 1)) rfl (by decide) rfl rfl ?_
    refine z_goto (tgt := 69) hc dX10_sessions_82 (by decide) ?_
    refine zJ.sub (L' := [(0, .ref 1), (2, .int v2), (3, .int v3), (4, .int v4), (5, .int (v5 + 1))]) [1, 2, 3, 4, 0] rfl ?_
    exact hr69 v2 v3 v4 (v5 + 1) _
set_option maxRecDepth 100000 in
set_option maxHeartbeats 4000000 in
theorem sMo_sessions_69 {fin : Int32 × zM} (hc : zCx p s mi args meth c (wM D b) m0 RX10 cX10_sessions 8 (some .int)) (hRm : R.frames = 7 ∧ R.locals = 157 ∧ R.cells = zc (wM D b) m0 fin.2 ∧ R.slots = zs (wM D b) m0 fin.2) : ∀ (zf : Nat) (v2 : Int32) (v3 : Int32) (v4 : Int32) (v5 : Int32) (u : zM), zJ eI p l e R s mi args below meth c (wM D b) m0 8 fin 69 [(0, .ref 1), (2, .int v2), (3, .int v3), (4, .int v4), (5, .int v5)] [] u (Mo_sessions_69 zf v2 v3 v4 v5 u) := by
  intro zf
  induction zf with
  | zero => intro v2 v3 v4 v5 u; exact zJ.nil
  | succ zf ih => intro v2 v3 v4 v5 u; exact sMo_sessions_69b hc hRm ih v2 v3 v4 v5 u
set_option maxRecDepth 100000 in
set_option maxHeartbeats 4000000 in
theorem sMo_sessions : ∀ (v1 : Int32) (v2 : Int32) (v3 : Int32) (u : zM) r m1, Mo_sessions v1 v2 v3 u = some (r, m1) → zMet l (wM D b) 7 157 yX10_sessions cX10_sessions 8 (some .int) [.ref 1, .int v1, .int v2, .int v3] u (eI r) m1 := by
  intro v1 v2 v3 u
  refine zMet.of (L := [(0, .ref 1), (1, .int v1), (2, .int v2), (3, .int v3)]) RX10 (by decide +kernel) rfl (Nat.le_of_ble_eq_true rfl) (fun h => by cases h) rfl (fun p e s mi args below meth c R fin hc hin hRm => ?_)
  unfold Mo_sessions
  refine z_aload_n hc dX10_sessions_0 0 rfl rfl ?_
  refine z_iconst (v := 0) hc dX10_sessions_1 rfl ?_
  refine z_putI hc (ci := 10) (k := 0) (by decide) (by decide) zly10 lM1 (zkM lM1) wFX10_162 rfl rfl rfl rfl dX10_sessions_2 ?_
  refine zJ.letM (fun u1 e1 => ?_)
  refine z_iload_n hc dX10_sessions_5 1 rfl rfl ?_
  refine z_iconst (v := 0) hc dX10_sessions_6 rfl ?_
  refine z_sipush (v := 9999) hc dX10_sessions_7 rfl ?_
  refine z_callS (av := [.int v1, .int 0, .int 9999]) (enc' := eI) hc rfl (sMo_within v1 0 9999 _) wMX10_293 hpyX10_within hmyX10_within (rm_ok hRm (Nat.le_of_ble_eq_true rfl) (Nat.le_of_ble_eq_true rfl)) (Nat.le_of_ble_eq_true rfl) hRm.2.2 dX10_sessions_10 (fun c1 u2 f1 => ?_)
  refine z_if_eq (tgt := 35) hc dX10_sessions_13 (by decide) _ (fun h1 => ?_) (fun h1 => ?_)
  · refine z_iconst (v := (-1)) hc dX10_sessions_35 rfl ?_
    exact z_iret hc dX10_sessions_36
  · refine z_iload_n hc dX10_sessions_16 2 rfl rfl ?_
    refine z_iconst (v := 1) hc dX10_sessions_17 rfl ?_
    refine z_bipush (v := 99) hc dX10_sessions_18 rfl ?_
    refine z_callS (av := [.int v2, .int 1, .int 99]) (enc' := eI) hc rfl (sMo_within v2 1 99 _) wMX10_293 hpyX10_within hmyX10_within (rm_ok hRm (Nat.le_of_ble_eq_true rfl) (Nat.le_of_ble_eq_true rfl)) (Nat.le_of_ble_eq_true rfl) hRm.2.2 dX10_sessions_20 (fun c2 u3 f2 => ?_)
    refine z_if_eq (tgt := 35) hc dX10_sessions_23 (by decide) _ (fun h2 => ?_) (fun h2 => ?_)
    · refine z_iconst (v := (-1)) hc dX10_sessions_35 rfl ?_
      exact z_iret hc dX10_sessions_36
    · refine z_iload_n hc dX10_sessions_26 3 rfl rfl ?_
      refine z_iconst (v := 0) hc dX10_sessions_27 rfl ?_
      refine z_iconst (v := 2) hc dX10_sessions_28 rfl ?_
      refine z_callS (av := [.int v3, .int 0, .int 2]) (enc' := eI) hc rfl (sMo_within v3 0 2 _) wMX10_293 hpyX10_within hmyX10_within (rm_ok hRm (Nat.le_of_ble_eq_true rfl) (Nat.le_of_ble_eq_true rfl)) (Nat.le_of_ble_eq_true rfl) hRm.2.2 dX10_sessions_29 (fun c3 u4 f3 => ?_)
      refine z_if_ne (tgt := 37) hc dX10_sessions_32 (by decide) _ (fun h3 => ?_) (fun h3 => ?_)
      · refine z_aload_n hc dX10_sessions_37 0 rfl rfl ?_
        refine z_iload_n hc dX10_sessions_38 1 rfl rfl ?_
        refine z_i2l hc dX10_sessions_39 ?_
        refine z_putL hc (ci := 10) (k := 66) (by decide) (by decide) zly10 lM1 (zkM lM1) wFX10_523 rfl rfl dX10_sessions_40 ?_
        refine zJ.letM (fun u5 e2 => ?_)
        refine z_aload_n hc dX10_sessions_43 0 rfl rfl ?_
        refine z_getR (x := 40) hc (ci := 10) (k := 50) (by decide) (by decide) zly10 lM1 (zkM lM1) wFX10_126 rfl dX10_sessions_44 rfl (by decide) ?_
        refine z_iconst (v := 0) hc dX10_sessions_47 rfl ?_
        refine z_aload_n hc dX10_sessions_48 0 rfl rfl ?_
        refine z_getR (x := 41) hc (ci := 10) (k := 51) (by decide) (by decide) zly10 lM1 (zkM lM1) wFX10_129 rfl dX10_sessions_49 rfl (by decide) ?_
        refine z_iconst (v := 0) hc dX10_sessions_52 rfl ?_
        refine z_callS (av := [.ref 40, .int 0, .ref 41, .int 0]) (enc' := eV) hc rfl (sMo_copies 40 0 41 0 _) wMX10_434 hpyX10_copies hmyX10_copies (rm_ok hRm (Nat.le_of_ble_eq_true rfl) (Nat.le_of_ble_eq_true rfl)) (Nat.le_of_ble_eq_true rfl) hRm.2.2 dX10_sessions_53 (fun c4 u6 f4 => ?_)
        refine z_aload_n hc dX10_sessions_56 0 rfl rfl ?_
        refine z_iconst (v := 3) hc dX10_sessions_57 rfl ?_
        refine z_callV (av := [.int 3]) (enc' := eI) hc rfl (sMo_writsOf 3 _) (ci := 10) (by decide) lM1 (zkM lM1) rfl wMX10_428 hpyX10_writsOf hmyX10_writsOf (rm_ok hRm (Nat.le_of_ble_eq_true rfl) (Nat.le_of_ble_eq_true rfl)) (Nat.le_of_ble_eq_true rfl) hRm.2.2 dX10_sessions_58 (fun c5 u7 f5 => ?_)
        refine z_callS (av := [.int c5]) (enc' := eI) hc rfl (sMo_bits c5 _) wMX10_393 hpyX10_bits hmyX10_bits (rm_ok hRm (Nat.le_of_ble_eq_true rfl) (Nat.le_of_ble_eq_true rfl)) (Nat.le_of_ble_eq_true rfl) hRm.2.2 dX10_sessions_61 (fun c6 u8 f6 => ?_)
        refine z_istore (L' := [(4, .int c6), (0, .ref 1), (1, .int v1), (2, .int v2), (3, .int v3)]) hc dX10_sessions_64 (by decide) rfl rfl ?_
        refine z_iconst (v := 0) hc dX10_sessions_66 rfl ?_
        refine z_istore (L' := [(5, .int 0), (4, .int c6), (0, .ref 1), (1, .int v1), (2, .int v2), (3, .int v3)]) hc dX10_sessions_67 (by decide) rfl rfl ?_
        refine zJ.sub (L' := [(0, .ref 1), (2, .int v2), (3, .int v3), (4, .int c6), (5, .int 0)]) [2, 4, 5, 1, 0] rfl ?_
        exact sMo_sessions_69 hc hRm zF v2 v3 c6 0 _
      · refine z_iconst (v := (-1)) hc dX10_sessions_35 rfl ?_
        exact z_iret hc dX10_sessions_36
set_option maxRecDepth 100000 in
set_option maxHeartbeats 4000000 in
theorem sMo_mark_59 {fin : Int32 × zM} (hc : zCx p s mi args meth c (wM D b) m0 RX10 cX10_mark 5 (some .boolean)) (hRm : R.frames = 1 ∧ R.locals = 24 ∧ R.cells = zc (wM D b) m0 fin.2 ∧ R.slots = zs (wM D b) m0 fin.2) (v1 : Int32) (v2 : Int32) (v3 : Int32) (s0 : Int32) (u : zM) : zJ eI p l e R s mi args below meth c (wM D b) m0 5 fin 59 [(0, .ref 1), (1, .int v1), (2, .int v2), (3, .int v3)] [.int s0] u (Mo_mark_59 v1 v2 v3 s0 u) := by
  unfold Mo_mark_59
  refine z_istore (L' := [(4, .int s0), (0, .ref 1), (1, .int v1), (2, .int v2), (3, .int v3)]) hc dX10_mark_59 (by decide) rfl rfl ?_
  refine z_aload_n hc dX10_mark_61 1 rfl rfl ?_
  refine z_iload_n hc dX10_mark_62 4 rfl rfl ?_
  refine z_iload hc dX10_mark_63 0 rfl ?_
  refine z_callV (av := [.int v3, .int s0]) (enc' := eV) hc rfl (sMo_laysLines v3 s0 _) (ci := 10) (by decide) lM1 (zkM lM1) rfl wMX10_389 hpyX10_laysLines hmyX10_laysLines (rm_ok hRm (Nat.le_of_ble_eq_true rfl) (Nat.le_of_ble_eq_true rfl)) (Nat.le_of_ble_eq_true rfl) hRm.2.2 dX10_mark_65 (fun c1 u1 f1 => ?_)
  refine z_aload_n hc dX10_mark_68 1 rfl rfl ?_
  refine z_iload_n hc dX10_mark_69 4 rfl rfl ?_
  refine z_iload hc dX10_mark_70 0 rfl ?_
  refine z_callV (av := [.int v3, .int s0]) (enc' := eV) hc rfl (sMo_laysSeen v3 s0 _) (ci := 10) (by decide) lM1 (zkM lM1) rfl wMX10_540 hpyX10_laysSeen hmyX10_laysSeen (rm_ok hRm (Nat.le_of_ble_eq_true rfl) (Nat.le_of_ble_eq_true rfl)) (Nat.le_of_ble_eq_true rfl) hRm.2.2 dX10_mark_72 (fun c2 u2 f2 => ?_)
  refine z_iload_n hc dX10_mark_75 3 rfl rfl ?_
  refine z_if_eq (tgt := 103) hc dX10_mark_76 (by decide) _ (fun h1 => ?_) (fun h1 => ?_)
  · refine z_aload_n hc dX10_mark_103 1 rfl rfl ?_
    refine z_getR (x := 40) hc (ci := 10) (k := 50) (by decide) (by decide) zly10 lM1 (zkM lM1) wFX10_126 rfl dX10_mark_104 rfl (by decide) ?_
    refine z_iconst (v := 0) hc dX10_mark_107 rfl ?_
    refine z_aload_n hc dX10_mark_108 1 rfl rfl ?_
    refine z_getR (x := 43) hc (ci := 10) (k := 53) (by decide) (by decide) zly10 lM1 (zkM lM1) wFX10_135 rfl dX10_mark_109 rfl (by decide) ?_
    refine z_bipush (v := 25) hc dX10_mark_112 rfl ?_
    refine z_iload_n hc dX10_mark_114 2 rfl rfl ?_
    refine z_imul hc dX10_mark_115 ?_
    refine z_callS (av := [.ref 40, .int 0, .ref 43, .int (25 * v1)]) (enc' := eV) hc rfl (sMo_copies 40 0 43 (25 * v1) _) wMX10_434 hpyX10_copies hmyX10_copies (rm_ok hRm (Nat.le_of_ble_eq_true rfl) (Nat.le_of_ble_eq_true rfl)) (Nat.le_of_ble_eq_true rfl) hRm.2.2 dX10_mark_116 (fun c3 u3 f3 => ?_)
    refine z_iconst (v := 1) hc dX10_mark_119 rfl ?_
    exact z_zret hc rfl dX10_mark_120
  · refine z_aload_n hc dX10_mark_79 1 rfl rfl ?_
    refine z_getR (x := 43) hc (ci := 10) (k := 53) (by decide) (by decide) zly10 lM1 (zkM lM1) wFX10_135 rfl dX10_mark_80 rfl (by decide) ?_
    refine z_bipush (v := 25) hc dX10_mark_83 rfl ?_
    refine z_iload_n hc dX10_mark_85 2 rfl rfl ?_
    refine z_imul hc dX10_mark_86 ?_
    refine z_aload_n hc dX10_mark_87 1 rfl rfl ?_
    refine z_getR (x := 40) hc (ci := 10) (k := 50) (by decide) (by decide) zly10 lM1 (zkM lM1) wFX10_126 rfl dX10_mark_88 rfl (by decide) ?_
    refine z_iconst (v := 0) hc dX10_mark_91 rfl ?_
    refine z_callS (av := [.ref 43, .int (25 * v1), .ref 40, .int 0]) (enc' := eV) hc rfl (sMo_copies 43 (25 * v1) 40 0 _) wMX10_434 hpyX10_copies hmyX10_copies (rm_ok hRm (Nat.le_of_ble_eq_true rfl) (Nat.le_of_ble_eq_true rfl)) (Nat.le_of_ble_eq_true rfl) hRm.2.2 dX10_mark_92 (fun c4 u4 f4 => ?_)
    refine z_aload_n hc dX10_mark_95 1 rfl rfl ?_
    refine z_iconst (v := 0) hc dX10_mark_96 rfl ?_
    refine z_putI hc (ci := 10) (k := 56) (by decide) (by decide) zly10 lM1 (zkM lM1) wFX10_383 rfl rfl rfl rfl dX10_mark_97 ?_
    refine zJ.letM (fun u5 e1 => ?_)
    refine z_goto (tgt := 119) hc dX10_mark_100 (by decide) ?_
    refine z_iconst (v := 1) hc dX10_mark_119 rfl ?_
    exact z_zret hc rfl dX10_mark_120
set_option maxRecDepth 100000 in
set_option maxHeartbeats 4000000 in
theorem sMo_mark_47 {fin : Int32 × zM} (hc : zCx p s mi args meth c (wM D b) m0 RX10 cX10_mark 5 (some .boolean)) (hRm : R.frames = 1 ∧ R.locals = 24 ∧ R.cells = zc (wM D b) m0 fin.2 ∧ R.slots = zs (wM D b) m0 fin.2) (v1 : Int32) (v2 : Int32) (s0 : Int32) (u : zM) : zJ eI p l e R s mi args below meth c (wM D b) m0 5 fin 47 [(0, .ref 1), (1, .int v1), (2, .int v2)] [.int s0] u (Mo_mark_47 v1 v2 s0 u) := by
  unfold Mo_mark_47
  refine z_istore_n (L' := [(3, .int s0), (0, .ref 1), (1, .int v1), (2, .int v2)]) hc dX10_mark_47 rfl (by decide) rfl rfl ?_
  refine z_iload_n hc dX10_mark_48 3 rfl rfl ?_
  refine z_if_eq (tgt := 56) hc dX10_mark_49 (by decide) _ (fun h1 => ?_) (fun h1 => ?_)
  · refine z_iconst (v := 1) hc dX10_mark_56 rfl ?_
    refine z_iload_n hc dX10_mark_57 2 rfl rfl ?_
    refine z_iadd hc dX10_mark_58 ?_
    refine zJ.sub (L' := [(0, .ref 1), (1, .int v1), (2, .int v2), (3, .int s0)]) [1, 2, 3, 0] rfl ?_
    exact sMo_mark_59 hc hRm v1 v2 s0 (1 + v1) _
  · refine z_iconst (v := 0) hc dX10_mark_52 rfl ?_
    refine z_goto (tgt := 59) hc dX10_mark_53 (by decide) ?_
    refine zJ.sub (L' := [(0, .ref 1), (1, .int v1), (2, .int v2), (3, .int s0)]) [1, 2, 3, 0] rfl ?_
    exact sMo_mark_59 hc hRm v1 v2 s0 0 _
set_option maxRecDepth 100000 in
set_option maxHeartbeats 4000000 in
theorem sMo_mark_29 {fin : Int32 × zM} (hc : zCx p s mi args meth c (wM D b) m0 RX10 cX10_mark 5 (some .boolean)) (hRm : R.frames = 1 ∧ R.locals = 24 ∧ R.cells = zc (wM D b) m0 fin.2 ∧ R.slots = zs (wM D b) m0 fin.2) (v1 : Int32) (v2 : Int32) (u : zM) : zJ eI p l e R s mi args below meth c (wM D b) m0 5 fin 29 [(0, .ref 1), (1, .int v1), (2, .int v2)] [] u (Mo_mark_29 v1 v2 u) := by
  unfold Mo_mark_29
  refine z_aload_n hc dX10_mark_29 0 rfl rfl ?_
  refine z_getR (x := 45) hc (ci := 10) (k := 55) (by decide) (by decide) zly10 lM1 (zkM lM1) wFX10_141 rfl dX10_mark_30 rfl (by decide) ?_
  refine z_iload_n hc dX10_mark_33 1 rfl rfl ?_
  refine z_iconst (v := 1) hc dX10_mark_34 rfl ?_
  refine zJ.chk _ (fun h1 => ?_)
  refine z_zast (k := (ix v1)) hc lM45 (zkM lM45) h1 rfl dX10_mark_35 ?_
  refine zJ.letM (fun u1 e1 => ?_)
  refine z_iload_n hc dX10_mark_36 2 rfl rfl ?_
  refine z_if_eq (tgt := 46) hc dX10_mark_37 (by decide) _ (fun h2 => ?_) (fun h2 => ?_)
  · refine z_iconst (v := 0) hc dX10_mark_46 rfl ?_
    exact sMo_mark_47 hc hRm v1 v2 0 _
  · refine z_iconst (v := 1) hc dX10_mark_40 rfl ?_
    refine z_iload_n hc dX10_mark_41 1 rfl rfl ?_
    refine z_iadd hc dX10_mark_42 ?_
    refine z_goto (tgt := 47) hc dX10_mark_43 (by decide) ?_
    exact sMo_mark_47 hc hRm v1 v2 (1 + v1) _
set_option maxRecDepth 100000 in
set_option maxHeartbeats 4000000 in
theorem sMo_mark : ∀ (v1 : Int32) (v2 : Int32) (u : zM) r m1, Mo_mark v1 v2 u = some (r, m1) → zMet l (wM D b) 1 24 yX10_mark cX10_mark 5 (some .boolean) [.ref 1, .int v1, .int v2] u (eI r) m1 := by
  intro v1 v2 u
  refine zMet.of (L := [(0, .ref 1), (1, .int v1), (2, .int v2)]) RX10 (by decide +kernel) rfl (Nat.le_of_ble_eq_true rfl) (fun h => by cases h) rfl (fun p e s mi args below meth c R fin hc hin hRm => ?_)
  unfold Mo_mark
  refine z_aload_n hc dX10_mark_0 0 rfl rfl ?_
  refine z_iconst (v := 0) hc dX10_mark_1 rfl ?_
  refine z_putI hc (ci := 10) (k := 0) (by decide) (by decide) zly10 lM1 (zkM lM1) wFX10_162 rfl rfl rfl rfl dX10_mark_2 ?_
  refine zJ.letM (fun u1 e1 => ?_)
  refine z_iload_n hc dX10_mark_5 1 rfl rfl ?_
  refine z_iconst (v := 0) hc dX10_mark_6 rfl ?_
  refine z_iconst (v := 3) hc dX10_mark_7 rfl ?_
  refine z_callS (av := [.int v1, .int 0, .int 3]) (enc' := eI) hc rfl (sMo_within v1 0 3 _) wMX10_293 hpyX10_within hmyX10_within (rm_ok hRm (Nat.le_of_ble_eq_true rfl) (Nat.le_of_ble_eq_true rfl)) (Nat.le_of_ble_eq_true rfl) hRm.2.2 dX10_mark_8 (fun c1 u2 f1 => ?_)
  refine z_if_eq (tgt := 27) hc dX10_mark_11 (by decide) _ (fun h1 => ?_) (fun h1 => ?_)
  · refine z_iconst (v := 0) hc dX10_mark_27 rfl ?_
    exact z_zret hc rfl dX10_mark_28
  · refine z_iload_n hc dX10_mark_14 2 rfl rfl ?_
    refine z_if_eq (tgt := 29) hc dX10_mark_15 (by decide) _ (fun h2 => ?_) (fun h2 => ?_)
    · exact sMo_mark_29 hc hRm v1 v2 _
    · refine z_aload_n hc dX10_mark_18 0 rfl rfl ?_
      refine z_getR (x := 45) hc (ci := 10) (k := 55) (by decide) (by decide) zly10 lM1 (zkM lM1) wFX10_141 rfl dX10_mark_19 rfl (by decide) ?_
      refine z_iload_n hc dX10_mark_22 1 rfl rfl ?_
      refine zJ.chk _ (fun h3 => ?_)
      refine z_zald (k := (ix v1)) hc lM45 (zkM lM45) h3 rfl dX10_mark_23 ?_
      refine z_if_ne (tgt := 29) hc dX10_mark_24 (by decide) _ (fun h4 => ?_) (fun h4 => ?_)
      · exact sMo_mark_29 hc hRm v1 v2 _
      · refine z_iconst (v := 0) hc dX10_mark_27 rfl ?_
        exact z_zret hc rfl dX10_mark_28
set_option maxRecDepth 100000 in
set_option maxHeartbeats 4000000 in
theorem sMo_count : ∀ (v1 : Int32) (u : zM) r m1, Mo_count v1 u = some (r, m1) → zMet l (wM D b) 1 23 yX10_count cX10_count 2 (some .int) [.ref 1, .int v1] u (eI r) m1 := by
  intro v1 u
  refine zMet.of (L := [(0, .ref 1), (1, .int v1)]) RX10 (by decide +kernel) rfl (Nat.le_of_ble_eq_true rfl) (fun h => by cases h) rfl (fun p e s mi args below meth c R fin hc hin hRm => ?_)
  unfold Mo_count
  refine z_aload_n hc dX10_count_0 0 rfl rfl ?_
  refine z_iconst (v := 0) hc dX10_count_1 rfl ?_
  refine z_putI hc (ci := 10) (k := 0) (by decide) (by decide) zly10 lM1 (zkM lM1) wFX10_162 rfl rfl rfl rfl dX10_count_2 ?_
  refine zJ.letM (fun u1 e1 => ?_)
  refine z_iload_n hc dX10_count_5 1 rfl rfl ?_
  refine z_iconst (v := 0) hc dX10_count_6 rfl ?_
  refine z_bipush (v := 12) hc dX10_count_7 rfl ?_
  refine z_callS (av := [.int v1, .int 0, .int 12]) (enc' := eI) hc rfl (sMo_within v1 0 12 _) wMX10_293 hpyX10_within hmyX10_within (rm_ok hRm (Nat.le_of_ble_eq_true rfl) (Nat.le_of_ble_eq_true rfl)) (Nat.le_of_ble_eq_true rfl) hRm.2.2 dX10_count_9 (fun c1 u2 f1 => ?_)
  refine z_if_ne (tgt := 17) hc dX10_count_12 (by decide) _ (fun h1 => ?_) (fun h1 => ?_)
  · refine z_iload_n hc dX10_count_17 1 rfl rfl ?_
    refine z_iconst (v := 5) hc dX10_count_18 rfl ?_
    refine z_icmp_ge (tgt := 29) hc dX10_count_19 (by decide) _ (fun h2 => ?_) (fun h2 => ?_)
    · refine z_iload_n hc dX10_count_29 1 rfl rfl ?_
      refine z_bipush (v := 7) hc dX10_count_30 rfl ?_
      refine z_icmp_ge (tgt := 60) hc dX10_count_32 (by decide) _ (fun h3 => ?_) (fun h3 => ?_)
      · refine z_iload_n hc dX10_count_60 1 rfl rfl ?_
        refine z_bipush (v := 9) hc dX10_count_61 rfl ?_
        refine z_icmp_ge (tgt := 85) hc dX10_count_63 (by decide) _ (fun h4 => ?_) (fun h4 => ?_)
        · refine z_iload_n hc dX10_count_85 1 rfl rfl ?_
          refine z_bipush (v := 11) hc dX10_count_86 rfl ?_
          refine z_icmp_ge (tgt := 113) hc dX10_count_88 (by decide) _ (fun h5 => ?_) (fun h5 => ?_)
          · refine z_iload_n hc dX10_count_113 1 rfl rfl ?_
            refine z_bipush (v := 11) hc dX10_count_114 rfl ?_
            refine z_icmp_ne (tgt := 126) hc dX10_count_116 (by decide) _ (fun h6 => ?_) (fun h6 => ?_)
            · refine z_aload_n hc dX10_count_126 0 rfl rfl ?_
              refine z_getI hc (ci := 10) (k := 1) (by decide) (by decide) zly10 lM1 (zkM lM1) wFX10_168 rfl dX10_count_127 ?_
              exact z_iret hc dX10_count_130
            · refine z_aload_n hc dX10_count_119 0 rfl rfl ?_
              refine z_getI hc (ci := 10) (k := 56) (by decide) (by decide) zly10 lM1 (zkM lM1) wFX10_383 rfl dX10_count_120 ?_
              refine z_goto (tgt := 130) hc dX10_count_123 (by decide) ?_
              exact z_iret hc dX10_count_130
          · refine z_iload_n hc dX10_count_91 1 rfl rfl ?_
            refine z_bipush (v := 9) hc dX10_count_92 rfl ?_
            refine z_icmp_ne (tgt := 106) hc dX10_count_94 (by decide) _ (fun h7 => ?_) (fun h7 => ?_)
            · refine z_aload_n hc dX10_count_106 0 rfl rfl ?_
              refine z_getR (x := 36) hc (ci := 10) (k := 46) (by decide) (by decide) zly10 lM1 (zkM lM1) wFX10_114 rfl dX10_count_107 rfl (by decide) ?_
              refine z_iconst (v := 0) hc dX10_count_110 rfl ?_
              refine z_iald (k := 0) hc lM36 (zkM lM36) rfl rfl dX10_count_111 ?_
              exact z_iret hc dX10_count_112
            · refine z_aload_n hc dX10_count_97 0 rfl rfl ?_
              refine z_getR (x := 32) hc (ci := 10) (k := 42) (by decide) (by decide) zly10 lM1 (zkM lM1) wFX10_102 rfl dX10_count_98 rfl (by decide) ?_
              refine z_iconst (v := 0) hc dX10_count_101 rfl ?_
              refine z_iald (k := 0) hc lM32 (zkM lM32) rfl rfl dX10_count_102 ?_
              refine z_goto (tgt := 112) hc dX10_count_103 (by decide) ?_
              exact z_iret hc dX10_count_112
        · refine z_iload_n hc dX10_count_66 1 rfl rfl ?_
          refine z_bipush (v := 7) hc dX10_count_67 rfl ?_
          refine z_icmp_ne (tgt := 79) hc dX10_count_69 (by decide) _ (fun h8 => ?_) (fun h8 => ?_)
          · refine z_aload_n hc dX10_count_79 0 rfl rfl ?_
            refine z_iconst (v := 3) hc dX10_count_80 rfl ?_
            refine z_callV (av := [.int 3]) (enc' := eI) hc rfl (sMo_writsOf 3 _) (ci := 10) (by decide) lM1 (zkM lM1) rfl wMX10_428 hpyX10_writsOf hmyX10_writsOf (rm_ok hRm (Nat.le_of_ble_eq_true rfl) (Nat.le_of_ble_eq_true rfl)) (Nat.le_of_ble_eq_true rfl) hRm.2.2 dX10_count_81 (fun c2 u3 f2 => ?_)
            exact z_iret hc dX10_count_84
          · refine z_aload_n hc dX10_count_72 0 rfl rfl ?_
            refine z_callV (av := []) (enc' := eI) hc rfl (sMo_wets _) (ci := 10) (by decide) lM1 (zkM lM1) rfl wMX10_438 hpyX10_wets hmyX10_wets (rm_ok hRm (Nat.le_of_ble_eq_true rfl) (Nat.le_of_ble_eq_true rfl)) (Nat.le_of_ble_eq_true rfl) hRm.2.2 dX10_count_73 (fun c3 u4 f3 => ?_)
            refine z_goto (tgt := 84) hc dX10_count_76 (by decide) ?_
            exact z_iret hc dX10_count_84
      · refine z_iload_n hc dX10_count_35 1 rfl rfl ?_
        refine z_iconst (v := 5) hc dX10_count_36 rfl ?_
        refine z_icmp_ne (tgt := 49) hc dX10_count_37 (by decide) _ (fun h9 => ?_) (fun h9 => ?_)
        · refine z_aload_n hc dX10_count_49 0 rfl rfl ?_
          refine z_aload_n hc dX10_count_50 0 rfl rfl ?_
          refine z_getR (x := 40) hc (ci := 10) (k := 50) (by decide) (by decide) zly10 lM1 (zkM lM1) wFX10_126 rfl dX10_count_51 rfl (by decide) ?_
          refine z_iconst (v := 0) hc dX10_count_54 rfl ?_
          refine z_iald (k := 0) hc lM40 (zkM lM40) rfl rfl dX10_count_55 ?_
          refine z_callV (av := [.int (gI u2 40 0)]) (enc' := eI) hc rfl (sMo_rainOf (gI u2 40 0) _) (ci := 10) (by decide) lM1 (zkM lM1) rfl wMX10_410 hpyX10_rainOf hmyX10_rainOf (rm_ok hRm (Nat.le_of_ble_eq_true rfl) (Nat.le_of_ble_eq_true rfl)) (Nat.le_of_ble_eq_true rfl) hRm.2.2 dX10_count_56 (fun c4 u5 f4 => ?_)
          exact z_iret hc dX10_count_59
        · refine z_aload_n hc dX10_count_40 0 rfl rfl ?_
          refine z_getR (x := 40) hc (ci := 10) (k := 50) (by decide) (by decide) zly10 lM1 (zkM lM1) wFX10_126 rfl dX10_count_41 rfl (by decide) ?_
          refine z_iconst (v := 0) hc dX10_count_44 rfl ?_
          refine z_iald (k := 0) hc lM40 (zkM lM40) rfl rfl dX10_count_45 ?_
          refine z_goto (tgt := 59) hc dX10_count_46 (by decide) ?_
          exact z_iret hc dX10_count_59
    · refine z_aload_n hc dX10_count_22 0 rfl rfl ?_
      refine z_getR (x := 3) hc (ci := 10) (k := 10) (by decide) (by decide) zly10 lM1 (zkM lM1) wFX10_13 rfl dX10_count_23 rfl (by decide) ?_
      refine z_iload_n hc dX10_count_26 1 rfl rfl ?_
      refine zJ.chk _ (fun h10 => ?_)
      refine z_iald (k := (ix v1)) hc lM3 (zkM lM3) h10 rfl dX10_count_27 ?_
      exact z_iret hc dX10_count_28
  · refine z_iconst (v := (-1)) hc dX10_count_15 rfl ?_
    exact z_iret hc dX10_count_16
end ZS
