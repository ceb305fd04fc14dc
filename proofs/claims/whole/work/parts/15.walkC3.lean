section ZS
variable {p : Program} {l : Launch} {e : Env} {R : Room} {s : State} {mi : MethodId} {args : Array Value} {below : List Frame} {meth : Method} {c : Code} {D : zD} {b : Nat} {m0 : zM}
set_option maxRecDepth 100000 in
set_option maxHeartbeats 4000000 in
theorem sOW_keepPast : ∀ (u : zM) r m1, OW_keepPast u = some (r, m1) → zMet l (wC D b) 2 121 yX9_keepPast cX9_keepPast 1 none [.ref 1] u (eV r) m1 := by
  intro u
  refine zMet.of (L := [(0, .ref 1)]) RX9 (by decide +kernel) rfl (Nat.le_of_ble_eq_true rfl) (fun h => by cases h) rfl (fun p e s mi args below meth c R fin hc hin hRm => ?_)
  unfold OW_keepPast
  refine z_aload_n hc dX9_keepPast_0 0 rfl rfl ?_
  refine z_getR (x := 82) hc (ci := 9) (k := 9) (by decide) (by decide) zly9 lC1 (zkC lC1) wFX9_60 rfl dX9_keepPast_1 rfl (by decide) ?_
  refine z_aload_n hc dX9_keepPast_4 0 rfl rfl ?_
  refine z_getI hc (ci := 9) (k := 13) (by decide) (by decide) zly9 lC1 (zkC lC1) wFX9_216 rfl dX9_keepPast_5 ?_
  refine zJ.chk _ (fun h1 => ?_)
  refine z_aald (x := (82 + (3 + 6 * (ix (gI u 1 13))))) (k := (ix (gI u 1 13))) hc lC82 (by decide) (zkC lC82) h1 rfl (rfC_off lC82 rfl (by omega)) (Nat.le_add_right_of_le (by decide)) dX9_keepPast_8 ?_
  refine z_aload_n hc dX9_keepPast_9 0 rfl rfl ?_
  refine z_getR (x := 54) hc (ci := 9) (k := 5) (by decide) (by decide) zly9 lC1 (zkC lC1) wFX9_39 rfl dX9_keepPast_10 rfl (by decide) ?_
  refine z_callV (av := [.ref 54]) (enc' := eV) hc rfl (sSt_copy (82 + (3 + 6 * (ix (gI u 1 13)))) 54 _) (ci := 7) (by decide) (lyC_arr5 h1) (zkC (lyC_arr5 h1)) rfl wMX9_219 hpyX7_copy hmyX7_copy (rm_ok hRm (Nat.le_of_ble_eq_true rfl) (Nat.le_of_ble_eq_true rfl)) (Nat.le_of_ble_eq_true rfl) hRm.2.2 dX9_keepPast_13 (fun c1 u1 f1 => ?_)
  refine z_aload_n hc dX9_keepPast_16 0 rfl rfl ?_
  refine z_aload_n hc dX9_keepPast_17 0 rfl rfl ?_
  refine z_getI hc (ci := 9) (k := 13) (by decide) (by decide) zly9 lC1 (zkC lC1) wFX9_216 rfl dX9_keepPast_18 ?_
  refine z_iconst (v := 1) hc dX9_keepPast_21 rfl ?_
  refine z_iadd hc dX9_keepPast_22 ?_
  refine z_bipush (v := 16) hc dX9_keepPast_23 rfl ?_
  refine z_irem hc (by decide) dX9_keepPast_25 ?_
  refine z_putI hc (ci := 9) (k := 13) (by decide) (by decide) zly9 lC1 (zkC lC1) wFX9_216 rfl rfl rfl rfl dX9_keepPast_26 ?_
  refine zJ.letM (fun u2 e1 => ?_)
  refine z_aload_n hc dX9_keepPast_29 0 rfl rfl ?_
  refine z_aload_n hc dX9_keepPast_30 0 rfl rfl ?_
  refine z_getI hc (ci := 9) (k := 12) (by decide) (by decide) zly9 lC1 (zkC lC1) wFX9_192 rfl dX9_keepPast_31 ?_
  refine z_iconst (v := 1) hc dX9_keepPast_34 rfl ?_
  refine z_iadd hc dX9_keepPast_35 ?_
  refine z_bipush (v := 16) hc dX9_keepPast_36 rfl ?_
  refine z_callS (av := [.int ((gI u2 1 12) + 1), .int 16]) (enc' := eI) hc rfl (sJm_min (w := wC D b) rfl ((gI u2 1 12) + 1) 16 _) wMX9_223 hpyJ9_min_7cf53 hmyJ9_min_7cf53 (rm_ok hRm (Nat.le_of_ble_eq_true rfl) (Nat.le_of_ble_eq_true rfl)) (Nat.le_of_ble_eq_true rfl) hRm.2.2 dX9_keepPast_38 (fun c2 u3 f2 => ?_)
  refine z_putI hc (ci := 9) (k := 12) (by decide) (by decide) zly9 lC1 (zkC lC1) wFX9_192 rfl rfl rfl rfl dX9_keepPast_41 ?_
  refine zJ.letM (fun u4 e2 => ?_)
  exact z_vret hc dX9_keepPast_44
set_option maxRecDepth 100000 in
set_option maxHeartbeats 4000000 in
theorem sOW_take : ∀ (v1 : Int32) (v2 : Int32) (u : zM) r m1, OW_take v1 v2 u = some (r, m1) → zMet l (wC D b) 3 141 yX9_take cX9_take 3 (some .boolean) [.ref 1, .int v1, .int v2] u (eI r) m1 := by
  intro v1 v2 u
  refine zMet.of (L := [(0, .ref 1), (1, .int v1), (2, .int v2)]) RX9 (by decide +kernel) rfl (Nat.le_of_ble_eq_true rfl) (fun h => by cases h) rfl (fun p e s mi args below meth c R fin hc hin hRm => ?_)
  unfold OW_take
  refine z_aload_n hc dX9_take_0 0 rfl rfl ?_
  refine z_getR (x := 54) hc (ci := 9) (k := 5) (by decide) (by decide) zly9 lC1 (zkC lC1) wFX9_39 rfl dX9_take_1 rfl (by decide) ?_
  refine z_aload_n hc dX9_take_4 0 rfl rfl ?_
  refine zJ.chk _ (fun h1 => ?_)
  refine z_getR (x := (gR u 1 1)) hc (ci := 9) (k := 1) (by decide) (by decide) zly9 lC1 (zkC lC1) wFX9_19 rfl dX9_take_5 rfl (lC_pos h1) ?_
  refine z_iload_n hc dX9_take_8 1 rfl rfl ?_
  refine z_iload_n hc dX9_take_9 2 rfl rfl ?_
  refine z_callV (av := [.ref (gR u 1 1), .int v1, .int v2]) (enc' := eI) hc rfl (sSt_mayTake 54 (gR u 1 1) v1 v2 _) (ci := 7) (by decide) lC54 (zkC lC54) rfl wMX9_195 hpyX7_mayTake hmyX7_mayTake (rm_ok hRm (Nat.le_of_ble_eq_true rfl) (Nat.le_of_ble_eq_true rfl)) (Nat.le_of_ble_eq_true rfl) hRm.2.2 dX9_take_10 (fun c1 u1 f1 => ?_)
  refine z_if_ne (tgt := 18) hc dX9_take_13 (by decide) _ (fun h2 => ?_) (fun h2 => ?_)
  · refine z_aload_n hc dX9_take_18 0 rfl rfl ?_
    refine z_callV (av := []) (enc' := eV) hc rfl (sOW_keepPast _) (ci := 9) (by decide) lC1 (zkC lC1) rfl wMX9_199 hpyX9_keepPast hmyX9_keepPast (rm_ok hRm (Nat.le_of_ble_eq_true rfl) (Nat.le_of_ble_eq_true rfl)) (Nat.le_of_ble_eq_true rfl) hRm.2.2 dX9_take_19 (fun c2 u2 f2 => ?_)
    refine z_aload_n hc dX9_take_22 0 rfl rfl ?_
    refine z_getR (x := 54) hc (ci := 9) (k := 5) (by decide) (by decide) zly9 lC1 (zkC lC1) wFX9_39 rfl dX9_take_23 rfl (by decide) ?_
    refine z_getR (x := 59) hc (ci := 7) (k := 4) (by decide) (by decide) zly7 lC54 (zkC lC54) wFX9_166 rfl dX9_take_26 rfl (by decide) ?_
    refine z_iload_n hc dX9_take_29 2 rfl rfl ?_
    refine z_iload_n hc dX9_take_30 1 rfl rfl ?_
    refine zJ.chk _ (fun h3 => ?_)
    refine z_iast (k := (ix v2)) hc lC59 (zkC lC59) h3 rfl dX9_take_31 ?_
    refine zJ.letM (fun u3 e1 => ?_)
    refine z_iconst (v := 1) hc dX9_take_32 rfl ?_
    exact z_zret hc rfl dX9_take_33
  · refine z_iconst (v := 0) hc dX9_take_16 rfl ?_
    exact z_zret hc rfl dX9_take_17
set_option maxRecDepth 100000 in
set_option maxHeartbeats 4000000 in
theorem sOW_swim : ∀ (v1 : Int32) (v2 : Int32) (u : zM) r m1, OW_swim v1 v2 u = some (r, m1) → zMet l (wC D b) 3 141 yX9_swim cX9_swim 3 (some .int) [.ref 1, .int v1, .int v2] u (eI r) m1 := by
  intro v1 v2 u
  refine zMet.of (L := [(0, .ref 1), (1, .int v1), (2, .int v2)]) RX9 (by decide +kernel) rfl (Nat.le_of_ble_eq_true rfl) (fun h => by cases h) rfl (fun p e s mi args below meth c R fin hc hin hRm => ?_)
  unfold OW_swim
  refine z_aload_n hc dX9_swim_0 0 rfl rfl ?_
  refine z_getR (x := 54) hc (ci := 9) (k := 5) (by decide) (by decide) zly9 lC1 (zkC lC1) wFX9_39 rfl dX9_swim_1 rfl (by decide) ?_
  refine z_aload_n hc dX9_swim_4 0 rfl rfl ?_
  refine zJ.chk _ (fun h1 => ?_)
  refine z_getR (x := (gR u 1 1)) hc (ci := 9) (k := 1) (by decide) (by decide) zly9 lC1 (zkC lC1) wFX9_19 rfl dX9_swim_5 rfl (lC_pos h1) ?_
  refine z_iload_n hc dX9_swim_8 1 rfl rfl ?_
  refine z_iload_n hc dX9_swim_9 2 rfl rfl ?_
  refine z_callV (av := [.ref (gR u 1 1), .int v1, .int v2]) (enc' := eI) hc rfl (sSt_maySwim 54 (gR u 1 1) v1 v2 _) (ci := 7) (by decide) lC54 (zkC lC54) rfl wMX9_202 hpyX7_maySwim hmyX7_maySwim (rm_ok hRm (Nat.le_of_ble_eq_true rfl) (Nat.le_of_ble_eq_true rfl)) (Nat.le_of_ble_eq_true rfl) hRm.2.2 dX9_swim_10 (fun c1 u1 f1 => ?_)
  refine z_if_ne (tgt := 18) hc dX9_swim_13 (by decide) _ (fun h2 => ?_) (fun h2 => ?_)
  · refine z_aload_n hc dX9_swim_18 0 rfl rfl ?_
    refine z_callV (av := []) (enc' := eV) hc rfl (sOW_keepPast _) (ci := 9) (by decide) lC1 (zkC lC1) rfl wMX9_199 hpyX9_keepPast hmyX9_keepPast (rm_ok hRm (Nat.le_of_ble_eq_true rfl) (Nat.le_of_ble_eq_true rfl)) (Nat.le_of_ble_eq_true rfl) hRm.2.2 dX9_swim_19 (fun c2 u2 f2 => ?_)
    refine z_aload_n hc dX9_swim_22 0 rfl rfl ?_
    refine z_getR (x := 54) hc (ci := 9) (k := 5) (by decide) (by decide) zly9 lC1 (zkC lC1) wFX9_39 rfl dX9_swim_23 rfl (by decide) ?_
    refine z_iload_n hc dX9_swim_26 1 rfl rfl ?_
    refine z_iload_n hc dX9_swim_27 2 rfl rfl ?_
    refine z_callV (av := [.int v1, .int v2]) (enc' := eV) hc rfl (sSt_doSwim 54 v1 v2 _) (ci := 7) (by decide) lC54 (zkC lC54) rfl wMX9_205 hpyX7_doSwim hmyX7_doSwim (rm_ok hRm (Nat.le_of_ble_eq_true rfl) (Nat.le_of_ble_eq_true rfl)) (Nat.le_of_ble_eq_true rfl) hRm.2.2 dX9_swim_28 (fun c3 u3 f3 => ?_)
    refine z_aload_n hc dX9_swim_31 0 rfl rfl ?_
    refine z_getR (x := 54) hc (ci := 9) (k := 5) (by decide) (by decide) zly9 lC1 (zkC lC1) wFX9_39 rfl dX9_swim_32 rfl (by decide) ?_
    refine z_getR (x := 58) hc (ci := 7) (k := 3) (by decide) (by decide) zly7 lC54 (zkC lC54) wFX9_163 rfl dX9_swim_35 rfl (by decide) ?_
    refine z_iload_n hc dX9_swim_38 1 rfl rfl ?_
    refine zJ.chk _ (fun h3 => ?_)
    refine z_iald (k := (ix v1)) hc lC58 (zkC lC58) h3 rfl dX9_swim_39 ?_
    exact z_iret hc dX9_swim_40
  · refine z_iconst (v := (-1)) hc dX9_swim_16 rfl ?_
    exact z_iret hc dX9_swim_17
set_option maxRecDepth 100000 in
set_option maxHeartbeats 4000000 in
theorem sOW_serve : ∀ (v1 : Int32) (u : zM) r m1, OW_serve v1 u = some (r, m1) → zMet l (wC D b) 3 141 yX9_serve cX9_serve 3 (some .int) [.ref 1, .int v1] u (eI r) m1 := by
  intro v1 u
  refine zMet.of (L := [(0, .ref 1), (1, .int v1)]) RX9 (by decide +kernel) rfl (Nat.le_of_ble_eq_true rfl) (fun h => by cases h) rfl (fun p e s mi args below meth c R fin hc hin hRm => ?_)
  unfold OW_serve
  refine z_aload_n hc dX9_serve_0 0 rfl rfl ?_
  refine z_getR (x := 54) hc (ci := 9) (k := 5) (by decide) (by decide) zly9 lC1 (zkC lC1) wFX9_39 rfl dX9_serve_1 rfl (by decide) ?_
  refine z_aload_n hc dX9_serve_4 0 rfl rfl ?_
  refine zJ.chk _ (fun h1 => ?_)
  refine z_getR (x := (gR u 1 1)) hc (ci := 9) (k := 1) (by decide) (by decide) zly9 lC1 (zkC lC1) wFX9_19 rfl dX9_serve_5 rfl (lC_pos h1) ?_
  refine z_iload_n hc dX9_serve_8 1 rfl rfl ?_
  refine z_callV (av := [.ref (gR u 1 1), .int v1]) (enc' := eI) hc rfl (sSt_mayServe 54 (gR u 1 1) v1 _) (ci := 7) (by decide) lC54 (zkC lC54) rfl wMX9_209 hpyX7_mayServe hmyX7_mayServe (rm_ok hRm (Nat.le_of_ble_eq_true rfl) (Nat.le_of_ble_eq_true rfl)) (Nat.le_of_ble_eq_true rfl) hRm.2.2 dX9_serve_9 (fun c1 u1 f1 => ?_)
  refine z_if_ne (tgt := 17) hc dX9_serve_12 (by decide) _ (fun h2 => ?_) (fun h2 => ?_)
  · refine z_aload_n hc dX9_serve_17 0 rfl rfl ?_
    refine z_callV (av := []) (enc' := eV) hc rfl (sOW_keepPast _) (ci := 9) (by decide) lC1 (zkC lC1) rfl wMX9_199 hpyX9_keepPast hmyX9_keepPast (rm_ok hRm (Nat.le_of_ble_eq_true rfl) (Nat.le_of_ble_eq_true rfl)) (Nat.le_of_ble_eq_true rfl) hRm.2.2 dX9_serve_18 (fun c2 u2 f2 => ?_)
    refine z_aload_n hc dX9_serve_21 0 rfl rfl ?_
    refine z_getR (x := 54) hc (ci := 9) (k := 5) (by decide) (by decide) zly9 lC1 (zkC lC1) wFX9_39 rfl dX9_serve_22 rfl (by decide) ?_
    refine z_getR (x := 59) hc (ci := 7) (k := 4) (by decide) (by decide) zly7 lC54 (zkC lC54) wFX9_166 rfl dX9_serve_25 rfl (by decide) ?_
    refine z_iload_n hc dX9_serve_28 1 rfl rfl ?_
    refine zJ.chk _ (fun h3 => ?_)
    refine z_iald (k := (ix v1)) hc lC59 (zkC lC59) h3 rfl dX9_serve_29 ?_
    refine zJ.letI (fun x1 e1 => ?_)
    refine z_istore_n (L' := [(2, .int x1), (0, .ref 1), (1, .int v1)]) hc dX9_serve_30 rfl (by decide) rfl rfl ?_
    refine z_aload_n hc dX9_serve_31 1 rfl rfl ?_
    refine z_getR (x := 54) hc (ci := 9) (k := 5) (by decide) (by decide) zly9 lC1 (zkC lC1) wFX9_39 rfl dX9_serve_32 rfl (by decide) ?_
    refine z_getR (x := 59) hc (ci := 7) (k := 4) (by decide) (by decide) zly7 lC54 (zkC lC54) wFX9_166 rfl dX9_serve_35 rfl (by decide) ?_
    refine z_iload_n hc dX9_serve_38 2 rfl rfl ?_
    refine z_iconst (v := 3) hc dX9_serve_39 rfl ?_
    refine zJ.chk _ (fun h4 => ?_)
    refine z_iast (k := (ix v1)) hc lC59 (zkC lC59) h4 rfl dX9_serve_40 ?_
    refine zJ.letM (fun u3 e2 => ?_)
    refine z_iload_n hc dX9_serve_41 0 rfl rfl ?_
    exact z_iret hc dX9_serve_42
  · refine z_iconst (v := (-1)) hc dX9_serve_15 rfl ?_
    exact z_iret hc dX9_serve_16
set_option maxRecDepth 100000 in
set_option maxHeartbeats 4000000 in
theorem sOW_day : ∀ (u : zM) r m1, OW_day u = some (r, m1) → zMet l (wC D b) 4 141 yX9_day cX9_day 1 (some .int) [.ref 1] u (eI r) m1 := by
  intro u
  refine zMet.of (L := [(0, .ref 1)]) RX9 (by decide +kernel) rfl (Nat.le_of_ble_eq_true rfl) (fun h => by cases h) rfl (fun p e s mi args below meth c R fin hc hin hRm => ?_)
  unfold OW_day
  refine z_aload_n hc dX9_day_0 0 rfl rfl ?_
  refine z_callV (av := []) (enc' := eV) hc rfl (sOW_keepPast _) (ci := 9) (by decide) lC1 (zkC lC1) rfl wMX9_199 hpyX9_keepPast hmyX9_keepPast (rm_ok hRm (Nat.le_of_ble_eq_true rfl) (Nat.le_of_ble_eq_true rfl)) (Nat.le_of_ble_eq_true rfl) hRm.2.2 dX9_day_1 (fun c1 u1 f1 => ?_)
  refine z_aload_n hc dX9_day_4 0 rfl rfl ?_
  refine z_getR (x := 54) hc (ci := 9) (k := 5) (by decide) (by decide) zly9 lC1 (zkC lC1) wFX9_39 rfl dX9_day_5 rfl (by decide) ?_
  refine z_aload_n hc dX9_day_8 0 rfl rfl ?_
  refine zJ.chk _ (fun h1 => ?_)
  refine z_getR (x := (gR u1 1 1)) hc (ci := 9) (k := 1) (by decide) (by decide) zly9 lC1 (zkC lC1) wFX9_19 rfl dX9_day_9 rfl (lC_pos h1) ?_
  refine z_callV (av := [.ref (gR u1 1 1)]) (enc' := eV) hc rfl (sSt_nextDay 54 (gR u1 1 1) _) (ci := 7) (by decide) lC54 (zkC lC54) rfl wMX9_213 hpyX7_nextDay hmyX7_nextDay (rm_ok hRm (Nat.le_of_ble_eq_true rfl) (Nat.le_of_ble_eq_true rfl)) (Nat.le_of_ble_eq_true rfl) hRm.2.2 dX9_day_12 (fun c2 u2 f2 => ?_)
  refine z_aload_n hc dX9_day_15 0 rfl rfl ?_
  refine z_getR (x := 70) hc (ci := 9) (k := 8) (by decide) (by decide) zly9 lC1 (zkC lC1) wFX9_56 rfl dX9_day_16 rfl (by decide) ?_
  refine z_callV (av := []) (enc' := eV) hc rfl (sOu_forget _) (ci := 4) (by decide) lC70 (zkC lC70) rfl wMX9_109 hpyX4_forget hmyX4_forget (rm_ok hRm (Nat.le_of_ble_eq_true rfl) (Nat.le_of_ble_eq_true rfl)) (Nat.le_of_ble_eq_true rfl) hRm.2.2 dX9_day_19 (fun c3 u3 f3 => ?_)
  refine z_aload_n hc dX9_day_22 0 rfl rfl ?_
  refine z_getR (x := 54) hc (ci := 9) (k := 5) (by decide) (by decide) zly9 lC1 (zkC lC1) wFX9_39 rfl dX9_day_23 rfl (by decide) ?_
  refine z_aload_n hc dX9_day_26 0 rfl rfl ?_
  refine zJ.chk _ (fun h2 => ?_)
  refine z_getR (x := (gR u3 1 1)) hc (ci := 9) (k := 1) (by decide) (by decide) zly9 lC1 (zkC lC1) wFX9_19 rfl dX9_day_27 rfl (lC_pos h2) ?_
  refine z_callV (av := [.ref (gR u3 1 1)]) (enc' := eI) hc rfl (sSt_wetBits 54 (gR u3 1 1) _) (ci := 7) (by decide) lC54 (zkC lC54) rfl wMX9_188 hpyX7_wetBits hmyX7_wetBits (rm_ok hRm (Nat.le_of_ble_eq_true rfl) (Nat.le_of_ble_eq_true rfl)) (Nat.le_of_ble_eq_true rfl) hRm.2.2 dX9_day_30 (fun c4 u4 f4 => ?_)
  exact z_iret hc dX9_day_33
set_option maxRecDepth 100000 in
set_option maxHeartbeats 4000000 in
theorem sOW_undo : ∀ (u : zM) r m1, OW_undo u = some (r, m1) → zMet l (wC D b) 2 121 yX9_undo cX9_undo 1 (some .boolean) [.ref 1] u (eI r) m1 := by
  intro u
  refine zMet.of (L := [(0, .ref 1)]) RX9 (by decide +kernel) rfl (Nat.le_of_ble_eq_true rfl) (fun h => by cases h) rfl (fun p e s mi args below meth c R fin hc hin hRm => ?_)
  unfold OW_undo
  refine z_aload_n hc dX9_undo_0 0 rfl rfl ?_
  refine z_getI hc (ci := 9) (k := 12) (by decide) (by decide) zly9 lC1 (zkC lC1) wFX9_192 rfl dX9_undo_1 ?_
  refine z_if_ne (tgt := 9) hc dX9_undo_4 (by decide) _ (fun h1 => ?_) (fun h1 => ?_)
  · refine z_aload_n hc dX9_undo_9 0 rfl rfl ?_
    refine z_dup hc dX9_undo_10 rfl ?_
    refine z_getI hc (ci := 9) (k := 12) (by decide) (by decide) zly9 lC1 (zkC lC1) wFX9_192 rfl dX9_undo_11 ?_
    refine z_iconst (v := 1) hc dX9_undo_14 rfl ?_
    refine z_isub hc dX9_undo_15 ?_
    refine z_putI hc (ci := 9) (k := 12) (by decide) (by decide) zly9 lC1 (zkC lC1) wFX9_192 rfl rfl rfl rfl dX9_undo_16 ?_
    refine zJ.letM (fun u1 e1 => ?_)
    refine z_aload_n hc dX9_undo_19 0 rfl rfl ?_
    refine z_aload_n hc dX9_undo_20 0 rfl rfl ?_
    refine z_getI hc (ci := 9) (k := 13) (by decide) (by decide) zly9 lC1 (zkC lC1) wFX9_216 rfl dX9_undo_21 ?_
    refine z_bipush (v := 16) hc dX9_undo_24 rfl ?_
    refine z_iadd hc dX9_undo_26 ?_
    refine z_iconst (v := 1) hc dX9_undo_27 rfl ?_
    refine z_isub hc dX9_undo_28 ?_
    refine z_bipush (v := 16) hc dX9_undo_29 rfl ?_
    refine z_irem hc (by decide) dX9_undo_31 ?_
    refine z_putI hc (ci := 9) (k := 13) (by decide) (by decide) zly9 lC1 (zkC lC1) wFX9_216 rfl rfl rfl rfl dX9_undo_32 ?_
    refine zJ.letM (fun u2 e2 => ?_)
    refine z_aload_n hc dX9_undo_35 0 rfl rfl ?_
    refine z_getR (x := 54) hc (ci := 9) (k := 5) (by decide) (by decide) zly9 lC1 (zkC lC1) wFX9_39 rfl dX9_undo_36 rfl (by decide) ?_
    refine z_aload_n hc dX9_undo_39 0 rfl rfl ?_
    refine z_getR (x := 82) hc (ci := 9) (k := 9) (by decide) (by decide) zly9 lC1 (zkC lC1) wFX9_60 rfl dX9_undo_40 rfl (by decide) ?_
    refine z_aload_n hc dX9_undo_43 0 rfl rfl ?_
    refine z_getI hc (ci := 9) (k := 13) (by decide) (by decide) zly9 lC1 (zkC lC1) wFX9_216 rfl dX9_undo_44 ?_
    refine zJ.chk _ (fun h2 => ?_)
    refine z_aald (x := (82 + (3 + 6 * (ix (gI u2 1 13))))) (k := (ix (gI u2 1 13))) hc lC82 (by decide) (zkC lC82) h2 rfl (rfC_off lC82 rfl (by omega)) (Nat.le_add_right_of_le (by decide)) dX9_undo_47 ?_
    refine z_callV (av := [.ref (82 + (3 + 6 * (ix (gI u2 1 13))))]) (enc' := eV) hc rfl (sSt_copy 54 (82 + (3 + 6 * (ix (gI u2 1 13)))) _) (ci := 7) (by decide) lC54 (zkC lC54) rfl wMX9_219 hpyX7_copy hmyX7_copy (rm_ok hRm (Nat.le_of_ble_eq_true rfl) (Nat.le_of_ble_eq_true rfl)) (Nat.le_of_ble_eq_true rfl) hRm.2.2 dX9_undo_48 (fun c1 u3 f1 => ?_)
    refine z_aload_n hc dX9_undo_51 0 rfl rfl ?_
    refine z_getR (x := 70) hc (ci := 9) (k := 8) (by decide) (by decide) zly9 lC1 (zkC lC1) wFX9_56 rfl dX9_undo_52 rfl (by decide) ?_
    refine z_callV (av := []) (enc' := eV) hc rfl (sOu_forget _) (ci := 4) (by decide) lC70 (zkC lC70) rfl wMX9_109 hpyX4_forget hmyX4_forget (rm_ok hRm (Nat.le_of_ble_eq_true rfl) (Nat.le_of_ble_eq_true rfl)) (Nat.le_of_ble_eq_true rfl) hRm.2.2 dX9_undo_55 (fun c2 u4 f2 => ?_)
    refine z_iconst (v := 1) hc dX9_undo_58 rfl ?_
    exact z_zret hc rfl dX9_undo_59
  · refine z_iconst (v := 0) hc dX9_undo_7 rfl ?_
    exact z_zret hc rfl dX9_undo_8
set_option maxRecDepth 100000 in
set_option maxHeartbeats 4000000 in
theorem sOW_mark : ∀ (v1 : Int32) (v2 : Int32) (u : zM) r m1, OW_mark v1 v2 u = some (r, m1) → zMet l (wC D b) 3 144 yX9_mark cX9_mark 4 (some .boolean) [.ref 1, .int v1, .int v2] u (eI r) m1 := by
  intro v1 v2 u
  refine zMet.of (L := [(0, .ref 1), (1, .int v1), (2, .int v2)]) RX9 (by decide +kernel) rfl (Nat.le_of_ble_eq_true rfl) (fun h => by cases h) rfl (fun p e s mi args below meth c R fin hc hin hRm => ?_)
  unfold OW_mark
  refine z_iload_n hc dX9_mark_0 1 rfl rfl ?_
  refine z_iconst (v := 0) hc dX9_mark_1 rfl ?_
  refine z_iconst (v := 3) hc dX9_mark_2 rfl ?_
  refine z_callS (av := [.int v1, .int 0, .int 3]) (enc' := eI) hc rfl (sOW_within v1 0 3 _) wMX9_229 hpyX9_within hmyX9_within (rm_ok hRm (Nat.le_of_ble_eq_true rfl) (Nat.le_of_ble_eq_true rfl)) (Nat.le_of_ble_eq_true rfl) hRm.2.2 dX9_mark_3 (fun c1 u1 f1 => ?_)
  refine z_if_ne (tgt := 11) hc dX9_mark_6 (by decide) _ (fun h1 => ?_) (fun h1 => ?_)
  · refine z_aload_n hc dX9_mark_11 0 rfl rfl ?_
    refine z_getR (x := 83) hc (ci := 9) (k := 10) (by decide) (by decide) zly9 lC1 (zkC lC1) wFX9_66 rfl dX9_mark_12 rfl (by decide) ?_
    refine z_iload_n hc dX9_mark_15 1 rfl rfl ?_
    refine zJ.chk _ (fun h2 => ?_)
    refine z_aald (x := (83 + (98 + 15 * (ix v1)))) (k := (ix v1)) hc lC83 (by decide) (zkC lC83) h2 rfl (rfC_off lC83 rfl (by omega)) (Nat.le_add_right_of_le (by decide)) dX9_mark_16 ?_
    refine z_astore_n (L' := [(3, .ref (83 + (98 + 15 * (ix v1)))), (0, .ref 1), (1, .int v1), (2, .int v2)]) hc dX9_mark_17 rfl (by decide) rfl rfl ?_
    refine z_iload_n hc dX9_mark_18 3 rfl rfl ?_
    refine z_if_ne (tgt := 40) hc dX9_mark_19 (by decide) _ (fun h3 => ?_) (fun h3 => ?_)
    · refine z_aload_n hc dX9_mark_40 0 rfl rfl ?_
      refine z_getI hc (ci := 2) (k := 3) (by decide) (by decide) zly2 (lyC_arr6 h2) (zkC (lyC_arr6 h2)) wFX9_102 rfl dX9_mark_41 ?_
      refine z_if_ne (tgt := 49) hc dX9_mark_44 (by decide) _ (fun h4 => ?_) (fun h4 => ?_)
      · refine z_aload_n hc dX9_mark_49 1 rfl rfl ?_
        refine z_getR (x := 54) hc (ci := 9) (k := 5) (by decide) (by decide) zly9 lC1 (zkC lC1) wFX9_39 rfl dX9_mark_50 rfl (by decide) ?_
        refine z_aload_n hc dX9_mark_53 0 rfl rfl ?_
        refine z_getR (x := ((83 + (98 + 15 * (ix v1))) + 1)) hc (ci := 2) (k := 0) (by decide) (by decide) zly2 (lyC_arr6 h2) (zkC (lyC_arr6 h2)) wFX9_237 rfl dX9_mark_54 (rfC_off (off := 1) (lyC_arr6 h2) rfl (by decide)) (Nat.le_add_left_of_le (by decide)) ?_
        refine z_callV (av := [.ref ((83 + (98 + 15 * (ix v1))) + 1)]) (enc' := eV) hc rfl (sSt_copy 54 ((83 + (98 + 15 * (ix v1))) + 1) _) (ci := 7) (by decide) lC54 (zkC lC54) rfl wMX9_219 hpyX7_copy hmyX7_copy (rm_ok hRm (Nat.le_of_ble_eq_true rfl) (Nat.le_of_ble_eq_true rfl)) (Nat.le_of_ble_eq_true rfl) hRm.2.2 dX9_mark_57 (fun c2 u2 f2 => ?_)
        refine z_aload_n hc dX9_mark_60 1 rfl rfl ?_
        refine zJ.chk _ (fun h5 => ?_)
        refine z_getR (x := (gR u2 1 3)) hc (ci := 9) (k := 3) (by decide) (by decide) zly9 lC1 (zkC lC1) wFX9_29 rfl dX9_mark_61 rfl (lC_pos h5) ?_
        refine z_aload_n hc dX9_mark_64 0 rfl rfl ?_
        refine z_getR (x := ((83 + (98 + 15 * (ix v1))) + 7)) hc (ci := 2) (k := 1) (by decide) (by decide) zly2 (lyC_arr6 h2) (zkC (lyC_arr6 h2)) wFX9_240 rfl dX9_mark_65 (rfC_off (off := 7) (lyC_arr6 h2) rfl (by decide)) (Nat.le_add_left_of_le (by decide)) ?_
        refine z_callV (av := [.ref ((83 + (98 + 15 * (ix v1))) + 7)]) (enc' := eV) hc rfl (sSs_copy (gR u2 1 3) ((83 + (98 + 15 * (ix v1))) + 7) _) (ci := 6) (by decide) h5 (zkC h5) rfl wMX9_241 hpyX6_copy hmyX6_copy (rm_ok hRm (Nat.le_of_ble_eq_true rfl) (Nat.le_of_ble_eq_true rfl)) (Nat.le_of_ble_eq_true rfl) hRm.2.2 dX9_mark_68 (fun c3 u3 f3 => ?_)
        refine z_aload_n hc dX9_mark_71 1 rfl rfl ?_
        refine z_getR (x := 66) hc (ci := 9) (k := 7) (by decide) (by decide) zly9 lC1 (zkC lC1) wFX9_49 rfl dX9_mark_72 rfl (by decide) ?_
        refine z_aload_n hc dX9_mark_75 0 rfl rfl ?_
        refine z_getR (x := ((83 + (98 + 15 * (ix v1))) + 11)) hc (ci := 2) (k := 2) (by decide) (by decide) zly2 (lyC_arr6 h2) (zkC (lyC_arr6 h2)) wFX9_244 rfl dX9_mark_76 (rfC_off (off := 11) (lyC_arr6 h2) rfl (by decide)) (Nat.le_add_left_of_le (by decide)) ?_
        refine z_callV (av := [.ref ((83 + (98 + 15 * (ix v1))) + 11)]) (enc' := eV) hc rfl (sSe_copy 66 ((83 + (98 + 15 * (ix v1))) + 11) _) (ci := 5) (by decide) lC66 (zkC lC66) rfl wMX9_245 hpyX5_copy hmyX5_copy (rm_ok hRm (Nat.le_of_ble_eq_true rfl) (Nat.le_of_ble_eq_true rfl)) (Nat.le_of_ble_eq_true rfl) hRm.2.2 dX9_mark_79 (fun c4 u4 f4 => ?_)
        refine z_aload_n hc dX9_mark_82 1 rfl rfl ?_
        refine z_callV (av := []) (enc' := eV) hc rfl (sOW_forgetPast _) (ci := 9) (by decide) lC1 (zkC lC1) rfl wMX9_106 hpyX9_forgetPast hmyX9_forgetPast (rm_ok hRm (Nat.le_of_ble_eq_true rfl) (Nat.le_of_ble_eq_true rfl)) (Nat.le_of_ble_eq_true rfl) hRm.2.2 dX9_mark_83 (fun c5 u5 f5 => ?_)
        refine z_aload_n hc dX9_mark_86 1 rfl rfl ?_
        refine z_getR (x := 70) hc (ci := 9) (k := 8) (by decide) (by decide) zly9 lC1 (zkC lC1) wFX9_56 rfl dX9_mark_87 rfl (by decide) ?_
        refine z_callV (av := []) (enc' := eV) hc rfl (sOu_forget _) (ci := 4) (by decide) lC70 (zkC lC70) rfl wMX9_109 hpyX4_forget hmyX4_forget (rm_ok hRm (Nat.le_of_ble_eq_true rfl) (Nat.le_of_ble_eq_true rfl)) (Nat.le_of_ble_eq_true rfl) hRm.2.2 dX9_mark_90 (fun c6 u6 f6 => ?_)
        refine z_iconst (v := 1) hc dX9_mark_93 rfl ?_
        exact z_zret hc rfl dX9_mark_94
      · refine z_iconst (v := 0) hc dX9_mark_47 rfl ?_
        exact z_zret hc rfl dX9_mark_48
    · refine z_aload_n hc dX9_mark_22 0 rfl rfl ?_
      refine z_aload_n hc dX9_mark_23 1 rfl rfl ?_
      refine z_getR (x := 54) hc (ci := 9) (k := 5) (by decide) (by decide) zly9 lC1 (zkC lC1) wFX9_39 rfl dX9_mark_24 rfl (by decide) ?_
      refine z_aload_n hc dX9_mark_27 1 rfl rfl ?_
      refine zJ.chk _ (fun h6 => ?_)
      refine z_getR (x := (gR u1 1 3)) hc (ci := 9) (k := 3) (by decide) (by decide) zly9 lC1 (zkC lC1) wFX9_29 rfl dX9_mark_28 rfl (lC_pos h6) ?_
      refine z_aload_n hc dX9_mark_31 1 rfl rfl ?_
      refine z_getR (x := 66) hc (ci := 9) (k := 7) (by decide) (by decide) zly9 lC1 (zkC lC1) wFX9_49 rfl dX9_mark_32 rfl (by decide) ?_
      refine z_callV (av := [.ref 54, .ref (gR u1 1 3), .ref 66]) (enc' := eV) hc rfl (sMk_lay (83 + (98 + 15 * (ix v1))) 54 (gR u1 1 3) 66 _) (ci := 2) (by decide) (lyC_arr6 h2) (zkC (lyC_arr6 h2)) rfl wMX9_233 hpyX2_lay hmyX2_lay (rm_ok hRm (Nat.le_of_ble_eq_true rfl) (Nat.le_of_ble_eq_true rfl)) (Nat.le_of_ble_eq_true rfl) hRm.2.2 dX9_mark_35 (fun c7 u7 f7 => ?_)
      refine z_iconst (v := 1) hc dX9_mark_38 rfl ?_
      exact z_zret hc rfl dX9_mark_39
  · refine z_iconst (v := 0) hc dX9_mark_9 rfl ?_
    exact z_zret hc rfl dX9_mark_10
set_option maxRecDepth 100000 in
set_option maxHeartbeats 4000000 in
theorem sOW_judged_101 {fin : Int32 × zM} (hc : zCx p s mi args meth c (wC D b) m0 RX9 cX9_judged 7 (some .int)) (hRm : R.frames = 5 ∧ R.locals = 123 ∧ R.cells = zc (wC D b) m0 fin.2 ∧ R.slots = zs (wC D b) m0 fin.2) {zr33 : Int32 → Int32 → Int32 → Int32 → Int32 → zM → Option (Int32 × zM)} (hr33 : ∀ (v1 : Int32) (v2 : Int32) (v3 : Int32) (v4 : Int32) (v5 : Int32) (u : zM), zJ eI p l e R s mi args below meth c (wC D b) m0 7 fin 33 [(0, .ref 1), (1, .int v1), (2, .int v2), (3, .int v3), (4, .int v4), (5, .int v5)] [] u (zr33 v1 v2 v3 v4 v5 u)) (v1 : Int32) (v2 : Int32) (v3 : Int32) (v4 : Int32) (v5 : Int32) (v6 : Int32) (u : zM) : zJ eI p l e R s mi args below meth c (wC D b) m0 7 fin 101 [(0, .ref 1), (1, .int v1), (2, .int v2), (3, .int v3), (4, .int v4), (5, .int v5), (6, .int v6)] [] u (OW_judged_101 zr33 v1 v2 v3 v4 v5 v6 u) := by
  unfold OW_judged_101
  refine z_iload hc dX9_judged_101 6 rfl ?_
  refine z_if_eq (tgt := 135) hc dX9_judged_103 (by decide) _ (fun h1 => ?_) (fun h1 => ?_)
  · refine z_iinc (L' := [(5, .int (v5 + 1)), (0, .ref 1), (1, .int v1), (2, .int v2), (3, .int v3), (4, .int v4), (6, .int v6)]) hc dX9_judged_135 5 rfl (v := (v5 + 1)) rfl (by decide) rfl rfl ?_
    refine z_goto (tgt := 33) hc dX9_judged_138 (by decide) ?_
    refine zJ.sub (L' := [(0, .ref 1), (1, .int v1), (2, .int v2), (3, .int v3), (4, .int v4), (5, .int (v5 + 1))]) [1, 2, 3, 4, 5, 0] rfl ?_
    exact hr33 v1 v2 v3 v4 (v5 + 1) _
  · refine z_aload_n hc dX9_judged_106 0 rfl rfl ?_
    refine zJ.chk _ (fun h2 => ?_)
    refine z_getR (x := (gR u 1 3)) hc (ci := 9) (k := 3) (by decide) (by decide) zly9 lC1 (zkC lC1) wFX9_29 rfl dX9_judged_107 rfl (lC_pos h2) ?_
    refine z_getR (x := ((gR u 1 3) + 1)) hc (ci := 6) (k := 0) (by decide) (by decide) zly6 h2 (zkC h2) wFX9_248 rfl dX9_judged_110 (rfC_off (off := 1) h2 rfl (by decide)) (Nat.le_add_left_of_le (by decide)) ?_
    refine z_iload hc dX9_judged_113 5 rfl ?_
    refine zJ.chk _ (fun h3 => ?_)
    refine z_iald (k := (ix v5)) hc (lyC_16_1 h2) (zkC (lyC_16_1 h2)) h3 rfl dX9_judged_115 ?_
    refine z_iconst (v := 3) hc dX9_judged_116 rfl ?_
    refine z_icmp_ne (tgt := 135) hc dX9_judged_117 (by decide) _ (fun h4 => ?_) (fun h4 => ?_)
    · refine z_iinc (L' := [(5, .int (v5 + 1)), (0, .ref 1), (1, .int v1), (2, .int v2), (3, .int v3), (4, .int v4), (6, .int v6)]) hc dX9_judged_135 5 rfl (v := (v5 + 1)) rfl (by decide) rfl rfl ?_
      refine z_goto (tgt := 33) hc dX9_judged_138 (by decide) ?_
      refine zJ.sub (L' := [(0, .ref 1), (1, .int v1), (2, .int v2), (3, .int v3), (4, .int v4), (5, .int (v5 + 1))]) [1, 2, 3, 4, 5, 0] rfl ?_
      exact hr33 v1 v2 v3 v4 (v5 + 1) _
    · refine z_iinc (L' := [(4, .int (v4 + 1)), (0, .ref 1), (1, .int v1), (2, .int v2), (3, .int v3), (5, .int v5), (6, .int v6)]) hc dX9_judged_120 4 rfl (v := (v4 + 1)) rfl (by decide) rfl rfl ?_
      refine z_iload_n hc dX9_judged_123 4 rfl rfl ?_
      refine z_iconst (v := (-1)) hc dX9_judged_124 rfl ?_
      refine z_icmp_ne (tgt := 133) hc dX9_judged_125 (by decide) _ (fun h5 => ?_) (fun h5 => ?_)
      · refine z_iload_n hc dX9_judged_133 4 rfl rfl ?_
        refine z_istore_n (L' := [(3, .int v3), (4, .int (v4 + 1)), (0, .ref 1), (1, .int v1), (2, .int v2), (5, .int v5), (6, .int v6)]) hc dX9_judged_134 rfl (by decide) rfl rfl ?_
        refine z_iinc (L' := [(5, .int (v5 + 1)), (3, .int v3), (4, .int (v4 + 1)), (0, .ref 1), (1, .int v1), (2, .int v2), (6, .int v6)]) hc dX9_judged_135 5 rfl (v := (v5 + 1)) rfl (by decide) rfl rfl ?_
        refine z_goto (tgt := 33) hc dX9_judged_138 (by decide) ?_
        refine zJ.sub (L' := [(0, .ref 1), (1, .int v1), (2, .int v2), (3, .int v3), (4, .int (v4 + 1)), (5, .int (v5 + 1))]) [3, 4, 5, 1, 2, 0] rfl ?_
        exact hr33 v1 v2 v3 (v4 + 1) (v5 + 1) _
      · refine z_iload hc dX9_judged_128 5 rfl ?_
        refine z_goto (tgt := 134) hc dX9_judged_130 (by decide) ?_
        refine z_istore_n (L' := [(3, .int v5), (4, .int (v4 + 1)), (0, .ref 1), (1, .int v1), (2, .int v2), (5, .int v5), (6, .int v6)]) hc dX9_judged_134 rfl (by decide) rfl rfl ?_
        refine z_iinc (L' := [(5, .int (v5 + 1)), (3, .int v5), (4, .int (v4 + 1)), (0, .ref 1), (1, .int v1), (2, .int v2), (6, .int v6)]) hc dX9_judged_135 5 rfl (v := (v5 + 1)) rfl (by decide) rfl rfl ?_
        refine z_goto (tgt := 33) hc dX9_judged_138 (by decide) ?_
        refine zJ.sub (L' := [(0, .ref 1), (1, .int v1), (2, .int v2), (3, .int v5), (4, .int (v4 + 1)), (5, .int (v5 + 1))]) [3, 4, 5, 1, 2, 0] rfl ?_
        exact hr33 v1 v2 v5 (v4 + 1) (v5 + 1) _
set_option maxRecDepth 100000 in
set_option maxHeartbeats 4000000 in
theorem sOW_judged_33b {fin : Int32 × zM} (hc : zCx p s mi args meth c (wC D b) m0 RX9 cX9_judged 7 (some .int)) (hRm : R.frames = 5 ∧ R.locals = 123 ∧ R.cells = zc (wC D b) m0 fin.2 ∧ R.slots = zs (wC D b) m0 fin.2) {zr33 : Int32 → Int32 → Int32 → Int32 → Int32 → zM → Option (Int32 × zM)} (hr33 : ∀ (v1 : Int32) (v2 : Int32) (v3 : Int32) (v4 : Int32) (v5 : Int32) (u : zM), zJ eI p l e R s mi args below meth c (wC D b) m0 7 fin 33 [(0, .ref 1), (1, .int v1), (2, .int v2), (3, .int v3), (4, .int v4), (5, .int v5)] [] u (zr33 v1 v2 v3 v4 v5 u)) (v1 : Int32) (v2 : Int32) (v3 : Int32) (v4 : Int32) (v5 : Int32) (u : zM) : zJ eI p l e R s mi args below meth c (wC D b) m0 7 fin 33 [(0, .ref 1), (1, .int v1), (2, .int v2), (3, .int v3), (4, .int v4), (5, .int v5)] [] u (OW_judged_33b zr33 v1 v2 v3 v4 v5 u) := by
  unfold OW_judged_33b
  refine z_iload hc dX9_judged_33 5 rfl ?_
  refine z_aload_n hc dX9_judged_35 0 rfl rfl ?_
  refine zJ.chk _ (fun h1 => ?_)
  refine z_getR (x := (gR u 1 3)) hc (ci := 9) (k := 3) (by decide) (by decide) zly9 lC1 (zkC lC1) wFX9_29 rfl dX9_judged_36 rfl (lC_pos h1) ?_
  refine z_getI hc (ci := 6) (k := 3) (by decide) (by decide) zly6 h1 (zkC h1) wFX9_98 rfl dX9_judged_39 ?_
  refine z_icmp_ge (tgt := 141) hc dX9_judged_42 (by decide) _ (fun h2 => ?_) (fun h2 => ?_)
  · refine z_iload_n hc dX9_judged_141 1 rfl rfl ?_
    refine z_if_ne (tgt := 149) hc dX9_judged_142 (by decide) _ (fun h3 => ?_) (fun h3 => ?_)
    · refine z_iload_n hc dX9_judged_149 1 rfl rfl ?_
      refine z_iconst (v := 1) hc dX9_judged_150 rfl ?_
      refine z_icmp_ne (tgt := 158) hc dX9_judged_151 (by decide) _ (fun h4 => ?_) (fun h4 => ?_)
      · refine z_iload hc dX9_judged_158 4 rfl ?_
        exact z_iret hc dX9_judged_160
      · refine z_iload_n hc dX9_judged_154 3 rfl rfl ?_
        refine z_goto (tgt := 160) hc dX9_judged_155 (by decide) ?_
        exact z_iret hc dX9_judged_160
    · refine z_iload_n hc dX9_judged_145 2 rfl rfl ?_
      refine z_goto (tgt := 160) hc dX9_judged_146 (by decide) ?_
      exact z_iret hc dX9_judged_160
  · refine z_aload_n hc dX9_judged_45 0 rfl rfl ?_
    refine z_getR (x := 60) hc (ci := 9) (k := 6) (by decide) (by decide) zly9 lC1 (zkC lC1) wFX9_43 rfl dX9_judged_46 rfl (by decide) ?_
    refine z_aload_n hc dX9_judged_49 0 rfl rfl ?_
    refine zJ.chk _ (fun h5 => ?_)
    refine z_getR (x := (gR u 1 1)) hc (ci := 9) (k := 1) (by decide) (by decide) zly9 lC1 (zkC lC1) wFX9_19 rfl dX9_judged_50 rfl (lC_pos h5) ?_
    refine z_aload_n hc dX9_judged_53 0 rfl rfl ?_
    refine zJ.chk _ (fun h6 => ?_)
    refine z_getR (x := (gR u 1 3)) hc (ci := 9) (k := 3) (by decide) (by decide) zly9 lC1 (zkC lC1) wFX9_29 rfl dX9_judged_54 rfl (lC_pos h6) ?_
    refine z_getR (x := ((gR u 1 3) + 1)) hc (ci := 6) (k := 0) (by decide) (by decide) zly6 h6 (zkC h6) wFX9_248 rfl dX9_judged_57 (rfC_off (off := 1) h6 rfl (by decide)) (Nat.le_add_left_of_le (by decide)) ?_
    refine z_iload hc dX9_judged_60 5 rfl ?_
    refine zJ.chk _ (fun h7 => ?_)
    refine z_iald (k := (ix v5)) hc (lyC_16_1 h6) (zkC (lyC_16_1 h6)) h7 rfl dX9_judged_62 ?_
    refine z_aload_n hc dX9_judged_63 0 rfl rfl ?_
    refine zJ.chk _ (fun h8 => ?_)
    refine z_getR (x := (gR u 1 3)) hc (ci := 9) (k := 3) (by decide) (by decide) zly9 lC1 (zkC lC1) wFX9_29 rfl dX9_judged_64 rfl (lC_pos h8) ?_
    refine z_getR (x := ((gR u 1 3) + 2)) hc (ci := 6) (k := 1) (by decide) (by decide) zly6 h8 (zkC h8) wFX9_251 rfl dX9_judged_67 (rfC_off (off := 2) h8 rfl (by decide)) (Nat.le_add_left_of_le (by decide)) ?_
    refine z_iload hc dX9_judged_70 5 rfl ?_
    refine zJ.chk _ (fun h9 => ?_)
    refine z_iald (k := (ix v5)) hc (lyC_16_2 h8) (zkC (lyC_16_2 h8)) h9 rfl dX9_judged_72 ?_
    refine z_aload_n hc dX9_judged_73 0 rfl rfl ?_
    refine zJ.chk _ (fun h10 => ?_)
    refine z_getR (x := (gR u 1 3)) hc (ci := 9) (k := 3) (by decide) (by decide) zly9 lC1 (zkC lC1) wFX9_29 rfl dX9_judged_74 rfl (lC_pos h10) ?_
    refine z_getR (x := ((gR u 1 3) + 3)) hc (ci := 6) (k := 2) (by decide) (by decide) zly6 h10 (zkC h10) wFX9_254 rfl dX9_judged_77 (rfC_off (off := 3) h10 rfl (by decide)) (Nat.le_add_left_of_le (by decide)) ?_
    refine z_iload hc dX9_judged_80 5 rfl ?_
    refine zJ.chk _ (fun h11 => ?_)
    refine z_iald (k := (ix v5)) hc (lyC_16_3 h10) (zkC (lyC_16_3 h10)) h11 rfl dX9_judged_82 ?_
    refine z_callV (av := [.ref (gR u 1 1), .int (gI u ((gR u 1 3) + 1) (ix v5)), .int (gI u ((gR u 1 3) + 2) (ix v5)), .int (gI u ((gR u 1 3) + 3) (ix v5))]) (enc' := eI) hc rfl (sSt_doLine 60 (gR u 1 1) (gI u ((gR u 1 3) + 1) (ix v5)) (gI u ((gR u 1 3) + 2) (ix v5)) (gI u ((gR u 1 3) + 3) (ix v5)) _) (ci := 7) (by decide) lC60 (zkC lC60) rfl wMX9_257 hpyX7_doLine hmyX7_doLine (rm_ok hRm (Nat.le_of_ble_eq_true rfl) (Nat.le_of_ble_eq_true rfl)) (Nat.le_of_ble_eq_true rfl) hRm.2.2 dX9_judged_83 (fun c1 u1 f1 => ?_)
    refine z_istore (L' := [(6, .int c1), (0, .ref 1), (1, .int v1), (2, .int v2), (3, .int v3), (4, .int v4), (5, .int v5)]) hc dX9_judged_86 (by decide) rfl rfl ?_
    refine z_iload hc dX9_judged_88 0 rfl ?_
    refine z_if_ne (tgt := 101) hc dX9_judged_90 (by decide) _ (fun h12 => ?_) (fun h12 => ?_)
    · refine zJ.sub (L' := [(0, .ref 1), (1, .int v1), (2, .int v2), (3, .int v3), (4, .int v4), (5, .int v5), (6, .int c1)]) [1, 2, 3, 4, 5, 6, 0] rfl ?_
      exact sOW_judged_101 hc hRm hr33 v1 v2 v3 v4 v5 c1 _
    · refine z_iload_n hc dX9_judged_93 3 rfl rfl ?_
      refine z_iconst (v := (-1)) hc dX9_judged_94 rfl ?_
      refine z_icmp_ne (tgt := 101) hc dX9_judged_95 (by decide) _ (fun h13 => ?_) (fun h13 => ?_)
      · refine zJ.sub (L' := [(0, .ref 1), (1, .int v1), (2, .int v2), (3, .int v3), (4, .int v4), (5, .int v5), (6, .int c1)]) [1, 2, 3, 4, 5, 6, 0] rfl ?_
        exact sOW_judged_101 hc hRm hr33 v1 v2 v3 v4 v5 c1 _
      · refine z_iload hc dX9_judged_98 6 rfl ?_
        refine z_istore_n (L' := [(2, .int v5), (6, .int c1), (0, .ref 1), (1, .int v1), (3, .int v3), (4, .int v4), (5, .int v5)]) hc dX9_judged_100 rfl (by decide) rfl rfl ?_
        refine zJ.sub (L' := [(0, .ref 1), (1, .int v1), (2, .int v5), (3, .int v3), (4, .int v4), (5, .int v5), (6, .int c1)]) [2, 3, 0, 4, 5, 6, 1] rfl ?_
        exact sOW_judged_101 hc hRm hr33 v1 v5 v3 v4 v5 c1 _
set_option maxRecDepth 100000 in
set_option maxHeartbeats 4000000 in
theorem sOW_judged_33 {fin : Int32 × zM} (hc : zCx p s mi args meth c (wC D b) m0 RX9 cX9_judged 7 (some .int)) (hRm : R.frames = 5 ∧ R.locals = 123 ∧ R.cells = zc (wC D b) m0 fin.2 ∧ R.slots = zs (wC D b) m0 fin.2) : ∀ (zf : Nat) (v1 : Int32) (v2 : Int32) (v3 : Int32) (v4 : Int32) (v5 : Int32) (u : zM), zJ eI p l e R s mi args below meth c (wC D b) m0 7 fin 33 [(0, .ref 1), (1, .int v1), (2, .int v2), (3, .int v3), (4, .int v4), (5, .int v5)] [] u (OW_judged_33 zf v1 v2 v3 v4 v5 u) := by
  intro zf
  induction zf with
  | zero => intro v1 v2 v3 v4 v5 u; exact zJ.nil
  | succ zf ih => intro v1 v2 v3 v4 v5 u; exact sOW_judged_33b hc hRm ih v1 v2 v3 v4 v5 u
set_option maxRecDepth 100000 in
set_option maxHeartbeats 4000000 in
theorem sOW_judged : ∀ (v1 : Int32) (u : zM) r m1, OW_judged v1 u = some (r, m1) → zMet l (wC D b) 5 123 yX9_judged cX9_judged 7 (some .int) [.ref 1, .int v1] u (eI r) m1 := by
  intro v1 u
  refine zMet.of (L := [(0, .ref 1), (1, .int v1)]) RX9 (by decide +kernel) rfl (Nat.le_of_ble_eq_true rfl) (fun h => by cases h) rfl (fun p e s mi args below meth c R fin hc hin hRm => ?_)
  unfold OW_judged
  refine z_iload_n hc dX9_judged_0 1 rfl rfl ?_
  refine z_iconst (v := 0) hc dX9_judged_1 rfl ?_
  refine z_iconst (v := 2) hc dX9_judged_2 rfl ?_
  refine z_callS (av := [.int v1, .int 0, .int 2]) (enc' := eI) hc rfl (sOW_within v1 0 2 _) wMX9_229 hpyX9_within hmyX9_within (rm_ok hRm (Nat.le_of_ble_eq_true rfl) (Nat.le_of_ble_eq_true rfl)) (Nat.le_of_ble_eq_true rfl) hRm.2.2 dX9_judged_3 (fun c1 u1 f1 => ?_)
  refine z_if_ne (tgt := 12) hc dX9_judged_6 (by decide) _ (fun h1 => ?_) (fun h1 => ?_)
  · refine z_iconst (v := (-1)) hc dX9_judged_12 rfl ?_
    refine z_istore_n (L' := [(2, .int (-1)), (0, .ref 1), (1, .int v1)]) hc dX9_judged_13 rfl (by decide) rfl rfl ?_
    refine z_iconst (v := (-1)) hc dX9_judged_14 rfl ?_
    refine z_istore_n (L' := [(3, .int (-1)), (2, .int (-1)), (0, .ref 1), (1, .int v1)]) hc dX9_judged_15 rfl (by decide) rfl rfl ?_
    refine z_iconst (v := 0) hc dX9_judged_16 rfl ?_
    refine z_istore (L' := [(4, .int 0), (3, .int (-1)), (2, .int (-1)), (0, .ref 1), (1, .int v1)]) hc dX9_judged_17 (by decide) rfl rfl ?_
    refine z_aload_n hc dX9_judged_19 3 rfl rfl ?_
    refine z_getR (x := 60) hc (ci := 9) (k := 6) (by decide) (by decide) zly9 lC1 (zkC lC1) wFX9_43 rfl dX9_judged_20 rfl (by decide) ?_
    refine z_aload_n hc dX9_judged_23 3 rfl rfl ?_
    refine zJ.chk _ (fun h2 => ?_)
    refine z_getR (x := (gR u1 1 1)) hc (ci := 9) (k := 1) (by decide) (by decide) zly9 lC1 (zkC lC1) wFX9_19 rfl dX9_judged_24 rfl (lC_pos h2) ?_
    refine z_callV (av := [.ref (gR u1 1 1)]) (enc' := eV) hc rfl (sSt_begin 60 (gR u1 1 1) _) (ci := 7) (by decide) lC60 (zkC lC60) rfl wMX9_75 hpyX7_begin hmyX7_begin (rm_ok hRm (Nat.le_of_ble_eq_true rfl) (Nat.le_of_ble_eq_true rfl)) (Nat.le_of_ble_eq_true rfl) hRm.2.2 dX9_judged_27 (fun c2 u2 f2 => ?_)
    refine z_iconst (v := 0) hc dX9_judged_30 rfl ?_
    refine z_istore (L' := [(5, .int 0), (4, .int 0), (3, .int (-1)), (2, .int (-1)), (0, .ref 1), (1, .int v1)]) hc dX9_judged_31 (by decide) rfl rfl ?_
    refine zJ.sub (L' := [(0, .ref 1), (1, .int v1), (2, .int (-1)), (3, .int (-1)), (4, .int 0), (5, .int 0)]) [4, 5, 3, 2, 1, 0] rfl ?_
    exact sOW_judged_33 hc hRm zF v1 (-1) (-1) 0 0 _
  · refine z_bipush (v := (-2)) hc dX9_judged_9 rfl ?_
    exact z_iret hc dX9_judged_11
set_option maxRecDepth 100000 in
set_option maxHeartbeats 4000000 in
theorem sOW_later : ∀ (v1 : Int32) (v2 : Int32) (u : zM) r m1, OW_later v1 v2 u = some (r, m1) → zMet l (wC D b) 5 145 yX9_later cX9_later 3 (some .int) [.ref 1, .int v1, .int v2] u (eI r) m1 := by
  intro v1 v2 u
  refine zMet.of (L := [(0, .ref 1), (1, .int v1), (2, .int v2)]) RX9 (by decide +kernel) rfl (Nat.le_of_ble_eq_true rfl) (fun h => by cases h) rfl (fun p e s mi args below meth c R fin hc hin hRm => ?_)
  unfold OW_later
  refine z_aload_n hc dX9_later_0 0 rfl rfl ?_
  refine z_iload_n hc dX9_later_1 1 rfl rfl ?_
  refine z_callV (av := [.int v1]) (enc' := eI) hc rfl (sOW_isPlace v1 _) (ci := 9) (by decide) lC1 (zkC lC1) rfl wMX9_131 hpyX9_isPlace hmyX9_isPlace (rm_ok hRm (Nat.le_of_ble_eq_true rfl) (Nat.le_of_ble_eq_true rfl)) (Nat.le_of_ble_eq_true rfl) hRm.2.2 dX9_later_2 (fun c1 u1 f1 => ?_)
  refine z_if_eq (tgt := 18) hc dX9_later_5 (by decide) _ (fun h1 => ?_) (fun h1 => ?_)
  · refine z_iconst (v := (-1)) hc dX9_later_18 rfl ?_
    exact z_iret hc dX9_later_19
  · refine z_iload_n hc dX9_later_8 2 rfl rfl ?_
    refine z_iconst (v := 0) hc dX9_later_9 rfl ?_
    refine z_bipush (v := 60) hc dX9_later_10 rfl ?_
    refine z_callS (av := [.int v2, .int 0, .int 60]) (enc' := eI) hc rfl (sOW_within v2 0 60 _) wMX9_229 hpyX9_within hmyX9_within (rm_ok hRm (Nat.le_of_ble_eq_true rfl) (Nat.le_of_ble_eq_true rfl)) (Nat.le_of_ble_eq_true rfl) hRm.2.2 dX9_later_12 (fun c2 u2 f2 => ?_)
    refine z_if_ne (tgt := 20) hc dX9_later_15 (by decide) _ (fun h2 => ?_) (fun h2 => ?_)
    · refine z_aload_n hc dX9_later_20 0 rfl rfl ?_
      refine z_getR (x := 70) hc (ci := 9) (k := 8) (by decide) (by decide) zly9 lC1 (zkC lC1) wFX9_56 rfl dX9_later_21 rfl (by decide) ?_
      refine z_aload_n hc dX9_later_24 0 rfl rfl ?_
      refine zJ.chk _ (fun h3 => ?_)
      refine z_getR (x := (gR u2 1 1)) hc (ci := 9) (k := 1) (by decide) (by decide) zly9 lC1 (zkC lC1) wFX9_19 rfl dX9_later_25 rfl (lC_pos h3) ?_
      refine z_aload_n hc dX9_later_28 0 rfl rfl ?_
      refine z_getR (x := 54) hc (ci := 9) (k := 5) (by decide) (by decide) zly9 lC1 (zkC lC1) wFX9_39 rfl dX9_later_29 rfl (by decide) ?_
      refine z_iload_n hc dX9_later_32 2 rfl rfl ?_
      refine z_callV (av := [.ref (gR u2 1 1), .ref 54, .int v2]) (enc' := eV) hc rfl (sOu_foretell (gR u2 1 1) 54 v2 _) (ci := 4) (by decide) lC70 (zkC lC70) rfl wMX9_261 hpyX4_foretell hmyX4_foretell (rm_ok hRm (Nat.le_of_ble_eq_true rfl) (Nat.le_of_ble_eq_true rfl)) (Nat.le_of_ble_eq_true rfl) hRm.2.2 dX9_later_33 (fun c3 u3 f3 => ?_)
      refine z_aload_n hc dX9_later_36 0 rfl rfl ?_
      refine z_getR (x := 70) hc (ci := 9) (k := 8) (by decide) (by decide) zly9 lC1 (zkC lC1) wFX9_56 rfl dX9_later_37 rfl (by decide) ?_
      refine z_iload_n hc dX9_later_40 2 rfl rfl ?_
      refine z_iload_n hc dX9_later_41 1 rfl rfl ?_
      refine z_callV (av := [.int v2, .int v1]) (enc' := eI) hc rfl (sOu_waterOn v2 v1 _) (ci := 4) (by decide) lC70 (zkC lC70) rfl wMX9_265 hpyX4_waterOn hmyX4_waterOn (rm_ok hRm (Nat.le_of_ble_eq_true rfl) (Nat.le_of_ble_eq_true rfl)) (Nat.le_of_ble_eq_true rfl) hRm.2.2 dX9_later_42 (fun c4 u4 f4 => ?_)
      exact z_iret hc dX9_later_45
    · refine z_iconst (v := (-1)) hc dX9_later_18 rfl ?_
      exact z_iret hc dX9_later_19
set_option maxRecDepth 100000 in
set_option maxHeartbeats 4000000 in
theorem sOW_where : ∀ (v1 : Int32) (v2 : Int32) (u : zM) r m1, OW_where v1 v2 u = some (r, m1) → zMet l (wC D b) 5 145 yX9_where cX9_where 3 (some .int) [.ref 1, .int v1, .int v2] u (eI r) m1 := by
  intro v1 v2 u
  refine zMet.of (L := [(0, .ref 1), (1, .int v1), (2, .int v2)]) RX9 (by decide +kernel) rfl (Nat.le_of_ble_eq_true rfl) (fun h => by cases h) rfl (fun p e s mi args below meth c R fin hc hin hRm => ?_)
  unfold OW_where
  refine z_aload_n hc dX9_where_0 0 rfl rfl ?_
  refine z_iload_n hc dX9_where_1 1 rfl rfl ?_
  refine z_callV (av := [.int v1]) (enc' := eI) hc rfl (sOW_isPerson v1 _) (ci := 9) (by decide) lC1 (zkC lC1) rfl wMX9_151 hpyX9_isPerson hmyX9_isPerson (rm_ok hRm (Nat.le_of_ble_eq_true rfl) (Nat.le_of_ble_eq_true rfl)) (Nat.le_of_ble_eq_true rfl) hRm.2.2 dX9_where_2 (fun c1 u1 f1 => ?_)
  refine z_if_eq (tgt := 18) hc dX9_where_5 (by decide) _ (fun h1 => ?_) (fun h1 => ?_)
  · refine z_iconst (v := (-1)) hc dX9_where_18 rfl ?_
    exact z_iret hc dX9_where_19
  · refine z_iload_n hc dX9_where_8 2 rfl rfl ?_
    refine z_iconst (v := 0) hc dX9_where_9 rfl ?_
    refine z_bipush (v := 60) hc dX9_where_10 rfl ?_
    refine z_callS (av := [.int v2, .int 0, .int 60]) (enc' := eI) hc rfl (sOW_within v2 0 60 _) wMX9_229 hpyX9_within hmyX9_within (rm_ok hRm (Nat.le_of_ble_eq_true rfl) (Nat.le_of_ble_eq_true rfl)) (Nat.le_of_ble_eq_true rfl) hRm.2.2 dX9_where_12 (fun c2 u2 f2 => ?_)
    refine z_if_ne (tgt := 20) hc dX9_where_15 (by decide) _ (fun h2 => ?_) (fun h2 => ?_)
    · refine z_aload_n hc dX9_where_20 0 rfl rfl ?_
      refine z_getR (x := 70) hc (ci := 9) (k := 8) (by decide) (by decide) zly9 lC1 (zkC lC1) wFX9_56 rfl dX9_where_21 rfl (by decide) ?_
      refine z_aload_n hc dX9_where_24 0 rfl rfl ?_
      refine zJ.chk _ (fun h3 => ?_)
      refine z_getR (x := (gR u2 1 1)) hc (ci := 9) (k := 1) (by decide) (by decide) zly9 lC1 (zkC lC1) wFX9_19 rfl dX9_where_25 rfl (lC_pos h3) ?_
      refine z_aload_n hc dX9_where_28 0 rfl rfl ?_
      refine z_getR (x := 54) hc (ci := 9) (k := 5) (by decide) (by decide) zly9 lC1 (zkC lC1) wFX9_39 rfl dX9_where_29 rfl (by decide) ?_
      refine z_iload_n hc dX9_where_32 2 rfl rfl ?_
      refine z_callV (av := [.ref (gR u2 1 1), .ref 54, .int v2]) (enc' := eV) hc rfl (sOu_foretell (gR u2 1 1) 54 v2 _) (ci := 4) (by decide) lC70 (zkC lC70) rfl wMX9_261 hpyX4_foretell hmyX4_foretell (rm_ok hRm (Nat.le_of_ble_eq_true rfl) (Nat.le_of_ble_eq_true rfl)) (Nat.le_of_ble_eq_true rfl) hRm.2.2 dX9_where_33 (fun c3 u3 f3 => ?_)
      refine z_aload_n hc dX9_where_36 0 rfl rfl ?_
      refine z_getR (x := 70) hc (ci := 9) (k := 8) (by decide) (by decide) zly9 lC1 (zkC lC1) wFX9_56 rfl dX9_where_37 rfl (by decide) ?_
      refine z_iload_n hc dX9_where_40 2 rfl rfl ?_
      refine z_iload_n hc dX9_where_41 1 rfl rfl ?_
      refine z_callV (av := [.int v2, .int v1]) (enc' := eI) hc rfl (sOu_placeOn v2 v1 _) (ci := 4) (by decide) lC70 (zkC lC70) rfl wMX9_268 hpyX4_placeOn hmyX4_placeOn (rm_ok hRm (Nat.le_of_ble_eq_true rfl) (Nat.le_of_ble_eq_true rfl)) (Nat.le_of_ble_eq_true rfl) hRm.2.2 dX9_where_42 (fun c4 u4 f4 => ?_)
      exact z_iret hc dX9_where_45
    · refine z_iconst (v := (-1)) hc dX9_where_18 rfl ?_
      exact z_iret hc dX9_where_19
set_option maxRecDepth 100000 in
set_option maxHeartbeats 4000000 in
theorem sOW_firstDay_2b {fin : Int32 × zM} (hc : zCx p s mi args meth c (wC D b) m0 RX9 cX9_firstDay 4 (some .int)) (hRm : R.frames = 5 ∧ R.locals = 145 ∧ R.cells = zc (wC D b) m0 fin.2 ∧ R.slots = zs (wC D b) m0 fin.2) {zr2 : Int32 → Int32 → Int32 → zM → Option (Int32 × zM)} (hr2 : ∀ (v1 : Int32) (v2 : Int32) (v3 : Int32) (u : zM), zJ eI p l e R s mi args below meth c (wC D b) m0 4 fin 2 [(0, .ref 1), (1, .int v1), (2, .int v2), (3, .int v3)] [] u (zr2 v1 v2 v3 u)) (v1 : Int32) (v2 : Int32) (v3 : Int32) (u : zM) : zJ eI p l e R s mi args below meth c (wC D b) m0 4 fin 2 [(0, .ref 1), (1, .int v1), (2, .int v2), (3, .int v3)] [] u (OW_firstDay_2b zr2 v1 v2 v3 u) := by
  unfold OW_firstDay_2b
  refine z_iload_n hc dX9_firstDay_2 3 rfl rfl ?_
  refine z_bipush (v := 60) hc dX9_firstDay_3 rfl ?_
  refine z_icmp_gt (tgt := 46) hc dX9_firstDay_5 (by decide) _ (fun h1 => ?_) (fun h1 => ?_)
  · refine z_iconst (v := (-1)) hc dX9_firstDay_46 rfl ?_
    exact z_iret hc dX9_firstDay_47
  · refine z_aload_n hc dX9_firstDay_8 0 rfl rfl ?_
    refine z_getR (x := 70) hc (ci := 9) (k := 8) (by decide) (by decide) zly9 lC1 (zkC lC1) wFX9_56 rfl dX9_firstDay_9 rfl (by decide) ?_
    refine z_aload_n hc dX9_firstDay_12 0 rfl rfl ?_
    refine zJ.chk _ (fun h2 => ?_)
    refine z_getR (x := (gR u 1 1)) hc (ci := 9) (k := 1) (by decide) (by decide) zly9 lC1 (zkC lC1) wFX9_19 rfl dX9_firstDay_13 rfl (lC_pos h2) ?_
    refine z_aload_n hc dX9_firstDay_16 0 rfl rfl ?_
    refine z_getR (x := 54) hc (ci := 9) (k := 5) (by decide) (by decide) zly9 lC1 (zkC lC1) wFX9_39 rfl dX9_firstDay_17 rfl (by decide) ?_
    refine z_iload_n hc dX9_firstDay_20 3 rfl rfl ?_
    refine z_callV (av := [.ref (gR u 1 1), .ref 54, .int v3]) (enc' := eV) hc rfl (sOu_foretell (gR u 1 1) 54 v3 _) (ci := 4) (by decide) lC70 (zkC lC70) rfl wMX9_261 hpyX4_foretell hmyX4_foretell (rm_ok hRm (Nat.le_of_ble_eq_true rfl) (Nat.le_of_ble_eq_true rfl)) (Nat.le_of_ble_eq_true rfl) hRm.2.2 dX9_firstDay_21 (fun c1 u1 f1 => ?_)
    refine z_aload_n hc dX9_firstDay_24 0 rfl rfl ?_
    refine z_getR (x := 70) hc (ci := 9) (k := 8) (by decide) (by decide) zly9 lC1 (zkC lC1) wFX9_56 rfl dX9_firstDay_25 rfl (by decide) ?_
    refine z_iload_n hc dX9_firstDay_28 3 rfl rfl ?_
    refine z_callV (av := [.int v3]) (enc' := eI) hc rfl (sOu_wetOn v3 _) (ci := 4) (by decide) lC70 (zkC lC70) rfl wMX9_277 hpyX4_wetOn hmyX4_wetOn (rm_ok hRm (Nat.le_of_ble_eq_true rfl) (Nat.le_of_ble_eq_true rfl)) (Nat.le_of_ble_eq_true rfl) hRm.2.2 dX9_firstDay_29 (fun c2 u2 f2 => ?_)
    refine z_iload_n hc dX9_firstDay_32 1 rfl rfl ?_
    refine z_iand hc dX9_firstDay_33 ?_
    refine z_iload_n hc dX9_firstDay_34 2 rfl rfl ?_
    refine z_icmp_ne (tgt := 40) hc dX9_firstDay_35 (by decide) _ (fun h3 => ?_) (fun h3 => ?_)
    · refine z_iinc (L' := [(3, .int (v3 + 1)), (0, .ref 1), (1, .int v1), (2, .int v2)]) hc dX9_firstDay_40 3 rfl (v := (v3 + 1)) rfl (by decide) rfl rfl ?_
      refine z_goto (tgt := 2) hc dX9_firstDay_43 (by decide) ?_
      refine zJ.sub (L' := [(0, .ref 1), (1, .int v1), (2, .int v2), (3, .int (v3 + 1))]) [1, 2, 3, 0] rfl ?_
      exact hr2 v1 v2 (v3 + 1) _
    · refine z_iload_n hc dX9_firstDay_38 3 rfl rfl ?_
      exact z_iret hc dX9_firstDay_39
set_option maxRecDepth 100000 in
set_option maxHeartbeats 4000000 in
theorem sOW_firstDay_2 {fin : Int32 × zM} (hc : zCx p s mi args meth c (wC D b) m0 RX9 cX9_firstDay 4 (some .int)) (hRm : R.frames = 5 ∧ R.locals = 145 ∧ R.cells = zc (wC D b) m0 fin.2 ∧ R.slots = zs (wC D b) m0 fin.2) : ∀ (zf : Nat) (v1 : Int32) (v2 : Int32) (v3 : Int32) (u : zM), zJ eI p l e R s mi args below meth c (wC D b) m0 4 fin 2 [(0, .ref 1), (1, .int v1), (2, .int v2), (3, .int v3)] [] u (OW_firstDay_2 zf v1 v2 v3 u) := by
  intro zf
  induction zf with
  | zero => intro v1 v2 v3 u; exact zJ.nil
  | succ zf ih => intro v1 v2 v3 u; exact sOW_firstDay_2b hc hRm ih v1 v2 v3 u
set_option maxRecDepth 100000 in
set_option maxHeartbeats 4000000 in
theorem sOW_firstDay : ∀ (v1 : Int32) (v2 : Int32) (u : zM) r m1, OW_firstDay v1 v2 u = some (r, m1) → zMet l (wC D b) 5 145 yX9_firstDay cX9_firstDay 4 (some .int) [.ref 1, .int v1, .int v2] u (eI r) m1 := by
  intro v1 v2 u
  refine zMet.of (L := [(0, .ref 1), (1, .int v1), (2, .int v2)]) RX9 (by decide +kernel) rfl (Nat.le_of_ble_eq_true rfl) (fun h => by cases h) rfl (fun p e s mi args below meth c R fin hc hin hRm => ?_)
  unfold OW_firstDay
  refine z_iconst (v := 0) hc dX9_firstDay_0 rfl ?_
  refine z_istore_n (L' := [(3, .int 0), (0, .ref 1), (1, .int v1), (2, .int v2)]) hc dX9_firstDay_1 rfl (by decide) rfl rfl ?_
  refine zJ.sub (L' := [(0, .ref 1), (1, .int v1), (2, .int v2), (3, .int 0)]) [1, 2, 3, 0] rfl ?_
  exact sOW_firstDay_2 hc hRm zF v1 v2 0 _
set_option maxRecDepth 100000 in
set_option maxHeartbeats 4000000 in
theorem sOW_dry : ∀ (v1 : Int32) (u : zM) r m1, OW_dry v1 u = some (r, m1) → zMet l (wC D b) 6 168 yX9_dry cX9_dry 2 (some .int) [.ref 1, .int v1] u (eI r) m1 := by
  intro v1 u
  refine zMet.of (L := [(0, .ref 1), (1, .int v1)]) RX9 (by decide +kernel) rfl (Nat.le_of_ble_eq_true rfl) (fun h => by cases h) rfl (fun p e s mi args below meth c R fin hc hin hRm => ?_)
  unfold OW_dry
  refine z_aload_n hc dX9_dry_0 0 rfl rfl ?_
  refine z_iload_n hc dX9_dry_1 1 rfl rfl ?_
  refine z_callV (av := [.int v1]) (enc' := eI) hc rfl (sOW_isPlace v1 _) (ci := 9) (by decide) lC1 (zkC lC1) rfl wMX9_131 hpyX9_isPlace hmyX9_isPlace (rm_ok hRm (Nat.le_of_ble_eq_true rfl) (Nat.le_of_ble_eq_true rfl)) (Nat.le_of_ble_eq_true rfl) hRm.2.2 dX9_dry_2 (fun c1 u1 f1 => ?_)
  refine z_if_eq (tgt := 19) hc dX9_dry_5 (by decide) _ (fun h1 => ?_) (fun h1 => ?_)
  · refine z_iconst (v := (-1)) hc dX9_dry_19 rfl ?_
    exact z_iret hc dX9_dry_20
  · refine z_aload_n hc dX9_dry_8 0 rfl rfl ?_
    refine z_iconst (v := 1) hc dX9_dry_9 rfl ?_
    refine z_iload_n hc dX9_dry_10 1 rfl rfl ?_
    refine z_ishl hc dX9_dry_11 ?_
    refine z_iconst (v := 0) hc dX9_dry_12 rfl ?_
    refine z_callV (av := [.int (1 <<< (v1 &&& 31)), .int 0]) (enc' := eI) hc rfl (sOW_firstDay (1 <<< (v1 &&& 31)) 0 _) (ci := 9) (by decide) lC1 (zkC lC1) rfl wMX9_271 hpyX9_firstDay hmyX9_firstDay (rm_ok hRm (Nat.le_of_ble_eq_true rfl) (Nat.le_of_ble_eq_true rfl)) (Nat.le_of_ble_eq_true rfl) hRm.2.2 dX9_dry_13 (fun c2 u2 f2 => ?_)
    refine z_goto (tgt := 20) hc dX9_dry_16 (by decide) ?_
    exact z_iret hc dX9_dry_20
set_option maxRecDepth 100000 in
set_option maxHeartbeats 4000000 in
theorem sOW_wet : ∀ (v1 : Int32) (u : zM) r m1, OW_wet v1 u = some (r, m1) → zMet l (wC D b) 6 168 yX9_wet cX9_wet 2 (some .int) [.ref 1, .int v1] u (eI r) m1 := by
  intro v1 u
  refine zMet.of (L := [(0, .ref 1), (1, .int v1)]) RX9 (by decide +kernel) rfl (Nat.le_of_ble_eq_true rfl) (fun h => by cases h) rfl (fun p e s mi args below meth c R fin hc hin hRm => ?_)
  unfold OW_wet
  refine z_aload_n hc dX9_wet_0 0 rfl rfl ?_
  refine z_iload_n hc dX9_wet_1 1 rfl rfl ?_
  refine z_callV (av := [.int v1]) (enc' := eI) hc rfl (sOW_isPlace v1 _) (ci := 9) (by decide) lC1 (zkC lC1) rfl wMX9_131 hpyX9_isPlace hmyX9_isPlace (rm_ok hRm (Nat.le_of_ble_eq_true rfl) (Nat.le_of_ble_eq_true rfl)) (Nat.le_of_ble_eq_true rfl) hRm.2.2 dX9_wet_2 (fun c1 u1 f1 => ?_)
  refine z_if_eq (tgt := 21) hc dX9_wet_5 (by decide) _ (fun h1 => ?_) (fun h1 => ?_)
  · refine z_iconst (v := (-1)) hc dX9_wet_21 rfl ?_
    exact z_iret hc dX9_wet_22
  · refine z_aload_n hc dX9_wet_8 0 rfl rfl ?_
    refine z_iconst (v := 1) hc dX9_wet_9 rfl ?_
    refine z_iload_n hc dX9_wet_10 1 rfl rfl ?_
    refine z_ishl hc dX9_wet_11 ?_
    refine z_iconst (v := 1) hc dX9_wet_12 rfl ?_
    refine z_iload_n hc dX9_wet_13 1 rfl rfl ?_
    refine z_ishl hc dX9_wet_14 ?_
    refine z_callV (av := [.int (1 <<< (v1 &&& 31)), .int (1 <<< (v1 &&& 31))]) (enc' := eI) hc rfl (sOW_firstDay (1 <<< (v1 &&& 31)) (1 <<< (v1 &&& 31)) _) (ci := 9) (by decide) lC1 (zkC lC1) rfl wMX9_271 hpyX9_firstDay hmyX9_firstDay (rm_ok hRm (Nat.le_of_ble_eq_true rfl) (Nat.le_of_ble_eq_true rfl)) (Nat.le_of_ble_eq_true rfl) hRm.2.2 dX9_wet_15 (fun c2 u2 f2 => ?_)
    refine z_goto (tgt := 22) hc dX9_wet_18 (by decide) ?_
    exact z_iret hc dX9_wet_22
set_option maxRecDepth 100000 in
set_option maxHeartbeats 4000000 in
theorem sOW_flood : ∀ (u : zM) r m1, OW_flood u = some (r, m1) → zMet l (wC D b) 6 168 yX9_flood cX9_flood 1 (some .int) [.ref 1] u (eI r) m1 := by
  intro u
  refine zMet.of (L := [(0, .ref 1)]) RX9 (by decide +kernel) rfl (Nat.le_of_ble_eq_true rfl) (fun h => by cases h) rfl (fun p e s mi args below meth c R fin hc hin hRm => ?_)
  unfold OW_flood
  refine z_aload_n hc dX9_flood_0 0 rfl rfl ?_
  refine z_aload_n hc dX9_flood_1 0 rfl rfl ?_
  refine zJ.chk _ (fun h1 => ?_)
  refine z_getR (x := (gR u 1 1)) hc (ci := 9) (k := 1) (by decide) (by decide) zly9 lC1 (zkC lC1) wFX9_19 rfl dX9_flood_2 rfl (lC_pos h1) ?_
  refine z_callV (av := []) (enc' := eI) hc rfl (sCo_allPlaces (gR u 1 1) _) (ci := 0) (by decide) h1 (zkC h1) rfl wMX9_274 hpyX0_allPlaces hmyX0_allPlaces (rm_ok hRm (Nat.le_of_ble_eq_true rfl) (Nat.le_of_ble_eq_true rfl)) (Nat.le_of_ble_eq_true rfl) hRm.2.2 dX9_flood_5 (fun c1 u1 f1 => ?_)
  refine z_aload_n hc dX9_flood_8 0 rfl rfl ?_
  refine zJ.chk _ (fun h2 => ?_)
  refine z_getR (x := (gR u1 1 1)) hc (ci := 9) (k := 1) (by decide) (by decide) zly9 lC1 (zkC lC1) wFX9_19 rfl dX9_flood_9 rfl (lC_pos h2) ?_
  refine z_callV (av := []) (enc' := eI) hc rfl (sCo_allPlaces (gR u1 1 1) _) (ci := 0) (by decide) h2 (zkC h2) rfl wMX9_274 hpyX0_allPlaces hmyX0_allPlaces (rm_ok hRm (Nat.le_of_ble_eq_true rfl) (Nat.le_of_ble_eq_true rfl)) (Nat.le_of_ble_eq_true rfl) hRm.2.2 dX9_flood_12 (fun c2 u2 f2 => ?_)
  refine z_callV (av := [.int c1, .int c2]) (enc' := eI) hc rfl (sOW_firstDay c1 c2 _) (ci := 9) (by decide) lC1 (zkC lC1) rfl wMX9_271 hpyX9_firstDay hmyX9_firstDay (rm_ok hRm (Nat.le_of_ble_eq_true rfl) (Nat.le_of_ble_eq_true rfl)) (Nat.le_of_ble_eq_true rfl) hRm.2.2 dX9_flood_15 (fun c3 u3 f3 => ?_)
  exact z_iret hc dX9_flood_18
set_option maxRecDepth 100000 in
set_option maxHeartbeats 4000000 in
theorem sOW_crest_31b {fin : Int32 × zM} (hc : zCx p s mi args meth c (wC D b) m0 RX9 cX9_crest 4 (some .int)) (hRm : R.frames = 5 ∧ R.locals = 145 ∧ R.cells = zc (wC D b) m0 fin.2 ∧ R.slots = zs (wC D b) m0 fin.2) {zr31 : Int32 → Int32 → Int32 → zM → Option (Int32 × zM)} (hr31 : ∀ (v1 : Int32) (v2 : Int32) (v3 : Int32) (u : zM), zJ eI p l e R s mi args below meth c (wC D b) m0 4 fin 31 [(0, .ref 1), (1, .int v1), (2, .int v2), (3, .int v3)] [] u (zr31 v1 v2 v3 u)) (v1 : Int32) (v2 : Int32) (v3 : Int32) (u : zM) : zJ eI p l e R s mi args below meth c (wC D b) m0 4 fin 31 [(0, .ref 1), (1, .int v1), (2, .int v2), (3, .int v3)] [] u (OW_crest_31b zr31 v1 v2 v3 u) := by
  unfold OW_crest_31b
  refine z_iload_n hc dX9_crest_31 3 rfl rfl ?_
  refine z_bipush (v := 60) hc dX9_crest_32 rfl ?_
  refine z_icmp_gt (tgt := 66) hc dX9_crest_34 (by decide) _ (fun h1 => ?_) (fun h1 => ?_)
  · refine z_iload_n hc dX9_crest_66 2 rfl rfl ?_
    exact z_iret hc dX9_crest_67
  · refine z_aload_n hc dX9_crest_37 0 rfl rfl ?_
    refine z_getR (x := 70) hc (ci := 9) (k := 8) (by decide) (by decide) zly9 lC1 (zkC lC1) wFX9_56 rfl dX9_crest_38 rfl (by decide) ?_
    refine z_iload_n hc dX9_crest_41 3 rfl rfl ?_
    refine z_iload_n hc dX9_crest_42 1 rfl rfl ?_
    refine z_callV (av := [.int v3, .int v1]) (enc' := eI) hc rfl (sOu_waterOn v3 v1 _) (ci := 4) (by decide) lC70 (zkC lC70) rfl wMX9_265 hpyX4_waterOn hmyX4_waterOn (rm_ok hRm (Nat.le_of_ble_eq_true rfl) (Nat.le_of_ble_eq_true rfl)) (Nat.le_of_ble_eq_true rfl) hRm.2.2 dX9_crest_43 (fun c1 u1 f1 => ?_)
    refine z_aload_n hc dX9_crest_46 0 rfl rfl ?_
    refine z_getR (x := 70) hc (ci := 9) (k := 8) (by decide) (by decide) zly9 lC1 (zkC lC1) wFX9_56 rfl dX9_crest_47 rfl (by decide) ?_
    refine z_iload_n hc dX9_crest_50 2 rfl rfl ?_
    refine z_iload_n hc dX9_crest_51 1 rfl rfl ?_
    refine z_callV (av := [.int v2, .int v1]) (enc' := eI) hc rfl (sOu_waterOn v2 v1 _) (ci := 4) (by decide) lC70 (zkC lC70) rfl wMX9_265 hpyX4_waterOn hmyX4_waterOn (rm_ok hRm (Nat.le_of_ble_eq_true rfl) (Nat.le_of_ble_eq_true rfl)) (Nat.le_of_ble_eq_true rfl) hRm.2.2 dX9_crest_52 (fun c2 u2 f2 => ?_)
    refine z_icmp_le (tgt := 60) hc dX9_crest_55 (by decide) _ (fun h2 => ?_) (fun h2 => ?_)
    · refine z_iinc (L' := [(3, .int (v3 + 1)), (0, .ref 1), (1, .int v1), (2, .int v2)]) hc dX9_crest_60 3 rfl (v := (v3 + 1)) rfl (by decide) rfl rfl ?_
      refine z_goto (tgt := 31) hc dX9_crest_63 (by decide) ?_
      refine zJ.sub (L' := [(0, .ref 1), (1, .int v1), (2, .int v2), (3, .int (v3 + 1))]) [1, 2, 3, 0] rfl ?_
      exact hr31 v1 v2 (v3 + 1) _
    · refine z_iload_n hc dX9_crest_58 3 rfl rfl ?_
      refine z_istore_n (L' := [(2, .int v3), (0, .ref 1), (1, .int v1), (3, .int v3)]) hc dX9_crest_59 rfl (by decide) rfl rfl ?_
      refine z_iinc (L' := [(3, .int (v3 + 1)), (2, .int v3), (0, .ref 1), (1, .int v1)]) hc dX9_crest_60 3 rfl (v := (v3 + 1)) rfl (by decide) rfl rfl ?_
      refine z_goto (tgt := 31) hc dX9_crest_63 (by decide) ?_
      refine zJ.sub (L' := [(0, .ref 1), (1, .int v1), (2, .int v3), (3, .int (v3 + 1))]) [2, 3, 1, 0] rfl ?_
      exact hr31 v1 v3 (v3 + 1) _
set_option maxRecDepth 100000 in
set_option maxHeartbeats 4000000 in
theorem sOW_crest_31 {fin : Int32 × zM} (hc : zCx p s mi args meth c (wC D b) m0 RX9 cX9_crest 4 (some .int)) (hRm : R.frames = 5 ∧ R.locals = 145 ∧ R.cells = zc (wC D b) m0 fin.2 ∧ R.slots = zs (wC D b) m0 fin.2) : ∀ (zf : Nat) (v1 : Int32) (v2 : Int32) (v3 : Int32) (u : zM), zJ eI p l e R s mi args below meth c (wC D b) m0 4 fin 31 [(0, .ref 1), (1, .int v1), (2, .int v2), (3, .int v3)] [] u (OW_crest_31 zf v1 v2 v3 u) := by
  intro zf
  induction zf with
  | zero => intro v1 v2 v3 u; exact zJ.nil
  | succ zf ih => intro v1 v2 v3 u; exact sOW_crest_31b hc hRm ih v1 v2 v3 u
set_option maxRecDepth 100000 in
set_option maxHeartbeats 4000000 in
theorem sOW_crest : ∀ (v1 : Int32) (u : zM) r m1, OW_crest v1 u = some (r, m1) → zMet l (wC D b) 5 145 yX9_crest cX9_crest 4 (some .int) [.ref 1, .int v1] u (eI r) m1 := by
  intro v1 u
  refine zMet.of (L := [(0, .ref 1), (1, .int v1)]) RX9 (by decide +kernel) rfl (Nat.le_of_ble_eq_true rfl) (fun h => by cases h) rfl (fun p e s mi args below meth c R fin hc hin hRm => ?_)
  unfold OW_crest
  refine z_aload_n hc dX9_crest_0 0 rfl rfl ?_
  refine z_iload_n hc dX9_crest_1 1 rfl rfl ?_
  refine z_callV (av := [.int v1]) (enc' := eI) hc rfl (sOW_isPlace v1 _) (ci := 9) (by decide) lC1 (zkC lC1) rfl wMX9_131 hpyX9_isPlace hmyX9_isPlace (rm_ok hRm (Nat.le_of_ble_eq_true rfl) (Nat.le_of_ble_eq_true rfl)) (Nat.le_of_ble_eq_true rfl) hRm.2.2 dX9_crest_2 (fun c1 u1 f1 => ?_)
  refine z_if_ne (tgt := 10) hc dX9_crest_5 (by decide) _ (fun h1 => ?_) (fun h1 => ?_)
  · refine z_aload_n hc dX9_crest_10 0 rfl rfl ?_
    refine z_getR (x := 70) hc (ci := 9) (k := 8) (by decide) (by decide) zly9 lC1 (zkC lC1) wFX9_56 rfl dX9_crest_11 rfl (by decide) ?_
    refine z_aload_n hc dX9_crest_14 0 rfl rfl ?_
    refine zJ.chk _ (fun h2 => ?_)
    refine z_getR (x := (gR u1 1 1)) hc (ci := 9) (k := 1) (by decide) (by decide) zly9 lC1 (zkC lC1) wFX9_19 rfl dX9_crest_15 rfl (lC_pos h2) ?_
    refine z_aload_n hc dX9_crest_18 0 rfl rfl ?_
    refine z_getR (x := 54) hc (ci := 9) (k := 5) (by decide) (by decide) zly9 lC1 (zkC lC1) wFX9_39 rfl dX9_crest_19 rfl (by decide) ?_
    refine z_bipush (v := 60) hc dX9_crest_22 rfl ?_
    refine z_callV (av := [.ref (gR u1 1 1), .ref 54, .int 60]) (enc' := eV) hc rfl (sOu_foretell (gR u1 1 1) 54 60 _) (ci := 4) (by decide) lC70 (zkC lC70) rfl wMX9_261 hpyX4_foretell hmyX4_foretell (rm_ok hRm (Nat.le_of_ble_eq_true rfl) (Nat.le_of_ble_eq_true rfl)) (Nat.le_of_ble_eq_true rfl) hRm.2.2 dX9_crest_24 (fun c2 u2 f2 => ?_)
    refine z_iconst (v := 0) hc dX9_crest_27 rfl ?_
    refine z_istore_n (L' := [(2, .int 0), (0, .ref 1), (1, .int v1)]) hc dX9_crest_28 rfl (by decide) rfl rfl ?_
    refine z_iconst (v := 1) hc dX9_crest_29 rfl ?_
    refine z_istore_n (L' := [(3, .int 1), (2, .int 0), (0, .ref 1), (1, .int v1)]) hc dX9_crest_30 rfl (by decide) rfl rfl ?_
    refine zJ.sub (L' := [(0, .ref 1), (1, .int v1), (2, .int 0), (3, .int 1)]) [2, 3, 1, 0] rfl ?_
    exact sOW_crest_31 hc hRm zF v1 0 1 _
  · refine z_iconst (v := (-1)) hc dX9_crest_8 rfl ?_
    exact z_iret hc dX9_crest_9
set_option maxRecDepth 100000 in
set_option maxHeartbeats 4000000 in
theorem sOW_isSafe_3b {fin : Int32 × zM} (hc : zCx p s mi args meth c (wC D b) m0 RX9 cX9_isSafe 5 (some .boolean)) (hRm : R.frames = 1 ∧ R.locals = 22 ∧ R.cells = zc (wC D b) m0 fin.2 ∧ R.slots = zs (wC D b) m0 fin.2) {zr3 : Int32 → Int32 → Int32 → Int32 → zM → Option (Int32 × zM)} (hr3 : ∀ (v1 : Int32) (v2 : Int32) (v3 : Int32) (v4 : Int32) (u : zM), zJ eI p l e R s mi args below meth c (wC D b) m0 5 fin 3 [(0, .ref 1), (1, .int v1), (2, .int v2), (3, .int v3), (4, .int v4)] [] u (zr3 v1 v2 v3 v4 u)) (v1 : Int32) (v2 : Int32) (v3 : Int32) (v4 : Int32) (u : zM) : zJ eI p l e R s mi args below meth c (wC D b) m0 5 fin 3 [(0, .ref 1), (1, .int v1), (2, .int v2), (3, .int v3), (4, .int v4)] [] u (OW_isSafe_3b zr3 v1 v2 v3 v4 u) := by
  unfold OW_isSafe_3b
  refine z_iload hc dX9_isSafe_3 4 rfl ?_
  refine z_iload_n hc dX9_isSafe_5 3 rfl rfl ?_
  refine z_icmp_gt (tgt := 34) hc dX9_isSafe_6 (by decide) _ (fun h1 => ?_) (fun h1 => ?_)
  · refine z_iconst (v := 1) hc dX9_isSafe_34 rfl ?_
    exact z_zret hc rfl dX9_isSafe_35
  · refine z_iload_n hc dX9_isSafe_9 1 rfl rfl ?_
    refine z_aload_n hc dX9_isSafe_10 0 rfl rfl ?_
    refine z_getR (x := 70) hc (ci := 9) (k := 8) (by decide) (by decide) zly9 lC1 (zkC lC1) wFX9_56 rfl dX9_isSafe_11 rfl (by decide) ?_
    refine z_iload hc dX9_isSafe_14 4 rfl ?_
    refine z_iload_n hc dX9_isSafe_16 2 rfl rfl ?_
    refine z_callV (av := [.int v4, .int v2]) (enc' := eI) hc rfl (sOu_waterOn v4 v2 _) (ci := 4) (by decide) lC70 (zkC lC70) rfl wMX9_265 hpyX4_waterOn hmyX4_waterOn (rm_ok hRm (Nat.le_of_ble_eq_true rfl) (Nat.le_of_ble_eq_true rfl)) (Nat.le_of_ble_eq_true rfl) hRm.2.2 dX9_isSafe_17 (fun c1 u1 f1 => ?_)
    refine z_callS (av := [.int v1, .int c1]) (enc' := eI) hc rfl (sSt_isServable v1 c1 _) wMX9_283 hpyX7_isServable hmyX7_isServable (rm_ok hRm (Nat.le_of_ble_eq_true rfl) (Nat.le_of_ble_eq_true rfl)) (Nat.le_of_ble_eq_true rfl) hRm.2.2 dX9_isSafe_20 (fun c2 u2 f2 => ?_)
    refine z_if_eq (tgt := 28) hc dX9_isSafe_23 (by decide) _ (fun h2 => ?_) (fun h2 => ?_)
    · refine z_iinc (L' := [(4, .int (v4 + 1)), (0, .ref 1), (1, .int v1), (2, .int v2), (3, .int v3)]) hc dX9_isSafe_28 4 rfl (v := (v4 + 1)) rfl (by decide) rfl rfl ?_
      refine z_goto (tgt := 3) hc dX9_isSafe_31 (by decide) ?_
      refine zJ.sub (L' := [(0, .ref 1), (1, .int v1), (2, .int v2), (3, .int v3), (4, .int (v4 + 1))]) [1, 2, 3, 4, 0] rfl ?_
      exact hr3 v1 v2 v3 (v4 + 1) _
    · refine z_iconst (v := 0) hc dX9_isSafe_26 rfl ?_
      exact z_zret hc rfl dX9_isSafe_27
set_option maxRecDepth 100000 in
set_option maxHeartbeats 4000000 in
theorem sOW_isSafe_3 {fin : Int32 × zM} (hc : zCx p s mi args meth c (wC D b) m0 RX9 cX9_isSafe 5 (some .boolean)) (hRm : R.frames = 1 ∧ R.locals = 22 ∧ R.cells = zc (wC D b) m0 fin.2 ∧ R.slots = zs (wC D b) m0 fin.2) : ∀ (zf : Nat) (v1 : Int32) (v2 : Int32) (v3 : Int32) (v4 : Int32) (u : zM), zJ eI p l e R s mi args below meth c (wC D b) m0 5 fin 3 [(0, .ref 1), (1, .int v1), (2, .int v2), (3, .int v3), (4, .int v4)] [] u (OW_isSafe_3 zf v1 v2 v3 v4 u) := by
  intro zf
  induction zf with
  | zero => intro v1 v2 v3 v4 u; exact zJ.nil
  | succ zf ih => intro v1 v2 v3 v4 u; exact sOW_isSafe_3b hc hRm ih v1 v2 v3 v4 u
set_option maxRecDepth 100000 in
set_option maxHeartbeats 4000000 in
theorem sOW_isSafe : ∀ (v1 : Int32) (v2 : Int32) (v3 : Int32) (u : zM) r m1, OW_isSafe v1 v2 v3 u = some (r, m1) → zMet l (wC D b) 1 22 yX9_isSafe cX9_isSafe 5 (some .boolean) [.ref 1, .int v1, .int v2, .int v3] u (eI r) m1 := by
  intro v1 v2 v3 u
  refine zMet.of (L := [(0, .ref 1), (1, .int v1), (2, .int v2), (3, .int v3)]) RX9 (by decide +kernel) rfl (Nat.le_of_ble_eq_true rfl) (fun h => by cases h) rfl (fun p e s mi args below meth c R fin hc hin hRm => ?_)
  unfold OW_isSafe
  refine z_iconst (v := 0) hc dX9_isSafe_0 rfl ?_
  refine z_istore (L' := [(4, .int 0), (0, .ref 1), (1, .int v1), (2, .int v2), (3, .int v3)]) hc dX9_isSafe_1 (by decide) rfl rfl ?_
  refine zJ.sub (L' := [(0, .ref 1), (1, .int v1), (2, .int v2), (3, .int v3), (4, .int 0)]) [1, 2, 3, 4, 0] rfl ?_
  exact sOW_isSafe_3 hc hRm zF v1 v2 v3 0 _
set_option maxRecDepth 100000 in
set_option maxHeartbeats 4000000 in
theorem sOW_safe_41b {fin : Int32 × zM} (hc : zCx p s mi args meth c (wC D b) m0 RX9 cX9_safe 5 (some .int)) (hRm : R.frames = 5 ∧ R.locals = 145 ∧ R.cells = zc (wC D b) m0 fin.2 ∧ R.slots = zs (wC D b) m0 fin.2) {zr41 : Int32 → Int32 → Int32 → Int32 → zM → Option (Int32 × zM)} (hr41 : ∀ (v1 : Int32) (v2 : Int32) (v3 : Int32) (v4 : Int32) (u : zM), zJ eI p l e R s mi args below meth c (wC D b) m0 5 fin 41 [(0, .ref 1), (1, .int v1), (2, .int v2), (3, .int v3), (4, .int v4)] [] u (zr41 v1 v2 v3 v4 u)) (v1 : Int32) (v2 : Int32) (v3 : Int32) (v4 : Int32) (u : zM) : zJ eI p l e R s mi args below meth c (wC D b) m0 5 fin 41 [(0, .ref 1), (1, .int v1), (2, .int v2), (3, .int v3), (4, .int v4)] [] u (OW_safe_41b zr41 v1 v2 v3 v4 u) := by
  unfold OW_safe_41b
  refine z_iload hc dX9_safe_41 4 rfl ?_
  refine z_aload_n hc dX9_safe_43 0 rfl rfl ?_
  refine zJ.chk _ (fun h1 => ?_)
  refine z_getR (x := (gR u 1 1)) hc (ci := 9) (k := 1) (by decide) (by decide) zly9 lC1 (zkC lC1) wFX9_19 rfl dX9_safe_44 rfl (lC_pos h1) ?_
  refine z_getR (x := ((gR u 1 1) + 1)) hc (ci := 0) (k := 0) (by decide) (by decide) zly0 h1 (zkC h1) wFX9_115 rfl dX9_safe_47 (rfC_off (off := 1) h1 rfl (by decide)) (Nat.le_add_left_of_le (by decide)) ?_
  refine z_getI hc (ci := 3) (k := 1) (by decide) (by decide) zly3 (lyC_10_1 h1) (zkC (lyC_10_1 h1)) wFX9_119 rfl dX9_safe_50 ?_
  refine z_icmp_ge (tgt := 88) hc dX9_safe_53 (by decide) _ (fun h2 => ?_) (fun h2 => ?_)
  · refine z_iload_n hc dX9_safe_88 3 rfl rfl ?_
    exact z_iret hc dX9_safe_89
  · refine z_aload_n hc dX9_safe_56 0 rfl rfl ?_
    refine z_aload_n hc dX9_safe_57 0 rfl rfl ?_
    refine zJ.chk _ (fun h3 => ?_)
    refine z_getR (x := (gR u 1 1)) hc (ci := 9) (k := 1) (by decide) (by decide) zly9 lC1 (zkC lC1) wFX9_19 rfl dX9_safe_58 rfl (lC_pos h3) ?_
    refine z_getR (x := ((gR u 1 1) + 11)) hc (ci := 0) (k := 6) (by decide) (by decide) zly0 h3 (zkC h3) wFX9_154 rfl dX9_safe_61 (rfC_off (off := 11) h3 rfl (by decide)) (Nat.le_add_left_of_le (by decide)) ?_
    refine z_iload_n hc dX9_safe_64 1 rfl rfl ?_
    refine zJ.chk _ (fun h4 => ?_)
    refine z_iald (k := (ix v1)) hc (lyC_10_11 h3) (zkC (lyC_10_11 h3)) h4 rfl dX9_safe_65 ?_
    refine z_iload hc dX9_safe_66 4 rfl ?_
    refine z_iload_n hc dX9_safe_68 2 rfl rfl ?_
    refine z_callV (av := [.int (gI u ((gR u 1 1) + 11) (ix v1)), .int v4, .int v2]) (enc' := eI) hc rfl (sOW_isSafe (gI u ((gR u 1 1) + 11) (ix v1)) v4 v2 _) (ci := 9) (by decide) lC1 (zkC lC1) rfl wMX9_280 hpyX9_isSafe hmyX9_isSafe (rm_ok hRm (Nat.le_of_ble_eq_true rfl) (Nat.le_of_ble_eq_true rfl)) (Nat.le_of_ble_eq_true rfl) hRm.2.2 dX9_safe_69 (fun c1 u1 f1 => ?_)
    refine z_if_eq (tgt := 82) hc dX9_safe_72 (by decide) _ (fun h5 => ?_) (fun h5 => ?_)
    · refine z_iinc (L' := [(4, .int (v4 + 1)), (0, .ref 1), (1, .int v1), (2, .int v2), (3, .int v3)]) hc dX9_safe_82 4 rfl (v := (v4 + 1)) rfl (by decide) rfl rfl ?_
      refine z_goto (tgt := 41) hc dX9_safe_85 (by decide) ?_
      refine zJ.sub (L' := [(0, .ref 1), (1, .int v1), (2, .int v2), (3, .int v3), (4, .int (v4 + 1))]) [1, 2, 3, 4, 0] rfl ?_
      exact hr41 v1 v2 v3 (v4 + 1) _
    · refine z_iload_n hc dX9_safe_75 3 rfl rfl ?_
      refine z_iconst (v := 1) hc dX9_safe_76 rfl ?_
      refine z_iload hc dX9_safe_77 4 rfl ?_
      refine z_ishl hc dX9_safe_79 ?_
      refine z_ior hc dX9_safe_80 ?_
      refine zJ.letI (fun x1 e1 => ?_)
      refine z_istore_n (L' := [(3, .int x1), (0, .ref 1), (1, .int v1), (2, .int v2), (4, .int v4)]) hc dX9_safe_81 rfl (by decide) rfl rfl ?_
      refine z_iinc (L' := [(4, .int (v4 + 1)), (3, .int x1), (0, .ref 1), (1, .int v1), (2, .int v2)]) hc dX9_safe_82 4 rfl (v := (v4 + 1)) rfl (by decide) rfl rfl ?_
      refine z_goto (tgt := 41) hc dX9_safe_85 (by decide) ?_
      refine zJ.sub (L' := [(0, .ref 1), (1, .int v1), (2, .int v2), (3, .int x1), (4, .int (v4 + 1))]) [2, 3, 4, 1, 0] rfl ?_
      exact hr41 v1 v2 x1 (v4 + 1) _
set_option maxRecDepth 100000 in
set_option maxHeartbeats 4000000 in
theorem sOW_safe_41 {fin : Int32 × zM} (hc : zCx p s mi args meth c (wC D b) m0 RX9 cX9_safe 5 (some .int)) (hRm : R.frames = 5 ∧ R.locals = 145 ∧ R.cells = zc (wC D b) m0 fin.2 ∧ R.slots = zs (wC D b) m0 fin.2) : ∀ (zf : Nat) (v1 : Int32) (v2 : Int32) (v3 : Int32) (v4 : Int32) (u : zM), zJ eI p l e R s mi args below meth c (wC D b) m0 5 fin 41 [(0, .ref 1), (1, .int v1), (2, .int v2), (3, .int v3), (4, .int v4)] [] u (OW_safe_41 zf v1 v2 v3 v4 u) := by
  intro zf
  induction zf with
  | zero => intro v1 v2 v3 v4 u; exact zJ.nil
  | succ zf ih => intro v1 v2 v3 v4 u; exact sOW_safe_41b hc hRm ih v1 v2 v3 v4 u
set_option maxRecDepth 100000 in
set_option maxHeartbeats 4000000 in
theorem sOW_safe : ∀ (v1 : Int32) (v2 : Int32) (u : zM) r m1, OW_safe v1 v2 u = some (r, m1) → zMet l (wC D b) 5 145 yX9_safe cX9_safe 5 (some .int) [.ref 1, .int v1, .int v2] u (eI r) m1 := by
  intro v1 v2 u
  refine zMet.of (L := [(0, .ref 1), (1, .int v1), (2, .int v2)]) RX9 (by decide +kernel) rfl (Nat.le_of_ble_eq_true rfl) (fun h => by cases h) rfl (fun p e s mi args below meth c R fin hc hin hRm => ?_)
  unfold OW_safe
  refine z_aload_n hc dX9_safe_0 0 rfl rfl ?_
  refine z_iload_n hc dX9_safe_1 1 rfl rfl ?_
  refine z_callV (av := [.int v1]) (enc' := eI) hc rfl (sOW_isPerson v1 _) (ci := 9) (by decide) lC1 (zkC lC1) rfl wMX9_151 hpyX9_isPerson hmyX9_isPerson (rm_ok hRm (Nat.le_of_ble_eq_true rfl) (Nat.le_of_ble_eq_true rfl)) (Nat.le_of_ble_eq_true rfl) hRm.2.2 dX9_safe_2 (fun c1 u1 f1 => ?_)
  refine z_if_eq (tgt := 18) hc dX9_safe_5 (by decide) _ (fun h1 => ?_) (fun h1 => ?_)
  · refine z_iconst (v := (-1)) hc dX9_safe_18 rfl ?_
    exact z_iret hc dX9_safe_19
  · refine z_iload_n hc dX9_safe_8 2 rfl rfl ?_
    refine z_iconst (v := 1) hc dX9_safe_9 rfl ?_
    refine z_bipush (v := 60) hc dX9_safe_10 rfl ?_
    refine z_callS (av := [.int v2, .int 1, .int 60]) (enc' := eI) hc rfl (sOW_within v2 1 60 _) wMX9_229 hpyX9_within hmyX9_within (rm_ok hRm (Nat.le_of_ble_eq_true rfl) (Nat.le_of_ble_eq_true rfl)) (Nat.le_of_ble_eq_true rfl) hRm.2.2 dX9_safe_12 (fun c2 u2 f2 => ?_)
    refine z_if_ne (tgt := 20) hc dX9_safe_15 (by decide) _ (fun h2 => ?_) (fun h2 => ?_)
    · refine z_aload_n hc dX9_safe_20 0 rfl rfl ?_
      refine z_getR (x := 70) hc (ci := 9) (k := 8) (by decide) (by decide) zly9 lC1 (zkC lC1) wFX9_56 rfl dX9_safe_21 rfl (by decide) ?_
      refine z_aload_n hc dX9_safe_24 0 rfl rfl ?_
      refine zJ.chk _ (fun h3 => ?_)
      refine z_getR (x := (gR u2 1 1)) hc (ci := 9) (k := 1) (by decide) (by decide) zly9 lC1 (zkC lC1) wFX9_19 rfl dX9_safe_25 rfl (lC_pos h3) ?_
      refine z_aload_n hc dX9_safe_28 0 rfl rfl ?_
      refine z_getR (x := 54) hc (ci := 9) (k := 5) (by decide) (by decide) zly9 lC1 (zkC lC1) wFX9_39 rfl dX9_safe_29 rfl (by decide) ?_
      refine z_iload_n hc dX9_safe_32 2 rfl rfl ?_
      refine z_callV (av := [.ref (gR u2 1 1), .ref 54, .int v2]) (enc' := eV) hc rfl (sOu_foretell (gR u2 1 1) 54 v2 _) (ci := 4) (by decide) lC70 (zkC lC70) rfl wMX9_261 hpyX4_foretell hmyX4_foretell (rm_ok hRm (Nat.le_of_ble_eq_true rfl) (Nat.le_of_ble_eq_true rfl)) (Nat.le_of_ble_eq_true rfl) hRm.2.2 dX9_safe_33 (fun c3 u3 f3 => ?_)
      refine z_iconst (v := 0) hc dX9_safe_36 rfl ?_
      refine z_istore_n (L' := [(3, .int 0), (0, .ref 1), (1, .int v1), (2, .int v2)]) hc dX9_safe_37 rfl (by decide) rfl rfl ?_
      refine z_iconst (v := 0) hc dX9_safe_38 rfl ?_
      refine z_istore (L' := [(4, .int 0), (3, .int 0), (0, .ref 1), (1, .int v1), (2, .int v2)]) hc dX9_safe_39 (by decide) rfl rfl ?_
      refine zJ.sub (L' := [(0, .ref 1), (1, .int v1), (2, .int v2), (3, .int 0), (4, .int 0)]) [2, 3, 4, 1, 0] rfl ?_
      exact sOW_safe_41 hc hRm zF v1 v2 0 0 _
    · refine z_iconst (v := (-1)) hc dX9_safe_18 rfl ?_
      exact z_iret hc dX9_safe_19
set_option maxRecDepth 100000 in
set_option maxHeartbeats 4000000 in
theorem sOW_soon : ∀ (v1 : Int32) (v2 : Int32) (u : zM) r m1, OW_soon v1 v2 u = some (r, m1) → zMet l (wC D b) 5 145 yX9_soon cX9_soon 3 (some .int) [.ref 1, .int v1, .int v2] u (eI r) m1 := by
  intro v1 v2 u
  refine zMet.of (L := [(0, .ref 1), (1, .int v1), (2, .int v2)]) RX9 (by decide +kernel) rfl (Nat.le_of_ble_eq_true rfl) (fun h => by cases h) rfl (fun p e s mi args below meth c R fin hc hin hRm => ?_)
  unfold OW_soon
  refine z_aload_n hc dX9_soon_0 0 rfl rfl ?_
  refine z_iload_n hc dX9_soon_1 1 rfl rfl ?_
  refine z_callV (av := [.int v1]) (enc' := eI) hc rfl (sOW_isOtter v1 _) (ci := 9) (by decide) lC1 (zkC lC1) rfl wMX9_157 hpyX9_isOtter hmyX9_isOtter (rm_ok hRm (Nat.le_of_ble_eq_true rfl) (Nat.le_of_ble_eq_true rfl)) (Nat.le_of_ble_eq_true rfl) hRm.2.2 dX9_soon_2 (fun c1 u1 f1 => ?_)
  refine z_if_eq (tgt := 16) hc dX9_soon_5 (by decide) _ (fun h1 => ?_) (fun h1 => ?_)
  · refine z_iconst (v := (-1)) hc dX9_soon_16 rfl ?_
    exact z_iret hc dX9_soon_17
  · refine z_aload_n hc dX9_soon_8 0 rfl rfl ?_
    refine z_iload_n hc dX9_soon_9 2 rfl rfl ?_
    refine z_callV (av := [.int v2]) (enc' := eI) hc rfl (sOW_isPlace v2 _) (ci := 9) (by decide) lC1 (zkC lC1) rfl wMX9_131 hpyX9_isPlace hmyX9_isPlace (rm_ok hRm (Nat.le_of_ble_eq_true rfl) (Nat.le_of_ble_eq_true rfl)) (Nat.le_of_ble_eq_true rfl) hRm.2.2 dX9_soon_10 (fun c2 u2 f2 => ?_)
    refine z_if_ne (tgt := 18) hc dX9_soon_13 (by decide) _ (fun h2 => ?_) (fun h2 => ?_)
    · refine z_aload_n hc dX9_soon_18 0 rfl rfl ?_
      refine z_getR (x := 70) hc (ci := 9) (k := 8) (by decide) (by decide) zly9 lC1 (zkC lC1) wFX9_56 rfl dX9_soon_19 rfl (by decide) ?_
      refine z_aload_n hc dX9_soon_22 0 rfl rfl ?_
      refine zJ.chk _ (fun h3 => ?_)
      refine z_getR (x := (gR u2 1 1)) hc (ci := 9) (k := 1) (by decide) (by decide) zly9 lC1 (zkC lC1) wFX9_19 rfl dX9_soon_23 rfl (lC_pos h3) ?_
      refine z_aload_n hc dX9_soon_26 0 rfl rfl ?_
      refine z_getR (x := 54) hc (ci := 9) (k := 5) (by decide) (by decide) zly9 lC1 (zkC lC1) wFX9_39 rfl dX9_soon_27 rfl (by decide) ?_
      refine z_bipush (v := 60) hc dX9_soon_30 rfl ?_
      refine z_callV (av := [.ref (gR u2 1 1), .ref 54, .int 60]) (enc' := eV) hc rfl (sOu_foretell (gR u2 1 1) 54 60 _) (ci := 4) (by decide) lC70 (zkC lC70) rfl wMX9_261 hpyX4_foretell hmyX4_foretell (rm_ok hRm (Nat.le_of_ble_eq_true rfl) (Nat.le_of_ble_eq_true rfl)) (Nat.le_of_ble_eq_true rfl) hRm.2.2 dX9_soon_32 (fun c3 u3 f3 => ?_)
      refine z_aload_n hc dX9_soon_35 0 rfl rfl ?_
      refine z_getR (x := 70) hc (ci := 9) (k := 8) (by decide) (by decide) zly9 lC1 (zkC lC1) wFX9_56 rfl dX9_soon_36 rfl (by decide) ?_
      refine z_aload_n hc dX9_soon_39 0 rfl rfl ?_
      refine zJ.chk _ (fun h4 => ?_)
      refine z_getR (x := (gR u3 1 1)) hc (ci := 9) (k := 1) (by decide) (by decide) zly9 lC1 (zkC lC1) wFX9_19 rfl dX9_soon_40 rfl (lC_pos h4) ?_
      refine z_aload_n hc dX9_soon_43 0 rfl rfl ?_
      refine z_getR (x := 54) hc (ci := 9) (k := 5) (by decide) (by decide) zly9 lC1 (zkC lC1) wFX9_39 rfl dX9_soon_44 rfl (by decide) ?_
      refine z_iload_n hc dX9_soon_47 1 rfl rfl ?_
      refine z_iload_n hc dX9_soon_48 2 rfl rfl ?_
      refine z_callV (av := [.ref (gR u3 1 1), .ref 54, .int v1, .int v2]) (enc' := eI) hc rfl (sOu_daysToPlace (gR u3 1 1) 54 v1 v2 _) (ci := 4) (by decide) lC70 (zkC lC70) rfl wMX9_287 hpyX4_daysToPlace hmyX4_daysToPlace (rm_ok hRm (Nat.le_of_ble_eq_true rfl) (Nat.le_of_ble_eq_true rfl)) (Nat.le_of_ble_eq_true rfl) hRm.2.2 dX9_soon_49 (fun c4 u4 f4 => ?_)
      exact z_iret hc dX9_soon_52
    · refine z_iconst (v := (-1)) hc dX9_soon_16 rfl ?_
      exact z_iret hc dX9_soon_17
set_option maxRecDepth 100000 in
set_option maxHeartbeats 4000000 in
theorem sOW_serves : ∀ (v1 : Int32) (v2 : Int32) (u : zM) r m1, OW_serves v1 v2 u = some (r, m1) → zMet l (wC D b) 5 145 yX9_serves cX9_serves 3 (some .int) [.ref 1, .int v1, .int v2] u (eI r) m1 := by
  intro v1 v2 u
  refine zMet.of (L := [(0, .ref 1), (1, .int v1), (2, .int v2)]) RX9 (by decide +kernel) rfl (Nat.le_of_ble_eq_true rfl) (fun h => by cases h) rfl (fun p e s mi args below meth c R fin hc hin hRm => ?_)
  unfold OW_serves
  refine z_aload_n hc dX9_serves_0 0 rfl rfl ?_
  refine z_iload_n hc dX9_serves_1 1 rfl rfl ?_
  refine z_callV (av := [.int v1]) (enc' := eI) hc rfl (sOW_isWrit v1 _) (ci := 9) (by decide) lC1 (zkC lC1) rfl wMX9_169 hpyX9_isWrit hmyX9_isWrit (rm_ok hRm (Nat.le_of_ble_eq_true rfl) (Nat.le_of_ble_eq_true rfl)) (Nat.le_of_ble_eq_true rfl) hRm.2.2 dX9_serves_2 (fun c1 u1 f1 => ?_)
  refine z_if_eq (tgt := 16) hc dX9_serves_5 (by decide) _ (fun h1 => ?_) (fun h1 => ?_)
  · refine z_iconst (v := (-1)) hc dX9_serves_16 rfl ?_
    exact z_iret hc dX9_serves_17
  · refine z_aload_n hc dX9_serves_8 0 rfl rfl ?_
    refine z_iload_n hc dX9_serves_9 2 rfl rfl ?_
    refine z_callV (av := [.int v2]) (enc' := eI) hc rfl (sOW_isOtter v2 _) (ci := 9) (by decide) lC1 (zkC lC1) rfl wMX9_157 hpyX9_isOtter hmyX9_isOtter (rm_ok hRm (Nat.le_of_ble_eq_true rfl) (Nat.le_of_ble_eq_true rfl)) (Nat.le_of_ble_eq_true rfl) hRm.2.2 dX9_serves_10 (fun c2 u2 f2 => ?_)
    refine z_if_ne (tgt := 18) hc dX9_serves_13 (by decide) _ (fun h2 => ?_) (fun h2 => ?_)
    · refine z_aload_n hc dX9_serves_18 0 rfl rfl ?_
      refine z_getR (x := 70) hc (ci := 9) (k := 8) (by decide) (by decide) zly9 lC1 (zkC lC1) wFX9_56 rfl dX9_serves_19 rfl (by decide) ?_
      refine z_aload_n hc dX9_serves_22 0 rfl rfl ?_
      refine zJ.chk _ (fun h3 => ?_)
      refine z_getR (x := (gR u2 1 1)) hc (ci := 9) (k := 1) (by decide) (by decide) zly9 lC1 (zkC lC1) wFX9_19 rfl dX9_serves_23 rfl (lC_pos h3) ?_
      refine z_aload_n hc dX9_serves_26 0 rfl rfl ?_
      refine z_getR (x := 54) hc (ci := 9) (k := 5) (by decide) (by decide) zly9 lC1 (zkC lC1) wFX9_39 rfl dX9_serves_27 rfl (by decide) ?_
      refine z_bipush (v := 60) hc dX9_serves_30 rfl ?_
      refine z_callV (av := [.ref (gR u2 1 1), .ref 54, .int 60]) (enc' := eV) hc rfl (sOu_foretell (gR u2 1 1) 54 60 _) (ci := 4) (by decide) lC70 (zkC lC70) rfl wMX9_261 hpyX4_foretell hmyX4_foretell (rm_ok hRm (Nat.le_of_ble_eq_true rfl) (Nat.le_of_ble_eq_true rfl)) (Nat.le_of_ble_eq_true rfl) hRm.2.2 dX9_serves_32 (fun c3 u3 f3 => ?_)
      refine z_aload_n hc dX9_serves_35 0 rfl rfl ?_
      refine z_getR (x := 70) hc (ci := 9) (k := 8) (by decide) (by decide) zly9 lC1 (zkC lC1) wFX9_56 rfl dX9_serves_36 rfl (by decide) ?_
      refine z_aload_n hc dX9_serves_39 0 rfl rfl ?_
      refine zJ.chk _ (fun h4 => ?_)
      refine z_getR (x := (gR u3 1 1)) hc (ci := 9) (k := 1) (by decide) (by decide) zly9 lC1 (zkC lC1) wFX9_19 rfl dX9_serves_40 rfl (lC_pos h4) ?_
      refine z_aload_n hc dX9_serves_43 0 rfl rfl ?_
      refine z_getR (x := 54) hc (ci := 9) (k := 5) (by decide) (by decide) zly9 lC1 (zkC lC1) wFX9_39 rfl dX9_serves_44 rfl (by decide) ?_
      refine z_iload_n hc dX9_serves_47 1 rfl rfl ?_
      refine z_iload_n hc dX9_serves_48 2 rfl rfl ?_
      refine z_callV (av := [.ref (gR u3 1 1), .ref 54, .int v1, .int v2]) (enc' := eI) hc rfl (sOu_daysToServe (gR u3 1 1) 54 v1 v2 _) (ci := 4) (by decide) lC70 (zkC lC70) rfl wMX9_291 hpyX4_daysToServe hmyX4_daysToServe (rm_ok hRm (Nat.le_of_ble_eq_true rfl) (Nat.le_of_ble_eq_true rfl)) (Nat.le_of_ble_eq_true rfl) hRm.2.2 dX9_serves_49 (fun c4 u4 f4 => ?_)
      exact z_iret hc dX9_serves_52
    · refine z_iconst (v := (-1)) hc dX9_serves_16 rfl ?_
      exact z_iret hc dX9_serves_17
set_option maxRecDepth 100000 in
set_option maxHeartbeats 4000000 in
theorem sOW_intime_31b {fin : Int32 × zM} (hc : zCx p s mi args meth c (wC D b) m0 RX9 cX9_intime 5 (some .int)) (hRm : R.frames = 5 ∧ R.locals = 145 ∧ R.cells = zc (wC D b) m0 fin.2 ∧ R.slots = zs (wC D b) m0 fin.2) {zr31 : Int32 → Int32 → Int32 → zM → Option (Int32 × zM)} (hr31 : ∀ (v1 : Int32) (v2 : Int32) (v3 : Int32) (u : zM), zJ eI p l e R s mi args below meth c (wC D b) m0 5 fin 31 [(0, .ref 1), (1, .int v1), (2, .int v2), (3, .int v3)] [] u (zr31 v1 v2 v3 u)) (v1 : Int32) (v2 : Int32) (v3 : Int32) (u : zM) : zJ eI p l e R s mi args below meth c (wC D b) m0 5 fin 31 [(0, .ref 1), (1, .int v1), (2, .int v2), (3, .int v3)] [] u (OW_intime_31b zr31 v1 v2 v3 u) := by
  unfold OW_intime_31b
  refine z_iload_n hc dX9_intime_31 3 rfl rfl ?_
  refine z_aload_n hc dX9_intime_32 0 rfl rfl ?_
  refine zJ.chk _ (fun h1 => ?_)
  refine z_getR (x := (gR u 1 1)) hc (ci := 9) (k := 1) (by decide) (by decide) zly9 lC1 (zkC lC1) wFX9_19 rfl dX9_intime_33 rfl (lC_pos h1) ?_
  refine z_getR (x := ((gR u 1 1) + 5)) hc (ci := 0) (k := 2) (by decide) (by decide) zly0 h1 (zkC h1) wFX9_125 rfl dX9_intime_36 (rfC_off (off := 5) h1 rfl (by decide)) (Nat.le_add_left_of_le (by decide)) ?_
  refine z_getI hc (ci := 3) (k := 1) (by decide) (by decide) zly3 (lyC_10_5 h1) (zkC (lyC_10_5 h1)) wFX9_119 rfl dX9_intime_39 ?_
  refine z_icmp_ge (tgt := 104) hc dX9_intime_42 (by decide) _ (fun h2 => ?_) (fun h2 => ?_)
  · refine z_iload_n hc dX9_intime_104 2 rfl rfl ?_
    exact z_iret hc dX9_intime_105
  · refine z_aload_n hc dX9_intime_45 0 rfl rfl ?_
    refine z_getR (x := 70) hc (ci := 9) (k := 8) (by decide) (by decide) zly9 lC1 (zkC lC1) wFX9_56 rfl dX9_intime_46 rfl (by decide) ?_
    refine z_aload_n hc dX9_intime_49 0 rfl rfl ?_
    refine zJ.chk _ (fun h3 => ?_)
    refine z_getR (x := (gR u 1 1)) hc (ci := 9) (k := 1) (by decide) (by decide) zly9 lC1 (zkC lC1) wFX9_19 rfl dX9_intime_50 rfl (lC_pos h3) ?_
    refine z_aload_n hc dX9_intime_53 0 rfl rfl ?_
    refine z_getR (x := 54) hc (ci := 9) (k := 5) (by decide) (by decide) zly9 lC1 (zkC lC1) wFX9_39 rfl dX9_intime_54 rfl (by decide) ?_
    refine z_iload_n hc dX9_intime_57 1 rfl rfl ?_
    refine z_iload_n hc dX9_intime_58 3 rfl rfl ?_
    refine z_callV (av := [.ref (gR u 1 1), .ref 54, .int v1, .int v3]) (enc' := eI) hc rfl (sOu_daysToServe (gR u 1 1) 54 v1 v3 _) (ci := 4) (by decide) lC70 (zkC lC70) rfl wMX9_291 hpyX4_daysToServe hmyX4_daysToServe (rm_ok hRm (Nat.le_of_ble_eq_true rfl) (Nat.le_of_ble_eq_true rfl)) (Nat.le_of_ble_eq_true rfl) hRm.2.2 dX9_intime_59 (fun c1 u1 f1 => ?_)
    refine z_istore (L' := [(4, .int c1), (0, .ref 1), (1, .int v1), (2, .int v2), (3, .int v3)]) hc dX9_intime_62 (by decide) rfl rfl ?_
    refine z_iload hc dX9_intime_64 0 rfl ?_
    refine z_iconst (v := (-1)) hc dX9_intime_66 rfl ?_
    refine z_icmp_eq (tgt := 98) hc dX9_intime_67 (by decide) _ (fun h4 => ?_) (fun h4 => ?_)
    · refine z_iinc (L' := [(3, .int (v3 + 1)), (4, .int c1), (0, .ref 1), (1, .int v1), (2, .int v2)]) hc dX9_intime_98 4 rfl (v := (v3 + 1)) rfl (by decide) rfl rfl ?_
      refine z_goto (tgt := 31) hc dX9_intime_101 (by decide) ?_
      refine zJ.sub (L' := [(0, .ref 1), (1, .int v1), (2, .int v2), (3, .int (v3 + 1))]) [2, 3, 4, 0] rfl ?_
      exact hr31 v1 v2 (v3 + 1) _
    · refine z_aload_n hc dX9_intime_70 1 rfl rfl ?_
      refine z_getR (x := 54) hc (ci := 9) (k := 5) (by decide) (by decide) zly9 lC1 (zkC lC1) wFX9_39 rfl dX9_intime_71 rfl (by decide) ?_
      refine z_getI hc (ci := 7) (k := 5) (by decide) (by decide) zly7 lC54 (zkC lC54) wFX9_181 rfl dX9_intime_74 ?_
      refine z_iload hc dX9_intime_77 0 rfl ?_
      refine z_iadd hc dX9_intime_79 ?_
      refine z_aload_n hc dX9_intime_80 1 rfl rfl ?_
      refine zJ.chk _ (fun h5 => ?_)
      refine z_getR (x := (gR u1 1 1)) hc (ci := 9) (k := 1) (by decide) (by decide) zly9 lC1 (zkC lC1) wFX9_19 rfl dX9_intime_81 rfl (lC_pos h5) ?_
      refine z_getR (x := ((gR u1 1 1) + 16)) hc (ci := 0) (k := 11) (by decide) (by decide) zly0 h5 (zkC h5) wFX9_175 rfl dX9_intime_84 (rfC_off (off := 16) h5 rfl (by decide)) (Nat.le_add_left_of_le (by decide)) ?_
      refine z_iload_n hc dX9_intime_87 2 rfl rfl ?_
      refine zJ.chk _ (fun h6 => ?_)
      refine z_iald (k := (ix v1)) hc (lyC_10_16 h5) (zkC (lyC_10_16 h5)) h6 rfl dX9_intime_88 ?_
      refine z_icmp_gt (tgt := 98) hc dX9_intime_89 (by decide) _ (fun h7 => ?_) (fun h7 => ?_)
      · refine z_iinc (L' := [(3, .int (v3 + 1)), (4, .int c1), (0, .ref 1), (1, .int v1), (2, .int v2)]) hc dX9_intime_98 4 rfl (v := (v3 + 1)) rfl (by decide) rfl rfl ?_
        refine z_goto (tgt := 31) hc dX9_intime_101 (by decide) ?_
        refine zJ.sub (L' := [(0, .ref 1), (1, .int v1), (2, .int v2), (3, .int (v3 + 1))]) [2, 3, 4, 0] rfl ?_
        exact hr31 v1 v2 (v3 + 1) _
      · refine z_iload_n hc dX9_intime_92 3 rfl rfl ?_
        refine z_iconst (v := 1) hc dX9_intime_93 rfl ?_
        refine z_iload_n hc dX9_intime_94 4 rfl rfl ?_
        refine z_ishl hc dX9_intime_95 ?_
        refine z_ior hc dX9_intime_96 ?_
        refine zJ.letI (fun x1 e1 => ?_)
        refine z_istore_n (L' := [(2, .int x1), (4, .int c1), (0, .ref 1), (1, .int v1), (3, .int v3)]) hc dX9_intime_97 rfl (by decide) rfl rfl ?_
        refine z_iinc (L' := [(3, .int (v3 + 1)), (2, .int x1), (4, .int c1), (0, .ref 1), (1, .int v1)]) hc dX9_intime_98 4 rfl (v := (v3 + 1)) rfl (by decide) rfl rfl ?_
        refine z_goto (tgt := 31) hc dX9_intime_101 (by decide) ?_
        refine zJ.sub (L' := [(0, .ref 1), (1, .int v1), (2, .int x1), (3, .int (v3 + 1))]) [3, 4, 1, 0] rfl ?_
        exact hr31 v1 x1 (v3 + 1) _
set_option maxRecDepth 100000 in
set_option maxHeartbeats 4000000 in
theorem sOW_intime_31 {fin : Int32 × zM} (hc : zCx p s mi args meth c (wC D b) m0 RX9 cX9_intime 5 (some .int)) (hRm : R.frames = 5 ∧ R.locals = 145 ∧ R.cells = zc (wC D b) m0 fin.2 ∧ R.slots = zs (wC D b) m0 fin.2) : ∀ (zf : Nat) (v1 : Int32) (v2 : Int32) (v3 : Int32) (u : zM), zJ eI p l e R s mi args below meth c (wC D b) m0 5 fin 31 [(0, .ref 1), (1, .int v1), (2, .int v2), (3, .int v3)] [] u (OW_intime_31 zf v1 v2 v3 u) := by
  intro zf
  induction zf with
  | zero => intro v1 v2 v3 u; exact zJ.nil
  | succ zf ih => intro v1 v2 v3 u; exact sOW_intime_31b hc hRm ih v1 v2 v3 u
set_option maxRecDepth 100000 in
set_option maxHeartbeats 4000000 in
theorem sOW_intime : ∀ (v1 : Int32) (u : zM) r m1, OW_intime v1 u = some (r, m1) → zMet l (wC D b) 5 145 yX9_intime cX9_intime 5 (some .int) [.ref 1, .int v1] u (eI r) m1 := by
  intro v1 u
  refine zMet.of (L := [(0, .ref 1), (1, .int v1)]) RX9 (by decide +kernel) rfl (Nat.le_of_ble_eq_true rfl) (fun h => by cases h) rfl (fun p e s mi args below meth c R fin hc hin hRm => ?_)
  unfold OW_intime
  refine z_aload_n hc dX9_intime_0 0 rfl rfl ?_
  refine z_iload_n hc dX9_intime_1 1 rfl rfl ?_
  refine z_callV (av := [.int v1]) (enc' := eI) hc rfl (sOW_isWrit v1 _) (ci := 9) (by decide) lC1 (zkC lC1) rfl wMX9_169 hpyX9_isWrit hmyX9_isWrit (rm_ok hRm (Nat.le_of_ble_eq_true rfl) (Nat.le_of_ble_eq_true rfl)) (Nat.le_of_ble_eq_true rfl) hRm.2.2 dX9_intime_2 (fun c1 u1 f1 => ?_)
  refine z_if_ne (tgt := 10) hc dX9_intime_5 (by decide) _ (fun h1 => ?_) (fun h1 => ?_)
  · refine z_aload_n hc dX9_intime_10 0 rfl rfl ?_
    refine z_getR (x := 70) hc (ci := 9) (k := 8) (by decide) (by decide) zly9 lC1 (zkC lC1) wFX9_56 rfl dX9_intime_11 rfl (by decide) ?_
    refine z_aload_n hc dX9_intime_14 0 rfl rfl ?_
    refine zJ.chk _ (fun h2 => ?_)
    refine z_getR (x := (gR u1 1 1)) hc (ci := 9) (k := 1) (by decide) (by decide) zly9 lC1 (zkC lC1) wFX9_19 rfl dX9_intime_15 rfl (lC_pos h2) ?_
    refine z_aload_n hc dX9_intime_18 0 rfl rfl ?_
    refine z_getR (x := 54) hc (ci := 9) (k := 5) (by decide) (by decide) zly9 lC1 (zkC lC1) wFX9_39 rfl dX9_intime_19 rfl (by decide) ?_
    refine z_bipush (v := 60) hc dX9_intime_22 rfl ?_
    refine z_callV (av := [.ref (gR u1 1 1), .ref 54, .int 60]) (enc' := eV) hc rfl (sOu_foretell (gR u1 1 1) 54 60 _) (ci := 4) (by decide) lC70 (zkC lC70) rfl wMX9_261 hpyX4_foretell hmyX4_foretell (rm_ok hRm (Nat.le_of_ble_eq_true rfl) (Nat.le_of_ble_eq_true rfl)) (Nat.le_of_ble_eq_true rfl) hRm.2.2 dX9_intime_24 (fun c2 u2 f2 => ?_)
    refine z_iconst (v := 0) hc dX9_intime_27 rfl ?_
    refine z_istore_n (L' := [(2, .int 0), (0, .ref 1), (1, .int v1)]) hc dX9_intime_28 rfl (by decide) rfl rfl ?_
    refine z_iconst (v := 0) hc dX9_intime_29 rfl ?_
    refine z_istore_n (L' := [(3, .int 0), (2, .int 0), (0, .ref 1), (1, .int v1)]) hc dX9_intime_30 rfl (by decide) rfl rfl ?_
    refine zJ.sub (L' := [(0, .ref 1), (1, .int v1), (2, .int 0), (3, .int 0)]) [2, 3, 1, 0] rfl ?_
    exact sOW_intime_31 hc hRm zF v1 0 0 _
  · refine z_iconst (v := (-1)) hc dX9_intime_8 rfl ?_
    exact z_iret hc dX9_intime_9
set_option maxRecDepth 100000 in
set_option maxHeartbeats 4000000 in
theorem sOW_share : ∀ (v1 : Int32) (u : zM) r m1, OW_share v1 u = some (r, m1) → zMet l (wC D b) 5 145 yX9_share cX9_share 2 (some .int) [.ref 1, .int v1] u (eI r) m1 := by
  intro v1 u
  refine zMet.of (L := [(0, .ref 1), (1, .int v1)]) RX9 (by decide +kernel) rfl (Nat.le_of_ble_eq_true rfl) (fun h => by cases h) rfl (fun p e s mi args below meth c R fin hc hin hRm => ?_)
  unfold OW_share
  refine z_iload_n hc dX9_share_0 1 rfl rfl ?_
  refine z_bipush (v := (-2)) hc dX9_share_1 rfl ?_
  refine z_aload_n hc dX9_share_3 0 rfl rfl ?_
  refine zJ.chk _ (fun h1 => ?_)
  refine z_getR (x := (gR u 1 1)) hc (ci := 9) (k := 1) (by decide) (by decide) zly9 lC1 (zkC lC1) wFX9_19 rfl dX9_share_4 rfl (lC_pos h1) ?_
  refine z_getR (x := ((gR u 1 1) + 5)) hc (ci := 0) (k := 2) (by decide) (by decide) zly0 h1 (zkC h1) wFX9_125 rfl dX9_share_7 (rfC_off (off := 5) h1 rfl (by decide)) (Nat.le_add_left_of_le (by decide)) ?_
  refine z_getI hc (ci := 3) (k := 1) (by decide) (by decide) zly3 (lyC_10_5 h1) (zkC (lyC_10_5 h1)) wFX9_119 rfl dX9_share_10 ?_
  refine z_iconst (v := 1) hc dX9_share_13 rfl ?_
  refine z_isub hc dX9_share_14 ?_
  refine z_callS (av := [.int v1, .int (-2), .int ((gI u ((gR u 1 1) + 5) 1) - 1)]) (enc' := eI) hc rfl (sOW_within v1 (-2) ((gI u ((gR u 1 1) + 5) 1) - 1) _) wMX9_229 hpyX9_within hmyX9_within (rm_ok hRm (Nat.le_of_ble_eq_true rfl) (Nat.le_of_ble_eq_true rfl)) (Nat.le_of_ble_eq_true rfl) hRm.2.2 dX9_share_15 (fun c1 u1 f1 => ?_)
  refine z_if_ne (tgt := 24) hc dX9_share_18 (by decide) _ (fun h2 => ?_) (fun h2 => ?_)
  · refine z_aload_n hc dX9_share_24 0 rfl rfl ?_
    refine z_getR (x := 70) hc (ci := 9) (k := 8) (by decide) (by decide) zly9 lC1 (zkC lC1) wFX9_56 rfl dX9_share_25 rfl (by decide) ?_
    refine z_aload_n hc dX9_share_28 0 rfl rfl ?_
    refine zJ.chk _ (fun h3 => ?_)
    refine z_getR (x := (gR u1 1 1)) hc (ci := 9) (k := 1) (by decide) (by decide) zly9 lC1 (zkC lC1) wFX9_19 rfl dX9_share_29 rfl (lC_pos h3) ?_
    refine z_aload_n hc dX9_share_32 0 rfl rfl ?_
    refine z_getR (x := 54) hc (ci := 9) (k := 5) (by decide) (by decide) zly9 lC1 (zkC lC1) wFX9_39 rfl dX9_share_33 rfl (by decide) ?_
    refine z_bipush (v := 60) hc dX9_share_36 rfl ?_
    refine z_callV (av := [.ref (gR u1 1 1), .ref 54, .int 60]) (enc' := eV) hc rfl (sOu_foretell (gR u1 1 1) 54 60 _) (ci := 4) (by decide) lC70 (zkC lC70) rfl wMX9_261 hpyX4_foretell hmyX4_foretell (rm_ok hRm (Nat.le_of_ble_eq_true rfl) (Nat.le_of_ble_eq_true rfl)) (Nat.le_of_ble_eq_true rfl) hRm.2.2 dX9_share_38 (fun c2 u2 f2 => ?_)
    refine z_aload_n hc dX9_share_41 0 rfl rfl ?_
    refine z_getR (x := 70) hc (ci := 9) (k := 8) (by decide) (by decide) zly9 lC1 (zkC lC1) wFX9_56 rfl dX9_share_42 rfl (by decide) ?_
    refine z_aload_n hc dX9_share_45 0 rfl rfl ?_
    refine zJ.chk _ (fun h4 => ?_)
    refine z_getR (x := (gR u2 1 1)) hc (ci := 9) (k := 1) (by decide) (by decide) zly9 lC1 (zkC lC1) wFX9_19 rfl dX9_share_46 rfl (lC_pos h4) ?_
    refine z_aload_n hc dX9_share_49 0 rfl rfl ?_
    refine z_getR (x := 54) hc (ci := 9) (k := 5) (by decide) (by decide) zly9 lC1 (zkC lC1) wFX9_39 rfl dX9_share_50 rfl (by decide) ?_
    refine z_callV (av := [.ref (gR u2 1 1), .ref 54]) (enc' := eV) hc rfl (sOu_allot (gR u2 1 1) 54 _) (ci := 4) (by decide) lC70 (zkC lC70) rfl wMX9_294 hpyX4_allot hmyX4_allot (rm_ok hRm (Nat.le_of_ble_eq_true rfl) (Nat.le_of_ble_eq_true rfl)) (Nat.le_of_ble_eq_true rfl) hRm.2.2 dX9_share_53 (fun c3 u3 f3 => ?_)
    refine z_iload_n hc dX9_share_56 1 rfl rfl ?_
    refine z_iconst (v := (-1)) hc dX9_share_57 rfl ?_
    refine z_icmp_ne (tgt := 69) hc dX9_share_58 (by decide) _ (fun h5 => ?_) (fun h5 => ?_)
    · refine z_iload_n hc dX9_share_69 1 rfl rfl ?_
      refine z_bipush (v := (-2)) hc dX9_share_70 rfl ?_
      refine z_icmp_ne (tgt := 85) hc dX9_share_72 (by decide) _ (fun h6 => ?_) (fun h6 => ?_)
      · refine z_aload_n hc dX9_share_85 0 rfl rfl ?_
        refine z_getR (x := 70) hc (ci := 9) (k := 8) (by decide) (by decide) zly9 lC1 (zkC lC1) wFX9_56 rfl dX9_share_86 rfl (by decide) ?_
        refine z_getR (x := 81) hc (ci := 4) (k := 5) (by decide) (by decide) zly4 lC70 (zkC lC70) wFX9_304 rfl dX9_share_89 rfl (by decide) ?_
        refine z_iload_n hc dX9_share_92 1 rfl rfl ?_
        refine zJ.chk _ (fun h7 => ?_)
        refine z_iald (k := (ix v1)) hc lC81 (zkC lC81) h7 rfl dX9_share_93 ?_
        exact z_iret hc dX9_share_94
      · refine z_aload_n hc dX9_share_75 0 rfl rfl ?_
        refine z_getR (x := 70) hc (ci := 9) (k := 8) (by decide) (by decide) zly9 lC1 (zkC lC1) wFX9_56 rfl dX9_share_76 rfl (by decide) ?_
        refine z_getI hc (ci := 4) (k := 8) (by decide) (by decide) zly4 lC70 (zkC lC70) wFX9_301 rfl dX9_share_79 ?_
        refine z_goto (tgt := 94) hc dX9_share_82 (by decide) ?_
        exact z_iret hc dX9_share_94
    · refine z_aload_n hc dX9_share_61 0 rfl rfl ?_
      refine z_getR (x := 70) hc (ci := 9) (k := 8) (by decide) (by decide) zly9 lC1 (zkC lC1) wFX9_56 rfl dX9_share_62 rfl (by decide) ?_
      refine z_getI hc (ci := 4) (k := 7) (by decide) (by decide) zly4 lC70 (zkC lC70) wFX9_298 rfl dX9_share_65 ?_
      exact z_iret hc dX9_share_68
  · refine z_bipush (v := (-3)) hc dX9_share_21 rfl ?_
    exact z_iret hc dX9_share_23
set_option maxRecDepth 100000 in
set_option maxHeartbeats 4000000 in
theorem sOW_late_4b {fin : Int32 × zM} (hc : zCx p s mi args meth c (wC D b) m0 RX9 cX9_late 3 (some .int)) (hRm : R.frames = 0 ∧ R.locals = 0 ∧ R.cells = zc (wC D b) m0 fin.2 ∧ R.slots = zs (wC D b) m0 fin.2) {zr4 : Int32 → Int32 → zM → Option (Int32 × zM)} (hr4 : ∀ (v1 : Int32) (v2 : Int32) (u : zM), zJ eI p l e R s mi args below meth c (wC D b) m0 3 fin 4 [(0, .ref 1), (1, .int v1), (2, .int v2)] [] u (zr4 v1 v2 u)) (v1 : Int32) (v2 : Int32) (u : zM) : zJ eI p l e R s mi args below meth c (wC D b) m0 3 fin 4 [(0, .ref 1), (1, .int v1), (2, .int v2)] [] u (OW_late_4b zr4 v1 v2 u) := by
  unfold OW_late_4b
  refine z_iload_n hc dX9_late_4 2 rfl rfl ?_
  refine z_aload_n hc dX9_late_5 0 rfl rfl ?_
  refine zJ.chk _ (fun h1 => ?_)
  refine z_getR (x := (gR u 1 1)) hc (ci := 9) (k := 1) (by decide) (by decide) zly9 lC1 (zkC lC1) wFX9_19 rfl dX9_late_6 rfl (lC_pos h1) ?_
  refine z_getR (x := ((gR u 1 1) + 7)) hc (ci := 0) (k := 3) (by decide) (by decide) zly0 h1 (zkC h1) wFX9_128 rfl dX9_late_9 (rfC_off (off := 7) h1 rfl (by decide)) (Nat.le_add_left_of_le (by decide)) ?_
  refine z_getI hc (ci := 3) (k := 1) (by decide) (by decide) zly3 (lyC_10_7 h1) (zkC (lyC_10_7 h1)) wFX9_119 rfl dX9_late_12 ?_
  refine z_icmp_ge (tgt := 62) hc dX9_late_15 (by decide) _ (fun h2 => ?_) (fun h2 => ?_)
  · refine z_iload_n hc dX9_late_62 1 rfl rfl ?_
    exact z_iret hc dX9_late_63
  · refine z_aload_n hc dX9_late_18 0 rfl rfl ?_
    refine z_getR (x := 54) hc (ci := 9) (k := 5) (by decide) (by decide) zly9 lC1 (zkC lC1) wFX9_39 rfl dX9_late_19 rfl (by decide) ?_
    refine z_getR (x := 59) hc (ci := 7) (k := 4) (by decide) (by decide) zly7 lC54 (zkC lC54) wFX9_166 rfl dX9_late_22 rfl (by decide) ?_
    refine z_iload_n hc dX9_late_25 2 rfl rfl ?_
    refine zJ.chk _ (fun h3 => ?_)
    refine z_iald (k := (ix v2)) hc lC59 (zkC lC59) h3 rfl dX9_late_26 ?_
    refine z_iconst (v := 3) hc dX9_late_27 rfl ?_
    refine z_icmp_eq (tgt := 56) hc dX9_late_28 (by decide) _ (fun h4 => ?_) (fun h4 => ?_)
    · refine z_iinc (L' := [(2, .int (v2 + 1)), (0, .ref 1), (1, .int v1)]) hc dX9_late_56 2 rfl (v := (v2 + 1)) rfl (by decide) rfl rfl ?_
      refine z_goto (tgt := 4) hc dX9_late_59 (by decide) ?_
      refine zJ.sub (L' := [(0, .ref 1), (1, .int v1), (2, .int (v2 + 1))]) [1, 2, 0] rfl ?_
      exact hr4 v1 (v2 + 1) _
    · refine z_aload_n hc dX9_late_31 0 rfl rfl ?_
      refine z_getR (x := 54) hc (ci := 9) (k := 5) (by decide) (by decide) zly9 lC1 (zkC lC1) wFX9_39 rfl dX9_late_32 rfl (by decide) ?_
      refine z_getI hc (ci := 7) (k := 5) (by decide) (by decide) zly7 lC54 (zkC lC54) wFX9_181 rfl dX9_late_35 ?_
      refine z_aload_n hc dX9_late_38 0 rfl rfl ?_
      refine zJ.chk _ (fun h5 => ?_)
      refine z_getR (x := (gR u 1 1)) hc (ci := 9) (k := 1) (by decide) (by decide) zly9 lC1 (zkC lC1) wFX9_19 rfl dX9_late_39 rfl (lC_pos h5) ?_
      refine z_getR (x := ((gR u 1 1) + 16)) hc (ci := 0) (k := 11) (by decide) (by decide) zly0 h5 (zkC h5) wFX9_175 rfl dX9_late_42 (rfC_off (off := 16) h5 rfl (by decide)) (Nat.le_add_left_of_le (by decide)) ?_
      refine z_iload_n hc dX9_late_45 2 rfl rfl ?_
      refine zJ.chk _ (fun h6 => ?_)
      refine z_iald (k := (ix v2)) hc (lyC_10_16 h5) (zkC (lyC_10_16 h5)) h6 rfl dX9_late_46 ?_
      refine z_icmp_le (tgt := 56) hc dX9_late_47 (by decide) _ (fun h7 => ?_) (fun h7 => ?_)
      · refine z_iinc (L' := [(2, .int (v2 + 1)), (0, .ref 1), (1, .int v1)]) hc dX9_late_56 2 rfl (v := (v2 + 1)) rfl (by decide) rfl rfl ?_
        refine z_goto (tgt := 4) hc dX9_late_59 (by decide) ?_
        refine zJ.sub (L' := [(0, .ref 1), (1, .int v1), (2, .int (v2 + 1))]) [1, 2, 0] rfl ?_
        exact hr4 v1 (v2 + 1) _
      · refine z_iload_n hc dX9_late_50 1 rfl rfl ?_
        refine z_iconst (v := 1) hc dX9_late_51 rfl ?_
        refine z_iload_n hc dX9_late_52 2 rfl rfl ?_
        refine z_ishl hc dX9_late_53 ?_
        refine z_ior hc dX9_late_54 ?_
        refine zJ.letI (fun x1 e1 => ?_)
        refine z_istore_n (L' := [(1, .int x1), (0, .ref 1), (2, .int v2)]) hc dX9_late_55 rfl (by decide) rfl rfl ?_
        refine z_iinc (L' := [(2, .int (v2 + 1)), (1, .int x1), (0, .ref 1)]) hc dX9_late_56 2 rfl (v := (v2 + 1)) rfl (by decide) rfl rfl ?_
        refine z_goto (tgt := 4) hc dX9_late_59 (by decide) ?_
        refine zJ.sub (L' := [(0, .ref 1), (1, .int x1), (2, .int (v2 + 1))]) [2, 1, 0] rfl ?_
        exact hr4 x1 (v2 + 1) _
set_option maxRecDepth 100000 in
set_option maxHeartbeats 4000000 in
theorem sOW_late_4 {fin : Int32 × zM} (hc : zCx p s mi args meth c (wC D b) m0 RX9 cX9_late 3 (some .int)) (hRm : R.frames = 0 ∧ R.locals = 0 ∧ R.cells = zc (wC D b) m0 fin.2 ∧ R.slots = zs (wC D b) m0 fin.2) : ∀ (zf : Nat) (v1 : Int32) (v2 : Int32) (u : zM), zJ eI p l e R s mi args below meth c (wC D b) m0 3 fin 4 [(0, .ref 1), (1, .int v1), (2, .int v2)] [] u (OW_late_4 zf v1 v2 u) := by
  intro zf
  induction zf with
  | zero => intro v1 v2 u; exact zJ.nil
  | succ zf ih => intro v1 v2 u; exact sOW_late_4b hc hRm ih v1 v2 u
set_option maxRecDepth 100000 in
set_option maxHeartbeats 4000000 in
theorem sOW_late : ∀ (u : zM) r m1, OW_late u = some (r, m1) → zMet l (wC D b) 0 0 yX9_late cX9_late 3 (some .int) [.ref 1] u (eI r) m1 := by
  intro u
  refine zMet.of (L := [(0, .ref 1)]) RX9 (by decide +kernel) rfl (Nat.le_of_ble_eq_true rfl) (fun h => by cases h) rfl (fun p e s mi args below meth c R fin hc hin hRm => ?_)
  unfold OW_late
  refine z_iconst (v := 0) hc dX9_late_0 rfl ?_
  refine z_istore_n (L' := [(1, .int 0), (0, .ref 1)]) hc dX9_late_1 rfl (by decide) rfl rfl ?_
  refine z_iconst (v := 0) hc dX9_late_2 rfl ?_
  refine z_istore_n (L' := [(2, .int 0), (1, .int 0), (0, .ref 1)]) hc dX9_late_3 rfl (by decide) rfl rfl ?_
  refine zJ.sub (L' := [(0, .ref 1), (1, .int 0), (2, .int 0)]) [2, 1, 0] rfl ?_
  exact sOW_late_4 hc hRm zF 0 0 _
set_option maxRecDepth 100000 in
set_option maxHeartbeats 4000000 in
theorem sOW_may : ∀ (v1 : Int32) (u : zM) r m1, OW_may v1 u = some (r, m1) → zMet l (wC D b) 2 46 yX9_may cX9_may 2 (some .boolean) [.ref 1, .int v1] u (eI r) m1 := by
  intro v1 u
  refine zMet.of (L := [(0, .ref 1), (1, .int v1)]) RX9 (by decide +kernel) rfl (Nat.le_of_ble_eq_true rfl) (fun h => by cases h) rfl (fun p e s mi args below meth c R fin hc hin hRm => ?_)
  unfold OW_may
  refine z_aload_n hc dX9_may_0 0 rfl rfl ?_
  refine z_getR (x := 54) hc (ci := 9) (k := 5) (by decide) (by decide) zly9 lC1 (zkC lC1) wFX9_39 rfl dX9_may_1 rfl (by decide) ?_
  refine z_aload_n hc dX9_may_4 0 rfl rfl ?_
  refine zJ.chk _ (fun h1 => ?_)
  refine z_getR (x := (gR u 1 1)) hc (ci := 9) (k := 1) (by decide) (by decide) zly9 lC1 (zkC lC1) wFX9_19 rfl dX9_may_5 rfl (lC_pos h1) ?_
  refine z_iload_n hc dX9_may_8 1 rfl rfl ?_
  refine z_callV (av := [.ref (gR u 1 1), .int v1]) (enc' := eI) hc rfl (sSt_mayServe 54 (gR u 1 1) v1 _) (ci := 7) (by decide) lC54 (zkC lC54) rfl wMX9_209 hpyX7_mayServe hmyX7_mayServe (rm_ok hRm (Nat.le_of_ble_eq_true rfl) (Nat.le_of_ble_eq_true rfl)) (Nat.le_of_ble_eq_true rfl) hRm.2.2 dX9_may_9 (fun c1 u1 f1 => ?_)
  exact z_zretC hc dX9_may_12
set_option maxRecDepth 100000 in
set_option maxHeartbeats 4000000 in
theorem sOW_can_14b {fin : Int32 × zM} (hc : zCx p s mi args meth c (wC D b) m0 RX9 cX9_can 4 (some .int)) (hRm : R.frames = 2 ∧ R.locals = 46 ∧ R.cells = zc (wC D b) m0 fin.2 ∧ R.slots = zs (wC D b) m0 fin.2) {zr14 : Int32 → Int32 → Int32 → zM → Option (Int32 × zM)} (hr14 : ∀ (v1 : Int32) (v2 : Int32) (v3 : Int32) (u : zM), zJ eI p l e R s mi args below meth c (wC D b) m0 4 fin 14 [(0, .ref 1), (1, .int v1), (2, .int v2), (3, .int v3)] [] u (zr14 v1 v2 v3 u)) (v1 : Int32) (v2 : Int32) (v3 : Int32) (u : zM) : zJ eI p l e R s mi args below meth c (wC D b) m0 4 fin 14 [(0, .ref 1), (1, .int v1), (2, .int v2), (3, .int v3)] [] u (OW_can_14b zr14 v1 v2 v3 u) := by
  unfold OW_can_14b
  refine z_iload_n hc dX9_can_14 3 rfl rfl ?_
  refine z_aload_n hc dX9_can_15 0 rfl rfl ?_
  refine zJ.chk _ (fun h1 => ?_)
  refine z_getR (x := (gR u 1 1)) hc (ci := 9) (k := 1) (by decide) (by decide) zly9 lC1 (zkC lC1) wFX9_19 rfl dX9_can_16 rfl (lC_pos h1) ?_
  refine z_getR (x := ((gR u 1 1) + 1)) hc (ci := 0) (k := 0) (by decide) (by decide) zly0 h1 (zkC h1) wFX9_115 rfl dX9_can_19 (rfC_off (off := 1) h1 rfl (by decide)) (Nat.le_add_left_of_le (by decide)) ?_
  refine z_getI hc (ci := 3) (k := 1) (by decide) (by decide) zly3 (lyC_10_1 h1) (zkC (lyC_10_1 h1)) wFX9_119 rfl dX9_can_22 ?_
  refine z_icmp_ge (tgt := 56) hc dX9_can_25 (by decide) _ (fun h2 => ?_) (fun h2 => ?_)
  · refine z_iload_n hc dX9_can_56 2 rfl rfl ?_
    exact z_iret hc dX9_can_57
  · refine z_aload_n hc dX9_can_28 0 rfl rfl ?_
    refine z_getR (x := 54) hc (ci := 9) (k := 5) (by decide) (by decide) zly9 lC1 (zkC lC1) wFX9_39 rfl dX9_can_29 rfl (by decide) ?_
    refine z_aload_n hc dX9_can_32 0 rfl rfl ?_
    refine zJ.chk _ (fun h3 => ?_)
    refine z_getR (x := (gR u 1 1)) hc (ci := 9) (k := 1) (by decide) (by decide) zly9 lC1 (zkC lC1) wFX9_19 rfl dX9_can_33 rfl (lC_pos h3) ?_
    refine z_iload_n hc dX9_can_36 1 rfl rfl ?_
    refine z_iload_n hc dX9_can_37 3 rfl rfl ?_
    refine z_callV (av := [.ref (gR u 1 1), .int v1, .int v3]) (enc' := eI) hc rfl (sSt_maySwim 54 (gR u 1 1) v1 v3 _) (ci := 7) (by decide) lC54 (zkC lC54) rfl wMX9_202 hpyX7_maySwim hmyX7_maySwim (rm_ok hRm (Nat.le_of_ble_eq_true rfl) (Nat.le_of_ble_eq_true rfl)) (Nat.le_of_ble_eq_true rfl) hRm.2.2 dX9_can_38 (fun c1 u1 f1 => ?_)
    refine z_if_eq (tgt := 50) hc dX9_can_41 (by decide) _ (fun h4 => ?_) (fun h4 => ?_)
    · refine z_iinc (L' := [(3, .int (v3 + 1)), (0, .ref 1), (1, .int v1), (2, .int v2)]) hc dX9_can_50 3 rfl (v := (v3 + 1)) rfl (by decide) rfl rfl ?_
      refine z_goto (tgt := 14) hc dX9_can_53 (by decide) ?_
      refine zJ.sub (L' := [(0, .ref 1), (1, .int v1), (2, .int v2), (3, .int (v3 + 1))]) [1, 2, 3, 0] rfl ?_
      exact hr14 v1 v2 (v3 + 1) _
    · refine z_iload_n hc dX9_can_44 2 rfl rfl ?_
      refine z_iconst (v := 1) hc dX9_can_45 rfl ?_
      refine z_iload_n hc dX9_can_46 3 rfl rfl ?_
      refine z_ishl hc dX9_can_47 ?_
      refine z_ior hc dX9_can_48 ?_
      refine zJ.letI (fun x1 e1 => ?_)
      refine z_istore_n (L' := [(2, .int x1), (0, .ref 1), (1, .int v1), (3, .int v3)]) hc dX9_can_49 rfl (by decide) rfl rfl ?_
      refine z_iinc (L' := [(3, .int (v3 + 1)), (2, .int x1), (0, .ref 1), (1, .int v1)]) hc dX9_can_50 3 rfl (v := (v3 + 1)) rfl (by decide) rfl rfl ?_
      refine z_goto (tgt := 14) hc dX9_can_53 (by decide) ?_
      refine zJ.sub (L' := [(0, .ref 1), (1, .int v1), (2, .int x1), (3, .int (v3 + 1))]) [2, 3, 1, 0] rfl ?_
      exact hr14 v1 x1 (v3 + 1) _
set_option maxRecDepth 100000 in
set_option maxHeartbeats 4000000 in
theorem sOW_can_14 {fin : Int32 × zM} (hc : zCx p s mi args meth c (wC D b) m0 RX9 cX9_can 4 (some .int)) (hRm : R.frames = 2 ∧ R.locals = 46 ∧ R.cells = zc (wC D b) m0 fin.2 ∧ R.slots = zs (wC D b) m0 fin.2) : ∀ (zf : Nat) (v1 : Int32) (v2 : Int32) (v3 : Int32) (u : zM), zJ eI p l e R s mi args below meth c (wC D b) m0 4 fin 14 [(0, .ref 1), (1, .int v1), (2, .int v2), (3, .int v3)] [] u (OW_can_14 zf v1 v2 v3 u) := by
  intro zf
  induction zf with
  | zero => intro v1 v2 v3 u; exact zJ.nil
  | succ zf ih => intro v1 v2 v3 u; exact sOW_can_14b hc hRm ih v1 v2 v3 u
set_option maxRecDepth 100000 in
set_option maxHeartbeats 4000000 in
theorem sOW_can : ∀ (v1 : Int32) (u : zM) r m1, OW_can v1 u = some (r, m1) → zMet l (wC D b) 2 46 yX9_can cX9_can 4 (some .int) [.ref 1, .int v1] u (eI r) m1 := by
  intro v1 u
  refine zMet.of (L := [(0, .ref 1), (1, .int v1)]) RX9 (by decide +kernel) rfl (Nat.le_of_ble_eq_true rfl) (fun h => by cases h) rfl (fun p e s mi args below meth c R fin hc hin hRm => ?_)
  unfold OW_can
  refine z_aload_n hc dX9_can_0 0 rfl rfl ?_
  refine z_iload_n hc dX9_can_1 1 rfl rfl ?_
  refine z_callV (av := [.int v1]) (enc' := eI) hc rfl (sOW_isOtter v1 _) (ci := 9) (by decide) lC1 (zkC lC1) rfl wMX9_157 hpyX9_isOtter hmyX9_isOtter (rm_ok hRm (Nat.le_of_ble_eq_true rfl) (Nat.le_of_ble_eq_true rfl)) (Nat.le_of_ble_eq_true rfl) hRm.2.2 dX9_can_2 (fun c1 u1 f1 => ?_)
  refine z_if_ne (tgt := 10) hc dX9_can_5 (by decide) _ (fun h1 => ?_) (fun h1 => ?_)
  · refine z_iconst (v := 0) hc dX9_can_10 rfl ?_
    refine z_istore_n (L' := [(2, .int 0), (0, .ref 1), (1, .int v1)]) hc dX9_can_11 rfl (by decide) rfl rfl ?_
    refine z_iconst (v := 0) hc dX9_can_12 rfl ?_
    refine z_istore_n (L' := [(3, .int 0), (2, .int 0), (0, .ref 1), (1, .int v1)]) hc dX9_can_13 rfl (by decide) rfl rfl ?_
    refine zJ.sub (L' := [(0, .ref 1), (1, .int v1), (2, .int 0), (3, .int 0)]) [2, 3, 1, 0] rfl ?_
    exact sOW_can_14 hc hRm zF v1 0 0 _
  · refine z_iconst (v := (-1)) hc dX9_can_8 rfl ?_
    exact z_iret hc dX9_can_9
set_option maxRecDepth 100000 in
set_option maxHeartbeats 4000000 in
theorem sOW_warm_6b {fin : Int32 × zM} (hc : zCx p s mi args meth c (wC D b) m0 RX9 cX9_warm 5 (some .int)) (hRm : R.frames = 1 ∧ R.locals = 24 ∧ R.cells = zc (wC D b) m0 fin.2 ∧ R.slots = zs (wC D b) m0 fin.2) {zr6 : Int32 → Int32 → Int32 → zM → Option (Int32 × zM)} (hr6 : ∀ (v1 : Int32) (v2 : Int32) (v3 : Int32) (u : zM), zJ eI p l e R s mi args below meth c (wC D b) m0 5 fin 6 [(0, .ref 1), (1, .int v1), (2, .int v2), (3, .int v3)] [] u (zr6 v1 v2 v3 u)) (v1 : Int32) (v2 : Int32) (v3 : Int32) (u : zM) : zJ eI p l e R s mi args below meth c (wC D b) m0 5 fin 6 [(0, .ref 1), (1, .int v1), (2, .int v2), (3, .int v3)] [] u (OW_warm_6b zr6 v1 v2 v3 u) := by
  unfold OW_warm_6b
  refine z_iload_n hc dX9_warm_6 3 rfl rfl ?_
  refine z_aload_n hc dX9_warm_7 0 rfl rfl ?_
  refine zJ.chk _ (fun h1 => ?_)
  refine z_getR (x := (gR u 1 1)) hc (ci := 9) (k := 1) (by decide) (by decide) zly9 lC1 (zkC lC1) wFX9_19 rfl dX9_warm_8 rfl (lC_pos h1) ?_
  refine z_getR (x := ((gR u 1 1) + 1)) hc (ci := 0) (k := 0) (by decide) (by decide) zly0 h1 (zkC h1) wFX9_115 rfl dX9_warm_11 (rfC_off (off := 1) h1 rfl (by decide)) (Nat.le_add_left_of_le (by decide)) ?_
  refine z_getI hc (ci := 3) (k := 1) (by decide) (by decide) zly3 (lyC_10_1 h1) (zkC (lyC_10_1 h1)) wFX9_119 rfl dX9_warm_14 ?_
  refine z_icmp_ge (tgt := 63) hc dX9_warm_17 (by decide) _ (fun h2 => ?_) (fun h2 => ?_)
  · refine z_iload_n hc dX9_warm_63 1 rfl rfl ?_
    exact z_iret hc dX9_warm_64
  · refine z_aload_n hc dX9_warm_20 0 rfl rfl ?_
    refine z_getR (x := 54) hc (ci := 9) (k := 5) (by decide) (by decide) zly9 lC1 (zkC lC1) wFX9_39 rfl dX9_warm_21 rfl (by decide) ?_
    refine z_getR (x := 56) hc (ci := 7) (k := 1) (by decide) (by decide) zly7 lC54 (zkC lC54) wFX9_141 rfl dX9_warm_24 rfl (by decide) ?_
    refine z_aload_n hc dX9_warm_27 0 rfl rfl ?_
    refine zJ.chk _ (fun h3 => ?_)
    refine z_getR (x := (gR u 1 1)) hc (ci := 9) (k := 1) (by decide) (by decide) zly9 lC1 (zkC lC1) wFX9_19 rfl dX9_warm_28 rfl (lC_pos h3) ?_
    refine z_getR (x := ((gR u 1 1) + 3)) hc (ci := 0) (k := 1) (by decide) (by decide) zly0 h3 (zkC h3) wFX9_122 rfl dX9_warm_31 (rfC_off (off := 3) h3 rfl (by decide)) (Nat.le_add_left_of_le (by decide)) ?_
    refine z_getI hc (ci := 3) (k := 1) (by decide) (by decide) zly3 (lyC_10_3 h3) (zkC (lyC_10_3 h3)) wFX9_119 rfl dX9_warm_34 ?_
    refine z_iload_n hc dX9_warm_37 3 rfl rfl ?_
    refine z_callS (av := [.ref 56, .int (gI u ((gR u 1 1) + 3) 1), .int v3]) (enc' := eI) hc rfl (sOW_bitsOf 56 (gI u ((gR u 1 1) + 3) 1) v3 _) wMX9_144 hpyX9_bitsOf hmyX9_bitsOf (rm_ok hRm (Nat.le_of_ble_eq_true rfl) (Nat.le_of_ble_eq_true rfl)) (Nat.le_of_ble_eq_true rfl) hRm.2.2 dX9_warm_38 (fun c1 u1 f1 => ?_)
    refine z_callS (av := [.int c1]) (enc' := eI) hc rfl (sJi_bitCount (w := wC D b) rfl c1 _) wMX9_307 hpyJ6_bitCount_0f7a4 hmyJ6_bitCount_0f7a4 (rm_ok hRm (Nat.le_of_ble_eq_true rfl) (Nat.le_of_ble_eq_true rfl)) (Nat.le_of_ble_eq_true rfl) hRm.2.2 dX9_warm_41 (fun c2 u2 f2 => ?_)
    refine z_istore (L' := [(4, .int c2), (0, .ref 1), (1, .int v1), (2, .int v2), (3, .int v3)]) hc dX9_warm_44 (by decide) rfl rfl ?_
    refine z_iload hc dX9_warm_46 0 rfl ?_
    refine z_iload_n hc dX9_warm_48 3 rfl rfl ?_
    refine z_icmp_le (tgt := 57) hc dX9_warm_49 (by decide) _ (fun h4 => ?_) (fun h4 => ?_)
    · refine z_iinc (L' := [(3, .int (v3 + 1)), (4, .int c2), (0, .ref 1), (1, .int v1), (2, .int v2)]) hc dX9_warm_57 4 rfl (v := (v3 + 1)) rfl (by decide) rfl rfl ?_
      refine z_goto (tgt := 6) hc dX9_warm_60 (by decide) ?_
      refine zJ.sub (L' := [(0, .ref 1), (1, .int v1), (2, .int v2), (3, .int (v3 + 1))]) [2, 3, 4, 0] rfl ?_
      exact hr6 v1 v2 (v3 + 1) _
    · refine z_iload hc dX9_warm_52 0 rfl ?_
      refine z_istore_n (L' := [(2, .int c2), (4, .int c2), (0, .ref 1), (1, .int v1), (3, .int v3)]) hc dX9_warm_54 rfl (by decide) rfl rfl ?_
      refine z_iload_n hc dX9_warm_55 4 rfl rfl ?_
      refine z_istore_n (L' := [(1, .int v3), (2, .int c2), (4, .int c2), (0, .ref 1), (3, .int v3)]) hc dX9_warm_56 rfl (by decide) rfl rfl ?_
      refine z_iinc (L' := [(3, .int (v3 + 1)), (1, .int v3), (2, .int c2), (4, .int c2), (0, .ref 1)]) hc dX9_warm_57 4 rfl (v := (v3 + 1)) rfl (by decide) rfl rfl ?_
      refine z_goto (tgt := 6) hc dX9_warm_60 (by decide) ?_
      refine zJ.sub (L' := [(0, .ref 1), (1, .int v3), (2, .int c2), (3, .int (v3 + 1))]) [4, 1, 2, 0] rfl ?_
      exact hr6 v3 c2 (v3 + 1) _
set_option maxRecDepth 100000 in
set_option maxHeartbeats 4000000 in
theorem sOW_warm_6 {fin : Int32 × zM} (hc : zCx p s mi args meth c (wC D b) m0 RX9 cX9_warm 5 (some .int)) (hRm : R.frames = 1 ∧ R.locals = 24 ∧ R.cells = zc (wC D b) m0 fin.2 ∧ R.slots = zs (wC D b) m0 fin.2) : ∀ (zf : Nat) (v1 : Int32) (v2 : Int32) (v3 : Int32) (u : zM), zJ eI p l e R s mi args below meth c (wC D b) m0 5 fin 6 [(0, .ref 1), (1, .int v1), (2, .int v2), (3, .int v3)] [] u (OW_warm_6 zf v1 v2 v3 u) := by
  intro zf
  induction zf with
  | zero => intro v1 v2 v3 u; exact zJ.nil
  | succ zf ih => intro v1 v2 v3 u; exact sOW_warm_6b hc hRm ih v1 v2 v3 u
set_option maxRecDepth 100000 in
set_option maxHeartbeats 4000000 in
theorem sOW_warm : ∀ (u : zM) r m1, OW_warm u = some (r, m1) → zMet l (wC D b) 1 24 yX9_warm cX9_warm 5 (some .int) [.ref 1] u (eI r) m1 := by
  intro u
  refine zMet.of (L := [(0, .ref 1)]) RX9 (by decide +kernel) rfl (Nat.le_of_ble_eq_true rfl) (fun h => by cases h) rfl (fun p e s mi args below meth c R fin hc hin hRm => ?_)
  unfold OW_warm
  refine z_iconst (v := (-1)) hc dX9_warm_0 rfl ?_
  refine z_istore_n (L' := [(1, .int (-1)), (0, .ref 1)]) hc dX9_warm_1 rfl (by decide) rfl rfl ?_
  refine z_iconst (v := 0) hc dX9_warm_2 rfl ?_
  refine z_istore_n (L' := [(2, .int 0), (1, .int (-1)), (0, .ref 1)]) hc dX9_warm_3 rfl (by decide) rfl rfl ?_
  refine z_iconst (v := 0) hc dX9_warm_4 rfl ?_
  refine z_istore_n (L' := [(3, .int 0), (2, .int 0), (1, .int (-1)), (0, .ref 1)]) hc dX9_warm_5 rfl (by decide) rfl rfl ?_
  refine zJ.sub (L' := [(0, .ref 1), (1, .int (-1)), (2, .int 0), (3, .int 0)]) [3, 2, 1, 0] rfl ?_
  exact sOW_warm_6 hc hRm zF (-1) 0 0 _
set_option maxRecDepth 100000 in
set_option maxHeartbeats 4000000 in
theorem sOW_hunted_39b {fin : Int32 × zM} (hc : zCx p s mi args meth c (wC D b) m0 RX9 cX9_hunted 6 (some .int)) (hRm : R.frames = 1 ∧ R.locals = 24 ∧ R.cells = zc (wC D b) m0 fin.2 ∧ R.slots = zs (wC D b) m0 fin.2) {zr39 : Int32 → Int32 → Int32 → Int32 → zM → Option (Int32 × zM)} (hr39 : ∀ (v1 : Int32) (v2 : Int32) (v3 : Int32) (v4 : Int32) (u : zM), zJ eI p l e R s mi args below meth c (wC D b) m0 6 fin 39 [(0, .ref 1), (1, .int v1), (2, .int v2), (3, .int v3), (4, .int v4)] [] u (zr39 v1 v2 v3 v4 u)) (v1 : Int32) (v2 : Int32) (v3 : Int32) (v4 : Int32) (u : zM) : zJ eI p l e R s mi args below meth c (wC D b) m0 6 fin 39 [(0, .ref 1), (1, .int v1), (2, .int v2), (3, .int v3), (4, .int v4)] [] u (OW_hunted_39b zr39 v1 v2 v3 v4 u) := by
  unfold OW_hunted_39b
  refine z_iload hc dX9_hunted_39 4 rfl ?_
  refine z_aload_n hc dX9_hunted_41 0 rfl rfl ?_
  refine zJ.chk _ (fun h1 => ?_)
  refine z_getR (x := (gR u 1 1)) hc (ci := 9) (k := 1) (by decide) (by decide) zly9 lC1 (zkC lC1) wFX9_19 rfl dX9_hunted_42 rfl (lC_pos h1) ?_
  refine z_getR (x := ((gR u 1 1) + 3)) hc (ci := 0) (k := 1) (by decide) (by decide) zly0 h1 (zkC h1) wFX9_122 rfl dX9_hunted_45 (rfC_off (off := 3) h1 rfl (by decide)) (Nat.le_add_left_of_le (by decide)) ?_
  refine z_getI hc (ci := 3) (k := 1) (by decide) (by decide) zly3 (lyC_10_3 h1) (zkC (lyC_10_3 h1)) wFX9_119 rfl dX9_hunted_48 ?_
  refine z_icmp_ge (tgt := 101) hc dX9_hunted_51 (by decide) _ (fun h2 => ?_) (fun h2 => ?_)
  · refine z_iload_n hc dX9_hunted_101 1 rfl rfl ?_
    exact z_iret hc dX9_hunted_102
  · refine z_iload_n hc dX9_hunted_54 3 rfl rfl ?_
    refine z_aload_n hc dX9_hunted_55 0 rfl rfl ?_
    refine zJ.chk _ (fun h3 => ?_)
    refine z_getR (x := (gR u 1 1)) hc (ci := 9) (k := 1) (by decide) (by decide) zly9 lC1 (zkC lC1) wFX9_19 rfl dX9_hunted_56 rfl (lC_pos h3) ?_
    refine z_getR (x := ((gR u 1 1) + 15)) hc (ci := 0) (k := 10) (by decide) (by decide) zly0 h3 (zkC h3) wFX9_172 rfl dX9_hunted_59 (rfC_off (off := 15) h3 rfl (by decide)) (Nat.le_add_left_of_le (by decide)) ?_
    refine z_aload_n hc dX9_hunted_62 0 rfl rfl ?_
    refine zJ.chk _ (fun h4 => ?_)
    refine z_getR (x := (gR u 1 1)) hc (ci := 9) (k := 1) (by decide) (by decide) zly9 lC1 (zkC lC1) wFX9_19 rfl dX9_hunted_63 rfl (lC_pos h4) ?_
    refine z_getR (x := ((gR u 1 1) + 7)) hc (ci := 0) (k := 3) (by decide) (by decide) zly0 h4 (zkC h4) wFX9_128 rfl dX9_hunted_66 (rfC_off (off := 7) h4 rfl (by decide)) (Nat.le_add_left_of_le (by decide)) ?_
    refine z_getI hc (ci := 3) (k := 1) (by decide) (by decide) zly3 (lyC_10_7 h4) (zkC (lyC_10_7 h4)) wFX9_119 rfl dX9_hunted_69 ?_
    refine z_iload hc dX9_hunted_72 4 rfl ?_
    refine z_callS (av := [.ref ((gR u 1 1) + 15), .int (gI u ((gR u 1 1) + 7) 1), .int v4]) (enc' := eI) hc rfl (sOW_bitsOf ((gR u 1 1) + 15) (gI u ((gR u 1 1) + 7) 1) v4 _) wMX9_144 hpyX9_bitsOf hmyX9_bitsOf (rm_ok hRm (Nat.le_of_ble_eq_true rfl) (Nat.le_of_ble_eq_true rfl)) (Nat.le_of_ble_eq_true rfl) hRm.2.2 dX9_hunted_74 (fun c1 u1 f1 => ?_)
    refine z_iand hc dX9_hunted_77 ?_
    refine z_callS (av := [.int (v3 &&& c1)]) (enc' := eI) hc rfl (sJi_bitCount (w := wC D b) rfl (v3 &&& c1) _) wMX9_307 hpyJ6_bitCount_0f7a4 hmyJ6_bitCount_0f7a4 (rm_ok hRm (Nat.le_of_ble_eq_true rfl) (Nat.le_of_ble_eq_true rfl)) (Nat.le_of_ble_eq_true rfl) hRm.2.2 dX9_hunted_78 (fun c2 u2 f2 => ?_)
    refine z_istore (L' := [(5, .int c2), (0, .ref 1), (1, .int v1), (2, .int v2), (3, .int v3), (4, .int v4)]) hc dX9_hunted_81 (by decide) rfl rfl ?_
    refine z_iload hc dX9_hunted_83 0 rfl ?_
    refine z_iload_n hc dX9_hunted_85 3 rfl rfl ?_
    refine z_icmp_le (tgt := 95) hc dX9_hunted_86 (by decide) _ (fun h5 => ?_) (fun h5 => ?_)
    · refine z_iinc (L' := [(4, .int (v4 + 1)), (5, .int c2), (0, .ref 1), (1, .int v1), (2, .int v2), (3, .int v3)]) hc dX9_hunted_95 5 rfl (v := (v4 + 1)) rfl (by decide) rfl rfl ?_
      refine z_goto (tgt := 39) hc dX9_hunted_98 (by decide) ?_
      refine zJ.sub (L' := [(0, .ref 1), (1, .int v1), (2, .int v2), (3, .int v3), (4, .int (v4 + 1))]) [2, 3, 4, 5, 0] rfl ?_
      exact hr39 v1 v2 v3 (v4 + 1) _
    · refine z_iload hc dX9_hunted_89 0 rfl ?_
      refine z_istore_n (L' := [(2, .int c2), (5, .int c2), (0, .ref 1), (1, .int v1), (3, .int v3), (4, .int v4)]) hc dX9_hunted_91 rfl (by decide) rfl rfl ?_
      refine z_iload hc dX9_hunted_92 5 rfl ?_
      refine z_istore_n (L' := [(1, .int v4), (2, .int c2), (5, .int c2), (0, .ref 1), (3, .int v3), (4, .int v4)]) hc dX9_hunted_94 rfl (by decide) rfl rfl ?_
      refine z_iinc (L' := [(4, .int (v4 + 1)), (1, .int v4), (2, .int c2), (5, .int c2), (0, .ref 1), (3, .int v3)]) hc dX9_hunted_95 5 rfl (v := (v4 + 1)) rfl (by decide) rfl rfl ?_
      refine z_goto (tgt := 39) hc dX9_hunted_98 (by decide) ?_
      refine zJ.sub (L' := [(0, .ref 1), (1, .int v4), (2, .int c2), (3, .int v3), (4, .int (v4 + 1))]) [4, 1, 2, 5, 0] rfl ?_
      exact hr39 v4 c2 v3 (v4 + 1) _
set_option maxRecDepth 100000 in
set_option maxHeartbeats 4000000 in
theorem sOW_hunted_39 {fin : Int32 × zM} (hc : zCx p s mi args meth c (wC D b) m0 RX9 cX9_hunted 6 (some .int)) (hRm : R.frames = 1 ∧ R.locals = 24 ∧ R.cells = zc (wC D b) m0 fin.2 ∧ R.slots = zs (wC D b) m0 fin.2) : ∀ (zf : Nat) (v1 : Int32) (v2 : Int32) (v3 : Int32) (v4 : Int32) (u : zM), zJ eI p l e R s mi args below meth c (wC D b) m0 6 fin 39 [(0, .ref 1), (1, .int v1), (2, .int v2), (3, .int v3), (4, .int v4)] [] u (OW_hunted_39 zf v1 v2 v3 v4 u) := by
  intro zf
  induction zf with
  | zero => intro v1 v2 v3 v4 u; exact zJ.nil
  | succ zf ih => intro v1 v2 v3 v4 u; exact sOW_hunted_39b hc hRm ih v1 v2 v3 v4 u
set_option maxRecDepth 100000 in
set_option maxHeartbeats 4000000 in
theorem sOW_hunted : ∀ (u : zM) r m1, OW_hunted u = some (r, m1) → zMet l (wC D b) 1 24 yX9_hunted cX9_hunted 6 (some .int) [.ref 1] u (eI r) m1 := by
  intro u
  refine zMet.of (L := [(0, .ref 1)]) RX9 (by decide +kernel) rfl (Nat.le_of_ble_eq_true rfl) (fun h => by cases h) rfl (fun p e s mi args below meth c R fin hc hin hRm => ?_)
  unfold OW_hunted
  refine z_iconst (v := (-1)) hc dX9_hunted_0 rfl ?_
  refine z_istore_n (L' := [(1, .int (-1)), (0, .ref 1)]) hc dX9_hunted_1 rfl (by decide) rfl rfl ?_
  refine z_iconst (v := 0) hc dX9_hunted_2 rfl ?_
  refine z_istore_n (L' := [(2, .int 0), (1, .int (-1)), (0, .ref 1)]) hc dX9_hunted_3 rfl (by decide) rfl rfl ?_
  refine z_aload_n hc dX9_hunted_4 2 rfl rfl ?_
  refine zJ.chk _ (fun h1 => ?_)
  refine z_getR (x := (gR u 1 1)) hc (ci := 9) (k := 1) (by decide) (by decide) zly9 lC1 (zkC lC1) wFX9_19 rfl dX9_hunted_5 rfl (lC_pos h1) ?_
  refine z_callV (av := []) (enc' := eI) hc rfl (sCo_allWrits (gR u 1 1) _) (ci := 0) (by decide) h1 (zkC h1) rfl wMX9_312 hpyX0_allWrits hmyX0_allWrits (rm_ok hRm (Nat.le_of_ble_eq_true rfl) (Nat.le_of_ble_eq_true rfl)) (Nat.le_of_ble_eq_true rfl) hRm.2.2 dX9_hunted_8 (fun c1 u1 f1 => ?_)
  refine z_aload_n hc dX9_hunted_11 2 rfl rfl ?_
  refine z_getR (x := 54) hc (ci := 9) (k := 5) (by decide) (by decide) zly9 lC1 (zkC lC1) wFX9_39 rfl dX9_hunted_12 rfl (by decide) ?_
  refine z_getR (x := 59) hc (ci := 7) (k := 4) (by decide) (by decide) zly7 lC54 (zkC lC54) wFX9_166 rfl dX9_hunted_15 rfl (by decide) ?_
  refine z_aload_n hc dX9_hunted_18 2 rfl rfl ?_
  refine zJ.chk _ (fun h2 => ?_)
  refine z_getR (x := (gR u1 1 1)) hc (ci := 9) (k := 1) (by decide) (by decide) zly9 lC1 (zkC lC1) wFX9_19 rfl dX9_hunted_19 rfl (lC_pos h2) ?_
  refine z_getR (x := ((gR u1 1 1) + 7)) hc (ci := 0) (k := 3) (by decide) (by decide) zly0 h2 (zkC h2) wFX9_128 rfl dX9_hunted_22 (rfC_off (off := 7) h2 rfl (by decide)) (Nat.le_add_left_of_le (by decide)) ?_
  refine z_getI hc (ci := 3) (k := 1) (by decide) (by decide) zly3 (lyC_10_7 h2) (zkC (lyC_10_7 h2)) wFX9_119 rfl dX9_hunted_25 ?_
  refine z_iconst (v := 3) hc dX9_hunted_28 rfl ?_
  refine z_callS (av := [.ref 59, .int (gI u1 ((gR u1 1 1) + 7) 1), .int 3]) (enc' := eI) hc rfl (sOW_bitsOf 59 (gI u1 ((gR u1 1 1) + 7) 1) 3 _) wMX9_144 hpyX9_bitsOf hmyX9_bitsOf (rm_ok hRm (Nat.le_of_ble_eq_true rfl) (Nat.le_of_ble_eq_true rfl)) (Nat.le_of_ble_eq_true rfl) hRm.2.2 dX9_hunted_29 (fun c2 u2 f2 => ?_)
  refine z_iconst (v := (-1)) hc dX9_hunted_32 rfl ?_
  refine z_ixor hc dX9_hunted_33 ?_
  refine z_iand hc dX9_hunted_34 ?_
  refine zJ.letI (fun x1 e1 => ?_)
  refine z_istore_n (L' := [(3, .int x1), (2, .int 0), (1, .int (-1)), (0, .ref 1)]) hc dX9_hunted_35 rfl (by decide) rfl rfl ?_
  refine z_iconst (v := 0) hc dX9_hunted_36 rfl ?_
  refine z_istore (L' := [(4, .int 0), (3, .int x1), (2, .int 0), (1, .int (-1)), (0, .ref 1)]) hc dX9_hunted_37 (by decide) rfl rfl ?_
  refine zJ.sub (L' := [(0, .ref 1), (1, .int (-1)), (2, .int 0), (3, .int x1), (4, .int 0)]) [4, 3, 2, 1, 0] rfl ?_
  exact sOW_hunted_39 hc hRm zF (-1) 0 x1 0 _
set_option maxRecDepth 100000 in
set_option maxHeartbeats 4000000 in
theorem sOW_reach : ∀ (v1 : Int32) (u : zM) r m1, OW_reach v1 u = some (r, m1) → zMet l (wC D b) 2 48 yX9_reach cX9_reach 2 (some .int) [.ref 1, .int v1] u (eI r) m1 := by
  intro v1 u
  refine zMet.of (L := [(0, .ref 1), (1, .int v1)]) RX9 (by decide +kernel) rfl (Nat.le_of_ble_eq_true rfl) (fun h => by cases h) rfl (fun p e s mi args below meth c R fin hc hin hRm => ?_)
  unfold OW_reach
  refine z_aload_n hc dX9_reach_0 0 rfl rfl ?_
  refine z_iload_n hc dX9_reach_1 1 rfl rfl ?_
  refine z_callV (av := [.int v1]) (enc' := eI) hc rfl (sOW_isPlace v1 _) (ci := 9) (by decide) lC1 (zkC lC1) rfl wMX9_131 hpyX9_isPlace hmyX9_isPlace (rm_ok hRm (Nat.le_of_ble_eq_true rfl) (Nat.le_of_ble_eq_true rfl)) (Nat.le_of_ble_eq_true rfl) hRm.2.2 dX9_reach_2 (fun c1 u1 f1 => ?_)
  refine z_if_eq (tgt := 28) hc dX9_reach_5 (by decide) _ (fun h1 => ?_) (fun h1 => ?_)
  · refine z_iconst (v := (-1)) hc dX9_reach_28 rfl ?_
    exact z_iret hc dX9_reach_29
  · refine z_aload_n hc dX9_reach_8 0 rfl rfl ?_
    refine zJ.chk _ (fun h2 => ?_)
    refine z_getR (x := (gR u1 1 1)) hc (ci := 9) (k := 1) (by decide) (by decide) zly9 lC1 (zkC lC1) wFX9_19 rfl dX9_reach_9 rfl (lC_pos h2) ?_
    refine z_iconst (v := 1) hc dX9_reach_12 rfl ?_
    refine z_iload_n hc dX9_reach_13 1 rfl rfl ?_
    refine z_ishl hc dX9_reach_14 ?_
    refine z_aload_n hc dX9_reach_15 0 rfl rfl ?_
    refine zJ.chk _ (fun h3 => ?_)
    refine z_getR (x := (gR u1 1 1)) hc (ci := 9) (k := 1) (by decide) (by decide) zly9 lC1 (zkC lC1) wFX9_19 rfl dX9_reach_16 rfl (lC_pos h3) ?_
    refine z_callV (av := []) (enc' := eI) hc rfl (sCo_allPlaces (gR u1 1 1) _) (ci := 0) (by decide) h3 (zkC h3) rfl wMX9_274 hpyX0_allPlaces hmyX0_allPlaces (rm_ok hRm (Nat.le_of_ble_eq_true rfl) (Nat.le_of_ble_eq_true rfl)) (Nat.le_of_ble_eq_true rfl) hRm.2.2 dX9_reach_19 (fun c2 u2 f2 => ?_)
    refine z_callV (av := [.int (1 <<< (v1 &&& 31)), .int c2]) (enc' := eI) hc rfl (sCo_spreadAll (gR u1 1 1) (1 <<< (v1 &&& 31)) c2 _) (ci := 0) (by decide) h2 (zkC h2) rfl wMX9_315 hpyX0_spreadAll hmyX0_spreadAll (rm_ok hRm (Nat.le_of_ble_eq_true rfl) (Nat.le_of_ble_eq_true rfl)) (Nat.le_of_ble_eq_true rfl) hRm.2.2 dX9_reach_22 (fun c3 u3 f3 => ?_)
    refine z_goto (tgt := 29) hc dX9_reach_25 (by decide) ?_
    exact z_iret hc dX9_reach_29
set_option maxRecDepth 100000 in
set_option maxHeartbeats 4000000 in
theorem sOW_poolOf : ∀ (v1 : Int32) (v2 : Int32) (u : zM) r m1, OW_poolOf v1 v2 u = some (r, m1) → zMet l (wC D b) 2 48 yX9_poolOf cX9_poolOf 4 (some .int) [.ref 1, .int v1, .int v2] u (eI r) m1 := by
  intro v1 v2 u
  refine zMet.of (L := [(0, .ref 1), (1, .int v1), (2, .int v2)]) RX9 (by decide +kernel) rfl (Nat.le_of_ble_eq_true rfl) (fun h => by cases h) rfl (fun p e s mi args below meth c R fin hc hin hRm => ?_)
  unfold OW_poolOf
  refine z_iload_n hc dX9_poolOf_0 2 rfl rfl ?_
  refine z_iconst (v := 1) hc dX9_poolOf_1 rfl ?_
  refine z_iload_n hc dX9_poolOf_2 1 rfl rfl ?_
  refine z_ishl hc dX9_poolOf_3 ?_
  refine z_iand hc dX9_poolOf_4 ?_
  refine zJ.letI (fun x1 e1 => ?_)
  refine z_istore_n (L' := [(3, .int x1), (0, .ref 1), (1, .int v1), (2, .int v2)]) hc dX9_poolOf_5 rfl (by decide) rfl rfl ?_
  refine z_iload_n hc dX9_poolOf_6 0 rfl rfl ?_
  refine z_if_ne (tgt := 14) hc dX9_poolOf_7 (by decide) _ (fun h1 => ?_) (fun h1 => ?_)
  · refine z_aload_n hc dX9_poolOf_14 1 rfl rfl ?_
    refine zJ.chk _ (fun h2 => ?_)
    refine z_getR (x := (gR u 1 1)) hc (ci := 9) (k := 1) (by decide) (by decide) zly9 lC1 (zkC lC1) wFX9_19 rfl dX9_poolOf_15 rfl (lC_pos h2) ?_
    refine z_iload_n hc dX9_poolOf_18 0 rfl rfl ?_
    refine z_iload_n hc dX9_poolOf_19 3 rfl rfl ?_
    refine z_callV (av := [.int x1, .int v2]) (enc' := eI) hc rfl (sCo_spreadAll (gR u 1 1) x1 v2 _) (ci := 0) (by decide) h2 (zkC h2) rfl wMX9_315 hpyX0_spreadAll hmyX0_spreadAll (rm_ok hRm (Nat.le_of_ble_eq_true rfl) (Nat.le_of_ble_eq_true rfl)) (Nat.le_of_ble_eq_true rfl) hRm.2.2 dX9_poolOf_20 (fun c1 u1 f1 => ?_)
    exact z_iret hc dX9_poolOf_23
  · refine z_iconst (v := 0) hc dX9_poolOf_10 rfl ?_
    refine z_goto (tgt := 23) hc dX9_poolOf_11 (by decide) ?_
    exact z_iret hc dX9_poolOf_23
set_option maxRecDepth 100000 in
set_option maxHeartbeats 4000000 in
theorem sOW_pool : ∀ (v1 : Int32) (u : zM) r m1, OW_pool v1 u = some (r, m1) → zMet l (wC D b) 3 71 yX9_pool cX9_pool 2 (some .int) [.ref 1, .int v1] u (eI r) m1 := by
  intro v1 u
  refine zMet.of (L := [(0, .ref 1), (1, .int v1)]) RX9 (by decide +kernel) rfl (Nat.le_of_ble_eq_true rfl) (fun h => by cases h) rfl (fun p e s mi args below meth c R fin hc hin hRm => ?_)
  unfold OW_pool
  refine z_aload_n hc dX9_pool_0 0 rfl rfl ?_
  refine z_iload_n hc dX9_pool_1 1 rfl rfl ?_
  refine z_callV (av := [.int v1]) (enc' := eI) hc rfl (sOW_isPlace v1 _) (ci := 9) (by decide) lC1 (zkC lC1) rfl wMX9_131 hpyX9_isPlace hmyX9_isPlace (rm_ok hRm (Nat.le_of_ble_eq_true rfl) (Nat.le_of_ble_eq_true rfl)) (Nat.le_of_ble_eq_true rfl) hRm.2.2 dX9_pool_2 (fun c1 u1 f1 => ?_)
  refine z_if_eq (tgt := 27) hc dX9_pool_5 (by decide) _ (fun h1 => ?_) (fun h1 => ?_)
  · refine z_iconst (v := (-1)) hc dX9_pool_27 rfl ?_
    exact z_iret hc dX9_pool_28
  · refine z_aload_n hc dX9_pool_8 0 rfl rfl ?_
    refine z_iload_n hc dX9_pool_9 1 rfl rfl ?_
    refine z_aload_n hc dX9_pool_10 0 rfl rfl ?_
    refine z_getR (x := 54) hc (ci := 9) (k := 5) (by decide) (by decide) zly9 lC1 (zkC lC1) wFX9_39 rfl dX9_pool_11 rfl (by decide) ?_
    refine z_aload_n hc dX9_pool_14 0 rfl rfl ?_
    refine zJ.chk _ (fun h2 => ?_)
    refine z_getR (x := (gR u1 1 1)) hc (ci := 9) (k := 1) (by decide) (by decide) zly9 lC1 (zkC lC1) wFX9_19 rfl dX9_pool_15 rfl (lC_pos h2) ?_
    refine z_callV (av := [.ref (gR u1 1 1)]) (enc' := eI) hc rfl (sSt_wetBits 54 (gR u1 1 1) _) (ci := 7) (by decide) lC54 (zkC lC54) rfl wMX9_188 hpyX7_wetBits hmyX7_wetBits (rm_ok hRm (Nat.le_of_ble_eq_true rfl) (Nat.le_of_ble_eq_true rfl)) (Nat.le_of_ble_eq_true rfl) hRm.2.2 dX9_pool_18 (fun c2 u2 f2 => ?_)
    refine z_callV (av := [.int v1, .int c2]) (enc' := eI) hc rfl (sOW_poolOf v1 c2 _) (ci := 9) (by decide) lC1 (zkC lC1) rfl wMX9_318 hpyX9_poolOf hmyX9_poolOf (rm_ok hRm (Nat.le_of_ble_eq_true rfl) (Nat.le_of_ble_eq_true rfl)) (Nat.le_of_ble_eq_true rfl) hRm.2.2 dX9_pool_21 (fun c3 u3 f3 => ?_)
    refine z_goto (tgt := 28) hc dX9_pool_24 (by decide) ?_
    exact z_iret hc dX9_pool_28
set_option maxRecDepth 100000 in
set_option maxHeartbeats 4000000 in
theorem sOW_far_25b {fin : Int32 × zM} (hc : zCx p s mi args meth c (wC D b) m0 RX9 cX9_far 5 (some .int)) (hRm : R.frames = 1 ∧ R.locals = 24 ∧ R.cells = zc (wC D b) m0 fin.2 ∧ R.slots = zs (wC D b) m0 fin.2) {zr25 : Int32 → Int32 → Int32 → zM → Option (Int32 × zM)} (hr25 : ∀ (v2 : Int32) (v3 : Int32) (v4 : Int32) (u : zM), zJ eI p l e R s mi args below meth c (wC D b) m0 5 fin 25 [(0, .ref 1), (2, .int v2), (3, .int v3), (4, .int v4)] [] u (zr25 v2 v3 v4 u)) (v2 : Int32) (v3 : Int32) (v4 : Int32) (u : zM) : zJ eI p l e R s mi args below meth c (wC D b) m0 5 fin 25 [(0, .ref 1), (2, .int v2), (3, .int v3), (4, .int v4)] [] u (OW_far_25b zr25 v2 v3 v4 u) := by
  unfold OW_far_25b
  refine z_iload hc dX9_far_25 3 rfl ?_
  refine z_bipush (v := 7) hc dX9_far_27 rfl ?_
  refine z_icmp_ge (tgt := 65) hc dX9_far_29 (by decide) _ (fun h1 => ?_) (fun h1 => ?_)
  · refine z_iconst (v := (-1)) hc dX9_far_65 rfl ?_
    exact z_iret hc dX9_far_66
  · refine z_iload_n hc dX9_far_32 2 rfl rfl ?_
    refine z_iload_n hc dX9_far_33 1 rfl rfl ?_
    refine z_ishr hc dX9_far_34 ?_
    refine z_iconst (v := 1) hc dX9_far_35 rfl ?_
    refine z_iand hc dX9_far_36 ?_
    refine z_if_eq (tgt := 43) hc dX9_far_37 (by decide) _ (fun h2 => ?_) (fun h2 => ?_)
    · refine z_aload_n hc dX9_far_43 0 rfl rfl ?_
      refine zJ.chk _ (fun h3 => ?_)
      refine z_getR (x := (gR u 1 1)) hc (ci := 9) (k := 1) (by decide) (by decide) zly9 lC1 (zkC lC1) wFX9_19 rfl dX9_far_44 rfl (lC_pos h3) ?_
      refine z_iload_n hc dX9_far_47 2 rfl rfl ?_
      refine z_aload_n hc dX9_far_48 0 rfl rfl ?_
      refine zJ.chk _ (fun h4 => ?_)
      refine z_getR (x := (gR u 1 1)) hc (ci := 9) (k := 1) (by decide) (by decide) zly9 lC1 (zkC lC1) wFX9_19 rfl dX9_far_49 rfl (lC_pos h4) ?_
      refine z_callV (av := []) (enc' := eI) hc rfl (sCo_allPlaces (gR u 1 1) _) (ci := 0) (by decide) h4 (zkC h4) rfl wMX9_274 hpyX0_allPlaces hmyX0_allPlaces (rm_ok hRm (Nat.le_of_ble_eq_true rfl) (Nat.le_of_ble_eq_true rfl)) (Nat.le_of_ble_eq_true rfl) hRm.2.2 dX9_far_52 (fun c1 u1 f1 => ?_)
      refine z_callV (av := [.int v3, .int c1]) (enc' := eI) hc rfl (sCo_spread (gR u 1 1) v3 c1 _) (ci := 0) (by decide) h3 (zkC h3) rfl wMX9_321 hpyX0_spread hmyX0_spread (rm_ok hRm (Nat.le_of_ble_eq_true rfl) (Nat.le_of_ble_eq_true rfl)) (Nat.le_of_ble_eq_true rfl) hRm.2.2 dX9_far_55 (fun c2 u2 f2 => ?_)
      refine z_istore_n (L' := [(3, .int c2), (0, .ref 1), (2, .int v2), (4, .int v4)]) hc dX9_far_58 rfl (by decide) rfl rfl ?_
      refine z_iinc (L' := [(4, .int (v4 + 1)), (3, .int c2), (0, .ref 1), (2, .int v2)]) hc dX9_far_59 3 rfl (v := (v4 + 1)) rfl (by decide) rfl rfl ?_
      refine z_goto (tgt := 25) hc dX9_far_62 (by decide) ?_
      refine zJ.sub (L' := [(0, .ref 1), (2, .int v2), (3, .int c2), (4, .int (v4 + 1))]) [2, 3, 1, 0] rfl ?_
      exact hr25 v2 c2 (v4 + 1) _
    · refine z_iload hc dX9_far_40 3 rfl ?_
      exact z_iret hc dX9_far_42
set_option maxRecDepth 100000 in
set_option maxHeartbeats 4000000 in
theorem sOW_far_25 {fin : Int32 × zM} (hc : zCx p s mi args meth c (wC D b) m0 RX9 cX9_far 5 (some .int)) (hRm : R.frames = 1 ∧ R.locals = 24 ∧ R.cells = zc (wC D b) m0 fin.2 ∧ R.slots = zs (wC D b) m0 fin.2) : ∀ (zf : Nat) (v2 : Int32) (v3 : Int32) (v4 : Int32) (u : zM), zJ eI p l e R s mi args below meth c (wC D b) m0 5 fin 25 [(0, .ref 1), (2, .int v2), (3, .int v3), (4, .int v4)] [] u (OW_far_25 zf v2 v3 v4 u) := by
  intro zf
  induction zf with
  | zero => intro v2 v3 v4 u; exact zJ.nil
  | succ zf ih => intro v2 v3 v4 u; exact sOW_far_25b hc hRm ih v2 v3 v4 u
set_option maxRecDepth 100000 in
set_option maxHeartbeats 4000000 in
theorem sOW_far : ∀ (v1 : Int32) (v2 : Int32) (u : zM) r m1, OW_far v1 v2 u = some (r, m1) → zMet l (wC D b) 1 24 yX9_far cX9_far 5 (some .int) [.ref 1, .int v1, .int v2] u (eI r) m1 := by
  intro v1 v2 u
  refine zMet.of (L := [(0, .ref 1), (1, .int v1), (2, .int v2)]) RX9 (by decide +kernel) rfl (Nat.le_of_ble_eq_true rfl) (fun h => by cases h) rfl (fun p e s mi args below meth c R fin hc hin hRm => ?_)
  unfold OW_far
  refine z_aload_n hc dX9_far_0 0 rfl rfl ?_
  refine z_iload_n hc dX9_far_1 1 rfl rfl ?_
  refine z_callV (av := [.int v1]) (enc' := eI) hc rfl (sOW_isPlace v1 _) (ci := 9) (by decide) lC1 (zkC lC1) rfl wMX9_131 hpyX9_isPlace hmyX9_isPlace (rm_ok hRm (Nat.le_of_ble_eq_true rfl) (Nat.le_of_ble_eq_true rfl)) (Nat.le_of_ble_eq_true rfl) hRm.2.2 dX9_far_2 (fun c1 u1 f1 => ?_)
  refine z_if_eq (tgt := 16) hc dX9_far_5 (by decide) _ (fun h1 => ?_) (fun h1 => ?_)
  · refine z_iconst (v := (-1)) hc dX9_far_16 rfl ?_
    exact z_iret hc dX9_far_17
  · refine z_aload_n hc dX9_far_8 0 rfl rfl ?_
    refine z_iload_n hc dX9_far_9 2 rfl rfl ?_
    refine z_callV (av := [.int v2]) (enc' := eI) hc rfl (sOW_isPlace v2 _) (ci := 9) (by decide) lC1 (zkC lC1) rfl wMX9_131 hpyX9_isPlace hmyX9_isPlace (rm_ok hRm (Nat.le_of_ble_eq_true rfl) (Nat.le_of_ble_eq_true rfl)) (Nat.le_of_ble_eq_true rfl) hRm.2.2 dX9_far_10 (fun c2 u2 f2 => ?_)
    refine z_if_ne (tgt := 18) hc dX9_far_13 (by decide) _ (fun h2 => ?_) (fun h2 => ?_)
    · refine z_iconst (v := 1) hc dX9_far_18 rfl ?_
      refine z_iload_n hc dX9_far_19 1 rfl rfl ?_
      refine z_ishl hc dX9_far_20 ?_
      refine zJ.letI (fun x1 e1 => ?_)
      refine z_istore_n (L' := [(3, .int x1), (0, .ref 1), (1, .int v1), (2, .int v2)]) hc dX9_far_21 rfl (by decide) rfl rfl ?_
      refine z_iconst (v := 0) hc dX9_far_22 rfl ?_
      refine z_istore (L' := [(4, .int 0), (3, .int x1), (0, .ref 1), (1, .int v1), (2, .int v2)]) hc dX9_far_23 (by decide) rfl rfl ?_
      refine zJ.sub (L' := [(0, .ref 1), (2, .int v2), (3, .int x1), (4, .int 0)]) [2, 4, 1, 0] rfl ?_
      exact sOW_far_25 hc hRm zF v2 x1 0 _
    · refine z_iconst (v := (-1)) hc dX9_far_16 rfl ?_
      exact z_iret hc dX9_far_17
set_option maxRecDepth 100000 in
set_option maxHeartbeats 4000000 in
theorem sOW_pools_19b {fin : Int32 × zM} (hc : zCx p s mi args meth c (wC D b) m0 RX9 cX9_pools 5 (some .int)) (hRm : R.frames = 3 ∧ R.locals = 71 ∧ R.cells = zc (wC D b) m0 fin.2 ∧ R.slots = zs (wC D b) m0 fin.2) {zr19 : Int32 → Int32 → Int32 → Int32 → zM → Option (Int32 × zM)} (hr19 : ∀ (v1 : Int32) (v2 : Int32) (v3 : Int32) (v4 : Int32) (u : zM), zJ eI p l e R s mi args below meth c (wC D b) m0 5 fin 19 [(0, .ref 1), (1, .int v1), (2, .int v2), (3, .int v3), (4, .int v4)] [] u (zr19 v1 v2 v3 v4 u)) (v1 : Int32) (v2 : Int32) (v3 : Int32) (v4 : Int32) (u : zM) : zJ eI p l e R s mi args below meth c (wC D b) m0 5 fin 19 [(0, .ref 1), (1, .int v1), (2, .int v2), (3, .int v3), (4, .int v4)] [] u (OW_pools_19b zr19 v1 v2 v3 v4 u) := by
  unfold OW_pools_19b
  refine z_iload hc dX9_pools_19 4 rfl ?_
  refine z_aload_n hc dX9_pools_21 0 rfl rfl ?_
  refine zJ.chk _ (fun h1 => ?_)
  refine z_getR (x := (gR u 1 1)) hc (ci := 9) (k := 1) (by decide) (by decide) zly9 lC1 (zkC lC1) wFX9_19 rfl dX9_pools_22 rfl (lC_pos h1) ?_
  refine z_getR (x := ((gR u 1 1) + 1)) hc (ci := 0) (k := 0) (by decide) (by decide) zly0 h1 (zkC h1) wFX9_115 rfl dX9_pools_25 (rfC_off (off := 1) h1 rfl (by decide)) (Nat.le_add_left_of_le (by decide)) ?_
  refine z_getI hc (ci := 3) (k := 1) (by decide) (by decide) zly3 (lyC_10_1 h1) (zkC (lyC_10_1 h1)) wFX9_119 rfl dX9_pools_28 ?_
  refine z_icmp_ge (tgt := 66) hc dX9_pools_31 (by decide) _ (fun h2 => ?_) (fun h2 => ?_)
  · refine z_iload_n hc dX9_pools_66 3 rfl rfl ?_
    exact z_iret hc dX9_pools_67
  · refine z_iload_n hc dX9_pools_34 1 rfl rfl ?_
    refine z_iload_n hc dX9_pools_35 2 rfl rfl ?_
    refine z_iconst (v := (-1)) hc dX9_pools_36 rfl ?_
    refine z_ixor hc dX9_pools_37 ?_
    refine z_iand hc dX9_pools_38 ?_
    refine z_iconst (v := 1) hc dX9_pools_39 rfl ?_
    refine z_iload hc dX9_pools_40 4 rfl ?_
    refine z_ishl hc dX9_pools_42 ?_
    refine z_iand hc dX9_pools_43 ?_
    refine z_if_eq (tgt := 60) hc dX9_pools_44 (by decide) _ (fun h3 => ?_) (fun h3 => ?_)
    · refine z_iinc (L' := [(4, .int (v4 + 1)), (0, .ref 1), (1, .int v1), (2, .int v2), (3, .int v3)]) hc dX9_pools_60 4 rfl (v := (v4 + 1)) rfl (by decide) rfl rfl ?_
      refine z_goto (tgt := 19) hc dX9_pools_63 (by decide) ?_
      refine zJ.sub (L' := [(0, .ref 1), (1, .int v1), (2, .int v2), (3, .int v3), (4, .int (v4 + 1))]) [1, 2, 3, 4, 0] rfl ?_
      exact hr19 v1 v2 v3 (v4 + 1) _
    · refine z_iload_n hc dX9_pools_47 2 rfl rfl ?_
      refine z_aload_n hc dX9_pools_48 0 rfl rfl ?_
      refine z_iload hc dX9_pools_49 4 rfl ?_
      refine z_iload_n hc dX9_pools_51 1 rfl rfl ?_
      refine z_callV (av := [.int v4, .int v1]) (enc' := eI) hc rfl (sOW_poolOf v4 v1 _) (ci := 9) (by decide) lC1 (zkC lC1) rfl wMX9_318 hpyX9_poolOf hmyX9_poolOf (rm_ok hRm (Nat.le_of_ble_eq_true rfl) (Nat.le_of_ble_eq_true rfl)) (Nat.le_of_ble_eq_true rfl) hRm.2.2 dX9_pools_52 (fun c1 u1 f1 => ?_)
      refine z_ior hc dX9_pools_55 ?_
      refine zJ.letI (fun x1 e1 => ?_)
      refine z_istore_n (L' := [(2, .int x1), (0, .ref 1), (1, .int v1), (3, .int v3), (4, .int v4)]) hc dX9_pools_56 rfl (by decide) rfl rfl ?_
      refine z_iinc (L' := [(3, .int (v3 + 1)), (2, .int x1), (0, .ref 1), (1, .int v1), (4, .int v4)]) hc dX9_pools_57 3 rfl (v := (v3 + 1)) rfl (by decide) rfl rfl ?_
      refine z_iinc (L' := [(4, .int (v4 + 1)), (3, .int (v3 + 1)), (2, .int x1), (0, .ref 1), (1, .int v1)]) hc dX9_pools_60 4 rfl (v := (v4 + 1)) rfl (by decide) rfl rfl ?_
      refine z_goto (tgt := 19) hc dX9_pools_63 (by decide) ?_
      refine zJ.sub (L' := [(0, .ref 1), (1, .int v1), (2, .int x1), (3, .int (v3 + 1)), (4, .int (v4 + 1))]) [3, 4, 2, 1, 0] rfl ?_
      exact hr19 v1 x1 (v3 + 1) (v4 + 1) _
set_option maxRecDepth 100000 in
set_option maxHeartbeats 4000000 in
theorem sOW_pools_19 {fin : Int32 × zM} (hc : zCx p s mi args meth c (wC D b) m0 RX9 cX9_pools 5 (some .int)) (hRm : R.frames = 3 ∧ R.locals = 71 ∧ R.cells = zc (wC D b) m0 fin.2 ∧ R.slots = zs (wC D b) m0 fin.2) : ∀ (zf : Nat) (v1 : Int32) (v2 : Int32) (v3 : Int32) (v4 : Int32) (u : zM), zJ eI p l e R s mi args below meth c (wC D b) m0 5 fin 19 [(0, .ref 1), (1, .int v1), (2, .int v2), (3, .int v3), (4, .int v4)] [] u (OW_pools_19 zf v1 v2 v3 v4 u) := by
  intro zf
  induction zf with
  | zero => intro v1 v2 v3 v4 u; exact zJ.nil
  | succ zf ih => intro v1 v2 v3 v4 u; exact sOW_pools_19b hc hRm ih v1 v2 v3 v4 u
set_option maxRecDepth 100000 in
set_option maxHeartbeats 4000000 in
theorem sOW_pools : ∀ (u : zM) r m1, OW_pools u = some (r, m1) → zMet l (wC D b) 3 71 yX9_pools cX9_pools 5 (some .int) [.ref 1] u (eI r) m1 := by
  intro u
  refine zMet.of (L := [(0, .ref 1)]) RX9 (by decide +kernel) rfl (Nat.le_of_ble_eq_true rfl) (fun h => by cases h) rfl (fun p e s mi args below meth c R fin hc hin hRm => ?_)
  unfold OW_pools
  refine z_aload_n hc dX9_pools_0 0 rfl rfl ?_
  refine z_getR (x := 54) hc (ci := 9) (k := 5) (by decide) (by decide) zly9 lC1 (zkC lC1) wFX9_39 rfl dX9_pools_1 rfl (by decide) ?_
  refine z_aload_n hc dX9_pools_4 0 rfl rfl ?_
  refine zJ.chk _ (fun h1 => ?_)
  refine z_getR (x := (gR u 1 1)) hc (ci := 9) (k := 1) (by decide) (by decide) zly9 lC1 (zkC lC1) wFX9_19 rfl dX9_pools_5 rfl (lC_pos h1) ?_
  refine z_callV (av := [.ref (gR u 1 1)]) (enc' := eI) hc rfl (sSt_wetBits 54 (gR u 1 1) _) (ci := 7) (by decide) lC54 (zkC lC54) rfl wMX9_188 hpyX7_wetBits hmyX7_wetBits (rm_ok hRm (Nat.le_of_ble_eq_true rfl) (Nat.le_of_ble_eq_true rfl)) (Nat.le_of_ble_eq_true rfl) hRm.2.2 dX9_pools_8 (fun c1 u1 f1 => ?_)
  refine z_istore_n (L' := [(1, .int c1), (0, .ref 1)]) hc dX9_pools_11 rfl (by decide) rfl rfl ?_
  refine z_iconst (v := 0) hc dX9_pools_12 rfl ?_
  refine z_istore_n (L' := [(2, .int 0), (1, .int c1), (0, .ref 1)]) hc dX9_pools_13 rfl (by decide) rfl rfl ?_
  refine z_iconst (v := 0) hc dX9_pools_14 rfl ?_
  refine z_istore_n (L' := [(3, .int 0), (2, .int 0), (1, .int c1), (0, .ref 1)]) hc dX9_pools_15 rfl (by decide) rfl rfl ?_
  refine z_iconst (v := 0) hc dX9_pools_16 rfl ?_
  refine z_istore (L' := [(4, .int 0), (3, .int 0), (2, .int 0), (1, .int c1), (0, .ref 1)]) hc dX9_pools_17 (by decide) rfl rfl ?_
  refine zJ.sub (L' := [(0, .ref 1), (1, .int c1), (2, .int 0), (3, .int 0), (4, .int 0)]) [4, 3, 2, 1, 0] rfl ?_
  exact sOW_pools_19 hc hRm zF c1 0 0 0 _
set_option maxRecDepth 100000 in
set_option maxHeartbeats 4000000 in
theorem sOW_isBridge : ∀ (v1 : Int32) (v2 : Int32) (u : zM) r m1, OW_isBridge v1 v2 u = some (r, m1) → zMet l (wC D b) 2 48 yX9_isBridge cX9_isBridge 4 (some .boolean) [.ref 1, .int v1, .int v2] u (eI r) m1 := by
  intro v1 v2 u
  refine zMet.of (L := [(0, .ref 1), (1, .int v1), (2, .int v2)]) RX9 (by decide +kernel) rfl (Nat.le_of_ble_eq_true rfl) (fun h => by cases h) rfl (fun p e s mi args below meth c R fin hc hin hRm => ?_)
  unfold OW_isBridge
  refine z_aload_n hc dX9_isBridge_0 0 rfl rfl ?_
  refine zJ.chk _ (fun h1 => ?_)
  refine z_getR (x := (gR u 1 1)) hc (ci := 9) (k := 1) (by decide) (by decide) zly9 lC1 (zkC lC1) wFX9_19 rfl dX9_isBridge_1 rfl (lC_pos h1) ?_
  refine z_iload_n hc dX9_isBridge_4 1 rfl rfl ?_
  refine z_iload_n hc dX9_isBridge_5 2 rfl rfl ?_
  refine z_callV (av := [.int v1, .int v2]) (enc' := eV) hc rfl (sCo_flipLink (gR u 1 1) v1 v2 _) (ci := 0) (by decide) h1 (zkC h1) rfl wMX9_330 hpyX0_flipLink hmyX0_flipLink (rm_ok hRm (Nat.le_of_ble_eq_true rfl) (Nat.le_of_ble_eq_true rfl)) (Nat.le_of_ble_eq_true rfl) hRm.2.2 dX9_isBridge_6 (fun c1 u1 f1 => ?_)
  refine z_aload_n hc dX9_isBridge_9 0 rfl rfl ?_
  refine zJ.chk _ (fun h2 => ?_)
  refine z_getR (x := (gR u1 1 1)) hc (ci := 9) (k := 1) (by decide) (by decide) zly9 lC1 (zkC lC1) wFX9_19 rfl dX9_isBridge_10 rfl (lC_pos h2) ?_
  refine z_iconst (v := 1) hc dX9_isBridge_13 rfl ?_
  refine z_iload_n hc dX9_isBridge_14 1 rfl rfl ?_
  refine z_ishl hc dX9_isBridge_15 ?_
  refine z_aload_n hc dX9_isBridge_16 0 rfl rfl ?_
  refine zJ.chk _ (fun h3 => ?_)
  refine z_getR (x := (gR u1 1 1)) hc (ci := 9) (k := 1) (by decide) (by decide) zly9 lC1 (zkC lC1) wFX9_19 rfl dX9_isBridge_17 rfl (lC_pos h3) ?_
  refine z_callV (av := []) (enc' := eI) hc rfl (sCo_allPlaces (gR u1 1 1) _) (ci := 0) (by decide) h3 (zkC h3) rfl wMX9_274 hpyX0_allPlaces hmyX0_allPlaces (rm_ok hRm (Nat.le_of_ble_eq_true rfl) (Nat.le_of_ble_eq_true rfl)) (Nat.le_of_ble_eq_true rfl) hRm.2.2 dX9_isBridge_20 (fun c2 u2 f2 => ?_)
  refine z_callV (av := [.int (1 <<< (v1 &&& 31)), .int c2]) (enc' := eI) hc rfl (sCo_spreadAll (gR u1 1 1) (1 <<< (v1 &&& 31)) c2 _) (ci := 0) (by decide) h2 (zkC h2) rfl wMX9_315 hpyX0_spreadAll hmyX0_spreadAll (rm_ok hRm (Nat.le_of_ble_eq_true rfl) (Nat.le_of_ble_eq_true rfl)) (Nat.le_of_ble_eq_true rfl) hRm.2.2 dX9_isBridge_23 (fun c3 u3 f3 => ?_)
  refine z_istore_n (L' := [(3, .int c3), (0, .ref 1), (1, .int v1), (2, .int v2)]) hc dX9_isBridge_26 rfl (by decide) rfl rfl ?_
  refine z_aload_n hc dX9_isBridge_27 1 rfl rfl ?_
  refine zJ.chk _ (fun h4 => ?_)
  refine z_getR (x := (gR u3 1 1)) hc (ci := 9) (k := 1) (by decide) (by decide) zly9 lC1 (zkC lC1) wFX9_19 rfl dX9_isBridge_28 rfl (lC_pos h4) ?_
  refine z_iload_n hc dX9_isBridge_31 2 rfl rfl ?_
  refine z_iload_n hc dX9_isBridge_32 3 rfl rfl ?_
  refine z_callV (av := [.int v1, .int v2]) (enc' := eV) hc rfl (sCo_flipLink (gR u3 1 1) v1 v2 _) (ci := 0) (by decide) h4 (zkC h4) rfl wMX9_330 hpyX0_flipLink hmyX0_flipLink (rm_ok hRm (Nat.le_of_ble_eq_true rfl) (Nat.le_of_ble_eq_true rfl)) (Nat.le_of_ble_eq_true rfl) hRm.2.2 dX9_isBridge_33 (fun c4 u4 f4 => ?_)
  refine z_iload_n hc dX9_isBridge_36 0 rfl rfl ?_
  refine z_iload_n hc dX9_isBridge_37 3 rfl rfl ?_
  refine z_ishr hc dX9_isBridge_38 ?_
  refine z_iconst (v := 1) hc dX9_isBridge_39 rfl ?_
  refine z_iand hc dX9_isBridge_40 ?_
  refine z_if_ne (tgt := 48) hc dX9_isBridge_41 (by decide) _ (fun h5 => ?_) (fun h5 => ?_)
  · refine z_iconst (v := 0) hc dX9_isBridge_48 rfl ?_
    exact z_zret hc rfl dX9_isBridge_49
  · refine z_iconst (v := 1) hc dX9_isBridge_44 rfl ?_
    refine z_goto (tgt := 49) hc dX9_isBridge_45 (by decide) ?_
    exact z_zret hc rfl dX9_isBridge_49
set_option maxRecDepth 100000 in
set_option maxHeartbeats 4000000 in
theorem sOW_bridges_22b {fin : Int32 × zM} (hc : zCx p s mi args meth c (wC D b) m0 RX9 cX9_bridges 4 (some .int)) (hRm : R.frames = 3 ∧ R.locals = 71 ∧ R.cells = zc (wC D b) m0 fin.2 ∧ R.slots = zs (wC D b) m0 fin.2) {zr4 : Int32 → Int32 → zM → Option (Int32 × zM)} (hr4 : ∀ (v1 : Int32) (v2 : Int32) (u : zM), zJ eI p l e R s mi args below meth c (wC D b) m0 4 fin 4 [(0, .ref 1), (1, .int v1), (2, .int v2)] [] u (zr4 v1 v2 u)) {zr22 : Int32 → Int32 → Int32 → zM → Option (Int32 × zM)} (hr22 : ∀ (v1 : Int32) (v2 : Int32) (v3 : Int32) (u : zM), zJ eI p l e R s mi args below meth c (wC D b) m0 4 fin 22 [(0, .ref 1), (1, .int v1), (2, .int v2), (3, .int v3)] [] u (zr22 v1 v2 v3 u)) (v1 : Int32) (v2 : Int32) (v3 : Int32) (u : zM) : zJ eI p l e R s mi args below meth c (wC D b) m0 4 fin 22 [(0, .ref 1), (1, .int v1), (2, .int v2), (3, .int v3)] [] u (OW_bridges_22b zr4 zr22 v1 v2 v3 u) := by
  unfold OW_bridges_22b
  refine z_iload_n hc dX9_bridges_22 3 rfl rfl ?_
  refine z_aload_n hc dX9_bridges_23 0 rfl rfl ?_
  refine zJ.chk _ (fun h1 => ?_)
  refine z_getR (x := (gR u 1 1)) hc (ci := 9) (k := 1) (by decide) (by decide) zly9 lC1 (zkC lC1) wFX9_19 rfl dX9_bridges_24 rfl (lC_pos h1) ?_
  refine z_getR (x := ((gR u 1 1) + 1)) hc (ci := 0) (k := 0) (by decide) (by decide) zly0 h1 (zkC h1) wFX9_115 rfl dX9_bridges_27 (rfC_off (off := 1) h1 rfl (by decide)) (Nat.le_add_left_of_le (by decide)) ?_
  refine z_getI hc (ci := 3) (k := 1) (by decide) (by decide) zly3 (lyC_10_1 h1) (zkC (lyC_10_1 h1)) wFX9_119 rfl dX9_bridges_30 ?_
  refine z_icmp_ge (tgt := 66) hc dX9_bridges_33 (by decide) _ (fun h2 => ?_) (fun h2 => ?_)
  · refine z_iinc (L' := [(2, .int (v2 + 1)), (0, .ref 1), (1, .int v1), (3, .int v3)]) hc dX9_bridges_66 2 rfl (v := (v2 + 1)) rfl (by decide) rfl rfl ?_
    refine z_goto (tgt := 4) hc dX9_bridges_69 (by decide) ?_
    refine zJ.sub (L' := [(0, .ref 1), (1, .int v1), (2, .int (v2 + 1))]) [1, 2, 0] rfl ?_
    exact hr4 v1 (v2 + 1) _
  · refine z_aload_n hc dX9_bridges_36 0 rfl rfl ?_
    refine zJ.chk _ (fun h3 => ?_)
    refine z_getR (x := (gR u 1 1)) hc (ci := 9) (k := 1) (by decide) (by decide) zly9 lC1 (zkC lC1) wFX9_19 rfl dX9_bridges_37 rfl (lC_pos h3) ?_
    refine z_iload_n hc dX9_bridges_40 2 rfl rfl ?_
    refine z_iload_n hc dX9_bridges_41 3 rfl rfl ?_
    refine z_callV (av := [.int v2, .int v3]) (enc' := eI) hc rfl (sCo_isLinked (gR u 1 1) v2 v3 _) (ci := 0) (by decide) h3 (zkC h3) rfl wMX9_324 hpyX0_isLinked hmyX0_isLinked (rm_ok hRm (Nat.le_of_ble_eq_true rfl) (Nat.le_of_ble_eq_true rfl)) (Nat.le_of_ble_eq_true rfl) hRm.2.2 dX9_bridges_42 (fun c1 u1 f1 => ?_)
    refine z_if_eq (tgt := 60) hc dX9_bridges_45 (by decide) _ (fun h4 => ?_) (fun h4 => ?_)
    · refine z_iinc (L' := [(3, .int (v3 + 1)), (0, .ref 1), (1, .int v1), (2, .int v2)]) hc dX9_bridges_60 3 rfl (v := (v3 + 1)) rfl (by decide) rfl rfl ?_
      refine z_goto (tgt := 22) hc dX9_bridges_63 (by decide) ?_
      refine zJ.sub (L' := [(0, .ref 1), (1, .int v1), (2, .int v2), (3, .int (v3 + 1))]) [1, 2, 3, 0] rfl ?_
      exact hr22 v1 v2 (v3 + 1) _
    · refine z_aload_n hc dX9_bridges_48 0 rfl rfl ?_
      refine z_iload_n hc dX9_bridges_49 2 rfl rfl ?_
      refine z_iload_n hc dX9_bridges_50 3 rfl rfl ?_
      refine z_callV (av := [.int v2, .int v3]) (enc' := eI) hc rfl (sOW_isBridge v2 v3 _) (ci := 9) (by decide) lC1 (zkC lC1) rfl wMX9_327 hpyX9_isBridge hmyX9_isBridge (rm_ok hRm (Nat.le_of_ble_eq_true rfl) (Nat.le_of_ble_eq_true rfl)) (Nat.le_of_ble_eq_true rfl) hRm.2.2 dX9_bridges_51 (fun c2 u2 f2 => ?_)
      refine z_if_eq (tgt := 60) hc dX9_bridges_54 (by decide) _ (fun h5 => ?_) (fun h5 => ?_)
      · refine z_iinc (L' := [(3, .int (v3 + 1)), (0, .ref 1), (1, .int v1), (2, .int v2)]) hc dX9_bridges_60 3 rfl (v := (v3 + 1)) rfl (by decide) rfl rfl ?_
        refine z_goto (tgt := 22) hc dX9_bridges_63 (by decide) ?_
        refine zJ.sub (L' := [(0, .ref 1), (1, .int v1), (2, .int v2), (3, .int (v3 + 1))]) [1, 2, 3, 0] rfl ?_
        exact hr22 v1 v2 (v3 + 1) _
      · refine z_iinc (L' := [(1, .int (v1 + 1)), (0, .ref 1), (2, .int v2), (3, .int v3)]) hc dX9_bridges_57 1 rfl (v := (v1 + 1)) rfl (by decide) rfl rfl ?_
        refine z_iinc (L' := [(3, .int (v3 + 1)), (1, .int (v1 + 1)), (0, .ref 1), (2, .int v2)]) hc dX9_bridges_60 3 rfl (v := (v3 + 1)) rfl (by decide) rfl rfl ?_
        refine z_goto (tgt := 22) hc dX9_bridges_63 (by decide) ?_
        refine zJ.sub (L' := [(0, .ref 1), (1, .int (v1 + 1)), (2, .int v2), (3, .int (v3 + 1))]) [2, 1, 3, 0] rfl ?_
        exact hr22 (v1 + 1) v2 (v3 + 1) _
set_option maxRecDepth 100000 in
set_option maxHeartbeats 4000000 in
theorem sOW_bridges_22 {fin : Int32 × zM} (hc : zCx p s mi args meth c (wC D b) m0 RX9 cX9_bridges 4 (some .int)) (hRm : R.frames = 3 ∧ R.locals = 71 ∧ R.cells = zc (wC D b) m0 fin.2 ∧ R.slots = zs (wC D b) m0 fin.2) {zr4 : Int32 → Int32 → zM → Option (Int32 × zM)} (hr4 : ∀ (v1 : Int32) (v2 : Int32) (u : zM), zJ eI p l e R s mi args below meth c (wC D b) m0 4 fin 4 [(0, .ref 1), (1, .int v1), (2, .int v2)] [] u (zr4 v1 v2 u)) : ∀ (zf : Nat) (v1 : Int32) (v2 : Int32) (v3 : Int32) (u : zM), zJ eI p l e R s mi args below meth c (wC D b) m0 4 fin 22 [(0, .ref 1), (1, .int v1), (2, .int v2), (3, .int v3)] [] u (OW_bridges_22 zf zr4 v1 v2 v3 u) := by
  intro zf
  induction zf with
  | zero => intro v1 v2 v3 u; exact zJ.nil
  | succ zf ih => intro v1 v2 v3 u; exact sOW_bridges_22b hc hRm hr4 ih v1 v2 v3 u
set_option maxRecDepth 100000 in
set_option maxHeartbeats 4000000 in
theorem sOW_bridges_4b {fin : Int32 × zM} (hc : zCx p s mi args meth c (wC D b) m0 RX9 cX9_bridges 4 (some .int)) (hRm : R.frames = 3 ∧ R.locals = 71 ∧ R.cells = zc (wC D b) m0 fin.2 ∧ R.slots = zs (wC D b) m0 fin.2) {zr4 : Int32 → Int32 → zM → Option (Int32 × zM)} (hr4 : ∀ (v1 : Int32) (v2 : Int32) (u : zM), zJ eI p l e R s mi args below meth c (wC D b) m0 4 fin 4 [(0, .ref 1), (1, .int v1), (2, .int v2)] [] u (zr4 v1 v2 u)) (v1 : Int32) (v2 : Int32) (u : zM) : zJ eI p l e R s mi args below meth c (wC D b) m0 4 fin 4 [(0, .ref 1), (1, .int v1), (2, .int v2)] [] u (OW_bridges_4b zr4 v1 v2 u) := by
  unfold OW_bridges_4b
  refine z_iload_n hc dX9_bridges_4 2 rfl rfl ?_
  refine z_aload_n hc dX9_bridges_5 0 rfl rfl ?_
  refine zJ.chk _ (fun h1 => ?_)
  refine z_getR (x := (gR u 1 1)) hc (ci := 9) (k := 1) (by decide) (by decide) zly9 lC1 (zkC lC1) wFX9_19 rfl dX9_bridges_6 rfl (lC_pos h1) ?_
  refine z_getR (x := ((gR u 1 1) + 1)) hc (ci := 0) (k := 0) (by decide) (by decide) zly0 h1 (zkC h1) wFX9_115 rfl dX9_bridges_9 (rfC_off (off := 1) h1 rfl (by decide)) (Nat.le_add_left_of_le (by decide)) ?_
  refine z_getI hc (ci := 3) (k := 1) (by decide) (by decide) zly3 (lyC_10_1 h1) (zkC (lyC_10_1 h1)) wFX9_119 rfl dX9_bridges_12 ?_
  refine z_icmp_ge (tgt := 72) hc dX9_bridges_15 (by decide) _ (fun h2 => ?_) (fun h2 => ?_)
  · refine z_iload_n hc dX9_bridges_72 1 rfl rfl ?_
    exact z_iret hc dX9_bridges_73
  · refine z_iload_n hc dX9_bridges_18 2 rfl rfl ?_
    refine z_iconst (v := 1) hc dX9_bridges_19 rfl ?_
    refine z_iadd hc dX9_bridges_20 ?_
    refine zJ.letI (fun x1 e1 => ?_)
    refine z_istore_n (L' := [(3, .int x1), (0, .ref 1), (1, .int v1), (2, .int v2)]) hc dX9_bridges_21 rfl (by decide) rfl rfl ?_
    refine zJ.sub (L' := [(0, .ref 1), (1, .int v1), (2, .int v2), (3, .int x1)]) [1, 2, 3, 0] rfl ?_
    exact sOW_bridges_22 hc hRm hr4 zF v1 v2 x1 _
set_option maxRecDepth 100000 in
set_option maxHeartbeats 4000000 in
theorem sOW_bridges_4 {fin : Int32 × zM} (hc : zCx p s mi args meth c (wC D b) m0 RX9 cX9_bridges 4 (some .int)) (hRm : R.frames = 3 ∧ R.locals = 71 ∧ R.cells = zc (wC D b) m0 fin.2 ∧ R.slots = zs (wC D b) m0 fin.2) : ∀ (zf : Nat) (v1 : Int32) (v2 : Int32) (u : zM), zJ eI p l e R s mi args below meth c (wC D b) m0 4 fin 4 [(0, .ref 1), (1, .int v1), (2, .int v2)] [] u (OW_bridges_4 zf v1 v2 u) := by
  intro zf
  induction zf with
  | zero => intro v1 v2 u; exact zJ.nil
  | succ zf ih => intro v1 v2 u; exact sOW_bridges_4b hc hRm ih v1 v2 u
set_option maxRecDepth 100000 in
set_option maxHeartbeats 4000000 in
theorem sOW_bridges : ∀ (u : zM) r m1, OW_bridges u = some (r, m1) → zMet l (wC D b) 3 71 yX9_bridges cX9_bridges 4 (some .int) [.ref 1] u (eI r) m1 := by
  intro u
  refine zMet.of (L := [(0, .ref 1)]) RX9 (by decide +kernel) rfl (Nat.le_of_ble_eq_true rfl) (fun h => by cases h) rfl (fun p e s mi args below meth c R fin hc hin hRm => ?_)
  unfold OW_bridges
  refine z_iconst (v := 0) hc dX9_bridges_0 rfl ?_
  refine z_istore_n (L' := [(1, .int 0), (0, .ref 1)]) hc dX9_bridges_1 rfl (by decide) rfl rfl ?_
  refine z_iconst (v := 0) hc dX9_bridges_2 rfl ?_
  refine z_istore_n (L' := [(2, .int 0), (1, .int 0), (0, .ref 1)]) hc dX9_bridges_3 rfl (by decide) rfl rfl ?_
  refine zJ.sub (L' := [(0, .ref 1), (1, .int 0), (2, .int 0)]) [2, 1, 0] rfl ?_
  exact sOW_bridges_4 hc hRm zF 0 0 _
set_option maxRecDepth 100000 in
set_option maxHeartbeats 4000000 in
theorem sOW_see : ∀ (v1 : Int32) (v2 : Int32) (v3 : Int32) (u : zM) r m1, OW_see v1 v2 v3 u = some (r, m1) → zMet l (wC D b) 1 23 yX9_see cX9_see 4 (some .boolean) [.ref 1, .int v1, .int v2, .int v3] u (eI r) m1 := by
  intro v1 v2 v3 u
  refine zMet.of (L := [(0, .ref 1), (1, .int v1), (2, .int v2), (3, .int v3)]) RX9 (by decide +kernel) rfl (Nat.le_of_ble_eq_true rfl) (fun h => by cases h) rfl (fun p e s mi args below meth c R fin hc hin hRm => ?_)
  unfold OW_see
  refine z_aload_n hc dX9_see_0 0 rfl rfl ?_
  refine z_iload_n hc dX9_see_1 1 rfl rfl ?_
  refine z_callV (av := [.int v1]) (enc' := eI) hc rfl (sOW_isPlace v1 _) (ci := 9) (by decide) lC1 (zkC lC1) rfl wMX9_131 hpyX9_isPlace hmyX9_isPlace (rm_ok hRm (Nat.le_of_ble_eq_true rfl) (Nat.le_of_ble_eq_true rfl)) (Nat.le_of_ble_eq_true rfl) hRm.2.2 dX9_see_2 (fun c1 u1 f1 => ?_)
  refine z_if_eq (tgt := 18) hc dX9_see_5 (by decide) _ (fun h1 => ?_) (fun h1 => ?_)
  · refine z_iconst (v := 0) hc dX9_see_18 rfl ?_
    exact z_zret hc rfl dX9_see_19
  · refine z_iload_n hc dX9_see_8 2 rfl rfl ?_
    refine z_iconst (v := 0) hc dX9_see_9 rfl ?_
    refine z_bipush (v := 9) hc dX9_see_10 rfl ?_
    refine z_callS (av := [.int v2, .int 0, .int 9]) (enc' := eI) hc rfl (sOW_within v2 0 9 _) wMX9_229 hpyX9_within hmyX9_within (rm_ok hRm (Nat.le_of_ble_eq_true rfl) (Nat.le_of_ble_eq_true rfl)) (Nat.le_of_ble_eq_true rfl) hRm.2.2 dX9_see_12 (fun c2 u2 f2 => ?_)
    refine z_if_ne (tgt := 20) hc dX9_see_15 (by decide) _ (fun h2 => ?_) (fun h2 => ?_)
    · refine z_aload_n hc dX9_see_20 0 rfl rfl ?_
      refine z_getR (x := 66) hc (ci := 9) (k := 7) (by decide) (by decide) zly9 lC1 (zkC lC1) wFX9_49 rfl dX9_see_21 rfl (by decide) ?_
      refine z_iload_n hc dX9_see_24 1 rfl rfl ?_
      refine z_iload_n hc dX9_see_25 2 rfl rfl ?_
      refine z_iload_n hc dX9_see_26 3 rfl rfl ?_
      refine z_callV (av := [.int v1, .int v2, .int v3]) (enc' := eI) hc rfl (sSe_put 66 v1 v2 v3 _) (ci := 5) (by decide) lC66 (zkC lC66) rfl wMX9_333 hpyX5_put hmyX5_put (rm_ok hRm (Nat.le_of_ble_eq_true rfl) (Nat.le_of_ble_eq_true rfl)) (Nat.le_of_ble_eq_true rfl) hRm.2.2 dX9_see_27 (fun c3 u3 f3 => ?_)
      exact z_zretC hc dX9_see_30
    · refine z_iconst (v := 0) hc dX9_see_18 rfl ?_
      exact z_zret hc rfl dX9_see_19
set_option maxRecDepth 100000 in
set_option maxHeartbeats 4000000 in
theorem sOW_isAsSeen_69 {fin : Int32 × zM} (hc : zCx p s mi args meth c (wC D b) m0 RX9 cX9_isAsSeen 5 (some .boolean)) (hRm : R.frames = 3 ∧ R.locals = 76 ∧ R.cells = zc (wC D b) m0 fin.2 ∧ R.slots = zs (wC D b) m0 fin.2) {zr2 : Int32 → Int32 → zM → Option (Int32 × zM)} (hr2 : ∀ (v1 : Int32) (v2 : Int32) (u : zM), zJ eI p l e R s mi args below meth c (wC D b) m0 5 fin 2 [(0, .ref 1), (1, .int v1), (2, .int v2)] [] u (zr2 v1 v2 u)) (v1 : Int32) (v2 : Int32) (s0 : Int32) (u : zM) : zJ eI p l e R s mi args below meth c (wC D b) m0 5 fin 69 [(0, .ref 1), (1, .int v1), (2, .int v2)] [.int s0] u (OW_isAsSeen_69 zr2 v1 v2 s0 u) := by
  unfold OW_isAsSeen_69
  refine z_aload_n hc dX9_isAsSeen_69 0 rfl rfl ?_
  refine z_getR (x := 66) hc (ci := 9) (k := 7) (by decide) (by decide) zly9 lC1 (zkC lC1) wFX9_49 rfl dX9_isAsSeen_70 rfl (by decide) ?_
  refine z_getR (x := 69) hc (ci := 5) (k := 2) (by decide) (by decide) zly5 lC66 (zkC lC66) wFX9_348 rfl dX9_isAsSeen_73 rfl (by decide) ?_
  refine z_iload_n hc dX9_isAsSeen_76 2 rfl rfl ?_
  refine zJ.chk _ (fun h1 => ?_)
  refine z_zald (k := (ix v2)) hc lC69 (zkC lC69) h1 rfl dX9_isAsSeen_77 ?_
  refine z_icmp_eq (tgt := 83) hc dX9_isAsSeen_78 (by decide) _ (fun h2 => ?_) (fun h2 => ?_)
  · refine z_iinc (L' := [(2, .int (v2 + 1)), (0, .ref 1), (1, .int v1)]) hc dX9_isAsSeen_83 2 rfl (v := (v2 + 1)) rfl (by decide) rfl rfl ?_
    refine z_goto (tgt := 2) hc dX9_isAsSeen_86 (by decide) ?_
    refine zJ.sub (L' := [(0, .ref 1), (1, .int v1), (2, .int (v2 + 1))]) [1, 2, 0] rfl ?_
    exact hr2 v1 (v2 + 1) _
  · refine z_iconst (v := 0) hc dX9_isAsSeen_81 rfl ?_
    exact z_zret hc rfl dX9_isAsSeen_82
set_option maxRecDepth 100000 in
set_option maxHeartbeats 4000000 in
theorem sOW_isAsSeen_2b {fin : Int32 × zM} (hc : zCx p s mi args meth c (wC D b) m0 RX9 cX9_isAsSeen 5 (some .boolean)) (hRm : R.frames = 3 ∧ R.locals = 76 ∧ R.cells = zc (wC D b) m0 fin.2 ∧ R.slots = zs (wC D b) m0 fin.2) {zr2 : Int32 → Int32 → zM → Option (Int32 × zM)} (hr2 : ∀ (v1 : Int32) (v2 : Int32) (u : zM), zJ eI p l e R s mi args below meth c (wC D b) m0 5 fin 2 [(0, .ref 1), (1, .int v1), (2, .int v2)] [] u (zr2 v1 v2 u)) (v1 : Int32) (v2 : Int32) (u : zM) : zJ eI p l e R s mi args below meth c (wC D b) m0 5 fin 2 [(0, .ref 1), (1, .int v1), (2, .int v2)] [] u (OW_isAsSeen_2b zr2 v1 v2 u) := by
  unfold OW_isAsSeen_2b
  refine z_iload_n hc dX9_isAsSeen_2 2 rfl rfl ?_
  refine z_aload_n hc dX9_isAsSeen_3 0 rfl rfl ?_
  refine z_getR (x := 66) hc (ci := 9) (k := 7) (by decide) (by decide) zly9 lC1 (zkC lC1) wFX9_49 rfl dX9_isAsSeen_4 rfl (by decide) ?_
  refine z_getI hc (ci := 5) (k := 3) (by decide) (by decide) zly5 lC66 (zkC lC66) wFX9_101 rfl dX9_isAsSeen_7 ?_
  refine z_icmp_ge (tgt := 89) hc dX9_isAsSeen_10 (by decide) _ (fun h1 => ?_) (fun h1 => ?_)
  · refine z_iconst (v := 1) hc dX9_isAsSeen_89 rfl ?_
    exact z_zret hc rfl dX9_isAsSeen_90
  · refine z_aload_n hc dX9_isAsSeen_13 0 rfl rfl ?_
    refine z_getR (x := 66) hc (ci := 9) (k := 7) (by decide) (by decide) zly9 lC1 (zkC lC1) wFX9_49 rfl dX9_isAsSeen_14 rfl (by decide) ?_
    refine z_getR (x := 67) hc (ci := 5) (k := 0) (by decide) (by decide) zly5 lC66 (zkC lC66) wFX9_340 rfl dX9_isAsSeen_17 rfl (by decide) ?_
    refine z_iload_n hc dX9_isAsSeen_20 2 rfl rfl ?_
    refine zJ.chk _ (fun h2 => ?_)
    refine z_iald (k := (ix v2)) hc lC67 (zkC lC67) h2 rfl dX9_isAsSeen_21 ?_
    refine zJ.letI (fun x1 e1 => ?_)
    refine z_istore_n (L' := [(3, .int x1), (0, .ref 1), (1, .int v1), (2, .int v2)]) hc dX9_isAsSeen_22 rfl (by decide) rfl rfl ?_
    refine z_aload_n hc dX9_isAsSeen_23 1 rfl rfl ?_
    refine zJ.chk _ (fun h3 => ?_)
    refine z_getR (x := (gR u 1 1)) hc (ci := 9) (k := 1) (by decide) (by decide) zly9 lC1 (zkC lC1) wFX9_19 rfl dX9_isAsSeen_24 rfl (lC_pos h3) ?_
    refine z_iload_n hc dX9_isAsSeen_27 0 rfl rfl ?_
    refine z_aload_n hc dX9_isAsSeen_28 1 rfl rfl ?_
    refine z_getR (x := 54) hc (ci := 9) (k := 5) (by decide) (by decide) zly9 lC1 (zkC lC1) wFX9_39 rfl dX9_isAsSeen_29 rfl (by decide) ?_
    refine z_getR (x := 55) hc (ci := 7) (k := 0) (by decide) (by decide) zly7 lC54 (zkC lC54) wFX9_135 rfl dX9_isAsSeen_32 rfl (by decide) ?_
    refine z_iload_n hc dX9_isAsSeen_35 0 rfl rfl ?_
    refine zJ.chk _ (fun h4 => ?_)
    refine z_iald (k := (ix x1)) hc lC55 (zkC lC55) h4 rfl dX9_isAsSeen_36 ?_
    refine z_iload_n hc dX9_isAsSeen_37 2 rfl rfl ?_
    refine z_aload_n hc dX9_isAsSeen_38 1 rfl rfl ?_
    refine z_getR (x := 54) hc (ci := 9) (k := 5) (by decide) (by decide) zly9 lC1 (zkC lC1) wFX9_39 rfl dX9_isAsSeen_39 rfl (by decide) ?_
    refine z_getI hc (ci := 7) (k := 5) (by decide) (by decide) zly7 lC54 (zkC lC54) wFX9_181 rfl dX9_isAsSeen_42 ?_
    refine z_callV (av := [.int x1, .int (gI u 55 (ix x1)), .int v1, .int (gI u 54 5)]) (enc' := eI) hc rfl (sCo_waterBehind (gR u 1 1) x1 (gI u 55 (ix x1)) v1 (gI u 54 5) _) (ci := 0) (by decide) h3 (zkC h3) rfl wMX9_343 hpyX0_waterBehind hmyX0_waterBehind (rm_ok hRm (Nat.le_of_ble_eq_true rfl) (Nat.le_of_ble_eq_true rfl)) (Nat.le_of_ble_eq_true rfl) hRm.2.2 dX9_isAsSeen_45 (fun c1 u1 f1 => ?_)
    refine z_istore (L' := [(4, .int c1), (3, .int x1), (0, .ref 1), (1, .int v1), (2, .int v2)]) hc dX9_isAsSeen_48 (by decide) rfl rfl ?_
    refine z_iload hc dX9_isAsSeen_50 0 rfl ?_
    refine z_aload_n hc dX9_isAsSeen_52 2 rfl rfl ?_
    refine z_getR (x := 66) hc (ci := 9) (k := 7) (by decide) (by decide) zly9 lC1 (zkC lC1) wFX9_49 rfl dX9_isAsSeen_53 rfl (by decide) ?_
    refine z_getR (x := 68) hc (ci := 5) (k := 1) (by decide) (by decide) zly5 lC66 (zkC lC66) wFX9_347 rfl dX9_isAsSeen_56 rfl (by decide) ?_
    refine z_iload_n hc dX9_isAsSeen_59 4 rfl rfl ?_
    refine zJ.chk _ (fun h5 => ?_)
    refine z_iald (k := (ix v2)) hc lC68 (zkC lC68) h5 rfl dX9_isAsSeen_60 ?_
    refine z_icmp_lt (tgt := 68) hc dX9_isAsSeen_61 (by decide) _ (fun h6 => ?_) (fun h6 => ?_)
    · refine z_iconst (v := 0) hc dX9_isAsSeen_68 rfl ?_
      refine zJ.sub (L' := [(0, .ref 1), (1, .int v1), (2, .int v2)]) [2, 3, 4] rfl ?_
      exact sOW_isAsSeen_69 hc hRm hr2 v1 v2 0 _
    · refine z_iconst (v := 1) hc dX9_isAsSeen_64 rfl ?_
      refine z_goto (tgt := 69) hc dX9_isAsSeen_65 (by decide) ?_
      refine zJ.sub (L' := [(0, .ref 1), (1, .int v1), (2, .int v2)]) [2, 3, 4] rfl ?_
      exact sOW_isAsSeen_69 hc hRm hr2 v1 v2 1 _
set_option maxRecDepth 100000 in
set_option maxHeartbeats 4000000 in
theorem sOW_isAsSeen_2 {fin : Int32 × zM} (hc : zCx p s mi args meth c (wC D b) m0 RX9 cX9_isAsSeen 5 (some .boolean)) (hRm : R.frames = 3 ∧ R.locals = 76 ∧ R.cells = zc (wC D b) m0 fin.2 ∧ R.slots = zs (wC D b) m0 fin.2) : ∀ (zf : Nat) (v1 : Int32) (v2 : Int32) (u : zM), zJ eI p l e R s mi args below meth c (wC D b) m0 5 fin 2 [(0, .ref 1), (1, .int v1), (2, .int v2)] [] u (OW_isAsSeen_2 zf v1 v2 u) := by
  intro zf
  induction zf with
  | zero => intro v1 v2 u; exact zJ.nil
  | succ zf ih => intro v1 v2 u; exact sOW_isAsSeen_2b hc hRm ih v1 v2 u
set_option maxRecDepth 100000 in
set_option maxHeartbeats 4000000 in
theorem sOW_isAsSeen : ∀ (v1 : Int32) (u : zM) r m1, OW_isAsSeen v1 u = some (r, m1) → zMet l (wC D b) 3 76 yX9_isAsSeen cX9_isAsSeen 5 (some .boolean) [.ref 1, .int v1] u (eI r) m1 := by
  intro v1 u
  refine zMet.of (L := [(0, .ref 1), (1, .int v1)]) RX9 (by decide +kernel) rfl (Nat.le_of_ble_eq_true rfl) (fun h => by cases h) rfl (fun p e s mi args below meth c R fin hc hin hRm => ?_)
  unfold OW_isAsSeen
  refine z_iconst (v := 0) hc dX9_isAsSeen_0 rfl ?_
  refine z_istore_n (L' := [(2, .int 0), (0, .ref 1), (1, .int v1)]) hc dX9_isAsSeen_1 rfl (by decide) rfl rfl ?_
  refine zJ.sub (L' := [(0, .ref 1), (1, .int v1), (2, .int 0)]) [1, 2, 0] rfl ?_
  exact sOW_isAsSeen_2 hc hRm zF v1 0 _
set_option maxRecDepth 100000 in
set_option maxHeartbeats 4000000 in
theorem sOW_rains_4b {fin : Int32 × zM} (hc : zCx p s mi args meth c (wC D b) m0 RX9 cX9_rains 3 (some .int)) (hRm : R.frames = 4 ∧ R.locals = 100 ∧ R.cells = zc (wC D b) m0 fin.2 ∧ R.slots = zs (wC D b) m0 fin.2) {zr4 : Int32 → Int32 → zM → Option (Int32 × zM)} (hr4 : ∀ (v1 : Int32) (v2 : Int32) (u : zM), zJ eI p l e R s mi args below meth c (wC D b) m0 3 fin 4 [(0, .ref 1), (1, .int v1), (2, .int v2)] [] u (zr4 v1 v2 u)) (v1 : Int32) (v2 : Int32) (u : zM) : zJ eI p l e R s mi args below meth c (wC D b) m0 3 fin 4 [(0, .ref 1), (1, .int v1), (2, .int v2)] [] u (OW_rains_4b zr4 v1 v2 u) := by
  unfold OW_rains_4b
  refine z_iload_n hc dX9_rains_4 2 rfl rfl ?_
  refine z_bipush (v := 9) hc dX9_rains_5 rfl ?_
  refine z_icmp_gt (tgt := 30) hc dX9_rains_7 (by decide) _ (fun h1 => ?_) (fun h1 => ?_)
  · refine z_iload_n hc dX9_rains_30 1 rfl rfl ?_
    exact z_iret hc dX9_rains_31
  · refine z_aload_n hc dX9_rains_10 0 rfl rfl ?_
    refine z_iload_n hc dX9_rains_11 2 rfl rfl ?_
    refine z_callV (av := [.int v2]) (enc' := eI) hc rfl (sOW_isAsSeen v2 _) (ci := 9) (by decide) lC1 (zkC lC1) rfl wMX9_337 hpyX9_isAsSeen hmyX9_isAsSeen (rm_ok hRm (Nat.le_of_ble_eq_true rfl) (Nat.le_of_ble_eq_true rfl)) (Nat.le_of_ble_eq_true rfl) hRm.2.2 dX9_rains_12 (fun c1 u1 f1 => ?_)
    refine z_if_eq (tgt := 24) hc dX9_rains_15 (by decide) _ (fun h2 => ?_) (fun h2 => ?_)
    · refine z_iinc (L' := [(2, .int (v2 + 1)), (0, .ref 1), (1, .int v1)]) hc dX9_rains_24 2 rfl (v := (v2 + 1)) rfl (by decide) rfl rfl ?_
      refine z_goto (tgt := 4) hc dX9_rains_27 (by decide) ?_
      refine zJ.sub (L' := [(0, .ref 1), (1, .int v1), (2, .int (v2 + 1))]) [1, 2, 0] rfl ?_
      exact hr4 v1 (v2 + 1) _
    · refine z_iload_n hc dX9_rains_18 1 rfl rfl ?_
      refine z_iconst (v := 1) hc dX9_rains_19 rfl ?_
      refine z_iload_n hc dX9_rains_20 2 rfl rfl ?_
      refine z_ishl hc dX9_rains_21 ?_
      refine z_ior hc dX9_rains_22 ?_
      refine zJ.letI (fun x1 e1 => ?_)
      refine z_istore_n (L' := [(1, .int x1), (0, .ref 1), (2, .int v2)]) hc dX9_rains_23 rfl (by decide) rfl rfl ?_
      refine z_iinc (L' := [(2, .int (v2 + 1)), (1, .int x1), (0, .ref 1)]) hc dX9_rains_24 2 rfl (v := (v2 + 1)) rfl (by decide) rfl rfl ?_
      refine z_goto (tgt := 4) hc dX9_rains_27 (by decide) ?_
      refine zJ.sub (L' := [(0, .ref 1), (1, .int x1), (2, .int (v2 + 1))]) [2, 1, 0] rfl ?_
      exact hr4 x1 (v2 + 1) _
set_option maxRecDepth 100000 in
set_option maxHeartbeats 4000000 in
theorem sOW_rains_4 {fin : Int32 × zM} (hc : zCx p s mi args meth c (wC D b) m0 RX9 cX9_rains 3 (some .int)) (hRm : R.frames = 4 ∧ R.locals = 100 ∧ R.cells = zc (wC D b) m0 fin.2 ∧ R.slots = zs (wC D b) m0 fin.2) : ∀ (zf : Nat) (v1 : Int32) (v2 : Int32) (u : zM), zJ eI p l e R s mi args below meth c (wC D b) m0 3 fin 4 [(0, .ref 1), (1, .int v1), (2, .int v2)] [] u (OW_rains_4 zf v1 v2 u) := by
  intro zf
  induction zf with
  | zero => intro v1 v2 u; exact zJ.nil
  | succ zf ih => intro v1 v2 u; exact sOW_rains_4b hc hRm ih v1 v2 u
set_option maxRecDepth 100000 in
set_option maxHeartbeats 4000000 in
theorem sOW_rains : ∀ (u : zM) r m1, OW_rains u = some (r, m1) → zMet l (wC D b) 4 100 yX9_rains cX9_rains 3 (some .int) [.ref 1] u (eI r) m1 := by
  intro u
  refine zMet.of (L := [(0, .ref 1)]) RX9 (by decide +kernel) rfl (Nat.le_of_ble_eq_true rfl) (fun h => by cases h) rfl (fun p e s mi args below meth c R fin hc hin hRm => ?_)
  unfold OW_rains
  refine z_iconst (v := 0) hc dX9_rains_0 rfl ?_
  refine z_istore_n (L' := [(1, .int 0), (0, .ref 1)]) hc dX9_rains_1 rfl (by decide) rfl rfl ?_
  refine z_iconst (v := 0) hc dX9_rains_2 rfl ?_
  refine z_istore_n (L' := [(2, .int 0), (1, .int 0), (0, .ref 1)]) hc dX9_rains_3 rfl (by decide) rfl rfl ?_
  refine zJ.sub (L' := [(0, .ref 1), (1, .int 0), (2, .int 0)]) [2, 1, 0] rfl ?_
  exact sOW_rains_4 hc hRm zF 0 0 _
set_option maxRecDepth 100000 in
set_option maxHeartbeats 4000000 in
theorem sOW_fillTomorrow_2b {fin : Unit × zM} (hc : zCx p s mi args meth c (wC D b) m0 RX9 cX9_fillTomorrow 3 none) (hRm : R.frames = 3 ∧ R.locals = 76 ∧ R.cells = zc (wC D b) m0 fin.2 ∧ R.slots = zs (wC D b) m0 fin.2) {zr2 : Int32 → Int32 → zM → Option (Unit × zM)} (hr2 : ∀ (v1 : Int32) (v2 : Int32) (u : zM), zJ eV p l e R s mi args below meth c (wC D b) m0 3 fin 2 [(0, .ref 1), (1, .int v1), (2, .int v2)] [] u (zr2 v1 v2 u)) (v1 : Int32) (v2 : Int32) (u : zM) : zJ eV p l e R s mi args below meth c (wC D b) m0 3 fin 2 [(0, .ref 1), (1, .int v1), (2, .int v2)] [] u (OW_fillTomorrow_2b zr2 v1 v2 u) := by
  unfold OW_fillTomorrow_2b
  refine z_iload_n hc dX9_fillTomorrow_2 2 rfl rfl ?_
  refine z_bipush (v := 9) hc dX9_fillTomorrow_3 rfl ?_
  refine z_icmp_gt (tgt := 45) hc dX9_fillTomorrow_5 (by decide) _ (fun h1 => ?_) (fun h1 => ?_)
  · exact z_vret hc dX9_fillTomorrow_45
  · refine z_aload_n hc dX9_fillTomorrow_8 0 rfl rfl ?_
    refine z_getR (x := 84) hc (ci := 9) (k := 11) (by decide) (by decide) zly9 lC1 (zkC lC1) wFX9_70 rfl dX9_fillTomorrow_9 rfl (by decide) ?_
    refine z_iload_n hc dX9_fillTomorrow_12 2 rfl rfl ?_
    refine z_aload_n hc dX9_fillTomorrow_13 0 rfl rfl ?_
    refine zJ.chk _ (fun h2 => ?_)
    refine z_getR (x := (gR u 1 1)) hc (ci := 9) (k := 1) (by decide) (by decide) zly9 lC1 (zkC lC1) wFX9_19 rfl dX9_fillTomorrow_14 rfl (lC_pos h2) ?_
    refine z_iload_n hc dX9_fillTomorrow_17 1 rfl rfl ?_
    refine z_aload_n hc dX9_fillTomorrow_18 0 rfl rfl ?_
    refine z_getR (x := 54) hc (ci := 9) (k := 5) (by decide) (by decide) zly9 lC1 (zkC lC1) wFX9_39 rfl dX9_fillTomorrow_19 rfl (by decide) ?_
    refine z_getR (x := 55) hc (ci := 7) (k := 0) (by decide) (by decide) zly7 lC54 (zkC lC54) wFX9_135 rfl dX9_fillTomorrow_22 rfl (by decide) ?_
    refine z_iload_n hc dX9_fillTomorrow_25 1 rfl rfl ?_
    refine zJ.chk _ (fun h3 => ?_)
    refine z_iald (k := (ix v1)) hc lC55 (zkC lC55) h3 rfl dX9_fillTomorrow_26 ?_
    refine z_iload_n hc dX9_fillTomorrow_27 2 rfl rfl ?_
    refine z_aload_n hc dX9_fillTomorrow_28 0 rfl rfl ?_
    refine z_getR (x := 54) hc (ci := 9) (k := 5) (by decide) (by decide) zly9 lC1 (zkC lC1) wFX9_39 rfl dX9_fillTomorrow_29 rfl (by decide) ?_
    refine z_getI hc (ci := 7) (k := 5) (by decide) (by decide) zly7 lC54 (zkC lC54) wFX9_181 rfl dX9_fillTomorrow_32 ?_
    refine z_callV (av := [.int v1, .int (gI u 55 (ix v1)), .int v2, .int (gI u 54 5)]) (enc' := eI) hc rfl (sCo_waterBehind (gR u 1 1) v1 (gI u 55 (ix v1)) v2 (gI u 54 5) _) (ci := 0) (by decide) h2 (zkC h2) rfl wMX9_343 hpyX0_waterBehind hmyX0_waterBehind (rm_ok hRm (Nat.le_of_ble_eq_true rfl) (Nat.le_of_ble_eq_true rfl)) (Nat.le_of_ble_eq_true rfl) hRm.2.2 dX9_fillTomorrow_35 (fun c1 u1 f1 => ?_)
    refine zJ.chk _ (fun h4 => ?_)
    refine z_iast (k := (ix v2)) hc lC84 (zkC lC84) h4 rfl dX9_fillTomorrow_38 ?_
    refine zJ.letM (fun u2 e1 => ?_)
    refine z_iinc (L' := [(2, .int (v2 + 1)), (0, .ref 1), (1, .int v1)]) hc dX9_fillTomorrow_39 2 rfl (v := (v2 + 1)) rfl (by decide) rfl rfl ?_
    refine z_goto (tgt := 2) hc dX9_fillTomorrow_42 (by decide) ?_
    refine zJ.sub (L' := [(0, .ref 1), (1, .int v1), (2, .int (v2 + 1))]) [1, 2, 0] rfl ?_
    exact hr2 v1 (v2 + 1) _
set_option maxRecDepth 100000 in
set_option maxHeartbeats 4000000 in
theorem sOW_fillTomorrow_2 {fin : Unit × zM} (hc : zCx p s mi args meth c (wC D b) m0 RX9 cX9_fillTomorrow 3 none) (hRm : R.frames = 3 ∧ R.locals = 76 ∧ R.cells = zc (wC D b) m0 fin.2 ∧ R.slots = zs (wC D b) m0 fin.2) : ∀ (zf : Nat) (v1 : Int32) (v2 : Int32) (u : zM), zJ eV p l e R s mi args below meth c (wC D b) m0 3 fin 2 [(0, .ref 1), (1, .int v1), (2, .int v2)] [] u (OW_fillTomorrow_2 zf v1 v2 u) := by
  intro zf
  induction zf with
  | zero => intro v1 v2 u; exact zJ.nil
  | succ zf ih => intro v1 v2 u; exact sOW_fillTomorrow_2b hc hRm ih v1 v2 u
set_option maxRecDepth 100000 in
set_option maxHeartbeats 4000000 in
theorem sOW_fillTomorrow : ∀ (v1 : Int32) (u : zM) r m1, OW_fillTomorrow v1 u = some (r, m1) → zMet l (wC D b) 3 76 yX9_fillTomorrow cX9_fillTomorrow 3 none [.ref 1, .int v1] u (eV r) m1 := by
  intro v1 u
  refine zMet.of (L := [(0, .ref 1), (1, .int v1)]) RX9 (by decide +kernel) rfl (Nat.le_of_ble_eq_true rfl) (fun h => by cases h) rfl (fun p e s mi args below meth c R fin hc hin hRm => ?_)
  unfold OW_fillTomorrow
  refine z_iconst (v := 0) hc dX9_fillTomorrow_0 rfl ?_
  refine z_istore_n (L' := [(2, .int 0), (0, .ref 1), (1, .int v1)]) hc dX9_fillTomorrow_1 rfl (by decide) rfl rfl ?_
  refine zJ.sub (L' := [(0, .ref 1), (1, .int v1), (2, .int 0)]) [1, 2, 0] rfl ?_
  exact sOW_fillTomorrow_2 hc hRm zF v1 0 _
set_option maxRecDepth 100000 in
set_option maxHeartbeats 4000000 in
theorem sOW_rainsWithSoMuch_5b {fin : Int32 × zM} (hc : zCx p s mi args meth c (wC D b) m0 RX9 cX9_rainsWithSoMuch 5 (some .int)) (hRm : R.frames = 0 ∧ R.locals = 0 ∧ R.cells = zc (wC D b) m0 fin.2 ∧ R.slots = zs (wC D b) m0 fin.2) {zr5 : Int32 → Int32 → Int32 → Int32 → zM → Option (Int32 × zM)} (hr5 : ∀ (v1 : Int32) (v2 : Int32) (v3 : Int32) (v4 : Int32) (u : zM), zJ eI p l e R s mi args below meth c (wC D b) m0 5 fin 5 [(0, .ref 1), (1, .int v1), (2, .int v2), (3, .int v3), (4, .int v4)] [] u (zr5 v1 v2 v3 v4 u)) (v1 : Int32) (v2 : Int32) (v3 : Int32) (v4 : Int32) (u : zM) : zJ eI p l e R s mi args below meth c (wC D b) m0 5 fin 5 [(0, .ref 1), (1, .int v1), (2, .int v2), (3, .int v3), (4, .int v4)] [] u (OW_rainsWithSoMuch_5b zr5 v1 v2 v3 v4 u) := by
  unfold OW_rainsWithSoMuch_5b
  refine z_iload hc dX9_rainsWithSoMuch_5 4 rfl ?_
  refine z_bipush (v := 9) hc dX9_rainsWithSoMuch_7 rfl ?_
  refine z_icmp_gt (tgt := 41) hc dX9_rainsWithSoMuch_9 (by decide) _ (fun h1 => ?_) (fun h1 => ?_)
  · refine z_iload_n hc dX9_rainsWithSoMuch_41 3 rfl rfl ?_
    exact z_iret hc dX9_rainsWithSoMuch_42
  · refine z_iload_n hc dX9_rainsWithSoMuch_12 2 rfl rfl ?_
    refine z_iload hc dX9_rainsWithSoMuch_13 4 rfl ?_
    refine z_ishr hc dX9_rainsWithSoMuch_15 ?_
    refine z_iconst (v := 1) hc dX9_rainsWithSoMuch_16 rfl ?_
    refine z_iand hc dX9_rainsWithSoMuch_17 ?_
    refine z_if_eq (tgt := 35) hc dX9_rainsWithSoMuch_18 (by decide) _ (fun h2 => ?_) (fun h2 => ?_)
    · refine z_iinc (L' := [(4, .int (v4 + 1)), (0, .ref 1), (1, .int v1), (2, .int v2), (3, .int v3)]) hc dX9_rainsWithSoMuch_35 4 rfl (v := (v4 + 1)) rfl (by decide) rfl rfl ?_
      refine z_goto (tgt := 5) hc dX9_rainsWithSoMuch_38 (by decide) ?_
      refine zJ.sub (L' := [(0, .ref 1), (1, .int v1), (2, .int v2), (3, .int v3), (4, .int (v4 + 1))]) [1, 2, 3, 4, 0] rfl ?_
      exact hr5 v1 v2 v3 (v4 + 1) _
    · refine z_aload_n hc dX9_rainsWithSoMuch_21 0 rfl rfl ?_
      refine z_getR (x := 84) hc (ci := 9) (k := 11) (by decide) (by decide) zly9 lC1 (zkC lC1) wFX9_70 rfl dX9_rainsWithSoMuch_22 rfl (by decide) ?_
      refine z_iload hc dX9_rainsWithSoMuch_25 4 rfl ?_
      refine zJ.chk _ (fun h3 => ?_)
      refine z_iald (k := (ix v4)) hc lC84 (zkC lC84) h3 rfl dX9_rainsWithSoMuch_27 ?_
      refine z_iload_n hc dX9_rainsWithSoMuch_28 1 rfl rfl ?_
      refine z_icmp_lt (tgt := 35) hc dX9_rainsWithSoMuch_29 (by decide) _ (fun h4 => ?_) (fun h4 => ?_)
      · refine z_iinc (L' := [(4, .int (v4 + 1)), (0, .ref 1), (1, .int v1), (2, .int v2), (3, .int v3)]) hc dX9_rainsWithSoMuch_35 4 rfl (v := (v4 + 1)) rfl (by decide) rfl rfl ?_
        refine z_goto (tgt := 5) hc dX9_rainsWithSoMuch_38 (by decide) ?_
        refine zJ.sub (L' := [(0, .ref 1), (1, .int v1), (2, .int v2), (3, .int v3), (4, .int (v4 + 1))]) [1, 2, 3, 4, 0] rfl ?_
        exact hr5 v1 v2 v3 (v4 + 1) _
      · refine z_iinc (L' := [(3, .int (v3 + 1)), (0, .ref 1), (1, .int v1), (2, .int v2), (4, .int v4)]) hc dX9_rainsWithSoMuch_32 3 rfl (v := (v3 + 1)) rfl (by decide) rfl rfl ?_
        refine z_iinc (L' := [(4, .int (v4 + 1)), (3, .int (v3 + 1)), (0, .ref 1), (1, .int v1), (2, .int v2)]) hc dX9_rainsWithSoMuch_35 4 rfl (v := (v4 + 1)) rfl (by decide) rfl rfl ?_
        refine z_goto (tgt := 5) hc dX9_rainsWithSoMuch_38 (by decide) ?_
        refine zJ.sub (L' := [(0, .ref 1), (1, .int v1), (2, .int v2), (3, .int (v3 + 1)), (4, .int (v4 + 1))]) [2, 3, 4, 1, 0] rfl ?_
        exact hr5 v1 v2 (v3 + 1) (v4 + 1) _
set_option maxRecDepth 100000 in
set_option maxHeartbeats 4000000 in
theorem sOW_rainsWithSoMuch_5 {fin : Int32 × zM} (hc : zCx p s mi args meth c (wC D b) m0 RX9 cX9_rainsWithSoMuch 5 (some .int)) (hRm : R.frames = 0 ∧ R.locals = 0 ∧ R.cells = zc (wC D b) m0 fin.2 ∧ R.slots = zs (wC D b) m0 fin.2) : ∀ (zf : Nat) (v1 : Int32) (v2 : Int32) (v3 : Int32) (v4 : Int32) (u : zM), zJ eI p l e R s mi args below meth c (wC D b) m0 5 fin 5 [(0, .ref 1), (1, .int v1), (2, .int v2), (3, .int v3), (4, .int v4)] [] u (OW_rainsWithSoMuch_5 zf v1 v2 v3 v4 u) := by
  intro zf
  induction zf with
  | zero => intro v1 v2 v3 v4 u; exact zJ.nil
  | succ zf ih => intro v1 v2 v3 v4 u; exact sOW_rainsWithSoMuch_5b hc hRm ih v1 v2 v3 v4 u
set_option maxRecDepth 100000 in
set_option maxHeartbeats 4000000 in
theorem sOW_rainsWithSoMuch : ∀ (v1 : Int32) (v2 : Int32) (u : zM) r m1, OW_rainsWithSoMuch v1 v2 u = some (r, m1) → zMet l (wC D b) 0 0 yX9_rainsWithSoMuch cX9_rainsWithSoMuch 5 (some .int) [.ref 1, .int v1, .int v2] u (eI r) m1 := by
  intro v1 v2 u
  refine zMet.of (L := [(0, .ref 1), (1, .int v1), (2, .int v2)]) RX9 (by decide +kernel) rfl (Nat.le_of_ble_eq_true rfl) (fun h => by cases h) rfl (fun p e s mi args below meth c R fin hc hin hRm => ?_)
  unfold OW_rainsWithSoMuch
  refine z_iconst (v := 0) hc dX9_rainsWithSoMuch_0 rfl ?_
  refine z_istore_n (L' := [(3, .int 0), (0, .ref 1), (1, .int v1), (2, .int v2)]) hc dX9_rainsWithSoMuch_1 rfl (by decide) rfl rfl ?_
  refine z_iconst (v := 0) hc dX9_rainsWithSoMuch_2 rfl ?_
  refine z_istore (L' := [(4, .int 0), (3, .int 0), (0, .ref 1), (1, .int v1), (2, .int v2)]) hc dX9_rainsWithSoMuch_3 (by decide) rfl rfl ?_
  refine zJ.sub (L' := [(0, .ref 1), (1, .int v1), (2, .int v2), (3, .int 0), (4, .int 0)]) [2, 3, 4, 1, 0] rfl ?_
  exact sOW_rainsWithSoMuch_5 hc hRm zF v1 v2 0 0 _
set_option maxRecDepth 100000 in
set_option maxHeartbeats 4000000 in
theorem sOW_look_42b {fin : Int32 × zM} (hc : zCx p s mi args meth c (wC D b) m0 RX9 cX9_look 9 (some .int)) (hRm : R.frames = 5 ∧ R.locals = 122 ∧ R.cells = zc (wC D b) m0 fin.2 ∧ R.slots = zs (wC D b) m0 fin.2) {zr18 : Int32 → Int32 → Int32 → Int32 → Int32 → zM → Option (Int32 × zM)} (hr18 : ∀ (v1 : Int32) (v2 : Int32) (v3 : Int32) (v4 : Int32) (v5 : Int32) (u : zM), zJ eI p l e R s mi args below meth c (wC D b) m0 9 fin 18 [(0, .ref 1), (1, .int v1), (2, .int v2), (3, .int v3), (4, .int v4), (5, .int v5)] [] u (zr18 v1 v2 v3 v4 v5 u)) {zr42 : Int32 → Int32 → Int32 → Int32 → Int32 → Int32 → zM → Option (Int32 × zM)} (hr42 : ∀ (v1 : Int32) (v2 : Int32) (v3 : Int32) (v4 : Int32) (v5 : Int32) (v6 : Int32) (u : zM), zJ eI p l e R s mi args below meth c (wC D b) m0 9 fin 42 [(0, .ref 1), (1, .int v1), (2, .int v2), (3, .int v3), (4, .int v4), (5, .int v5), (6, .int v6)] [] u (zr42 v1 v2 v3 v4 v5 v6 u)) (v1 : Int32) (v2 : Int32) (v3 : Int32) (v4 : Int32) (v5 : Int32) (v6 : Int32) (u : zM) : zJ eI p l e R s mi args below meth c (wC D b) m0 9 fin 42 [(0, .ref 1), (1, .int v1), (2, .int v2), (3, .int v3), (4, .int v4), (5, .int v5), (6, .int v6)] [] u (OW_look_42b zr18 zr42 v1 v2 v3 v4 v5 v6 u) := by
  unfold OW_look_42b
  refine z_iload hc dX9_look_42 6 rfl ?_
  refine z_bipush (v := 9) hc dX9_look_44 rfl ?_
  refine z_icmp_gt (tgt := 94) hc dX9_look_46 (by decide) _ (fun h1 => ?_) (fun h1 => ?_)
  · refine z_iinc (L' := [(5, .int (v5 + 1)), (0, .ref 1), (1, .int v1), (2, .int v2), (3, .int v3), (4, .int v4), (6, .int v6)]) hc dX9_look_94 5 rfl (v := (v5 + 1)) rfl (by decide) rfl rfl ?_
    refine z_goto (tgt := 18) hc dX9_look_97 (by decide) ?_
    refine zJ.sub (L' := [(0, .ref 1), (1, .int v1), (2, .int v2), (3, .int v3), (4, .int v4), (5, .int (v5 + 1))]) [1, 2, 3, 4, 5, 0] rfl ?_
    exact hr18 v1 v2 v3 v4 (v5 + 1) _
  · refine z_aload_n hc dX9_look_49 0 rfl rfl ?_
    refine z_iload hc dX9_look_50 6 rfl ?_
    refine z_iload_n hc dX9_look_52 1 rfl rfl ?_
    refine z_callV (av := [.int v6, .int v1]) (enc' := eI) hc rfl (sOW_rainsWithSoMuch v6 v1 _) (ci := 9) (by decide) lC1 (zkC lC1) rfl wMX9_359 hpyX9_rainsWithSoMuch hmyX9_rainsWithSoMuch (rm_ok hRm (Nat.le_of_ble_eq_true rfl) (Nat.le_of_ble_eq_true rfl)) (Nat.le_of_ble_eq_true rfl) hRm.2.2 dX9_look_53 (fun c1 u1 f1 => ?_)
    refine z_istore (L' := [(7, .int c1), (0, .ref 1), (1, .int v1), (2, .int v2), (3, .int v3), (4, .int v4), (5, .int v5), (6, .int v6)]) hc dX9_look_56 (by decide) rfl rfl ?_
    refine z_iload hc dX9_look_58 0 rfl ?_
    refine z_iload_n hc dX9_look_60 3 rfl rfl ?_
    refine z_iload hc dX9_look_61 0 rfl ?_
    refine z_isub hc dX9_look_63 ?_
    refine z_callS (av := [.int c1, .int (v2 - c1)]) (enc' := eI) hc rfl (sJm_max (w := wC D b) rfl c1 (v2 - c1) _) wMX9_362 hpyJ9_max_7cf53 hmyJ9_max_7cf53 (rm_ok hRm (Nat.le_of_ble_eq_true rfl) (Nat.le_of_ble_eq_true rfl)) (Nat.le_of_ble_eq_true rfl) hRm.2.2 dX9_look_64 (fun c2 u2 f2 => ?_)
    refine z_istore (L' := [(8, .int c2), (7, .int c1), (0, .ref 1), (1, .int v1), (2, .int v2), (3, .int v3), (4, .int v4), (5, .int v5), (6, .int v6)]) hc dX9_look_67 (by decide) rfl rfl ?_
    refine z_iload hc dX9_look_69 0 rfl ?_
    refine z_iload_n hc dX9_look_71 5 rfl rfl ?_
    refine z_icmp_ge (tgt := 88) hc dX9_look_72 (by decide) _ (fun h2 => ?_) (fun h2 => ?_)
    · refine z_iinc (L' := [(6, .int (v6 + 1)), (8, .int c2), (7, .int c1), (0, .ref 1), (1, .int v1), (2, .int v2), (3, .int v3), (4, .int v4), (5, .int v5)]) hc dX9_look_88 8 rfl (v := (v6 + 1)) rfl (by decide) rfl rfl ?_
      refine z_goto (tgt := 42) hc dX9_look_91 (by decide) ?_
      refine zJ.sub (L' := [(0, .ref 1), (1, .int v1), (2, .int v2), (3, .int v3), (4, .int v4), (5, .int v5), (6, .int (v6 + 1))]) [3, 4, 5, 6, 7, 8, 0] rfl ?_
      exact hr42 v1 v2 v3 v4 v5 (v6 + 1) _
    · refine z_iload hc dX9_look_75 0 rfl ?_
      refine z_istore_n (L' := [(3, .int c2), (8, .int c2), (7, .int c1), (0, .ref 1), (1, .int v1), (2, .int v2), (4, .int v4), (5, .int v5), (6, .int v6)]) hc dX9_look_77 rfl (by decide) rfl rfl ?_
      refine z_bipush (v := 10) hc dX9_look_78 rfl ?_
      refine z_iload hc dX9_look_80 7 rfl ?_
      refine z_imul hc dX9_look_82 ?_
      refine z_iload hc dX9_look_83 8 rfl ?_
      refine z_iadd hc dX9_look_85 ?_
      refine zJ.letI (fun x1 e1 => ?_)
      refine z_istore (L' := [(4, .int x1), (3, .int c2), (8, .int c2), (7, .int c1), (0, .ref 1), (1, .int v1), (2, .int v2), (5, .int v5), (6, .int v6)]) hc dX9_look_86 (by decide) rfl rfl ?_
      refine z_iinc (L' := [(6, .int (v6 + 1)), (4, .int x1), (3, .int c2), (8, .int c2), (7, .int c1), (0, .ref 1), (1, .int v1), (2, .int v2), (5, .int v5)]) hc dX9_look_88 8 rfl (v := (v6 + 1)) rfl (by decide) rfl rfl ?_
      refine z_goto (tgt := 42) hc dX9_look_91 (by decide) ?_
      refine zJ.sub (L' := [(0, .ref 1), (1, .int v1), (2, .int v2), (3, .int c2), (4, .int x1), (5, .int v5), (6, .int (v6 + 1))]) [5, 6, 7, 2, 1, 8, 0] rfl ?_
      exact hr42 v1 v2 c2 x1 v5 (v6 + 1) _
set_option maxRecDepth 100000 in
set_option maxHeartbeats 4000000 in
theorem sOW_look_42 {fin : Int32 × zM} (hc : zCx p s mi args meth c (wC D b) m0 RX9 cX9_look 9 (some .int)) (hRm : R.frames = 5 ∧ R.locals = 122 ∧ R.cells = zc (wC D b) m0 fin.2 ∧ R.slots = zs (wC D b) m0 fin.2) {zr18 : Int32 → Int32 → Int32 → Int32 → Int32 → zM → Option (Int32 × zM)} (hr18 : ∀ (v1 : Int32) (v2 : Int32) (v3 : Int32) (v4 : Int32) (v5 : Int32) (u : zM), zJ eI p l e R s mi args below meth c (wC D b) m0 9 fin 18 [(0, .ref 1), (1, .int v1), (2, .int v2), (3, .int v3), (4, .int v4), (5, .int v5)] [] u (zr18 v1 v2 v3 v4 v5 u)) : ∀ (zf : Nat) (v1 : Int32) (v2 : Int32) (v3 : Int32) (v4 : Int32) (v5 : Int32) (v6 : Int32) (u : zM), zJ eI p l e R s mi args below meth c (wC D b) m0 9 fin 42 [(0, .ref 1), (1, .int v1), (2, .int v2), (3, .int v3), (4, .int v4), (5, .int v5), (6, .int v6)] [] u (OW_look_42 zf zr18 v1 v2 v3 v4 v5 v6 u) := by
  intro zf
  induction zf with
  | zero => intro v1 v2 v3 v4 v5 v6 u; exact zJ.nil
  | succ zf ih => intro v1 v2 v3 v4 v5 v6 u; exact sOW_look_42b hc hRm hr18 ih v1 v2 v3 v4 v5 v6 u
set_option maxRecDepth 100000 in
set_option maxHeartbeats 4000000 in
theorem sOW_look_18b {fin : Int32 × zM} (hc : zCx p s mi args meth c (wC D b) m0 RX9 cX9_look 9 (some .int)) (hRm : R.frames = 5 ∧ R.locals = 122 ∧ R.cells = zc (wC D b) m0 fin.2 ∧ R.slots = zs (wC D b) m0 fin.2) {zr18 : Int32 → Int32 → Int32 → Int32 → Int32 → zM → Option (Int32 × zM)} (hr18 : ∀ (v1 : Int32) (v2 : Int32) (v3 : Int32) (v4 : Int32) (v5 : Int32) (u : zM), zJ eI p l e R s mi args below meth c (wC D b) m0 9 fin 18 [(0, .ref 1), (1, .int v1), (2, .int v2), (3, .int v3), (4, .int v4), (5, .int v5)] [] u (zr18 v1 v2 v3 v4 v5 u)) (v1 : Int32) (v2 : Int32) (v3 : Int32) (v4 : Int32) (v5 : Int32) (u : zM) : zJ eI p l e R s mi args below meth c (wC D b) m0 9 fin 18 [(0, .ref 1), (1, .int v1), (2, .int v2), (3, .int v3), (4, .int v4), (5, .int v5)] [] u (OW_look_18b zr18 v1 v2 v3 v4 v5 u) := by
  unfold OW_look_18b
  refine z_iload hc dX9_look_18 5 rfl ?_
  refine z_aload_n hc dX9_look_20 0 rfl rfl ?_
  refine zJ.chk _ (fun h1 => ?_)
  refine z_getR (x := (gR u 1 1)) hc (ci := 9) (k := 1) (by decide) (by decide) zly9 lC1 (zkC lC1) wFX9_19 rfl dX9_look_21 rfl (lC_pos h1) ?_
  refine z_getR (x := ((gR u 1 1) + 1)) hc (ci := 0) (k := 0) (by decide) (by decide) zly0 h1 (zkC h1) wFX9_115 rfl dX9_look_24 (rfC_off (off := 1) h1 rfl (by decide)) (Nat.le_add_left_of_le (by decide)) ?_
  refine z_getI hc (ci := 3) (k := 1) (by decide) (by decide) zly3 (lyC_10_1 h1) (zkC (lyC_10_1 h1)) wFX9_119 rfl dX9_look_27 ?_
  refine z_icmp_ge (tgt := 100) hc dX9_look_30 (by decide) _ (fun h2 => ?_) (fun h2 => ?_)
  · refine z_iload hc dX9_look_100 4 rfl ?_
    exact z_iret hc dX9_look_102
  · refine z_aload_n hc dX9_look_33 0 rfl rfl ?_
    refine z_iload hc dX9_look_34 5 rfl ?_
    refine z_callV (av := [.int v5]) (enc' := eV) hc rfl (sOW_fillTomorrow v5 _) (ci := 9) (by decide) lC1 (zkC lC1) rfl wMX9_355 hpyX9_fillTomorrow hmyX9_fillTomorrow (rm_ok hRm (Nat.le_of_ble_eq_true rfl) (Nat.le_of_ble_eq_true rfl)) (Nat.le_of_ble_eq_true rfl) hRm.2.2 dX9_look_36 (fun c1 u1 f1 => ?_)
    refine z_iconst (v := 1) hc dX9_look_39 rfl ?_
    refine z_istore (L' := [(6, .int 1), (0, .ref 1), (1, .int v1), (2, .int v2), (3, .int v3), (4, .int v4), (5, .int v5)]) hc dX9_look_40 (by decide) rfl rfl ?_
    refine zJ.sub (L' := [(0, .ref 1), (1, .int v1), (2, .int v2), (3, .int v3), (4, .int v4), (5, .int v5), (6, .int 1)]) [1, 2, 3, 4, 5, 6, 0] rfl ?_
    exact sOW_look_42 hc hRm hr18 zF v1 v2 v3 v4 v5 1 _
set_option maxRecDepth 100000 in
set_option maxHeartbeats 4000000 in
theorem sOW_look_18 {fin : Int32 × zM} (hc : zCx p s mi args meth c (wC D b) m0 RX9 cX9_look 9 (some .int)) (hRm : R.frames = 5 ∧ R.locals = 122 ∧ R.cells = zc (wC D b) m0 fin.2 ∧ R.slots = zs (wC D b) m0 fin.2) : ∀ (zf : Nat) (v1 : Int32) (v2 : Int32) (v3 : Int32) (v4 : Int32) (v5 : Int32) (u : zM), zJ eI p l e R s mi args below meth c (wC D b) m0 9 fin 18 [(0, .ref 1), (1, .int v1), (2, .int v2), (3, .int v3), (4, .int v4), (5, .int v5)] [] u (OW_look_18 zf v1 v2 v3 v4 v5 u) := by
  intro zf
  induction zf with
  | zero => intro v1 v2 v3 v4 v5 u; exact zJ.nil
  | succ zf ih => intro v1 v2 v3 v4 v5 u; exact sOW_look_18b hc hRm ih v1 v2 v3 v4 v5 u
set_option maxRecDepth 100000 in
set_option maxHeartbeats 4000000 in
theorem sOW_look : ∀ (u : zM) r m1, OW_look u = some (r, m1) → zMet l (wC D b) 5 122 yX9_look cX9_look 9 (some .int) [.ref 1] u (eI r) m1 := by
  intro u
  refine zMet.of (L := [(0, .ref 1)]) RX9 (by decide +kernel) rfl (Nat.le_of_ble_eq_true rfl) (fun h => by cases h) rfl (fun p e s mi args below meth c R fin hc hin hRm => ?_)
  unfold OW_look
  refine z_aload_n hc dX9_look_0 0 rfl rfl ?_
  refine z_callV (av := []) (enc' := eI) hc rfl (sOW_rains _) (ci := 9) (by decide) lC1 (zkC lC1) rfl wMX9_352 hpyX9_rains hmyX9_rains (rm_ok hRm (Nat.le_of_ble_eq_true rfl) (Nat.le_of_ble_eq_true rfl)) (Nat.le_of_ble_eq_true rfl) hRm.2.2 dX9_look_1 (fun c1 u1 f1 => ?_)
  refine z_istore_n (L' := [(1, .int c1), (0, .ref 1)]) hc dX9_look_4 rfl (by decide) rfl rfl ?_
  refine z_iload_n hc dX9_look_5 0 rfl rfl ?_
  refine z_callS (av := [.int c1]) (enc' := eI) hc rfl (sJi_bitCount (w := wC D b) rfl c1 _) wMX9_307 hpyJ6_bitCount_0f7a4 hmyJ6_bitCount_0f7a4 (rm_ok hRm (Nat.le_of_ble_eq_true rfl) (Nat.le_of_ble_eq_true rfl)) (Nat.le_of_ble_eq_true rfl) hRm.2.2 dX9_look_6 (fun c2 u2 f2 => ?_)
  refine z_istore_n (L' := [(2, .int c2), (1, .int c1), (0, .ref 1)]) hc dX9_look_9 rfl (by decide) rfl rfl ?_
  refine z_iload_n hc dX9_look_10 0 rfl rfl ?_
  refine z_istore_n (L' := [(3, .int c2), (2, .int c2), (1, .int c1), (0, .ref 1)]) hc dX9_look_11 rfl (by decide) rfl rfl ?_
  refine z_iconst (v := (-1)) hc dX9_look_12 rfl ?_
  refine z_istore (L' := [(4, .int (-1)), (3, .int c2), (2, .int c2), (1, .int c1), (0, .ref 1)]) hc dX9_look_13 (by decide) rfl rfl ?_
  refine z_iconst (v := 0) hc dX9_look_15 rfl ?_
  refine z_istore (L' := [(5, .int 0), (4, .int (-1)), (3, .int c2), (2, .int c2), (1, .int c1), (0, .ref 1)]) hc dX9_look_16 (by decide) rfl rfl ?_
  refine zJ.sub (L' := [(0, .ref 1), (1, .int c1), (2, .int c2), (3, .int c2), (4, .int (-1)), (5, .int 0)]) [5, 4, 3, 2, 1, 0] rfl ?_
  exact sOW_look_18 hc hRm zF c1 c2 c2 (-1) 0 _
set_option maxRecDepth 100000 in
set_option maxHeartbeats 4000000 in
theorem sOW_weighWet_b {zn : Nat} {zq : Nat → Int32 → Int32 → Int32 → Int32 → Int32 → zM → Option (Int32 × zM)} (hzq : ∀ (r0 : Nat) (v1 : Int32) (v2 : Int32) (v3 : Int32) (v4 : Int32) (v5 : Int32) (u : zM) r m1, zq r0 v1 v2 v3 v4 v5 u = some (r, m1) → zMet l (wC D b) (3 + zn) (76 + zn * 27) yX9_weighWet cX9_weighWet 8 (some .int) [.ref r0, .int v1, .int v2, .int v3, .int v4, .int v5] u (eI r) m1) : ∀ (r0 : Nat) (v1 : Int32) (v2 : Int32) (v3 : Int32) (v4 : Int32) (v5 : Int32) (u : zM) r m1, OW_weighWet_b zq r0 v1 v2 v3 v4 v5 u = some (r, m1) → zMet l (wC D b) (3 + (zn + 1)) (76 + (zn + 1) * 27) yX9_weighWet cX9_weighWet 8 (some .int) [.ref r0, .int v1, .int v2, .int v3, .int v4, .int v5] u (eI r) m1 := by
  intro r0 v1 v2 v3 v4 v5 u
  refine zMet.of (L := [(0, .ref r0), (1, .int v1), (2, .int v2), (3, .int v3), (4, .int v4), (5, .int v5)]) RX9 (by decide +kernel) rfl (Nat.le_of_ble_eq_true rfl) (fun h => by cases h) rfl (fun p e s mi args below meth c R fin hc hin hRm => ?_)
  unfold OW_weighWet_b
  refine zJ.chk _ (fun h1 => ?_)
  refine z_iload hc dX9_weighWet_0 4 rfl ?_
  refine z_if_gt (tgt := 16) hc dX9_weighWet_2 (by decide) _ (fun h2 => ?_) (fun h2 => ?_)
  · refine z_aload_n hc dX9_weighWet_16 0 rfl rfl ?_
    refine z_iload_n hc dX9_weighWet_17 1 rfl rfl ?_
    refine z_iload_n hc dX9_weighWet_18 2 rfl rfl ?_
    refine z_bipush (v := 9) hc dX9_weighWet_19 rfl ?_
    refine z_iload_n hc dX9_weighWet_21 3 rfl rfl ?_
    refine z_callV (av := [.int v1, .int v2, .int 9, .int v3]) (enc' := eI) hc rfl (sCo_waterBehind r0 v1 v2 9 v3 _) (ci := 0) (by decide) h1 (zkC h1) rfl wMX9_343 hpyX0_waterBehind hmyX0_waterBehind (rm_ok hRm (by omega) (by omega)) (Nat.le_of_ble_eq_true rfl) hRm.2.2 dX9_weighWet_22 (fun c1 u1 f1 => ?_)
    refine z_istore (L' := [(6, .int c1), (0, .ref r0), (1, .int v1), (2, .int v2), (3, .int v3), (4, .int v4), (5, .int v5)]) hc dX9_weighWet_25 (by decide) rfl rfl ?_
    refine z_aload_n hc dX9_weighWet_27 1 rfl rfl ?_
    refine z_iload_n hc dX9_weighWet_28 2 rfl rfl ?_
    refine z_iload_n hc dX9_weighWet_29 3 rfl rfl ?_
    refine z_iconst (v := 0) hc dX9_weighWet_30 rfl ?_
    refine z_iload_n hc dX9_weighWet_31 4 rfl rfl ?_
    refine z_callV (av := [.int v1, .int v2, .int 0, .int v3]) (enc' := eI) hc rfl (sCo_waterBehind r0 v1 v2 0 v3 _) (ci := 0) (by decide) h1 (zkC h1) rfl wMX9_343 hpyX0_waterBehind hmyX0_waterBehind (rm_ok hRm (by omega) (by omega)) (Nat.le_of_ble_eq_true rfl) hRm.2.2 dX9_weighWet_32 (fun c2 u2 f2 => ?_)
    refine z_istore (L' := [(7, .int c2), (6, .int c1), (0, .ref r0), (1, .int v1), (2, .int v2), (3, .int v3), (4, .int v4), (5, .int v5)]) hc dX9_weighWet_35 (by decide) rfl rfl ?_
    refine z_iload hc dX9_weighWet_37 7 rfl ?_
    refine z_aload_n hc dX9_weighWet_39 2 rfl rfl ?_
    refine z_iload_n hc dX9_weighWet_40 3 rfl rfl ?_
    refine z_iload hc dX9_weighWet_41 1 rfl ?_
    refine z_iload_n hc dX9_weighWet_43 5 rfl rfl ?_
    refine z_iconst (v := 1) hc dX9_weighWet_44 rfl ?_
    refine z_iadd hc dX9_weighWet_45 ?_
    refine z_iload hc dX9_weighWet_46 6 rfl ?_
    refine z_iconst (v := 1) hc dX9_weighWet_48 rfl ?_
    refine z_isub hc dX9_weighWet_49 ?_
    refine z_iload hc dX9_weighWet_50 7 rfl ?_
    refine z_callS (av := [.ref r0, .int v1, .int c1, .int (v3 + 1), .int (v4 - 1), .int v5]) (enc' := eI) hc rfl (hzq r0 v1 c1 (v3 + 1) (v4 - 1) v5 _) wMX9_365 hpyX9_weighWet hmyX9_weighWet (rm_ok hRm (by omega) (by omega)) (Nat.le_of_ble_eq_true rfl) hRm.2.2 dX9_weighWet_52 (fun c3 u3 f3 => ?_)
    refine z_imul hc dX9_weighWet_55 ?_
    refine z_bipush (v := 10) hc dX9_weighWet_56 rfl ?_
    refine z_iload hc dX9_weighWet_58 7 rfl ?_
    refine z_isub hc dX9_weighWet_60 ?_
    refine z_aload_n hc dX9_weighWet_61 2 rfl rfl ?_
    refine z_iload_n hc dX9_weighWet_62 3 rfl rfl ?_
    refine z_iload hc dX9_weighWet_63 0 rfl ?_
    refine z_iload_n hc dX9_weighWet_65 5 rfl rfl ?_
    refine z_iconst (v := 1) hc dX9_weighWet_66 rfl ?_
    refine z_iadd hc dX9_weighWet_67 ?_
    refine z_iload hc dX9_weighWet_68 6 rfl ?_
    refine z_iconst (v := 1) hc dX9_weighWet_70 rfl ?_
    refine z_isub hc dX9_weighWet_71 ?_
    refine z_iload hc dX9_weighWet_72 7 rfl ?_
    refine z_callS (av := [.ref r0, .int v1, .int c2, .int (v3 + 1), .int (v4 - 1), .int v5]) (enc' := eI) hc rfl (hzq r0 v1 c2 (v3 + 1) (v4 - 1) v5 _) wMX9_365 hpyX9_weighWet hmyX9_weighWet (rm_ok hRm (by omega) (by omega)) (Nat.le_of_ble_eq_true rfl) hRm.2.2 dX9_weighWet_74 (fun c4 u4 f4 => ?_)
    refine z_imul hc dX9_weighWet_77 ?_
    refine z_iadd hc dX9_weighWet_78 ?_
    exact z_iret hc dX9_weighWet_79
  · refine z_iload_n hc dX9_weighWet_5 2 rfl rfl ?_
    refine z_iconst (v := 1) hc dX9_weighWet_6 rfl ?_
    refine z_icmp_lt (tgt := 14) hc dX9_weighWet_7 (by decide) _ (fun h3 => ?_) (fun h3 => ?_)
    · refine z_iconst (v := 0) hc dX9_weighWet_14 rfl ?_
      exact z_iret hc dX9_weighWet_15
    · refine z_iconst (v := 1) hc dX9_weighWet_10 rfl ?_
      refine z_goto (tgt := 15) hc dX9_weighWet_11 (by decide) ?_
      exact z_iret hc dX9_weighWet_15
theorem sOW_weighWet : ∀ (zn : Nat) (r0 : Nat) (v1 : Int32) (v2 : Int32) (v3 : Int32) (v4 : Int32) (v5 : Int32) (u : zM) r m1, OW_weighWet zn r0 v1 v2 v3 v4 v5 u = some (r, m1) → zMet l (wC D b) (3 + zn) (76 + zn * 27) yX9_weighWet cX9_weighWet 8 (some .int) [.ref r0, .int v1, .int v2, .int v3, .int v4, .int v5] u (eI r) m1 := by
  intro zn
  induction zn with
  | zero => intro r0 v1 v2 v3 v4 v5 u r m1 h; cases h
  | succ zn ih => exact sOW_weighWet_b ih
set_option maxRecDepth 100000 in
set_option maxHeartbeats 4000000 in
theorem sOW_chance_61b {fin : Int32 × zM} (hc : zCx p s mi args meth c (wC D b) m0 RX9 cX9_chance 6 (some .int)) (hRm : R.frames = 13 ∧ R.locals = 346 ∧ R.cells = zc (wC D b) m0 fin.2 ∧ R.slots = zs (wC D b) m0 fin.2) {zr61 : Int32 → Int32 → zM → Option (Int32 × zM)} (hr61 : ∀ (v4 : Int32) (v5 : Int32) (u : zM), zJ eI p l e R s mi args below meth c (wC D b) m0 6 fin 61 [(4, .int v4), (5, .int v5)] [] u (zr61 v4 v5 u)) (v4 : Int32) (v5 : Int32) (u : zM) : zJ eI p l e R s mi args below meth c (wC D b) m0 6 fin 61 [(4, .int v4), (5, .int v5)] [] u (OW_chance_61b zr61 v4 v5 u) := by
  unfold OW_chance_61b
  refine z_iload hc dX9_chance_61 1 rfl ?_
  refine z_bipush (v := 6) hc dX9_chance_63 rfl ?_
  refine z_icmp_ge (tgt := 81) hc dX9_chance_65 (by decide) _ (fun h1 => ?_) (fun h1 => ?_)
  · refine z_iload hc dX9_chance_81 0 rfl ?_
    exact z_iret hc dX9_chance_83
  · refine z_iload hc dX9_chance_68 0 rfl ?_
    refine z_bipush (v := 10) hc dX9_chance_70 rfl ?_
    refine z_imul hc dX9_chance_72 ?_
    refine zJ.letI (fun x1 e1 => ?_)
    refine z_istore (L' := [(4, .int x1), (5, .int v5)]) hc dX9_chance_73 (by decide) rfl rfl ?_
    refine z_iinc (L' := [(5, .int (v5 + 1)), (4, .int x1)]) hc dX9_chance_75 1 rfl (v := (v5 + 1)) rfl (by decide) rfl rfl ?_
    refine z_goto (tgt := 61) hc dX9_chance_78 (by decide) ?_
    refine zJ.sub (L' := [(4, .int x1), (5, .int (v5 + 1))]) [1, 0] rfl ?_
    exact hr61 x1 (v5 + 1) _
set_option maxRecDepth 100000 in
set_option maxHeartbeats 4000000 in
theorem sOW_chance_61 {fin : Int32 × zM} (hc : zCx p s mi args meth c (wC D b) m0 RX9 cX9_chance 6 (some .int)) (hRm : R.frames = 13 ∧ R.locals = 346 ∧ R.cells = zc (wC D b) m0 fin.2 ∧ R.slots = zs (wC D b) m0 fin.2) : ∀ (zf : Nat) (v4 : Int32) (v5 : Int32) (u : zM), zJ eI p l e R s mi args below meth c (wC D b) m0 6 fin 61 [(4, .int v4), (5, .int v5)] [] u (OW_chance_61 zf v4 v5 u) := by
  intro zf
  induction zf with
  | zero => intro v4 v5 u; exact zJ.nil
  | succ zf ih => intro v4 v5 u; exact sOW_chance_61b hc hRm ih v4 v5 u
set_option maxRecDepth 100000 in
set_option maxHeartbeats 4000000 in
theorem sOW_chance : ∀ (v1 : Int32) (v2 : Int32) (v3 : Int32) (u : zM) r m1, OW_chance v1 v2 v3 u = some (r, m1) → zMet l (wC D b) 13 346 yX9_chance cX9_chance 6 (some .int) [.ref 1, .int v1, .int v2, .int v3] u (eI r) m1 := by
  intro v1 v2 v3 u
  refine zMet.of (L := [(0, .ref 1), (1, .int v1), (2, .int v2), (3, .int v3)]) RX9 (by decide +kernel) rfl (Nat.le_of_ble_eq_true rfl) (fun h => by cases h) rfl (fun p e s mi args below meth c R fin hc hin hRm => ?_)
  unfold OW_chance
  refine z_aload_n hc dX9_chance_0 0 rfl rfl ?_
  refine z_iload_n hc dX9_chance_1 1 rfl rfl ?_
  refine z_callV (av := [.int v1]) (enc' := eI) hc rfl (sOW_isPlace v1 _) (ci := 9) (by decide) lC1 (zkC lC1) rfl wMX9_131 hpyX9_isPlace hmyX9_isPlace (rm_ok hRm (Nat.le_of_ble_eq_true rfl) (Nat.le_of_ble_eq_true rfl)) (Nat.le_of_ble_eq_true rfl) hRm.2.2 dX9_chance_2 (fun c1 u1 f1 => ?_)
  refine z_if_eq (tgt := 28) hc dX9_chance_5 (by decide) _ (fun h1 => ?_) (fun h1 => ?_)
  · refine z_iconst (v := (-1)) hc dX9_chance_28 rfl ?_
    exact z_iret hc dX9_chance_29
  · refine z_iload_n hc dX9_chance_8 2 rfl rfl ?_
    refine z_iconst (v := 1) hc dX9_chance_9 rfl ?_
    refine z_bipush (v := 6) hc dX9_chance_10 rfl ?_
    refine z_callS (av := [.int v2, .int 1, .int 6]) (enc' := eI) hc rfl (sOW_within v2 1 6 _) wMX9_229 hpyX9_within hmyX9_within (rm_ok hRm (Nat.le_of_ble_eq_true rfl) (Nat.le_of_ble_eq_true rfl)) (Nat.le_of_ble_eq_true rfl) hRm.2.2 dX9_chance_12 (fun c2 u2 f2 => ?_)
    refine z_if_eq (tgt := 28) hc dX9_chance_15 (by decide) _ (fun h2 => ?_) (fun h2 => ?_)
    · refine z_iconst (v := (-1)) hc dX9_chance_28 rfl ?_
      exact z_iret hc dX9_chance_29
    · refine z_iload_n hc dX9_chance_18 3 rfl rfl ?_
      refine z_iconst (v := 0) hc dX9_chance_19 rfl ?_
      refine z_bipush (v := 10) hc dX9_chance_20 rfl ?_
      refine z_callS (av := [.int v3, .int 0, .int 10]) (enc' := eI) hc rfl (sOW_within v3 0 10 _) wMX9_229 hpyX9_within hmyX9_within (rm_ok hRm (Nat.le_of_ble_eq_true rfl) (Nat.le_of_ble_eq_true rfl)) (Nat.le_of_ble_eq_true rfl) hRm.2.2 dX9_chance_22 (fun c3 u3 f3 => ?_)
      refine z_if_ne (tgt := 30) hc dX9_chance_25 (by decide) _ (fun h3 => ?_) (fun h3 => ?_)
      · refine z_aload_n hc dX9_chance_30 0 rfl rfl ?_
        refine zJ.chk _ (fun h4 => ?_)
        refine z_getR (x := (gR u3 1 1)) hc (ci := 9) (k := 1) (by decide) (by decide) zly9 lC1 (zkC lC1) wFX9_19 rfl dX9_chance_31 rfl (lC_pos h4) ?_
        refine z_iload_n hc dX9_chance_34 1 rfl rfl ?_
        refine z_aload_n hc dX9_chance_35 0 rfl rfl ?_
        refine z_getR (x := 54) hc (ci := 9) (k := 5) (by decide) (by decide) zly9 lC1 (zkC lC1) wFX9_39 rfl dX9_chance_36 rfl (by decide) ?_
        refine z_getR (x := 55) hc (ci := 7) (k := 0) (by decide) (by decide) zly7 lC54 (zkC lC54) wFX9_135 rfl dX9_chance_39 rfl (by decide) ?_
        refine z_iload_n hc dX9_chance_42 1 rfl rfl ?_
        refine zJ.chk _ (fun h5 => ?_)
        refine z_iald (k := (ix v1)) hc lC55 (zkC lC55) h5 rfl dX9_chance_43 ?_
        refine z_aload_n hc dX9_chance_44 0 rfl rfl ?_
        refine z_getR (x := 54) hc (ci := 9) (k := 5) (by decide) (by decide) zly9 lC1 (zkC lC1) wFX9_39 rfl dX9_chance_45 rfl (by decide) ?_
        refine z_getI hc (ci := 7) (k := 5) (by decide) (by decide) zly7 lC54 (zkC lC54) wFX9_181 rfl dX9_chance_48 ?_
        refine z_iload_n hc dX9_chance_51 2 rfl rfl ?_
        refine z_iload_n hc dX9_chance_52 3 rfl rfl ?_
        refine z_callS (av := [.ref (gR u3 1 1), .int v1, .int (gI u3 55 (ix v1)), .int (gI u3 54 5), .int v2, .int v3]) (enc' := eI) hc rfl (sOW_weighWet 8 (gR u3 1 1) v1 (gI u3 55 (ix v1)) (gI u3 54 5) v2 v3 _) wMX9_365 hpyX9_weighWet hmyX9_weighWet (rm_ok hRm (Nat.le_of_ble_eq_true rfl) (Nat.le_of_ble_eq_true rfl)) (Nat.le_of_ble_eq_true rfl) hRm.2.2 dX9_chance_53 (fun c4 u4 f4 => ?_)
        refine z_istore (L' := [(4, .int c4), (0, .ref 1), (1, .int v1), (2, .int v2), (3, .int v3)]) hc dX9_chance_56 (by decide) rfl rfl ?_
        refine z_iload_n hc dX9_chance_58 3 rfl rfl ?_
        refine z_istore (L' := [(5, .int v2), (4, .int c4), (0, .ref 1), (1, .int v1), (2, .int v2), (3, .int v3)]) hc dX9_chance_59 (by decide) rfl rfl ?_
        refine zJ.sub (L' := [(4, .int c4), (5, .int v2)]) [1, 0] rfl ?_
        exact sOW_chance_61 hc hRm zF c4 v2 _
      · refine z_iconst (v := (-1)) hc dX9_chance_28 rfl ?_
        exact z_iret hc dX9_chance_29
set_option maxRecDepth 100000 in
set_option maxHeartbeats 4000000 in
theorem sOW_pay : ∀ (v0 : Int32) (v1 : Int32) (v2 : Int32) (v3 : Int32) (v4 : Int32) (u : zM) r m1, OW_pay v0 v1 v2 v3 v4 u = some (r, m1) → zMet l (wC D b) 0 0 yX9_pay cX9_pay 5 (some .int) [.int v0, .int v1, .int v2, .int v3, .int v4] u (eI r) m1 := by
  intro v0 v1 v2 v3 v4 u
  refine zMet.of (L := [(0, .int v0), (1, .int v1), (2, .int v2), (3, .int v3), (4, .int v4)]) RX9 (by decide +kernel) rfl (Nat.le_of_ble_eq_true rfl) (fun h => by cases h) rfl (fun p e s mi args below meth c R fin hc hin hRm => ?_)
  unfold OW_pay
  refine z_iload_n hc dX9_pay_0 3 rfl rfl ?_
  refine z_iconst (v := 1) hc dX9_pay_1 rfl ?_
  refine z_icmp_ne (tgt := 18) hc dX9_pay_2 (by decide) _ (fun h1 => ?_) (fun h1 => ?_)
  · refine z_iload hc dX9_pay_18 4 rfl ?_
    refine z_iconst (v := 1) hc dX9_pay_20 rfl ?_
    refine z_icmp_ne (tgt := 28) hc dX9_pay_21 (by decide) _ (fun h2 => ?_) (fun h2 => ?_)
    · refine z_iconst (v := 0) hc dX9_pay_28 rfl ?_
      exact z_iret hc dX9_pay_29
    · refine z_iload_n hc dX9_pay_24 2 rfl rfl ?_
      refine z_goto (tgt := 29) hc dX9_pay_25 (by decide) ?_
      exact z_iret hc dX9_pay_29
  · refine z_iload hc dX9_pay_5 4 rfl ?_
    refine z_iconst (v := 1) hc dX9_pay_7 rfl ?_
    refine z_icmp_ne (tgt := 15) hc dX9_pay_8 (by decide) _ (fun h3 => ?_) (fun h3 => ?_)
    · refine z_iload_n hc dX9_pay_15 1 rfl rfl ?_
      refine z_ineg hc dX9_pay_16 ?_
      exact z_iret hc dX9_pay_17
    · refine z_iload_n hc dX9_pay_11 0 rfl rfl ?_
      refine z_goto (tgt := 17) hc dX9_pay_12 (by decide) ?_
      exact z_iret hc dX9_pay_17
set_option maxRecDepth 100000 in
set_option maxHeartbeats 4000000 in
theorem sOW_isRest : ∀ (v0 : Int32) (v1 : Int32) (v2 : Int32) (v3 : Int32) (u : zM) r m1, OW_isRest v0 v1 v2 v3 u = some (r, m1) → zMet l (wC D b) 1 24 yX9_isRest cX9_isRest 6 (some .boolean) [.int v0, .int v1, .int v2, .int v3] u (eI r) m1 := by
  intro v0 v1 v2 v3 u
  refine zMet.of (L := [(0, .int v0), (1, .int v1), (2, .int v2), (3, .int v3)]) RX9 (by decide +kernel) rfl (Nat.le_of_ble_eq_true rfl) (fun h => by cases h) rfl (fun p e s mi args below meth c R fin hc hin hRm => ?_)
  unfold OW_isRest
  refine z_iload_n hc dX9_isRest_0 3 rfl rfl ?_
  refine z_iconst (v := 2) hc dX9_isRest_1 rfl ?_
  refine z_idiv hc (by decide) dX9_isRest_2 ?_
  refine zJ.letI (fun x1 e1 => ?_)
  refine z_istore (L' := [(4, .int x1), (0, .int v0), (1, .int v1), (2, .int v2), (3, .int v3)]) hc dX9_isRest_3 (by decide) rfl rfl ?_
  refine z_iload_n hc dX9_isRest_5 4 rfl rfl ?_
  refine z_iconst (v := 2) hc dX9_isRest_6 rfl ?_
  refine z_irem hc (by decide) dX9_isRest_7 ?_
  refine zJ.letI (fun x2 e2 => ?_)
  refine z_istore (L' := [(5, .int x2), (4, .int x1), (0, .int v0), (1, .int v1), (2, .int v2), (3, .int v3)]) hc dX9_isRest_8 (by decide) rfl rfl ?_
  refine z_iload_n hc dX9_isRest_10 2 rfl rfl ?_
  refine z_iload_n hc dX9_isRest_11 3 rfl rfl ?_
  refine z_iload_n hc dX9_isRest_12 4 rfl rfl ?_
  refine z_iload hc dX9_isRest_13 1 rfl ?_
  refine z_iload hc dX9_isRest_15 0 rfl ?_
  refine z_callS (av := [.int v0, .int v1, .int v2, .int x1, .int x2]) (enc' := eI) hc rfl (sOW_pay v0 v1 v2 x1 x2 _) wMX9_382 hpyX9_pay hmyX9_pay (rm_ok hRm (Nat.le_of_ble_eq_true rfl) (Nat.le_of_ble_eq_true rfl)) (Nat.le_of_ble_eq_true rfl) hRm.2.2 dX9_isRest_17 (fun c1 u1 f1 => ?_)
  refine z_iload_n hc dX9_isRest_20 2 rfl rfl ?_
  refine z_iload_n hc dX9_isRest_21 3 rfl rfl ?_
  refine z_iload_n hc dX9_isRest_22 4 rfl rfl ?_
  refine z_iconst (v := 1) hc dX9_isRest_23 rfl ?_
  refine z_iload hc dX9_isRest_24 1 rfl ?_
  refine z_isub hc dX9_isRest_26 ?_
  refine z_iload hc dX9_isRest_27 0 rfl ?_
  refine z_callS (av := [.int v0, .int v1, .int v2, .int (1 - x1), .int x2]) (enc' := eI) hc rfl (sOW_pay v0 v1 v2 (1 - x1) x2 _) wMX9_382 hpyX9_pay hmyX9_pay (rm_ok hRm (Nat.le_of_ble_eq_true rfl) (Nat.le_of_ble_eq_true rfl)) (Nat.le_of_ble_eq_true rfl) hRm.2.2 dX9_isRest_29 (fun c2 u2 f2 => ?_)
  refine z_icmp_lt (tgt := 64) hc dX9_isRest_32 (by decide) _ (fun h1 => ?_) (fun h1 => ?_)
  · refine z_iconst (v := 0) hc dX9_isRest_64 rfl ?_
    exact z_zret hc rfl dX9_isRest_65
  · refine z_iload_n hc dX9_isRest_35 2 rfl rfl ?_
    refine z_iload_n hc dX9_isRest_36 3 rfl rfl ?_
    refine z_iload_n hc dX9_isRest_37 4 rfl rfl ?_
    refine z_iload hc dX9_isRest_38 0 rfl ?_
    refine z_iload hc dX9_isRest_40 1 rfl ?_
    refine z_callS (av := [.int v0, .int v1, .int v2, .int x2, .int x1]) (enc' := eI) hc rfl (sOW_pay v0 v1 v2 x2 x1 _) wMX9_382 hpyX9_pay hmyX9_pay (rm_ok hRm (Nat.le_of_ble_eq_true rfl) (Nat.le_of_ble_eq_true rfl)) (Nat.le_of_ble_eq_true rfl) hRm.2.2 dX9_isRest_42 (fun c3 u3 f3 => ?_)
    refine z_iload_n hc dX9_isRest_45 2 rfl rfl ?_
    refine z_iload_n hc dX9_isRest_46 3 rfl rfl ?_
    refine z_iload_n hc dX9_isRest_47 4 rfl rfl ?_
    refine z_iconst (v := 1) hc dX9_isRest_48 rfl ?_
    refine z_iload hc dX9_isRest_49 0 rfl ?_
    refine z_isub hc dX9_isRest_51 ?_
    refine z_iload hc dX9_isRest_52 1 rfl ?_
    refine z_callS (av := [.int v0, .int v1, .int v2, .int (1 - x2), .int x1]) (enc' := eI) hc rfl (sOW_pay v0 v1 v2 (1 - x2) x1 _) wMX9_382 hpyX9_pay hmyX9_pay (rm_ok hRm (Nat.le_of_ble_eq_true rfl) (Nat.le_of_ble_eq_true rfl)) (Nat.le_of_ble_eq_true rfl) hRm.2.2 dX9_isRest_54 (fun c4 u4 f4 => ?_)
    refine z_icmp_lt (tgt := 64) hc dX9_isRest_57 (by decide) _ (fun h2 => ?_) (fun h2 => ?_)
    · refine z_iconst (v := 0) hc dX9_isRest_64 rfl ?_
      exact z_zret hc rfl dX9_isRest_65
    · refine z_iconst (v := 1) hc dX9_isRest_60 rfl ?_
      refine z_goto (tgt := 65) hc dX9_isRest_61 (by decide) ?_
      exact z_zret hc rfl dX9_isRest_65
set_option maxRecDepth 100000 in
set_option maxHeartbeats 4000000 in
theorem sOW_draw : ∀ (v1 : Int32) (u : zM) r m1, OW_draw v1 u = some (r, m1) → zMet l (wC D b) 0 0 yX9_draw cX9_draw 2 (some .int) [.ref 1, .int v1] u (eI r) m1 := by
  intro v1 u
  refine zMet.of (L := [(0, .ref 1), (1, .int v1)]) RX9 (by decide +kernel) rfl (Nat.le_of_ble_eq_true rfl) (fun h => by cases h) rfl (fun p e s mi args below meth c R fin hc hin hRm => ?_)
  unfold OW_draw
  refine z_aload_n hc dX9_draw_0 0 rfl rfl ?_
  refine z_aload_n hc dX9_draw_1 0 rfl rfl ?_
  refine z_getL hc (ci := 9) (k := 14) (by decide) (by decide) zly9 lC1 (zkC lC1) wFX9_386 rfl dX9_draw_2 ?_
  refine z_ldc2 (v := 1103515245) hc wKX9_400 dX9_draw_5 ?_
  refine z_lmul hc dX9_draw_8 ?_
  refine z_ldc2 (v := 12345) hc wKX9_402 dX9_draw_9 ?_
  refine z_ladd hc dX9_draw_12 ?_
  refine z_ldc2 (v := 2147483648) hc wKX9_404 dX9_draw_13 ?_
  refine z_lrem hc (by decide) dX9_draw_16 ?_
  refine z_putL hc (ci := 9) (k := 14) (by decide) (by decide) zly9 lC1 (zkC lC1) wFX9_386 rfl rfl dX9_draw_17 ?_
  refine zJ.letM (fun u1 e1 => ?_)
  refine z_iload_n hc dX9_draw_20 1 rfl rfl ?_
  refine z_if_le (tgt := 39) hc dX9_draw_21 (by decide) _ (fun h1 => ?_) (fun h1 => ?_)
  · refine z_iconst (v := 0) hc dX9_draw_39 rfl ?_
    exact z_iret hc dX9_draw_40
  · refine z_aload_n hc dX9_draw_24 0 rfl rfl ?_
    refine z_getL hc (ci := 9) (k := 14) (by decide) (by decide) zly9 lC1 (zkC lC1) wFX9_386 rfl dX9_draw_25 ?_
    refine z_ldc2 (v := 65536) hc wKX9_406 dX9_draw_28 ?_
    refine z_ldiv hc (by decide) dX9_draw_31 ?_
    refine z_iload_n hc dX9_draw_32 1 rfl rfl ?_
    refine z_i2l hc dX9_draw_33 ?_
    refine zJ.cut _ (fun _ => zJ.nil) (fun h2 => ?_)
    refine z_lrem hc h2 dX9_draw_34 ?_
    refine z_l2i hc dX9_draw_35 ?_
    refine z_goto (tgt := 40) hc dX9_draw_36 (by decide) ?_
    exact z_iret hc dX9_draw_40
set_option maxRecDepth 100000 in
set_option maxHeartbeats 4000000 in
theorem sOW_doDrawn : ∀ (u : zM) r m1, OW_doDrawn u = some (r, m1) → zMet l (wC D b) 5 123 yX9_doDrawn cX9_doDrawn 5 (some .boolean) [.ref 1] u (eI r) m1 := by
  intro u
  refine zMet.of (L := [(0, .ref 1)]) RX9 (by decide +kernel) rfl (Nat.le_of_ble_eq_true rfl) (fun h => by cases h) rfl (fun p e s mi args below meth c R fin hc hin hRm => ?_)
  unfold OW_doDrawn
  refine z_aload_n hc dX9_doDrawn_0 0 rfl rfl ?_
  refine z_aload_n hc dX9_doDrawn_1 0 rfl rfl ?_
  refine zJ.chk _ (fun h1 => ?_)
  refine z_getR (x := (gR u 1 1)) hc (ci := 9) (k := 1) (by decide) (by decide) zly9 lC1 (zkC lC1) wFX9_19 rfl dX9_doDrawn_2 rfl (lC_pos h1) ?_
  refine z_getR (x := ((gR u 1 1) + 5)) hc (ci := 0) (k := 2) (by decide) (by decide) zly0 h1 (zkC h1) wFX9_125 rfl dX9_doDrawn_5 (rfC_off (off := 5) h1 rfl (by decide)) (Nat.le_add_left_of_le (by decide)) ?_
  refine z_getI hc (ci := 3) (k := 1) (by decide) (by decide) zly3 (lyC_10_5 h1) (zkC (lyC_10_5 h1)) wFX9_119 rfl dX9_doDrawn_8 ?_
  refine z_callV (av := [.int (gI u ((gR u 1 1) + 5) 1)]) (enc' := eI) hc rfl (sOW_draw (gI u ((gR u 1 1) + 5) 1) _) (ci := 9) (by decide) lC1 (zkC lC1) rfl wMX9_397 hpyX9_draw hmyX9_draw (rm_ok hRm (Nat.le_of_ble_eq_true rfl) (Nat.le_of_ble_eq_true rfl)) (Nat.le_of_ble_eq_true rfl) hRm.2.2 dX9_doDrawn_11 (fun c1 u1 f1 => ?_)
  refine z_istore_n (L' := [(1, .int c1), (0, .ref 1)]) hc dX9_doDrawn_14 rfl (by decide) rfl rfl ?_
  refine z_aload_n hc dX9_doDrawn_15 1 rfl rfl ?_
  refine z_aload_n hc dX9_doDrawn_16 1 rfl rfl ?_
  refine zJ.chk _ (fun h2 => ?_)
  refine z_getR (x := (gR u1 1 1)) hc (ci := 9) (k := 1) (by decide) (by decide) zly9 lC1 (zkC lC1) wFX9_19 rfl dX9_doDrawn_17 rfl (lC_pos h2) ?_
  refine z_getR (x := ((gR u1 1 1) + 1)) hc (ci := 0) (k := 0) (by decide) (by decide) zly0 h2 (zkC h2) wFX9_115 rfl dX9_doDrawn_20 (rfC_off (off := 1) h2 rfl (by decide)) (Nat.le_add_left_of_le (by decide)) ?_
  refine z_getI hc (ci := 3) (k := 1) (by decide) (by decide) zly3 (lyC_10_1 h2) (zkC (lyC_10_1 h2)) wFX9_119 rfl dX9_doDrawn_23 ?_
  refine z_callV (av := [.int (gI u1 ((gR u1 1 1) + 1) 1)]) (enc' := eI) hc rfl (sOW_draw (gI u1 ((gR u1 1 1) + 1) 1) _) (ci := 9) (by decide) lC1 (zkC lC1) rfl wMX9_397 hpyX9_draw hmyX9_draw (rm_ok hRm (Nat.le_of_ble_eq_true rfl) (Nat.le_of_ble_eq_true rfl)) (Nat.le_of_ble_eq_true rfl) hRm.2.2 dX9_doDrawn_26 (fun c2 u2 f2 => ?_)
  refine z_istore_n (L' := [(2, .int c2), (1, .int c1), (0, .ref 1)]) hc dX9_doDrawn_29 rfl (by decide) rfl rfl ?_
  refine z_aload_n hc dX9_doDrawn_30 2 rfl rfl ?_
  refine z_iconst (v := 5) hc dX9_doDrawn_31 rfl ?_
  refine z_callV (av := [.int 5]) (enc' := eI) hc rfl (sOW_draw 5 _) (ci := 9) (by decide) lC1 (zkC lC1) rfl wMX9_397 hpyX9_draw hmyX9_draw (rm_ok hRm (Nat.le_of_ble_eq_true rfl) (Nat.le_of_ble_eq_true rfl)) (Nat.le_of_ble_eq_true rfl) hRm.2.2 dX9_doDrawn_32 (fun c3 u3 f3 => ?_)
  refine z_istore_n (L' := [(3, .int c3), (2, .int c2), (1, .int c1), (0, .ref 1)]) hc dX9_doDrawn_35 rfl (by decide) rfl rfl ?_
  refine z_iload_n hc dX9_doDrawn_36 0 rfl rfl ?_
  refine z_iconst (v := 3) hc dX9_doDrawn_37 rfl ?_
  refine z_icmp_ge (tgt := 58) hc dX9_doDrawn_38 (by decide) _ (fun h3 => ?_) (fun h3 => ?_)
  · refine z_aload_n hc dX9_doDrawn_58 3 rfl rfl ?_
    refine zJ.chk _ (fun h4 => ?_)
    refine z_getR (x := (gR u3 1 1)) hc (ci := 9) (k := 1) (by decide) (by decide) zly9 lC1 (zkC lC1) wFX9_19 rfl dX9_doDrawn_59 rfl (lC_pos h4) ?_
    refine z_getR (x := ((gR u3 1 1) + 7)) hc (ci := 0) (k := 3) (by decide) (by decide) zly0 h4 (zkC h4) wFX9_128 rfl dX9_doDrawn_62 (rfC_off (off := 7) h4 rfl (by decide)) (Nat.le_add_left_of_le (by decide)) ?_
    refine z_getI hc (ci := 3) (k := 1) (by decide) (by decide) zly3 (lyC_10_7 h4) (zkC (lyC_10_7 h4)) wFX9_119 rfl dX9_doDrawn_65 ?_
    refine z_if_ne (tgt := 73) hc dX9_doDrawn_68 (by decide) _ (fun h5 => ?_) (fun h5 => ?_)
    · refine z_aload_n hc dX9_doDrawn_73 3 rfl rfl ?_
      refine z_aload_n hc dX9_doDrawn_74 3 rfl rfl ?_
      refine zJ.chk _ (fun h6 => ?_)
      refine z_getR (x := (gR u3 1 1)) hc (ci := 9) (k := 1) (by decide) (by decide) zly9 lC1 (zkC lC1) wFX9_19 rfl dX9_doDrawn_75 rfl (lC_pos h6) ?_
      refine z_getR (x := ((gR u3 1 1) + 7)) hc (ci := 0) (k := 3) (by decide) (by decide) zly0 h6 (zkC h6) wFX9_128 rfl dX9_doDrawn_78 (rfC_off (off := 7) h6 rfl (by decide)) (Nat.le_add_left_of_le (by decide)) ?_
      refine z_getI hc (ci := 3) (k := 1) (by decide) (by decide) zly3 (lyC_10_7 h6) (zkC (lyC_10_7 h6)) wFX9_119 rfl dX9_doDrawn_81 ?_
      refine z_callV (av := [.int (gI u3 ((gR u3 1 1) + 7) 1)]) (enc' := eI) hc rfl (sOW_draw (gI u3 ((gR u3 1 1) + 7) 1) _) (ci := 9) (by decide) lC1 (zkC lC1) rfl wMX9_397 hpyX9_draw hmyX9_draw (rm_ok hRm (Nat.le_of_ble_eq_true rfl) (Nat.le_of_ble_eq_true rfl)) (Nat.le_of_ble_eq_true rfl) hRm.2.2 dX9_doDrawn_84 (fun c4 u4 f4 => ?_)
      refine z_istore (L' := [(4, .int c4), (3, .int c3), (2, .int c2), (1, .int c1), (0, .ref 1)]) hc dX9_doDrawn_87 (by decide) rfl rfl ?_
      refine z_iload_n hc dX9_doDrawn_89 1 rfl rfl ?_
      refine z_iconst (v := 3) hc dX9_doDrawn_90 rfl ?_
      refine z_icmp_ne (tgt := 112) hc dX9_doDrawn_91 (by decide) _ (fun h7 => ?_) (fun h7 => ?_)
      · refine z_aload_n hc dX9_doDrawn_112 4 rfl rfl ?_
        refine z_getR (x := 60) hc (ci := 9) (k := 6) (by decide) (by decide) zly9 lC1 (zkC lC1) wFX9_43 rfl dX9_doDrawn_113 rfl (by decide) ?_
        refine z_aload_n hc dX9_doDrawn_116 4 rfl rfl ?_
        refine zJ.chk _ (fun h8 => ?_)
        refine z_getR (x := (gR u4 1 1)) hc (ci := 9) (k := 1) (by decide) (by decide) zly9 lC1 (zkC lC1) wFX9_19 rfl dX9_doDrawn_117 rfl (lC_pos h8) ?_
        refine z_iconst (v := 3) hc dX9_doDrawn_120 rfl ?_
        refine z_iload hc dX9_doDrawn_121 0 rfl ?_
        refine z_iconst (v := (-1)) hc dX9_doDrawn_123 rfl ?_
        refine z_callV (av := [.ref (gR u4 1 1), .int 3, .int c4, .int (-1)]) (enc' := eI) hc rfl (sSt_doLine 60 (gR u4 1 1) 3 c4 (-1) _) (ci := 7) (by decide) lC60 (zkC lC60) rfl wMX9_257 hpyX7_doLine hmyX7_doLine (rm_ok hRm (Nat.le_of_ble_eq_true rfl) (Nat.le_of_ble_eq_true rfl)) (Nat.le_of_ble_eq_true rfl) hRm.2.2 dX9_doDrawn_124 (fun c5 u5 f5 => ?_)
        exact z_zretC hc dX9_doDrawn_127
      · refine z_aload_n hc dX9_doDrawn_94 4 rfl rfl ?_
        refine z_getR (x := 60) hc (ci := 9) (k := 6) (by decide) (by decide) zly9 lC1 (zkC lC1) wFX9_43 rfl dX9_doDrawn_95 rfl (by decide) ?_
        refine z_aload_n hc dX9_doDrawn_98 4 rfl rfl ?_
        refine zJ.chk _ (fun h9 => ?_)
        refine z_getR (x := (gR u4 1 1)) hc (ci := 9) (k := 1) (by decide) (by decide) zly9 lC1 (zkC lC1) wFX9_19 rfl dX9_doDrawn_99 rfl (lC_pos h9) ?_
        refine z_iconst (v := 1) hc dX9_doDrawn_102 rfl ?_
        refine z_iload_n hc dX9_doDrawn_103 3 rfl rfl ?_
        refine z_iload hc dX9_doDrawn_104 0 rfl ?_
        refine z_callV (av := [.ref (gR u4 1 1), .int 1, .int c1, .int c4]) (enc' := eI) hc rfl (sSt_doLine 60 (gR u4 1 1) 1 c1 c4 _) (ci := 7) (by decide) lC60 (zkC lC60) rfl wMX9_257 hpyX7_doLine hmyX7_doLine (rm_ok hRm (Nat.le_of_ble_eq_true rfl) (Nat.le_of_ble_eq_true rfl)) (Nat.le_of_ble_eq_true rfl) hRm.2.2 dX9_doDrawn_106 (fun c6 u6 f6 => ?_)
        refine z_pop hc dX9_doDrawn_109 rfl ?_
        refine z_iconst (v := 0) hc dX9_doDrawn_110 rfl ?_
        exact z_zret hc rfl dX9_doDrawn_111
    · refine z_iconst (v := 0) hc dX9_doDrawn_71 rfl ?_
      exact z_zret hc rfl dX9_doDrawn_72
  · refine z_aload_n hc dX9_doDrawn_41 3 rfl rfl ?_
    refine z_getR (x := 60) hc (ci := 9) (k := 6) (by decide) (by decide) zly9 lC1 (zkC lC1) wFX9_43 rfl dX9_doDrawn_42 rfl (by decide) ?_
    refine z_aload_n hc dX9_doDrawn_45 3 rfl rfl ?_
    refine zJ.chk _ (fun h10 => ?_)
    refine z_getR (x := (gR u3 1 1)) hc (ci := 9) (k := 1) (by decide) (by decide) zly9 lC1 (zkC lC1) wFX9_19 rfl dX9_doDrawn_46 rfl (lC_pos h10) ?_
    refine z_iconst (v := 2) hc dX9_doDrawn_49 rfl ?_
    refine z_iload_n hc dX9_doDrawn_50 2 rfl rfl ?_
    refine z_iload_n hc dX9_doDrawn_51 1 rfl rfl ?_
    refine z_callV (av := [.ref (gR u3 1 1), .int 2, .int c1, .int c2]) (enc' := eI) hc rfl (sSt_doLine 60 (gR u3 1 1) 2 c1 c2 _) (ci := 7) (by decide) lC60 (zkC lC60) rfl wMX9_257 hpyX7_doLine hmyX7_doLine (rm_ok hRm (Nat.le_of_ble_eq_true rfl) (Nat.le_of_ble_eq_true rfl)) (Nat.le_of_ble_eq_true rfl) hRm.2.2 dX9_doDrawn_52 (fun c7 u7 f7 => ?_)
    refine z_pop hc dX9_doDrawn_55 rfl ?_
    refine z_iconst (v := 0) hc dX9_doDrawn_56 rfl ?_
    exact z_zret hc rfl dX9_doDrawn_57
set_option maxRecDepth 100000 in
set_option maxHeartbeats 4000000 in
theorem sOW_sessions_55b {fin : Int32 × zM} (hc : zCx p s mi args meth c (wC D b) m0 RX9 cX9_sessions 6 (some .int)) (hRm : R.frames = 6 ∧ R.locals = 147 ∧ R.cells = zc (wC D b) m0 fin.2 ∧ R.slots = zs (wC D b) m0 fin.2) {zr55 : Int32 → Int32 → Int32 → Int32 → zM → Option (Int32 × zM)} (hr55 : ∀ (v2 : Int32) (v3 : Int32) (v4 : Int32) (v5 : Int32) (u : zM), zJ eI p l e R s mi args below meth c (wC D b) m0 6 fin 55 [(0, .ref 1), (2, .int v2), (3, .int v3), (4, .int v4), (5, .int v5)] [] u (zr55 v2 v3 v4 v5 u)) (v2 : Int32) (v3 : Int32) (v4 : Int32) (v5 : Int32) (u : zM) : zJ eI p l e R s mi args below meth c (wC D b) m0 6 fin 55 [(0, .ref 1), (2, .int v2), (3, .int v3), (4, .int v4), (5, .int v5)] [] u (OW_sessions_55b zr55 v2 v3 v4 v5 u) := by
  unfold OW_sessions_55b
  refine z_iload hc dX9_sessions_55 4 rfl ?_
  refine z_iload_n hc dX9_sessions_57 1 rfl rfl ?_
  refine z_icmp_ge (tgt := 101) hc dX9_sessions_58 (by decide) _ (fun h1 => ?_) (fun h1 => ?_)
  · refine z_iload_n hc dX9_sessions_101 2 rfl rfl ?_
    refine z_if_ne (tgt := 108) hc dX9_sessions_102 (by decide) _ (fun h2 => ?_) (fun h2 => ?_)
    · refine z_iload_n hc dX9_sessions_108 2 rfl rfl ?_
      refine z_iconst (v := 1) hc dX9_sessions_109 rfl ?_
      refine z_icmp_ne (tgt := 127) hc dX9_sessions_110 (by decide) _ (fun h3 => ?_) (fun h3 => ?_)
      · refine z_aload_n hc dX9_sessions_127 0 rfl rfl ?_
        refine z_getR (x := 60) hc (ci := 9) (k := 6) (by decide) (by decide) zly9 lC1 (zkC lC1) wFX9_43 rfl dX9_sessions_128 rfl (by decide) ?_
        refine z_getR (x := 62) hc (ci := 7) (k := 1) (by decide) (by decide) zly7 lC60 (zkC lC60) wFX9_141 rfl dX9_sessions_131 rfl (by decide) ?_
        refine z_aload_n hc dX9_sessions_134 0 rfl rfl ?_
        refine zJ.chk _ (fun h4 => ?_)
        refine z_getR (x := (gR u 1 1)) hc (ci := 9) (k := 1) (by decide) (by decide) zly9 lC1 (zkC lC1) wFX9_19 rfl dX9_sessions_135 rfl (lC_pos h4) ?_
        refine z_getR (x := ((gR u 1 1) + 3)) hc (ci := 0) (k := 1) (by decide) (by decide) zly0 h4 (zkC h4) wFX9_122 rfl dX9_sessions_138 (rfC_off (off := 3) h4 rfl (by decide)) (Nat.le_add_left_of_le (by decide)) ?_
        refine z_getI hc (ci := 3) (k := 1) (by decide) (by decide) zly3 (lyC_10_3 h4) (zkC (lyC_10_3 h4)) wFX9_119 rfl dX9_sessions_141 ?_
        refine z_iconst (v := 0) hc dX9_sessions_144 rfl ?_
        refine z_callS (av := [.ref 62, .int (gI u ((gR u 1 1) + 3) 1), .int 0]) (enc' := eI) hc rfl (sOW_bitsOf 62 (gI u ((gR u 1 1) + 3) 1) 0 _) wMX9_144 hpyX9_bitsOf hmyX9_bitsOf (rm_ok hRm (Nat.le_of_ble_eq_true rfl) (Nat.le_of_ble_eq_true rfl)) (Nat.le_of_ble_eq_true rfl) hRm.2.2 dX9_sessions_145 (fun c1 u1 f1 => ?_)
        exact z_iret hc dX9_sessions_148
      · refine z_aload_n hc dX9_sessions_113 0 rfl rfl ?_
        refine z_getR (x := 60) hc (ci := 9) (k := 6) (by decide) (by decide) zly9 lC1 (zkC lC1) wFX9_43 rfl dX9_sessions_114 rfl (by decide) ?_
        refine z_aload_n hc dX9_sessions_117 0 rfl rfl ?_
        refine zJ.chk _ (fun h5 => ?_)
        refine z_getR (x := (gR u 1 1)) hc (ci := 9) (k := 1) (by decide) (by decide) zly9 lC1 (zkC lC1) wFX9_19 rfl dX9_sessions_118 rfl (lC_pos h5) ?_
        refine z_callV (av := [.ref (gR u 1 1)]) (enc' := eI) hc rfl (sSt_waterTogether 60 (gR u 1 1) _) (ci := 7) (by decide) lC60 (zkC lC60) rfl wMX9_394 hpyX7_waterTogether hmyX7_waterTogether (rm_ok hRm (Nat.le_of_ble_eq_true rfl) (Nat.le_of_ble_eq_true rfl)) (Nat.le_of_ble_eq_true rfl) hRm.2.2 dX9_sessions_121 (fun c2 u2 f2 => ?_)
        refine z_goto (tgt := 148) hc dX9_sessions_124 (by decide) ?_
        exact z_iret hc dX9_sessions_148
    · refine z_iload hc dX9_sessions_105 3 rfl ?_
      exact z_iret hc dX9_sessions_107
  · refine z_aload_n hc dX9_sessions_61 0 rfl rfl ?_
    refine zJ.chk _ (fun h6 => ?_)
    refine z_getR (x := (gR u 1 1)) hc (ci := 9) (k := 1) (by decide) (by decide) zly9 lC1 (zkC lC1) wFX9_19 rfl dX9_sessions_62 rfl (lC_pos h6) ?_
    refine z_getR (x := ((gR u 1 1) + 5)) hc (ci := 0) (k := 2) (by decide) (by decide) zly0 h6 (zkC h6) wFX9_125 rfl dX9_sessions_65 (rfC_off (off := 5) h6 rfl (by decide)) (Nat.le_add_left_of_le (by decide)) ?_
    refine z_getI hc (ci := 3) (k := 1) (by decide) (by decide) zly3 (lyC_10_5 h6) (zkC (lyC_10_5 h6)) wFX9_119 rfl dX9_sessions_68 ?_
    refine z_if_le (tgt := 84) hc dX9_sessions_71 (by decide) _ (fun h7 => ?_) (fun h7 => ?_)
    · refine z_aload_n hc dX9_sessions_84 0 rfl rfl ?_
      refine z_getR (x := 60) hc (ci := 9) (k := 6) (by decide) (by decide) zly9 lC1 (zkC lC1) wFX9_43 rfl dX9_sessions_85 rfl (by decide) ?_
      refine z_aload_n hc dX9_sessions_88 0 rfl rfl ?_
      refine zJ.chk _ (fun h8 => ?_)
      refine z_getR (x := (gR u 1 1)) hc (ci := 9) (k := 1) (by decide) (by decide) zly9 lC1 (zkC lC1) wFX9_19 rfl dX9_sessions_89 rfl (lC_pos h8) ?_
      refine z_callV (av := [.ref (gR u 1 1)]) (enc' := eV) hc rfl (sSt_nextDay 60 (gR u 1 1) _) (ci := 7) (by decide) lC60 (zkC lC60) rfl wMX9_213 hpyX7_nextDay hmyX7_nextDay (rm_ok hRm (Nat.le_of_ble_eq_true rfl) (Nat.le_of_ble_eq_true rfl)) (Nat.le_of_ble_eq_true rfl) hRm.2.2 dX9_sessions_92 (fun c3 u3 f3 => ?_)
      refine z_iinc (L' := [(5, .int (v5 + 1)), (0, .ref 1), (2, .int v2), (3, .int v3), (4, .int v4)]) hc dX9_sessions_95 4 rfl (v := (v5 + 1)) rfl (by decide) rfl rfl ?_
      refine z_goto (tgt := 55) hc dX9_sessions_98 (by decide) ?_
      refine zJ.sub (L' := [(0, .ref 1), (2, .int v2), (3, .int v3), (4, .int v4), (5, .int (v5 + 1))]) [1, 2, 3, 4, 0] rfl ?_
      exact hr55 v2 v3 v4 (v5 + 1) _
    · refine z_aload_n hc dX9_sessions_74 0 rfl rfl ?_
      refine z_callV (av := []) (enc' := eI) hc rfl (sOW_doDrawn _) (ci := 9) (by decide) lC1 (zkC lC1) rfl wMX9_390 hpyX9_doDrawn hmyX9_doDrawn (rm_ok hRm (Nat.le_of_ble_eq_true rfl) (Nat.le_of_ble_eq_true rfl)) (Nat.le_of_ble_eq_true rfl) hRm.2.2 dX9_sessions_75 (fun c4 u4 f4 => ?_)
      refine z_if_eq (tgt := 84) hc dX9_sessions_78 (by decide) _ (fun h9 => ?_) (fun h9 => ?_)
      · refine z_aload_n hc dX9_sessions_84 0 rfl rfl ?_
        refine z_getR (x := 60) hc (ci := 9) (k := 6) (by decide) (by decide) zly9 lC1 (zkC lC1) wFX9_43 rfl dX9_sessions_85 rfl (by decide) ?_
        refine z_aload_n hc dX9_sessions_88 0 rfl rfl ?_
        refine zJ.chk _ (fun h10 => ?_)
        refine z_getR (x := (gR u4 1 1)) hc (ci := 9) (k := 1) (by decide) (by decide) zly9 lC1 (zkC lC1) wFX9_19 rfl dX9_sessions_89 rfl (lC_pos h10) ?_
        refine z_callV (av := [.ref (gR u4 1 1)]) (enc' := eV) hc rfl (sSt_nextDay 60 (gR u4 1 1) _) (ci := 7) (by decide) lC60 (zkC lC60) rfl wMX9_213 hpyX7_nextDay hmyX7_nextDay (rm_ok hRm (Nat.le_of_ble_eq_true rfl) (Nat.le_of_ble_eq_true rfl)) (Nat.le_of_ble_eq_true rfl) hRm.2.2 dX9_sessions_92 (fun c5 u5 f5 => ?_)
        refine z_iinc (L' := [(5, .int (v5 + 1)), (0, .ref 1), (2, .int v2), (3, .int v3), (4, .int v4)]) hc dX9_sessions_95 4 rfl (v := (v5 + 1)) rfl (by decide) rfl rfl ?_
        refine z_goto (tgt := 55) hc dX9_sessions_98 (by decide) ?_
        refine zJ.sub (L' := [(0, .ref 1), (2, .int v2), (3, .int v3), (4, .int v4), (5, .int (v5 + 1))]) [1, 2, 3, 4, 0] rfl ?_
        exact hr55 v2 v3 v4 (v5 + 1) _
      · refine z_iinc (L' := [(4, .int (v4 + 1)), (0, .ref 1), (2, .int v2), (3, .int v3), (5, .int v5)]) hc dX9_sessions_81 3 rfl (v := (v4 + 1)) rfl (by decide) rfl rfl ?_
        refine z_aload_n hc dX9_sessions_84 1 rfl rfl ?_
        refine z_getR (x := 60) hc (ci := 9) (k := 6) (by decide) (by decide) zly9 lC1 (zkC lC1) wFX9_43 rfl dX9_sessions_85 rfl (by decide) ?_
        refine z_aload_n hc dX9_sessions_88 1 rfl rfl ?_
        refine zJ.chk _ (fun h11 => ?_)
        refine z_getR (x := (gR u4 1 1)) hc (ci := 9) (k := 1) (by decide) (by decide) zly9 lC1 (zkC lC1) wFX9_19 rfl dX9_sessions_89 rfl (lC_pos h11) ?_
        refine z_callV (av := [.ref (gR u4 1 1)]) (enc' := eV) hc rfl (sSt_nextDay 60 (gR u4 1 1) _) (ci := 7) (by decide) lC60 (zkC lC60) rfl wMX9_213 hpyX7_nextDay hmyX7_nextDay (rm_ok hRm (Nat.le_of_ble_eq_true rfl) (Nat.le_of_ble_eq_true rfl)) (Nat.le_of_ble_eq_true rfl) hRm.2.2 dX9_sessions_92 (fun c6 u6 f6 => ?_)
        refine z_iinc (L' := [(5, .int (v5 + 1)), (4, .int (v4 + 1)), (0, .ref 1), (2, .int v2), (3, .int v3)]) hc dX9_sessions_95 4 rfl (v := (v5 + 1)) rfl (by decide) rfl rfl ?_
        refine z_goto (tgt := 55) hc dX9_sessions_98 (by decide) ?_
        refine zJ.sub (L' := [(0, .ref 1), (2, .int v2), (3, .int v3), (4, .int (v4 + 1)), (5, .int (v5 + 1))]) [2, 3, 4, 1, 0] rfl ?_
        exact hr55 v2 v3 (v4 + 1) (v5 + 1) _
set_option maxRecDepth 100000 in
set_option maxHeartbeats 4000000 in
theorem sOW_sessions_55 {fin : Int32 × zM} (hc : zCx p s mi args meth c (wC D b) m0 RX9 cX9_sessions 6 (some .int)) (hRm : R.frames = 6 ∧ R.locals = 147 ∧ R.cells = zc (wC D b) m0 fin.2 ∧ R.slots = zs (wC D b) m0 fin.2) : ∀ (zf : Nat) (v2 : Int32) (v3 : Int32) (v4 : Int32) (v5 : Int32) (u : zM), zJ eI p l e R s mi args below meth c (wC D b) m0 6 fin 55 [(0, .ref 1), (2, .int v2), (3, .int v3), (4, .int v4), (5, .int v5)] [] u (OW_sessions_55 zf v2 v3 v4 v5 u) := by
  intro zf
  induction zf with
  | zero => intro v2 v3 v4 v5 u; exact zJ.nil
  | succ zf ih => intro v2 v3 v4 v5 u; exact sOW_sessions_55b hc hRm ih v2 v3 v4 v5 u
set_option maxRecDepth 100000 in
set_option maxHeartbeats 4000000 in
theorem sOW_sessions : ∀ (v1 : Int32) (v2 : Int32) (v3 : Int32) (u : zM) r m1, OW_sessions v1 v2 v3 u = some (r, m1) → zMet l (wC D b) 6 147 yX9_sessions cX9_sessions 6 (some .int) [.ref 1, .int v1, .int v2, .int v3] u (eI r) m1 := by
  intro v1 v2 v3 u
  refine zMet.of (L := [(0, .ref 1), (1, .int v1), (2, .int v2), (3, .int v3)]) RX9 (by decide +kernel) rfl (Nat.le_of_ble_eq_true rfl) (fun h => by cases h) rfl (fun p e s mi args below meth c R fin hc hin hRm => ?_)
  unfold OW_sessions
  refine z_iload_n hc dX9_sessions_0 1 rfl rfl ?_
  refine z_iconst (v := 0) hc dX9_sessions_1 rfl ?_
  refine z_sipush (v := 9999) hc dX9_sessions_2 rfl ?_
  refine z_callS (av := [.int v1, .int 0, .int 9999]) (enc' := eI) hc rfl (sOW_within v1 0 9999 _) wMX9_229 hpyX9_within hmyX9_within (rm_ok hRm (Nat.le_of_ble_eq_true rfl) (Nat.le_of_ble_eq_true rfl)) (Nat.le_of_ble_eq_true rfl) hRm.2.2 dX9_sessions_5 (fun c1 u1 f1 => ?_)
  refine z_if_eq (tgt := 30) hc dX9_sessions_8 (by decide) _ (fun h1 => ?_) (fun h1 => ?_)
  · refine z_iconst (v := (-1)) hc dX9_sessions_30 rfl ?_
    exact z_iret hc dX9_sessions_31
  · refine z_iload_n hc dX9_sessions_11 2 rfl rfl ?_
    refine z_iconst (v := 1) hc dX9_sessions_12 rfl ?_
    refine z_bipush (v := 99) hc dX9_sessions_13 rfl ?_
    refine z_callS (av := [.int v2, .int 1, .int 99]) (enc' := eI) hc rfl (sOW_within v2 1 99 _) wMX9_229 hpyX9_within hmyX9_within (rm_ok hRm (Nat.le_of_ble_eq_true rfl) (Nat.le_of_ble_eq_true rfl)) (Nat.le_of_ble_eq_true rfl) hRm.2.2 dX9_sessions_15 (fun c2 u2 f2 => ?_)
    refine z_if_eq (tgt := 30) hc dX9_sessions_18 (by decide) _ (fun h2 => ?_) (fun h2 => ?_)
    · refine z_iconst (v := (-1)) hc dX9_sessions_30 rfl ?_
      exact z_iret hc dX9_sessions_31
    · refine z_iload_n hc dX9_sessions_21 3 rfl rfl ?_
      refine z_iconst (v := 0) hc dX9_sessions_22 rfl ?_
      refine z_iconst (v := 2) hc dX9_sessions_23 rfl ?_
      refine z_callS (av := [.int v3, .int 0, .int 2]) (enc' := eI) hc rfl (sOW_within v3 0 2 _) wMX9_229 hpyX9_within hmyX9_within (rm_ok hRm (Nat.le_of_ble_eq_true rfl) (Nat.le_of_ble_eq_true rfl)) (Nat.le_of_ble_eq_true rfl) hRm.2.2 dX9_sessions_24 (fun c3 u3 f3 => ?_)
      refine z_if_ne (tgt := 32) hc dX9_sessions_27 (by decide) _ (fun h3 => ?_) (fun h3 => ?_)
      · refine z_aload_n hc dX9_sessions_32 0 rfl rfl ?_
        refine z_getR (x := 60) hc (ci := 9) (k := 6) (by decide) (by decide) zly9 lC1 (zkC lC1) wFX9_43 rfl dX9_sessions_33 rfl (by decide) ?_
        refine z_aload_n hc dX9_sessions_36 0 rfl rfl ?_
        refine z_getR (x := 54) hc (ci := 9) (k := 5) (by decide) (by decide) zly9 lC1 (zkC lC1) wFX9_39 rfl dX9_sessions_37 rfl (by decide) ?_
        refine z_callV (av := [.ref 54]) (enc' := eV) hc rfl (sSt_copy 60 54 _) (ci := 7) (by decide) lC60 (zkC lC60) rfl wMX9_219 hpyX7_copy hmyX7_copy (rm_ok hRm (Nat.le_of_ble_eq_true rfl) (Nat.le_of_ble_eq_true rfl)) (Nat.le_of_ble_eq_true rfl) hRm.2.2 dX9_sessions_40 (fun c4 u4 f4 => ?_)
        refine z_aload_n hc dX9_sessions_43 0 rfl rfl ?_
        refine z_iload_n hc dX9_sessions_44 1 rfl rfl ?_
        refine z_i2l hc dX9_sessions_45 ?_
        refine z_putL hc (ci := 9) (k := 14) (by decide) (by decide) zly9 lC1 (zkC lC1) wFX9_386 rfl rfl dX9_sessions_46 ?_
        refine zJ.letM (fun u5 e1 => ?_)
        refine z_iconst (v := 0) hc dX9_sessions_49 rfl ?_
        refine z_istore (L' := [(4, .int 0), (0, .ref 1), (1, .int v1), (2, .int v2), (3, .int v3)]) hc dX9_sessions_50 (by decide) rfl rfl ?_
        refine z_iconst (v := 0) hc dX9_sessions_52 rfl ?_
        refine z_istore (L' := [(5, .int 0), (4, .int 0), (0, .ref 1), (1, .int v1), (2, .int v2), (3, .int v3)]) hc dX9_sessions_53 (by decide) rfl rfl ?_
        refine zJ.sub (L' := [(0, .ref 1), (2, .int v2), (3, .int v3), (4, .int 0), (5, .int 0)]) [2, 4, 5, 1, 0] rfl ?_
        exact sOW_sessions_55 hc hRm zF v2 v3 0 0 _
      · refine z_iconst (v := (-1)) hc dX9_sessions_30 rfl ?_
        exact z_iret hc dX9_sessions_31
end ZS
