section ZS
variable {p : Program} {l : Launch} {e : Env} {R : Room} {s : State} {mi : MethodId} {args : Array Value} {below : List Frame} {meth : Method} {c : Code} {D : zD} {b : Nat} {m0 : zM}
set_option maxRecDepth 100000 in
set_option maxHeartbeats 4000000 in
theorem sMo_thrown : ∀ (u : zM) r m1, Mo_thrown u = some (r, m1) → zMet l (wM D b) 0 0 yX10_thrown cX10_thrown 1 (some .int) [.ref 1] u (eI r) m1 := by
  intro u
  refine zMet.of (L := [(0, .ref 1)]) RX10 (by decide +kernel) rfl (Nat.le_of_ble_eq_true rfl) (fun h => by cases h) rfl (fun p e s mi args below meth c R fin hc hin hRm => ?_)
  unfold Mo_thrown
  refine z_aload_n hc dX10_thrown_0 0 rfl rfl ?_
  refine z_getI hc (ci := 10) (k := 0) (by decide) (by decide) zly10 lM1 (zkM lM1) wFX10_162 rfl dX10_thrown_1 ?_
  exact z_iret hc dX10_thrown_4
set_option maxRecDepth 100000 in
set_option maxHeartbeats 4000000 in
theorem sMo_within : ∀ (v0 : Int32) (v1 : Int32) (v2 : Int32) (u : zM) r m1, Mo_within v0 v1 v2 u = some (r, m1) → zMet l (wM D b) 0 0 yX10_within cX10_within 3 (some .boolean) [.int v0, .int v1, .int v2] u (eI r) m1 := by
  intro v0 v1 v2 u
  refine zMet.of (L := [(0, .int v0), (1, .int v1), (2, .int v2)]) RX10 (by decide +kernel) rfl (Nat.le_of_ble_eq_true rfl) (fun h => by cases h) rfl (fun p e s mi args below meth c R fin hc hin hRm => ?_)
  unfold Mo_within
  refine z_iload_n hc dX10_within_0 0 rfl rfl ?_
  refine z_iload_n hc dX10_within_1 1 rfl rfl ?_
  refine z_icmp_lt (tgt := 14) hc dX10_within_2 (by decide) _ (fun h1 => ?_) (fun h1 => ?_)
  · refine z_iconst (v := 0) hc dX10_within_14 rfl ?_
    exact z_zret hc rfl dX10_within_15
  · refine z_iload_n hc dX10_within_5 0 rfl rfl ?_
    refine z_iload_n hc dX10_within_6 2 rfl rfl ?_
    refine z_icmp_gt (tgt := 14) hc dX10_within_7 (by decide) _ (fun h2 => ?_) (fun h2 => ?_)
    · refine z_iconst (v := 0) hc dX10_within_14 rfl ?_
      exact z_zret hc rfl dX10_within_15
    · refine z_iconst (v := 1) hc dX10_within_10 rfl ?_
      refine z_goto (tgt := 15) hc dX10_within_11 (by decide) ?_
      exact z_zret hc rfl dX10_within_15
set_option maxRecDepth 100000 in
set_option maxHeartbeats 4000000 in
theorem sMo_between : ∀ (v0 : Int32) (v1 : Int32) (v2 : Int32) (u : zM) r m1, Mo_between v0 v1 v2 u = some (r, m1) → zMet l (wM D b) 0 0 yX10_between cX10_between 3 (some .int) [.int v0, .int v1, .int v2] u (eI r) m1 := by
  intro v0 v1 v2 u
  refine zMet.of (L := [(0, .int v0), (1, .int v1), (2, .int v2)]) RX10 (by decide +kernel) rfl (Nat.le_of_ble_eq_true rfl) (fun h => by cases h) rfl (fun p e s mi args below meth c R fin hc hin hRm => ?_)
  unfold Mo_between
  refine z_iload_n hc dX10_between_0 0 rfl rfl ?_
  refine z_iload_n hc dX10_between_1 1 rfl rfl ?_
  refine z_icmp_ge (tgt := 9) hc dX10_between_2 (by decide) _ (fun h1 => ?_) (fun h1 => ?_)
  · refine z_iload_n hc dX10_between_9 0 rfl rfl ?_
    refine z_iload_n hc dX10_between_10 2 rfl rfl ?_
    refine z_icmp_le (tgt := 18) hc dX10_between_11 (by decide) _ (fun h2 => ?_) (fun h2 => ?_)
    · refine z_iload_n hc dX10_between_18 0 rfl rfl ?_
      exact z_iret hc dX10_between_19
    · refine z_iload_n hc dX10_between_14 2 rfl rfl ?_
      refine z_goto (tgt := 19) hc dX10_between_15 (by decide) ?_
      exact z_iret hc dX10_between_19
  · refine z_iload_n hc dX10_between_5 1 rfl rfl ?_
    refine z_goto (tgt := 19) hc dX10_between_6 (by decide) ?_
    exact z_iret hc dX10_between_19
set_option maxRecDepth 100000 in
set_option maxHeartbeats 4000000 in
theorem sMo_bits_4b {fin : Int32 × zM} (hc : zCx p s mi args meth c (wM D b) m0 RX10 cX10_bits 3 (some .int)) (hRm : R.frames = 0 ∧ R.locals = 0 ∧ R.cells = zc (wM D b) m0 fin.2 ∧ R.slots = zs (wM D b) m0 fin.2) {zr4 : Int32 → Int32 → Int32 → zM → Option (Int32 × zM)} (hr4 : ∀ (v0 : Int32) (v1 : Int32) (v2 : Int32) (u : zM), zJ eI p l e R s mi args below meth c (wM D b) m0 3 fin 4 [(0, .int v0), (1, .int v1), (2, .int v2)] [] u (zr4 v0 v1 v2 u)) (v0 : Int32) (v1 : Int32) (v2 : Int32) (u : zM) : zJ eI p l e R s mi args below meth c (wM D b) m0 3 fin 4 [(0, .int v0), (1, .int v1), (2, .int v2)] [] u (Mo_bits_4b zr4 v0 v1 v2 u) := by
  unfold Mo_bits_4b
  refine z_iload_n hc dX10_bits_4 2 rfl rfl ?_
  refine z_bipush (v := 10) hc dX10_bits_5 rfl ?_
  refine z_icmp_ge (tgt := 24) hc dX10_bits_7 (by decide) _ (fun h1 => ?_) (fun h1 => ?_)
  · refine z_iload_n hc dX10_bits_24 1 rfl rfl ?_
    exact z_iret hc dX10_bits_25
  · refine z_iload_n hc dX10_bits_10 1 rfl rfl ?_
    refine z_iload_n hc dX10_bits_11 0 rfl rfl ?_
    refine z_iload_n hc dX10_bits_12 2 rfl rfl ?_
    refine z_ishr hc dX10_bits_13 ?_
    refine z_iconst (v := 1) hc dX10_bits_14 rfl ?_
    refine z_iand hc dX10_bits_15 ?_
    refine z_iadd hc dX10_bits_16 ?_
    refine zJ.letI (fun x1 e1 => ?_)
    refine z_istore_n (L' := [(1, .int x1), (0, .int v0), (2, .int v2)]) hc dX10_bits_17 rfl (by decide) rfl rfl ?_
    refine z_iinc (L' := [(2, .int (v2 + 1)), (1, .int x1), (0, .int v0)]) hc dX10_bits_18 2 rfl (v := (v2 + 1)) rfl (by decide) rfl rfl ?_
    refine z_goto (tgt := 4) hc dX10_bits_21 (by decide) ?_
    refine zJ.sub (L' := [(0, .int v0), (1, .int x1), (2, .int (v2 + 1))]) [2, 1, 0] rfl ?_
    exact hr4 v0 x1 (v2 + 1) _
set_option maxRecDepth 100000 in
set_option maxHeartbeats 4000000 in
theorem sMo_bits_4 {fin : Int32 × zM} (hc : zCx p s mi args meth c (wM D b) m0 RX10 cX10_bits 3 (some .int)) (hRm : R.frames = 0 ∧ R.locals = 0 ∧ R.cells = zc (wM D b) m0 fin.2 ∧ R.slots = zs (wM D b) m0 fin.2) : ∀ (zf : Nat) (v0 : Int32) (v1 : Int32) (v2 : Int32) (u : zM), zJ eI p l e R s mi args below meth c (wM D b) m0 3 fin 4 [(0, .int v0), (1, .int v1), (2, .int v2)] [] u (Mo_bits_4 zf v0 v1 v2 u) := by
  intro zf
  induction zf with
  | zero => intro v0 v1 v2 u; exact zJ.nil
  | succ zf ih => intro v0 v1 v2 u; exact sMo_bits_4b hc hRm ih v0 v1 v2 u
set_option maxRecDepth 100000 in
set_option maxHeartbeats 4000000 in
theorem sMo_bits : ∀ (v0 : Int32) (u : zM) r m1, Mo_bits v0 u = some (r, m1) → zMet l (wM D b) 0 0 yX10_bits cX10_bits 3 (some .int) [.int v0] u (eI r) m1 := by
  intro v0 u
  refine zMet.of (L := [(0, .int v0)]) RX10 (by decide +kernel) rfl (Nat.le_of_ble_eq_true rfl) (fun h => by cases h) rfl (fun p e s mi args below meth c R fin hc hin hRm => ?_)
  unfold Mo_bits
  refine z_iconst (v := 0) hc dX10_bits_0 rfl ?_
  refine z_istore_n (L' := [(1, .int 0), (0, .int v0)]) hc dX10_bits_1 rfl (by decide) rfl rfl ?_
  refine z_iconst (v := 0) hc dX10_bits_2 rfl ?_
  refine z_istore_n (L' := [(2, .int 0), (1, .int 0), (0, .int v0)]) hc dX10_bits_3 rfl (by decide) rfl rfl ?_
  refine zJ.sub (L' := [(0, .int v0), (1, .int 0), (2, .int 0)]) [2, 1, 0] rfl ?_
  exact sMo_bits_4 hc hRm zF v0 0 0 _
set_option maxRecDepth 100000 in
set_option maxHeartbeats 4000000 in
theorem sMo_lowest_2b {fin : Int32 × zM} (hc : zCx p s mi args meth c (wM D b) m0 RX10 cX10_lowest 2 (some .int)) (hRm : R.frames = 0 ∧ R.locals = 0 ∧ R.cells = zc (wM D b) m0 fin.2 ∧ R.slots = zs (wM D b) m0 fin.2) {zr2 : Int32 → Int32 → zM → Option (Int32 × zM)} (hr2 : ∀ (v0 : Int32) (v1 : Int32) (u : zM), zJ eI p l e R s mi args below meth c (wM D b) m0 2 fin 2 [(0, .int v0), (1, .int v1)] [] u (zr2 v0 v1 u)) (v0 : Int32) (v1 : Int32) (u : zM) : zJ eI p l e R s mi args below meth c (wM D b) m0 2 fin 2 [(0, .int v0), (1, .int v1)] [] u (Mo_lowest_2b zr2 v0 v1 u) := by
  unfold Mo_lowest_2b
  refine z_iload_n hc dX10_lowest_2 1 rfl rfl ?_
  refine z_bipush (v := 10) hc dX10_lowest_3 rfl ?_
  refine z_icmp_ge (tgt := 25) hc dX10_lowest_5 (by decide) _ (fun h1 => ?_) (fun h1 => ?_)
  · refine z_iconst (v := (-1)) hc dX10_lowest_25 rfl ?_
    exact z_iret hc dX10_lowest_26
  · refine z_iload_n hc dX10_lowest_8 0 rfl rfl ?_
    refine z_iload_n hc dX10_lowest_9 1 rfl rfl ?_
    refine z_ishr hc dX10_lowest_10 ?_
    refine z_iconst (v := 1) hc dX10_lowest_11 rfl ?_
    refine z_iand hc dX10_lowest_12 ?_
    refine z_iconst (v := 1) hc dX10_lowest_13 rfl ?_
    refine z_icmp_ne (tgt := 19) hc dX10_lowest_14 (by decide) _ (fun h2 => ?_) (fun h2 => ?_)
    · refine z_iinc (L' := [(1, .int (v1 + 1)), (0, .int v0)]) hc dX10_lowest_19 1 rfl (v := (v1 + 1)) rfl (by decide) rfl rfl ?_
      refine z_goto (tgt := 2) hc dX10_lowest_22 (by decide) ?_
      refine zJ.sub (L' := [(0, .int v0), (1, .int (v1 + 1))]) [1, 0] rfl ?_
      exact hr2 v0 (v1 + 1) _
    · refine z_iload_n hc dX10_lowest_17 1 rfl rfl ?_
      exact z_iret hc dX10_lowest_18
set_option maxRecDepth 100000 in
set_option maxHeartbeats 4000000 in
theorem sMo_lowest_2 {fin : Int32 × zM} (hc : zCx p s mi args meth c (wM D b) m0 RX10 cX10_lowest 2 (some .int)) (hRm : R.frames = 0 ∧ R.locals = 0 ∧ R.cells = zc (wM D b) m0 fin.2 ∧ R.slots = zs (wM D b) m0 fin.2) : ∀ (zf : Nat) (v0 : Int32) (v1 : Int32) (u : zM), zJ eI p l e R s mi args below meth c (wM D b) m0 2 fin 2 [(0, .int v0), (1, .int v1)] [] u (Mo_lowest_2 zf v0 v1 u) := by
  intro zf
  induction zf with
  | zero => intro v0 v1 u; exact zJ.nil
  | succ zf ih => intro v0 v1 u; exact sMo_lowest_2b hc hRm ih v0 v1 u
set_option maxRecDepth 100000 in
set_option maxHeartbeats 4000000 in
theorem sMo_lowest : ∀ (v0 : Int32) (u : zM) r m1, Mo_lowest v0 u = some (r, m1) → zMet l (wM D b) 0 0 yX10_lowest cX10_lowest 2 (some .int) [.int v0] u (eI r) m1 := by
  intro v0 u
  refine zMet.of (L := [(0, .int v0)]) RX10 (by decide +kernel) rfl (Nat.le_of_ble_eq_true rfl) (fun h => by cases h) rfl (fun p e s mi args below meth c R fin hc hin hRm => ?_)
  unfold Mo_lowest
  refine z_iconst (v := 0) hc dX10_lowest_0 rfl ?_
  refine z_istore_n (L' := [(1, .int 0), (0, .int v0)]) hc dX10_lowest_1 rfl (by decide) rfl rfl ?_
  refine zJ.sub (L' := [(0, .int v0), (1, .int 0)]) [1, 0] rfl ?_
  exact sMo_lowest_2 hc hRm zF v0 0 _
set_option maxRecDepth 100000 in
set_option maxHeartbeats 4000000 in
theorem sMo_feed_93 {fin : Int32 × zM} (hc : zCx p s mi args meth c (wM D b) m0 RX10 cX10_feed 11 (some .int)) (hRm : R.frames = 0 ∧ R.locals = 0 ∧ R.cells = zc (wM D b) m0 fin.2 ∧ R.slots = zs (wM D b) m0 fin.2) {zr8 : Int64 → Int64 → Int64 → Int32 → zM → Option (Int32 × zM)} (hr8 : ∀ (v1 : Int64) (v3 : Int64) (v5 : Int64) (v7 : Int32) (u : zM), zJ eI p l e R s mi args below meth c (wM D b) m0 11 fin 8 [(0, .ref 1), (1, .long v1), (3, .long v3), (5, .long v5), (7, .int v7)] [] u (zr8 v1 v3 v5 v7 u)) (v1 : Int64) (v3 : Int64) (v5 : Int64) (v7 : Int32) (v10 : Int32) (u : zM) : zJ eI p l e R s mi args below meth c (wM D b) m0 11 fin 93 [(0, .ref 1), (1, .long v1), (3, .long v3), (5, .long v5), (7, .int v7), (10, .int v10)] [] u (Mo_feed_93 zr8 v1 v3 v5 v7 v10 u) := by
  unfold Mo_feed_93
  refine z_aload_n hc dX10_feed_93 0 rfl rfl ?_
  refine z_getR (x := 2) hc (ci := 10) (k := 2) (by decide) (by decide) zly10 lM1 (zkM lM1) wFX10_7 rfl dX10_feed_94 rfl (by decide) ?_
  refine z_aload_n hc dX10_feed_97 0 rfl rfl ?_
  refine z_getI hc (ci := 10) (k := 1) (by decide) (by decide) zly10 lM1 (zkM lM1) wFX10_168 rfl dX10_feed_98 ?_
  refine z_iload hc dX10_feed_101 5 rfl ?_
  refine zJ.chk _ (fun h1 => ?_)
  refine z_iast (k := (ix (gI u 1 1))) hc lM2 (zkM lM2) h1 rfl dX10_feed_103 ?_
  refine zJ.letM (fun u1 e1 => ?_)
  refine z_aload_n hc dX10_feed_104 0 rfl rfl ?_
  refine z_dup hc dX10_feed_105 rfl ?_
  refine z_getI hc (ci := 10) (k := 1) (by decide) (by decide) zly10 lM1 (zkM lM1) wFX10_168 rfl dX10_feed_106 ?_
  refine z_iconst (v := 1) hc dX10_feed_109 rfl ?_
  refine z_iadd hc dX10_feed_110 ?_
  refine z_putI hc (ci := 10) (k := 1) (by decide) (by decide) zly10 lM1 (zkM lM1) wFX10_168 rfl rfl rfl rfl dX10_feed_111 ?_
  refine zJ.letM (fun u2 e2 => ?_)
  refine z_iinc (L' := [(7, .int (v7 + 1)), (0, .ref 1), (1, .long v1), (3, .long v3), (5, .long v5), (10, .int v10)]) hc dX10_feed_114 4 rfl (v := (v7 + 1)) rfl (by decide) rfl rfl ?_
  refine z_goto (tgt := 8) hc dX10_feed_117 (by decide) ?_
  refine zJ.sub (L' := [(0, .ref 1), (1, .long v1), (3, .long v3), (5, .long v5), (7, .int (v7 + 1))]) [1, 2, 3, 4, 0] rfl ?_
  exact hr8 v1 v3 v5 (v7 + 1) _
set_option maxRecDepth 100000 in
set_option maxHeartbeats 4000000 in
theorem sMo_feed_39 {fin : Int32 × zM} (hc : zCx p s mi args meth c (wM D b) m0 RX10 cX10_feed 11 (some .int)) (hRm : R.frames = 0 ∧ R.locals = 0 ∧ R.cells = zc (wM D b) m0 fin.2 ∧ R.slots = zs (wM D b) m0 fin.2) {zr8 : Int64 → Int64 → Int64 → Int32 → zM → Option (Int32 × zM)} (hr8 : ∀ (v1 : Int64) (v3 : Int64) (v5 : Int64) (v7 : Int32) (u : zM), zJ eI p l e R s mi args below meth c (wM D b) m0 11 fin 8 [(0, .ref 1), (1, .long v1), (3, .long v3), (5, .long v5), (7, .int v7)] [] u (zr8 v1 v3 v5 v7 u)) (v1 : Int64) (v3 : Int64) (v5 : Int64) (v7 : Int32) (s0 : Int64) (u : zM) : zJ eI p l e R s mi args below meth c (wM D b) m0 11 fin 39 [(0, .ref 1), (1, .long v1), (3, .long v3), (5, .long v5), (7, .int v7)] [.long s0] u (Mo_feed_39 zr8 v1 v3 v5 v7 s0 u) := by
  unfold Mo_feed_39
  refine z_lstore (L' := [(8, .long s0), (0, .ref 1), (1, .long v1), (3, .long v3), (5, .long v5), (7, .int v7)]) hc dX10_feed_39 (by decide) rfl rfl ?_
  refine z_lload hc dX10_feed_41 0 rfl ?_
  refine z_bipush (v := 56) hc dX10_feed_43 rfl ?_
  refine z_bipush (v := 8) hc dX10_feed_45 rfl ?_
  refine z_iload hc dX10_feed_47 5 rfl ?_
  refine z_bipush (v := 7) hc dX10_feed_49 rfl ?_
  refine z_iand hc dX10_feed_51 ?_
  refine z_imul hc dX10_feed_52 ?_
  refine z_isub hc dX10_feed_53 ?_
  refine z_lushr hc dX10_feed_54 ?_
  refine z_ldc2 (v := 255) hc wKX10_166 dX10_feed_55 ?_
  refine z_land hc dX10_feed_58 ?_
  refine z_l2i hc dX10_feed_59 ?_
  refine zJ.letI (fun x1 e1 => ?_)
  refine z_istore (L' := [(10, .int x1), (8, .long s0), (0, .ref 1), (1, .long v1), (3, .long v3), (5, .long v5), (7, .int v7)]) hc dX10_feed_60 (by decide) rfl rfl ?_
  refine z_aload_n hc dX10_feed_62 2 rfl rfl ?_
  refine z_getI hc (ci := 10) (k := 1) (by decide) (by decide) zly10 lM1 (zkM lM1) wFX10_168 rfl dX10_feed_63 ?_
  refine z_sipush (v := 1000) hc dX10_feed_66 rfl ?_
  refine z_icmp_ge (tgt := 114) hc dX10_feed_69 (by decide) _ (fun h1 => ?_) (fun h1 => ?_)
  · refine z_iinc (L' := [(7, .int (v7 + 1)), (10, .int x1), (8, .long s0), (0, .ref 1), (1, .long v1), (3, .long v3), (5, .long v5)]) hc dX10_feed_114 6 rfl (v := (v7 + 1)) rfl (by decide) rfl rfl ?_
    refine z_goto (tgt := 8) hc dX10_feed_117 (by decide) ?_
    refine zJ.sub (L' := [(0, .ref 1), (1, .long v1), (3, .long v3), (5, .long v5), (7, .int (v7 + 1))]) [3, 4, 5, 6, 0] rfl ?_
    exact hr8 v1 v3 v5 (v7 + 1) _
  · refine z_iload hc dX10_feed_72 0 rfl ?_
    refine z_bipush (v := 10) hc dX10_feed_74 rfl ?_
    refine z_icmp_eq (tgt := 93) hc dX10_feed_76 (by decide) _ (fun h2 => ?_) (fun h2 => ?_)
    · refine zJ.sub (L' := [(0, .ref 1), (1, .long v1), (3, .long v3), (5, .long v5), (7, .int v7), (10, .int x1)]) [2, 3, 4, 5, 6, 0] rfl ?_
      exact sMo_feed_93 hc hRm hr8 v1 v3 v5 v7 x1 _
    · refine z_iload hc dX10_feed_79 0 rfl ?_
      refine z_bipush (v := 32) hc dX10_feed_81 rfl ?_
      refine z_icmp_lt (tgt := 114) hc dX10_feed_83 (by decide) _ (fun h3 => ?_) (fun h3 => ?_)
      · refine z_iinc (L' := [(7, .int (v7 + 1)), (10, .int x1), (8, .long s0), (0, .ref 1), (1, .long v1), (3, .long v3), (5, .long v5)]) hc dX10_feed_114 6 rfl (v := (v7 + 1)) rfl (by decide) rfl rfl ?_
        refine z_goto (tgt := 8) hc dX10_feed_117 (by decide) ?_
        refine zJ.sub (L' := [(0, .ref 1), (1, .long v1), (3, .long v3), (5, .long v5), (7, .int (v7 + 1))]) [3, 4, 5, 6, 0] rfl ?_
        exact hr8 v1 v3 v5 (v7 + 1) _
      · refine z_iload hc dX10_feed_86 0 rfl ?_
        refine z_bipush (v := 126) hc dX10_feed_88 rfl ?_
        refine z_icmp_gt (tgt := 114) hc dX10_feed_90 (by decide) _ (fun h4 => ?_) (fun h4 => ?_)
        · refine z_iinc (L' := [(7, .int (v7 + 1)), (10, .int x1), (8, .long s0), (0, .ref 1), (1, .long v1), (3, .long v3), (5, .long v5)]) hc dX10_feed_114 6 rfl (v := (v7 + 1)) rfl (by decide) rfl rfl ?_
          refine z_goto (tgt := 8) hc dX10_feed_117 (by decide) ?_
          refine zJ.sub (L' := [(0, .ref 1), (1, .long v1), (3, .long v3), (5, .long v5), (7, .int (v7 + 1))]) [3, 4, 5, 6, 0] rfl ?_
          exact hr8 v1 v3 v5 (v7 + 1) _
        · refine zJ.sub (L' := [(0, .ref 1), (1, .long v1), (3, .long v3), (5, .long v5), (7, .int v7), (10, .int x1)]) [2, 3, 4, 5, 6, 0] rfl ?_
          exact sMo_feed_93 hc hRm hr8 v1 v3 v5 v7 x1 _
set_option maxRecDepth 100000 in
set_option maxHeartbeats 4000000 in
theorem sMo_feed_8b {fin : Int32 × zM} (hc : zCx p s mi args meth c (wM D b) m0 RX10 cX10_feed 11 (some .int)) (hRm : R.frames = 0 ∧ R.locals = 0 ∧ R.cells = zc (wM D b) m0 fin.2 ∧ R.slots = zs (wM D b) m0 fin.2) {zr8 : Int64 → Int64 → Int64 → Int32 → zM → Option (Int32 × zM)} (hr8 : ∀ (v1 : Int64) (v3 : Int64) (v5 : Int64) (v7 : Int32) (u : zM), zJ eI p l e R s mi args below meth c (wM D b) m0 11 fin 8 [(0, .ref 1), (1, .long v1), (3, .long v3), (5, .long v5), (7, .int v7)] [] u (zr8 v1 v3 v5 v7 u)) (v1 : Int64) (v3 : Int64) (v5 : Int64) (v7 : Int32) (u : zM) : zJ eI p l e R s mi args below meth c (wM D b) m0 11 fin 8 [(0, .ref 1), (1, .long v1), (3, .long v3), (5, .long v5), (7, .int v7)] [] u (Mo_feed_8b zr8 v1 v3 v5 v7 u) := by
  unfold Mo_feed_8b
  refine z_iload hc dX10_feed_8 4 rfl ?_
  refine z_bipush (v := 24) hc dX10_feed_10 rfl ?_
  refine z_icmp_ge (tgt := 120) hc dX10_feed_12 (by decide) _ (fun h1 => ?_) (fun h1 => ?_)
  · refine z_aload_n hc dX10_feed_120 0 rfl rfl ?_
    refine z_getI hc (ci := 10) (k := 1) (by decide) (by decide) zly10 lM1 (zkM lM1) wFX10_168 rfl dX10_feed_121 ?_
    exact z_iret hc dX10_feed_124
  · refine z_iload hc dX10_feed_15 4 rfl ?_
    refine z_bipush (v := 8) hc dX10_feed_17 rfl ?_
    refine z_icmp_ge (tgt := 26) hc dX10_feed_19 (by decide) _ (fun h2 => ?_) (fun h2 => ?_)
    · refine z_iload hc dX10_feed_26 4 rfl ?_
      refine z_bipush (v := 16) hc dX10_feed_28 rfl ?_
      refine z_icmp_ge (tgt := 37) hc dX10_feed_30 (by decide) _ (fun h3 => ?_) (fun h3 => ?_)
      · refine z_lload hc dX10_feed_37 3 rfl ?_
        exact sMo_feed_39 hc hRm hr8 v1 v3 v5 v7 v5 _
      · refine z_lload_n hc dX10_feed_33 2 rfl rfl ?_
        refine z_goto (tgt := 39) hc dX10_feed_34 (by decide) ?_
        exact sMo_feed_39 hc hRm hr8 v1 v3 v5 v7 v3 _
    · refine z_lload_n hc dX10_feed_22 1 rfl rfl ?_
      refine z_goto (tgt := 39) hc dX10_feed_23 (by decide) ?_
      exact sMo_feed_39 hc hRm hr8 v1 v3 v5 v7 v1 _
set_option maxRecDepth 100000 in
set_option maxHeartbeats 4000000 in
theorem sMo_feed_8 {fin : Int32 × zM} (hc : zCx p s mi args meth c (wM D b) m0 RX10 cX10_feed 11 (some .int)) (hRm : R.frames = 0 ∧ R.locals = 0 ∧ R.cells = zc (wM D b) m0 fin.2 ∧ R.slots = zs (wM D b) m0 fin.2) : ∀ (zf : Nat) (v1 : Int64) (v3 : Int64) (v5 : Int64) (v7 : Int32) (u : zM), zJ eI p l e R s mi args below meth c (wM D b) m0 11 fin 8 [(0, .ref 1), (1, .long v1), (3, .long v3), (5, .long v5), (7, .int v7)] [] u (Mo_feed_8 zf v1 v3 v5 v7 u) := by
  intro zf
  induction zf with
  | zero => intro v1 v3 v5 v7 u; exact zJ.nil
  | succ zf ih => intro v1 v3 v5 v7 u; exact sMo_feed_8b hc hRm ih v1 v3 v5 v7 u
set_option maxRecDepth 100000 in
set_option maxHeartbeats 4000000 in
theorem sMo_feed : ∀ (v1 : Int64) (v3 : Int64) (v5 : Int64) (u : zM) r m1, Mo_feed v1 v3 v5 u = some (r, m1) → zMet l (wM D b) 0 0 yX10_feed cX10_feed 11 (some .int) [.ref 1, .long v1, .long v3, .long v5] u (eI r) m1 := by
  intro v1 v3 v5 u
  refine zMet.of (L := [(0, .ref 1), (1, .long v1), (3, .long v3), (5, .long v5)]) RX10 (by decide +kernel) rfl (Nat.le_of_ble_eq_true rfl) (fun h => by cases h) rfl (fun p e s mi args below meth c R fin hc hin hRm => ?_)
  unfold Mo_feed
  refine z_aload_n hc dX10_feed_0 0 rfl rfl ?_
  refine z_iconst (v := 0) hc dX10_feed_1 rfl ?_
  refine z_putI hc (ci := 10) (k := 0) (by decide) (by decide) zly10 lM1 (zkM lM1) wFX10_162 rfl rfl rfl rfl dX10_feed_2 ?_
  refine zJ.letM (fun u1 e1 => ?_)
  refine z_iconst (v := 0) hc dX10_feed_5 rfl ?_
  refine z_istore (L' := [(7, .int 0), (0, .ref 1), (1, .long v1), (3, .long v3), (5, .long v5)]) hc dX10_feed_6 (by decide) rfl rfl ?_
  refine zJ.sub (L' := [(0, .ref 1), (1, .long v1), (3, .long v3), (5, .long v5), (7, .int 0)]) [1, 2, 3, 4, 0] rfl ?_
  exact sMo_feed_8 hc hRm zF v1 v3 v5 0 _
set_option maxRecDepth 100000 in
set_option maxHeartbeats 4000000 in
theorem sMo_signAt : ∀ (v1 : Int32) (u : zM) r m1, Mo_signAt v1 u = some (r, m1) → zMet l (wM D b) 0 0 yX10_signAt cX10_signAt 2 (some .int) [.ref 1, .int v1] u (eI r) m1 := by
  intro v1 u
  refine zMet.of (L := [(0, .ref 1), (1, .int v1)]) RX10 (by decide +kernel) rfl (Nat.le_of_ble_eq_true rfl) (fun h => by cases h) rfl (fun p e s mi args below meth c R fin hc hin hRm => ?_)
  unfold Mo_signAt
  refine z_iload_n hc dX10_signAt_0 1 rfl rfl ?_
  refine z_aload_n hc dX10_signAt_1 0 rfl rfl ?_
  refine z_getI hc (ci := 10) (k := 3) (by decide) (by decide) zly10 lM1 (zkM lM1) wFX10_171 rfl dX10_signAt_2 ?_
  refine z_icmp_ge (tgt := 17) hc dX10_signAt_5 (by decide) _ (fun h1 => ?_) (fun h1 => ?_)
  · refine z_iconst (v := 0) hc dX10_signAt_17 rfl ?_
    exact z_iret hc dX10_signAt_18
  · refine z_aload_n hc dX10_signAt_8 0 rfl rfl ?_
    refine z_getR (x := 2) hc (ci := 10) (k := 2) (by decide) (by decide) zly10 lM1 (zkM lM1) wFX10_7 rfl dX10_signAt_9 rfl (by decide) ?_
    refine z_iload_n hc dX10_signAt_12 1 rfl rfl ?_
    refine zJ.chk _ (fun h2 => ?_)
    refine z_iald (k := (ix v1)) hc lM2 (zkM lM2) h2 rfl dX10_signAt_13 ?_
    refine z_goto (tgt := 18) hc dX10_signAt_14 (by decide) ?_
    exact z_iret hc dX10_signAt_18
set_option maxRecDepth 100000 in
set_option maxHeartbeats 4000000 in
theorem sMo_nextToken_188 {fin : Unit × zM} (hc : zCx p s mi args meth c (wM D b) m0 RX10 cX10_nextToken 2 none) (hRm : R.frames = 1 ∧ R.locals = 21 ∧ R.cells = zc (wM D b) m0 fin.2 ∧ R.slots = zs (wM D b) m0 fin.2) (u : zM) : zJ eV p l e R s mi args below meth c (wM D b) m0 2 fin 188 [(0, .ref 1)] [] u (Mo_nextToken_188 u) := by
  unfold Mo_nextToken_188
  refine z_aload_n hc dX10_nextToken_188 0 rfl rfl ?_
  refine z_aload_n hc dX10_nextToken_189 0 rfl rfl ?_
  refine z_getI hc (ci := 10) (k := 4) (by decide) (by decide) zly10 lM1 (zkM lM1) wFX10_174 rfl dX10_nextToken_190 ?_
  refine z_aload_n hc dX10_nextToken_193 0 rfl rfl ?_
  refine z_getI hc (ci := 10) (k := 5) (by decide) (by decide) zly10 lM1 (zkM lM1) wFX10_177 rfl dX10_nextToken_194 ?_
  refine z_isub hc dX10_nextToken_197 ?_
  refine z_bipush (v := 8) hc dX10_nextToken_198 rfl ?_
  refine z_icmp_le (tgt := 207) hc dX10_nextToken_200 (by decide) _ (fun h1 => ?_) (fun h1 => ?_)
  · refine z_iconst (v := 1) hc dX10_nextToken_207 rfl ?_
    refine z_putI hc (ci := 10) (k := 6) (by decide) (by decide) zly10 lM1 (zkM lM1) wFX10_187 rfl rfl rfl rfl dX10_nextToken_208 ?_
    refine zJ.letM (fun u1 e1 => ?_)
    exact z_vret hc dX10_nextToken_211
  · refine z_iconst (v := 4) hc dX10_nextToken_203 rfl ?_
    refine z_goto (tgt := 208) hc dX10_nextToken_204 (by decide) ?_
    refine z_putI hc (ci := 10) (k := 6) (by decide) (by decide) zly10 lM1 (zkM lM1) wFX10_187 rfl rfl rfl rfl dX10_nextToken_208 ?_
    refine zJ.letM (fun u2 e2 => ?_)
    exact z_vret hc dX10_nextToken_211
set_option maxRecDepth 100000 in
set_option maxHeartbeats 4000000 in
theorem sMo_nextToken_109b {fin : Unit × zM} (hc : zCx p s mi args meth c (wM D b) m0 RX10 cX10_nextToken 2 none) (hRm : R.frames = 1 ∧ R.locals = 21 ∧ R.cells = zc (wM D b) m0 fin.2 ∧ R.slots = zs (wM D b) m0 fin.2) {zr109 : zM → Option (Unit × zM)} (hr109 : ∀ (u : zM), zJ eV p l e R s mi args below meth c (wM D b) m0 2 fin 109 [(0, .ref 1)] [] u (zr109 u)) (u : zM) : zJ eV p l e R s mi args below meth c (wM D b) m0 2 fin 109 [(0, .ref 1)] [] u (Mo_nextToken_109b zr109 u) := by
  unfold Mo_nextToken_109b
  refine z_aload_n hc dX10_nextToken_109 0 rfl rfl ?_
  refine z_aload_n hc dX10_nextToken_110 0 rfl rfl ?_
  refine z_getI hc (ci := 10) (k := 4) (by decide) (by decide) zly10 lM1 (zkM lM1) wFX10_174 rfl dX10_nextToken_111 ?_
  refine z_callV (av := [.int (gI u 1 4)]) (enc' := eI) hc rfl (sMo_signAt (gI u 1 4) _) (ci := 10) (by decide) lM1 (zkM lM1) rfl wMX10_190 hpyX10_signAt hmyX10_signAt (rm_ok hRm (Nat.le_of_ble_eq_true rfl) (Nat.le_of_ble_eq_true rfl)) (Nat.le_of_ble_eq_true rfl) hRm.2.2 dX10_nextToken_114 (fun c1 u1 f1 => ?_)
  refine z_bipush (v := 97) hc dX10_nextToken_117 rfl ?_
  refine z_icmp_lt (tgt := 188) hc dX10_nextToken_119 (by decide) _ (fun h1 => ?_) (fun h1 => ?_)
  · exact sMo_nextToken_188 hc hRm _
  · refine z_aload_n hc dX10_nextToken_122 0 rfl rfl ?_
    refine z_aload_n hc dX10_nextToken_123 0 rfl rfl ?_
    refine z_getI hc (ci := 10) (k := 4) (by decide) (by decide) zly10 lM1 (zkM lM1) wFX10_174 rfl dX10_nextToken_124 ?_
    refine z_callV (av := [.int (gI u1 1 4)]) (enc' := eI) hc rfl (sMo_signAt (gI u1 1 4) _) (ci := 10) (by decide) lM1 (zkM lM1) rfl wMX10_190 hpyX10_signAt hmyX10_signAt (rm_ok hRm (Nat.le_of_ble_eq_true rfl) (Nat.le_of_ble_eq_true rfl)) (Nat.le_of_ble_eq_true rfl) hRm.2.2 dX10_nextToken_127 (fun c2 u2 f2 => ?_)
    refine z_bipush (v := 122) hc dX10_nextToken_130 rfl ?_
    refine z_icmp_gt (tgt := 188) hc dX10_nextToken_132 (by decide) _ (fun h2 => ?_) (fun h2 => ?_)
    · exact sMo_nextToken_188 hc hRm _
    · refine z_aload_n hc dX10_nextToken_135 0 rfl rfl ?_
      refine z_getI hc (ci := 10) (k := 4) (by decide) (by decide) zly10 lM1 (zkM lM1) wFX10_174 rfl dX10_nextToken_136 ?_
      refine z_aload_n hc dX10_nextToken_139 0 rfl rfl ?_
      refine z_getI hc (ci := 10) (k := 5) (by decide) (by decide) zly10 lM1 (zkM lM1) wFX10_177 rfl dX10_nextToken_140 ?_
      refine z_isub hc dX10_nextToken_143 ?_
      refine z_bipush (v := 8) hc dX10_nextToken_144 rfl ?_
      refine z_icmp_ge (tgt := 175) hc dX10_nextToken_146 (by decide) _ (fun h3 => ?_) (fun h3 => ?_)
      · refine z_aload_n hc dX10_nextToken_175 0 rfl rfl ?_
        refine z_dup hc dX10_nextToken_176 rfl ?_
        refine z_getI hc (ci := 10) (k := 4) (by decide) (by decide) zly10 lM1 (zkM lM1) wFX10_174 rfl dX10_nextToken_177 ?_
        refine z_iconst (v := 1) hc dX10_nextToken_180 rfl ?_
        refine z_iadd hc dX10_nextToken_181 ?_
        refine z_putI hc (ci := 10) (k := 4) (by decide) (by decide) zly10 lM1 (zkM lM1) wFX10_174 rfl rfl rfl rfl dX10_nextToken_182 ?_
        refine zJ.letM (fun u3 e1 => ?_)
        refine z_goto (tgt := 109) hc dX10_nextToken_185 (by decide) ?_
        exact hr109 _
      · refine z_aload_n hc dX10_nextToken_149 0 rfl rfl ?_
        refine z_aload_n hc dX10_nextToken_150 0 rfl rfl ?_
        refine z_getL hc (ci := 10) (k := 7) (by decide) (by decide) zly10 lM1 (zkM lM1) wFX10_180 rfl dX10_nextToken_151 ?_
        refine z_ldc2 (v := 27) hc wKX10_194 dX10_nextToken_154 ?_
        refine z_lmul hc dX10_nextToken_157 ?_
        refine z_aload_n hc dX10_nextToken_158 0 rfl rfl ?_
        refine z_aload_n hc dX10_nextToken_159 0 rfl rfl ?_
        refine z_getI hc (ci := 10) (k := 4) (by decide) (by decide) zly10 lM1 (zkM lM1) wFX10_174 rfl dX10_nextToken_160 ?_
        refine z_callV (av := [.int (gI u2 1 4)]) (enc' := eI) hc rfl (sMo_signAt (gI u2 1 4) _) (ci := 10) (by decide) lM1 (zkM lM1) rfl wMX10_190 hpyX10_signAt hmyX10_signAt (rm_ok hRm (Nat.le_of_ble_eq_true rfl) (Nat.le_of_ble_eq_true rfl)) (Nat.le_of_ble_eq_true rfl) hRm.2.2 dX10_nextToken_163 (fun c3 u4 f3 => ?_)
        refine z_i2l hc dX10_nextToken_166 ?_
        refine z_ladd hc dX10_nextToken_167 ?_
        refine z_ldc2 (v := 96) hc wKX10_196 dX10_nextToken_168 ?_
        refine z_lsub hc dX10_nextToken_171 ?_
        refine z_putL hc (ci := 10) (k := 7) (by decide) (by decide) zly10 lM1 (zkM lM1) wFX10_180 rfl rfl dX10_nextToken_172 ?_
        refine zJ.letM (fun u5 e2 => ?_)
        refine z_aload_n hc dX10_nextToken_175 0 rfl rfl ?_
        refine z_dup hc dX10_nextToken_176 rfl ?_
        refine z_getI hc (ci := 10) (k := 4) (by decide) (by decide) zly10 lM1 (zkM lM1) wFX10_174 rfl dX10_nextToken_177 ?_
        refine z_iconst (v := 1) hc dX10_nextToken_180 rfl ?_
        refine z_iadd hc dX10_nextToken_181 ?_
        refine z_putI hc (ci := 10) (k := 4) (by decide) (by decide) zly10 lM1 (zkM lM1) wFX10_174 rfl rfl rfl rfl dX10_nextToken_182 ?_
        refine zJ.letM (fun u6 e3 => ?_)
        refine z_goto (tgt := 109) hc dX10_nextToken_185 (by decide) ?_
        exact hr109 _
set_option maxRecDepth 100000 in
set_option maxHeartbeats 4000000 in
theorem sMo_nextToken_109 {fin : Unit × zM} (hc : zCx p s mi args meth c (wM D b) m0 RX10 cX10_nextToken 2 none) (hRm : R.frames = 1 ∧ R.locals = 21 ∧ R.cells = zc (wM D b) m0 fin.2 ∧ R.slots = zs (wM D b) m0 fin.2) : ∀ (zf : Nat) (u : zM), zJ eV p l e R s mi args below meth c (wM D b) m0 2 fin 109 [(0, .ref 1)] [] u (Mo_nextToken_109 zf u) := by
  intro zf
  induction zf with
  | zero => intro u; exact zJ.nil
  | succ zf ih => intro u; exact sMo_nextToken_109b hc hRm ih u
set_option maxRecDepth 100000 in
set_option maxHeartbeats 4000000 in
theorem sMo_nextToken_299 {fin : Unit × zM} (hc : zCx p s mi args meth c (wM D b) m0 RX10 cX10_nextToken 2 none) (hRm : R.frames = 1 ∧ R.locals = 21 ∧ R.cells = zc (wM D b) m0 fin.2 ∧ R.slots = zs (wM D b) m0 fin.2) (u : zM) : zJ eV p l e R s mi args below meth c (wM D b) m0 2 fin 299 [(0, .ref 1)] [] u (Mo_nextToken_299 u) := by
  unfold Mo_nextToken_299
  refine z_aload_n hc dX10_nextToken_299 0 rfl rfl ?_
  refine z_aload_n hc dX10_nextToken_300 0 rfl rfl ?_
  refine z_getI hc (ci := 10) (k := 4) (by decide) (by decide) zly10 lM1 (zkM lM1) wFX10_174 rfl dX10_nextToken_301 ?_
  refine z_aload_n hc dX10_nextToken_304 0 rfl rfl ?_
  refine z_getI hc (ci := 10) (k := 5) (by decide) (by decide) zly10 lM1 (zkM lM1) wFX10_177 rfl dX10_nextToken_305 ?_
  refine z_isub hc dX10_nextToken_308 ?_
  refine z_iconst (v := 4) hc dX10_nextToken_309 rfl ?_
  refine z_icmp_le (tgt := 317) hc dX10_nextToken_310 (by decide) _ (fun h1 => ?_) (fun h1 => ?_)
  · refine z_iconst (v := 2) hc dX10_nextToken_317 rfl ?_
    refine z_putI hc (ci := 10) (k := 6) (by decide) (by decide) zly10 lM1 (zkM lM1) wFX10_187 rfl rfl rfl rfl dX10_nextToken_318 ?_
    refine zJ.letM (fun u1 e1 => ?_)
    exact z_vret hc dX10_nextToken_321
  · refine z_iconst (v := 4) hc dX10_nextToken_313 rfl ?_
    refine z_goto (tgt := 318) hc dX10_nextToken_314 (by decide) ?_
    refine z_putI hc (ci := 10) (k := 6) (by decide) (by decide) zly10 lM1 (zkM lM1) wFX10_187 rfl rfl rfl rfl dX10_nextToken_318 ?_
    refine zJ.letM (fun u2 e2 => ?_)
    exact z_vret hc dX10_nextToken_321
set_option maxRecDepth 100000 in
set_option maxHeartbeats 4000000 in
theorem sMo_nextToken_224b {fin : Unit × zM} (hc : zCx p s mi args meth c (wM D b) m0 RX10 cX10_nextToken 2 none) (hRm : R.frames = 1 ∧ R.locals = 21 ∧ R.cells = zc (wM D b) m0 fin.2 ∧ R.slots = zs (wM D b) m0 fin.2) {zr224 : zM → Option (Unit × zM)} (hr224 : ∀ (u : zM), zJ eV p l e R s mi args below meth c (wM D b) m0 2 fin 224 [(0, .ref 1)] [] u (zr224 u)) (u : zM) : zJ eV p l e R s mi args below meth c (wM D b) m0 2 fin 224 [(0, .ref 1)] [] u (Mo_nextToken_224b zr224 u) := by
  unfold Mo_nextToken_224b
  refine z_aload_n hc dX10_nextToken_224 0 rfl rfl ?_
  refine z_aload_n hc dX10_nextToken_225 0 rfl rfl ?_
  refine z_getI hc (ci := 10) (k := 4) (by decide) (by decide) zly10 lM1 (zkM lM1) wFX10_174 rfl dX10_nextToken_226 ?_
  refine z_callV (av := [.int (gI u 1 4)]) (enc' := eI) hc rfl (sMo_signAt (gI u 1 4) _) (ci := 10) (by decide) lM1 (zkM lM1) rfl wMX10_190 hpyX10_signAt hmyX10_signAt (rm_ok hRm (Nat.le_of_ble_eq_true rfl) (Nat.le_of_ble_eq_true rfl)) (Nat.le_of_ble_eq_true rfl) hRm.2.2 dX10_nextToken_229 (fun c1 u1 f1 => ?_)
  refine z_bipush (v := 48) hc dX10_nextToken_232 rfl ?_
  refine z_icmp_lt (tgt := 299) hc dX10_nextToken_234 (by decide) _ (fun h1 => ?_) (fun h1 => ?_)
  · exact sMo_nextToken_299 hc hRm _
  · refine z_aload_n hc dX10_nextToken_237 0 rfl rfl ?_
    refine z_aload_n hc dX10_nextToken_238 0 rfl rfl ?_
    refine z_getI hc (ci := 10) (k := 4) (by decide) (by decide) zly10 lM1 (zkM lM1) wFX10_174 rfl dX10_nextToken_239 ?_
    refine z_callV (av := [.int (gI u1 1 4)]) (enc' := eI) hc rfl (sMo_signAt (gI u1 1 4) _) (ci := 10) (by decide) lM1 (zkM lM1) rfl wMX10_190 hpyX10_signAt hmyX10_signAt (rm_ok hRm (Nat.le_of_ble_eq_true rfl) (Nat.le_of_ble_eq_true rfl)) (Nat.le_of_ble_eq_true rfl) hRm.2.2 dX10_nextToken_242 (fun c2 u2 f2 => ?_)
    refine z_bipush (v := 57) hc dX10_nextToken_245 rfl ?_
    refine z_icmp_gt (tgt := 299) hc dX10_nextToken_247 (by decide) _ (fun h2 => ?_) (fun h2 => ?_)
    · exact sMo_nextToken_299 hc hRm _
    · refine z_aload_n hc dX10_nextToken_250 0 rfl rfl ?_
      refine z_getI hc (ci := 10) (k := 4) (by decide) (by decide) zly10 lM1 (zkM lM1) wFX10_174 rfl dX10_nextToken_251 ?_
      refine z_aload_n hc dX10_nextToken_254 0 rfl rfl ?_
      refine z_getI hc (ci := 10) (k := 5) (by decide) (by decide) zly10 lM1 (zkM lM1) wFX10_177 rfl dX10_nextToken_255 ?_
      refine z_isub hc dX10_nextToken_258 ?_
      refine z_iconst (v := 4) hc dX10_nextToken_259 rfl ?_
      refine z_icmp_ge (tgt := 286) hc dX10_nextToken_260 (by decide) _ (fun h3 => ?_) (fun h3 => ?_)
      · refine z_aload_n hc dX10_nextToken_286 0 rfl rfl ?_
        refine z_dup hc dX10_nextToken_287 rfl ?_
        refine z_getI hc (ci := 10) (k := 4) (by decide) (by decide) zly10 lM1 (zkM lM1) wFX10_174 rfl dX10_nextToken_288 ?_
        refine z_iconst (v := 1) hc dX10_nextToken_291 rfl ?_
        refine z_iadd hc dX10_nextToken_292 ?_
        refine z_putI hc (ci := 10) (k := 4) (by decide) (by decide) zly10 lM1 (zkM lM1) wFX10_174 rfl rfl rfl rfl dX10_nextToken_293 ?_
        refine zJ.letM (fun u3 e1 => ?_)
        refine z_goto (tgt := 224) hc dX10_nextToken_296 (by decide) ?_
        exact hr224 _
      · refine z_aload_n hc dX10_nextToken_263 0 rfl rfl ?_
        refine z_aload_n hc dX10_nextToken_264 0 rfl rfl ?_
        refine z_getI hc (ci := 10) (k := 8) (by decide) (by decide) zly10 lM1 (zkM lM1) wFX10_184 rfl dX10_nextToken_265 ?_
        refine z_bipush (v := 10) hc dX10_nextToken_268 rfl ?_
        refine z_imul hc dX10_nextToken_270 ?_
        refine z_aload_n hc dX10_nextToken_271 0 rfl rfl ?_
        refine z_aload_n hc dX10_nextToken_272 0 rfl rfl ?_
        refine z_getI hc (ci := 10) (k := 4) (by decide) (by decide) zly10 lM1 (zkM lM1) wFX10_174 rfl dX10_nextToken_273 ?_
        refine z_callV (av := [.int (gI u2 1 4)]) (enc' := eI) hc rfl (sMo_signAt (gI u2 1 4) _) (ci := 10) (by decide) lM1 (zkM lM1) rfl wMX10_190 hpyX10_signAt hmyX10_signAt (rm_ok hRm (Nat.le_of_ble_eq_true rfl) (Nat.le_of_ble_eq_true rfl)) (Nat.le_of_ble_eq_true rfl) hRm.2.2 dX10_nextToken_276 (fun c3 u4 f3 => ?_)
        refine z_iadd hc dX10_nextToken_279 ?_
        refine z_bipush (v := 48) hc dX10_nextToken_280 rfl ?_
        refine z_isub hc dX10_nextToken_282 ?_
        refine z_putI hc (ci := 10) (k := 8) (by decide) (by decide) zly10 lM1 (zkM lM1) wFX10_184 rfl rfl rfl rfl dX10_nextToken_283 ?_
        refine zJ.letM (fun u5 e2 => ?_)
        refine z_aload_n hc dX10_nextToken_286 0 rfl rfl ?_
        refine z_dup hc dX10_nextToken_287 rfl ?_
        refine z_getI hc (ci := 10) (k := 4) (by decide) (by decide) zly10 lM1 (zkM lM1) wFX10_174 rfl dX10_nextToken_288 ?_
        refine z_iconst (v := 1) hc dX10_nextToken_291 rfl ?_
        refine z_iadd hc dX10_nextToken_292 ?_
        refine z_putI hc (ci := 10) (k := 4) (by decide) (by decide) zly10 lM1 (zkM lM1) wFX10_174 rfl rfl rfl rfl dX10_nextToken_293 ?_
        refine zJ.letM (fun u6 e3 => ?_)
        refine z_goto (tgt := 224) hc dX10_nextToken_296 (by decide) ?_
        exact hr224 _
set_option maxRecDepth 100000 in
set_option maxHeartbeats 4000000 in
theorem sMo_nextToken_224 {fin : Unit × zM} (hc : zCx p s mi args meth c (wM D b) m0 RX10 cX10_nextToken 2 none) (hRm : R.frames = 1 ∧ R.locals = 21 ∧ R.cells = zc (wM D b) m0 fin.2 ∧ R.slots = zs (wM D b) m0 fin.2) : ∀ (zf : Nat) (u : zM), zJ eV p l e R s mi args below meth c (wM D b) m0 2 fin 224 [(0, .ref 1)] [] u (Mo_nextToken_224 zf u) := by
  intro zf
  induction zf with
  | zero => intro u; exact zJ.nil
  | succ zf ih => intro u; exact sMo_nextToken_224b hc hRm ih u
set_option maxRecDepth 100000 in
set_option maxHeartbeats 4000000 in
theorem sMo_nextToken_345 {fin : Unit × zM} (hc : zCx p s mi args meth c (wM D b) m0 RX10 cX10_nextToken 2 none) (hRm : R.frames = 1 ∧ R.locals = 21 ∧ R.cells = zc (wM D b) m0 fin.2 ∧ R.slots = zs (wM D b) m0 fin.2) (v1 : Int32) (u : zM) : zJ eV p l e R s mi args below meth c (wM D b) m0 2 fin 345 [(1, .int v1)] [.ref 1] u (Mo_nextToken_345 v1 u) := by
  unfold Mo_nextToken_345
  refine z_iload_n hc dX10_nextToken_345 0 rfl rfl ?_
  refine z_bipush (v := 45) hc dX10_nextToken_346 rfl ?_
  refine z_icmp_eq (tgt := 363) hc dX10_nextToken_348 (by decide) _ (fun h1 => ?_) (fun h1 => ?_)
  · refine z_iconst (v := 3) hc dX10_nextToken_363 rfl ?_
    refine z_goto (tgt := 368) hc dX10_nextToken_364 (by decide) ?_
    refine z_putI hc (ci := 10) (k := 6) (by decide) (by decide) zly10 lM1 (zkM lM1) wFX10_187 rfl rfl rfl rfl dX10_nextToken_368 ?_
    refine zJ.letM (fun u1 e1 => ?_)
    exact z_vret hc dX10_nextToken_371
  · refine z_iload_n hc dX10_nextToken_351 0 rfl rfl ?_
    refine z_bipush (v := 59) hc dX10_nextToken_352 rfl ?_
    refine z_icmp_lt (tgt := 367) hc dX10_nextToken_354 (by decide) _ (fun h2 => ?_) (fun h2 => ?_)
    · refine z_iconst (v := 4) hc dX10_nextToken_367 rfl ?_
      refine z_putI hc (ci := 10) (k := 6) (by decide) (by decide) zly10 lM1 (zkM lM1) wFX10_187 rfl rfl rfl rfl dX10_nextToken_368 ?_
      refine zJ.letM (fun u2 e2 => ?_)
      exact z_vret hc dX10_nextToken_371
    · refine z_iload_n hc dX10_nextToken_357 0 rfl rfl ?_
      refine z_bipush (v := 61) hc dX10_nextToken_358 rfl ?_
      refine z_icmp_gt (tgt := 367) hc dX10_nextToken_360 (by decide) _ (fun h3 => ?_) (fun h3 => ?_)
      · refine z_iconst (v := 4) hc dX10_nextToken_367 rfl ?_
        refine z_putI hc (ci := 10) (k := 6) (by decide) (by decide) zly10 lM1 (zkM lM1) wFX10_187 rfl rfl rfl rfl dX10_nextToken_368 ?_
        refine zJ.letM (fun u3 e3 => ?_)
        exact z_vret hc dX10_nextToken_371
      · refine z_iconst (v := 3) hc dX10_nextToken_363 rfl ?_
        refine z_goto (tgt := 368) hc dX10_nextToken_364 (by decide) ?_
        refine z_putI hc (ci := 10) (k := 6) (by decide) (by decide) zly10 lM1 (zkM lM1) wFX10_187 rfl rfl rfl rfl dX10_nextToken_368 ?_
        refine zJ.letM (fun u4 e4 => ?_)
        exact z_vret hc dX10_nextToken_371
set_option maxRecDepth 100000 in
set_option maxHeartbeats 4000000 in
theorem sMo_nextToken_322 {fin : Unit × zM} (hc : zCx p s mi args meth c (wM D b) m0 RX10 cX10_nextToken 2 none) (hRm : R.frames = 1 ∧ R.locals = 21 ∧ R.cells = zc (wM D b) m0 fin.2 ∧ R.slots = zs (wM D b) m0 fin.2) (v1 : Int32) (u : zM) : zJ eV p l e R s mi args below meth c (wM D b) m0 2 fin 322 [(0, .ref 1), (1, .int v1)] [] u (Mo_nextToken_322 v1 u) := by
  unfold Mo_nextToken_322
  refine z_aload_n hc dX10_nextToken_322 0 rfl rfl ?_
  refine z_dup hc dX10_nextToken_323 rfl ?_
  refine z_getI hc (ci := 10) (k := 4) (by decide) (by decide) zly10 lM1 (zkM lM1) wFX10_174 rfl dX10_nextToken_324 ?_
  refine z_iconst (v := 1) hc dX10_nextToken_327 rfl ?_
  refine z_iadd hc dX10_nextToken_328 ?_
  refine z_putI hc (ci := 10) (k := 4) (by decide) (by decide) zly10 lM1 (zkM lM1) wFX10_174 rfl rfl rfl rfl dX10_nextToken_329 ?_
  refine zJ.letM (fun u1 e1 => ?_)
  refine z_aload_n hc dX10_nextToken_332 0 rfl rfl ?_
  refine z_iload_n hc dX10_nextToken_333 1 rfl rfl ?_
  refine z_bipush (v := 40) hc dX10_nextToken_334 rfl ?_
  refine z_icmp_lt (tgt := 345) hc dX10_nextToken_336 (by decide) _ (fun h1 => ?_) (fun h1 => ?_)
  · refine zJ.sub (L' := [(1, .int v1)]) [1] rfl ?_
    exact sMo_nextToken_345 hc hRm v1 _
  · refine z_iload_n hc dX10_nextToken_339 1 rfl rfl ?_
    refine z_bipush (v := 43) hc dX10_nextToken_340 rfl ?_
    refine z_icmp_le (tgt := 363) hc dX10_nextToken_342 (by decide) _ (fun h2 => ?_) (fun h2 => ?_)
    · refine z_iconst (v := 3) hc dX10_nextToken_363 rfl ?_
      refine z_goto (tgt := 368) hc dX10_nextToken_364 (by decide) ?_
      refine z_putI hc (ci := 10) (k := 6) (by decide) (by decide) zly10 lM1 (zkM lM1) wFX10_187 rfl rfl rfl rfl dX10_nextToken_368 ?_
      refine zJ.letM (fun u2 e2 => ?_)
      exact z_vret hc dX10_nextToken_371
    · refine zJ.sub (L' := [(1, .int v1)]) [1] rfl ?_
      exact sMo_nextToken_345 hc hRm v1 _
set_option maxRecDepth 100000 in
set_option maxHeartbeats 4000000 in
theorem sMo_nextToken_212 {fin : Unit × zM} (hc : zCx p s mi args meth c (wM D b) m0 RX10 cX10_nextToken 2 none) (hRm : R.frames = 1 ∧ R.locals = 21 ∧ R.cells = zc (wM D b) m0 fin.2 ∧ R.slots = zs (wM D b) m0 fin.2) (v1 : Int32) (u : zM) : zJ eV p l e R s mi args below meth c (wM D b) m0 2 fin 212 [(0, .ref 1), (1, .int v1)] [] u (Mo_nextToken_212 v1 u) := by
  unfold Mo_nextToken_212
  refine z_iload_n hc dX10_nextToken_212 1 rfl rfl ?_
  refine z_bipush (v := 48) hc dX10_nextToken_213 rfl ?_
  refine z_icmp_lt (tgt := 322) hc dX10_nextToken_215 (by decide) _ (fun h1 => ?_) (fun h1 => ?_)
  · exact sMo_nextToken_322 hc hRm v1 _
  · refine z_iload_n hc dX10_nextToken_218 1 rfl rfl ?_
    refine z_bipush (v := 57) hc dX10_nextToken_219 rfl ?_
    refine z_icmp_gt (tgt := 322) hc dX10_nextToken_221 (by decide) _ (fun h2 => ?_) (fun h2 => ?_)
    · exact sMo_nextToken_322 hc hRm v1 _
    · refine zJ.sub (L' := [(0, .ref 1)]) [0] rfl ?_
      exact sMo_nextToken_224 hc hRm zF _
set_option maxRecDepth 100000 in
set_option maxHeartbeats 4000000 in
theorem sMo_nextToken_52 {fin : Unit × zM} (hc : zCx p s mi args meth c (wM D b) m0 RX10 cX10_nextToken 2 none) (hRm : R.frames = 1 ∧ R.locals = 21 ∧ R.cells = zc (wM D b) m0 fin.2 ∧ R.slots = zs (wM D b) m0 fin.2) (u : zM) : zJ eV p l e R s mi args below meth c (wM D b) m0 2 fin 52 [(0, .ref 1)] [] u (Mo_nextToken_52 u) := by
  unfold Mo_nextToken_52
  refine z_aload_n hc dX10_nextToken_52 0 rfl rfl ?_
  refine z_aload_n hc dX10_nextToken_53 0 rfl rfl ?_
  refine z_getI hc (ci := 10) (k := 4) (by decide) (by decide) zly10 lM1 (zkM lM1) wFX10_174 rfl dX10_nextToken_54 ?_
  refine z_putI hc (ci := 10) (k := 5) (by decide) (by decide) zly10 lM1 (zkM lM1) wFX10_177 rfl rfl rfl rfl dX10_nextToken_57 ?_
  refine zJ.letM (fun u1 e1 => ?_)
  refine z_aload_n hc dX10_nextToken_60 0 rfl rfl ?_
  refine z_lconst (v := 0) hc dX10_nextToken_61 rfl ?_
  refine z_putL hc (ci := 10) (k := 7) (by decide) (by decide) zly10 lM1 (zkM lM1) wFX10_180 rfl rfl dX10_nextToken_62 ?_
  refine zJ.letM (fun u2 e2 => ?_)
  refine z_aload_n hc dX10_nextToken_65 0 rfl rfl ?_
  refine z_iconst (v := 0) hc dX10_nextToken_66 rfl ?_
  refine z_putI hc (ci := 10) (k := 8) (by decide) (by decide) zly10 lM1 (zkM lM1) wFX10_184 rfl rfl rfl rfl dX10_nextToken_67 ?_
  refine zJ.letM (fun u3 e3 => ?_)
  refine z_aload_n hc dX10_nextToken_70 0 rfl rfl ?_
  refine z_getI hc (ci := 10) (k := 4) (by decide) (by decide) zly10 lM1 (zkM lM1) wFX10_174 rfl dX10_nextToken_71 ?_
  refine z_aload_n hc dX10_nextToken_74 0 rfl rfl ?_
  refine z_getI hc (ci := 10) (k := 3) (by decide) (by decide) zly10 lM1 (zkM lM1) wFX10_171 rfl dX10_nextToken_75 ?_
  refine z_icmp_ne (tgt := 87) hc dX10_nextToken_78 (by decide) _ (fun h1 => ?_) (fun h1 => ?_)
  · refine z_aload_n hc dX10_nextToken_87 0 rfl rfl ?_
    refine z_getR (x := 2) hc (ci := 10) (k := 2) (by decide) (by decide) zly10 lM1 (zkM lM1) wFX10_7 rfl dX10_nextToken_88 rfl (by decide) ?_
    refine z_aload_n hc dX10_nextToken_91 0 rfl rfl ?_
    refine z_getI hc (ci := 10) (k := 4) (by decide) (by decide) zly10 lM1 (zkM lM1) wFX10_174 rfl dX10_nextToken_92 ?_
    refine zJ.chk _ (fun h2 => ?_)
    refine z_iald (k := (ix (gI u3 1 4))) hc lM2 (zkM lM2) h2 rfl dX10_nextToken_95 ?_
    refine zJ.letI (fun x1 e4 => ?_)
    refine z_istore_n (L' := [(1, .int x1), (0, .ref 1)]) hc dX10_nextToken_96 rfl (by decide) rfl rfl ?_
    refine z_iload_n hc dX10_nextToken_97 0 rfl rfl ?_
    refine z_bipush (v := 97) hc dX10_nextToken_98 rfl ?_
    refine z_icmp_lt (tgt := 212) hc dX10_nextToken_100 (by decide) _ (fun h3 => ?_) (fun h3 => ?_)
    · refine zJ.sub (L' := [(0, .ref 1), (1, .int x1)]) [1, 0] rfl ?_
      exact sMo_nextToken_212 hc hRm x1 _
    · refine z_iload_n hc dX10_nextToken_103 0 rfl rfl ?_
      refine z_bipush (v := 122) hc dX10_nextToken_104 rfl ?_
      refine z_icmp_gt (tgt := 212) hc dX10_nextToken_106 (by decide) _ (fun h4 => ?_) (fun h4 => ?_)
      · refine zJ.sub (L' := [(0, .ref 1), (1, .int x1)]) [1, 0] rfl ?_
        exact sMo_nextToken_212 hc hRm x1 _
      · refine zJ.sub (L' := [(0, .ref 1)]) [1] rfl ?_
        exact sMo_nextToken_109 hc hRm zF _
  · refine z_aload_n hc dX10_nextToken_81 0 rfl rfl ?_
    refine z_iconst (v := 0) hc dX10_nextToken_82 rfl ?_
    refine z_putI hc (ci := 10) (k := 6) (by decide) (by decide) zly10 lM1 (zkM lM1) wFX10_187 rfl rfl rfl rfl dX10_nextToken_83 ?_
    refine zJ.letM (fun u4 e5 => ?_)
    exact z_vret hc dX10_nextToken_86
set_option maxRecDepth 100000 in
set_option maxHeartbeats 4000000 in
theorem sMo_nextToken_0b {fin : Unit × zM} (hc : zCx p s mi args meth c (wM D b) m0 RX10 cX10_nextToken 2 none) (hRm : R.frames = 1 ∧ R.locals = 21 ∧ R.cells = zc (wM D b) m0 fin.2 ∧ R.slots = zs (wM D b) m0 fin.2) {zr0 : zM → Option (Unit × zM)} (hr0 : ∀ (u : zM), zJ eV p l e R s mi args below meth c (wM D b) m0 2 fin 0 [(0, .ref 1)] [] u (zr0 u)) (u : zM) : zJ eV p l e R s mi args below meth c (wM D b) m0 2 fin 0 [(0, .ref 1)] [] u (Mo_nextToken_0b zr0 u) := by
  unfold Mo_nextToken_0b
  refine z_aload_n hc dX10_nextToken_0 0 rfl rfl ?_
  refine z_getI hc (ci := 10) (k := 4) (by decide) (by decide) zly10 lM1 (zkM lM1) wFX10_174 rfl dX10_nextToken_1 ?_
  refine z_aload_n hc dX10_nextToken_4 0 rfl rfl ?_
  refine z_getI hc (ci := 10) (k := 3) (by decide) (by decide) zly10 lM1 (zkM lM1) wFX10_171 rfl dX10_nextToken_5 ?_
  refine z_icmp_ge (tgt := 52) hc dX10_nextToken_8 (by decide) _ (fun h1 => ?_) (fun h1 => ?_)
  · exact sMo_nextToken_52 hc hRm _
  · refine z_aload_n hc dX10_nextToken_11 0 rfl rfl ?_
    refine z_getR (x := 2) hc (ci := 10) (k := 2) (by decide) (by decide) zly10 lM1 (zkM lM1) wFX10_7 rfl dX10_nextToken_12 rfl (by decide) ?_
    refine z_aload_n hc dX10_nextToken_15 0 rfl rfl ?_
    refine z_getI hc (ci := 10) (k := 4) (by decide) (by decide) zly10 lM1 (zkM lM1) wFX10_174 rfl dX10_nextToken_16 ?_
    refine zJ.chk _ (fun h2 => ?_)
    refine z_iald (k := (ix (gI u 1 4))) hc lM2 (zkM lM2) h2 rfl dX10_nextToken_19 ?_
    refine z_bipush (v := 32) hc dX10_nextToken_20 rfl ?_
    refine z_icmp_eq (tgt := 39) hc dX10_nextToken_22 (by decide) _ (fun h3 => ?_) (fun h3 => ?_)
    · refine z_aload_n hc dX10_nextToken_39 0 rfl rfl ?_
      refine z_dup hc dX10_nextToken_40 rfl ?_
      refine z_getI hc (ci := 10) (k := 4) (by decide) (by decide) zly10 lM1 (zkM lM1) wFX10_174 rfl dX10_nextToken_41 ?_
      refine z_iconst (v := 1) hc dX10_nextToken_44 rfl ?_
      refine z_iadd hc dX10_nextToken_45 ?_
      refine z_putI hc (ci := 10) (k := 4) (by decide) (by decide) zly10 lM1 (zkM lM1) wFX10_174 rfl rfl rfl rfl dX10_nextToken_46 ?_
      refine zJ.letM (fun u1 e1 => ?_)
      refine z_goto (tgt := 0) hc dX10_nextToken_49 (by decide) ?_
      exact hr0 _
    · refine z_aload_n hc dX10_nextToken_25 0 rfl rfl ?_
      refine z_getR (x := 2) hc (ci := 10) (k := 2) (by decide) (by decide) zly10 lM1 (zkM lM1) wFX10_7 rfl dX10_nextToken_26 rfl (by decide) ?_
      refine z_aload_n hc dX10_nextToken_29 0 rfl rfl ?_
      refine z_getI hc (ci := 10) (k := 4) (by decide) (by decide) zly10 lM1 (zkM lM1) wFX10_174 rfl dX10_nextToken_30 ?_
      refine zJ.chk _ (fun h4 => ?_)
      refine z_iald (k := (ix (gI u 1 4))) hc lM2 (zkM lM2) h4 rfl dX10_nextToken_33 ?_
      refine z_bipush (v := 10) hc dX10_nextToken_34 rfl ?_
      refine z_icmp_ne (tgt := 52) hc dX10_nextToken_36 (by decide) _ (fun h5 => ?_) (fun h5 => ?_)
      · exact sMo_nextToken_52 hc hRm _
      · refine z_aload_n hc dX10_nextToken_39 0 rfl rfl ?_
        refine z_dup hc dX10_nextToken_40 rfl ?_
        refine z_getI hc (ci := 10) (k := 4) (by decide) (by decide) zly10 lM1 (zkM lM1) wFX10_174 rfl dX10_nextToken_41 ?_
        refine z_iconst (v := 1) hc dX10_nextToken_44 rfl ?_
        refine z_iadd hc dX10_nextToken_45 ?_
        refine z_putI hc (ci := 10) (k := 4) (by decide) (by decide) zly10 lM1 (zkM lM1) wFX10_174 rfl rfl rfl rfl dX10_nextToken_46 ?_
        refine zJ.letM (fun u2 e2 => ?_)
        refine z_goto (tgt := 0) hc dX10_nextToken_49 (by decide) ?_
        exact hr0 _
set_option maxRecDepth 100000 in
set_option maxHeartbeats 4000000 in
theorem sMo_nextToken_0 {fin : Unit × zM} (hc : zCx p s mi args meth c (wM D b) m0 RX10 cX10_nextToken 2 none) (hRm : R.frames = 1 ∧ R.locals = 21 ∧ R.cells = zc (wM D b) m0 fin.2 ∧ R.slots = zs (wM D b) m0 fin.2) : ∀ (zf : Nat) (u : zM), zJ eV p l e R s mi args below meth c (wM D b) m0 2 fin 0 [(0, .ref 1)] [] u (Mo_nextToken_0 zf u) := by
  intro zf
  induction zf with
  | zero => intro u; exact zJ.nil
  | succ zf ih => intro u; exact sMo_nextToken_0b hc hRm ih u
set_option maxRecDepth 100000 in
set_option maxHeartbeats 4000000 in
theorem sMo_nextToken : ∀ (u : zM) r m1, Mo_nextToken u = some (r, m1) → zMet l (wM D b) 1 21 yX10_nextToken cX10_nextToken 2 none [.ref 1] u (eV r) m1 := by
  intro u
  refine zMet.of (L := [(0, .ref 1)]) RX10 (by decide +kernel) rfl (Nat.le_of_ble_eq_true rfl) (fun h => by cases h) rfl (fun p e s mi args below meth c R fin hc hin hRm => ?_)
  unfold Mo_nextToken
  exact sMo_nextToken_0 hc hRm zF _
set_option maxRecDepth 100000 in
set_option maxHeartbeats 4000000 in
theorem sMo_isWord : ∀ (v1 : Int64) (u : zM) r m1, Mo_isWord v1 u = some (r, m1) → zMet l (wM D b) 0 0 yX10_isWord cX10_isWord 3 (some .boolean) [.ref 1, .long v1] u (eI r) m1 := by
  intro v1 u
  refine zMet.of (L := [(0, .ref 1), (1, .long v1)]) RX10 (by decide +kernel) rfl (Nat.le_of_ble_eq_true rfl) (fun h => by cases h) rfl (fun p e s mi args below meth c R fin hc hin hRm => ?_)
  unfold Mo_isWord
  refine z_aload_n hc dX10_isWord_0 0 rfl rfl ?_
  refine z_getI hc (ci := 10) (k := 6) (by decide) (by decide) zly10 lM1 (zkM lM1) wFX10_187 rfl dX10_isWord_1 ?_
  refine z_iconst (v := 1) hc dX10_isWord_4 rfl ?_
  refine z_icmp_ne (tgt := 21) hc dX10_isWord_5 (by decide) _ (fun h1 => ?_) (fun h1 => ?_)
  · refine z_iconst (v := 0) hc dX10_isWord_21 rfl ?_
    exact z_zret hc rfl dX10_isWord_22
  · refine z_aload_n hc dX10_isWord_8 0 rfl rfl ?_
    refine z_getL hc (ci := 10) (k := 7) (by decide) (by decide) zly10 lM1 (zkM lM1) wFX10_180 rfl dX10_isWord_9 ?_
    refine z_lload_n hc dX10_isWord_12 1 rfl rfl ?_
    refine z_lcmp hc dX10_isWord_13 ?_
    refine z_if_ne (tgt := 21) hc dX10_isWord_14 (by decide) _ (fun h2 => ?_) (fun h2 => ?_)
    · refine z_iconst (v := 0) hc dX10_isWord_21 rfl ?_
      exact z_zret hc rfl dX10_isWord_22
    · refine z_iconst (v := 1) hc dX10_isWord_17 rfl ?_
      refine z_goto (tgt := 22) hc dX10_isWord_18 (by decide) ?_
      exact z_zret hc rfl dX10_isWord_22
set_option maxRecDepth 100000 in
set_option maxHeartbeats 4000000 in
theorem sMo_isSign : ∀ (v1 : Int32) (u : zM) r m1, Mo_isSign v1 u = some (r, m1) → zMet l (wM D b) 0 0 yX10_isSign cX10_isSign 2 (some .boolean) [.ref 1, .int v1] u (eI r) m1 := by
  intro v1 u
  refine zMet.of (L := [(0, .ref 1), (1, .int v1)]) RX10 (by decide +kernel) rfl (Nat.le_of_ble_eq_true rfl) (fun h => by cases h) rfl (fun p e s mi args below meth c R fin hc hin hRm => ?_)
  unfold Mo_isSign
  refine z_aload_n hc dX10_isSign_0 0 rfl rfl ?_
  refine z_getI hc (ci := 10) (k := 6) (by decide) (by decide) zly10 lM1 (zkM lM1) wFX10_187 rfl dX10_isSign_1 ?_
  refine z_iconst (v := 3) hc dX10_isSign_4 rfl ?_
  refine z_icmp_ne (tgt := 25) hc dX10_isSign_5 (by decide) _ (fun h1 => ?_) (fun h1 => ?_)
  · refine z_iconst (v := 0) hc dX10_isSign_25 rfl ?_
    exact z_zret hc rfl dX10_isSign_26
  · refine z_aload_n hc dX10_isSign_8 0 rfl rfl ?_
    refine z_getR (x := 2) hc (ci := 10) (k := 2) (by decide) (by decide) zly10 lM1 (zkM lM1) wFX10_7 rfl dX10_isSign_9 rfl (by decide) ?_
    refine z_aload_n hc dX10_isSign_12 0 rfl rfl ?_
    refine z_getI hc (ci := 10) (k := 5) (by decide) (by decide) zly10 lM1 (zkM lM1) wFX10_177 rfl dX10_isSign_13 ?_
    refine zJ.chk _ (fun h2 => ?_)
    refine z_iald (k := (ix (gI u 1 5))) hc lM2 (zkM lM2) h2 rfl dX10_isSign_16 ?_
    refine z_iload_n hc dX10_isSign_17 1 rfl rfl ?_
    refine z_icmp_ne (tgt := 25) hc dX10_isSign_18 (by decide) _ (fun h3 => ?_) (fun h3 => ?_)
    · refine z_iconst (v := 0) hc dX10_isSign_25 rfl ?_
      exact z_zret hc rfl dX10_isSign_26
    · refine z_iconst (v := 1) hc dX10_isSign_21 rfl ?_
      refine z_goto (tgt := 26) hc dX10_isSign_22 (by decide) ?_
      exact z_zret hc rfl dX10_isSign_26
set_option maxRecDepth 100000 in
set_option maxHeartbeats 4000000 in
theorem sMo_fails : ∀ (v1 : Int32) (u : zM) r m1, Mo_fails v1 u = some (r, m1) → zMet l (wM D b) 0 0 yX10_fails cX10_fails 2 (some .boolean) [.ref 1, .int v1] u (eI r) m1 := by
  intro v1 u
  refine zMet.of (L := [(0, .ref 1), (1, .int v1)]) RX10 (by decide +kernel) rfl (Nat.le_of_ble_eq_true rfl) (fun h => by cases h) rfl (fun p e s mi args below meth c R fin hc hin hRm => ?_)
  unfold Mo_fails
  refine z_aload_n hc dX10_fails_0 0 rfl rfl ?_
  refine z_iload_n hc dX10_fails_1 1 rfl rfl ?_
  refine z_bipush (v := 16) hc dX10_fails_2 rfl ?_
  refine z_aload_n hc dX10_fails_4 0 rfl rfl ?_
  refine z_getI hc (ci := 10) (k := 5) (by decide) (by decide) zly10 lM1 (zkM lM1) wFX10_177 rfl dX10_fails_5 ?_
  refine z_imul hc dX10_fails_8 ?_
  refine z_iadd hc dX10_fails_9 ?_
  refine z_putI hc (ci := 10) (k := 9) (by decide) (by decide) zly10 lM1 (zkM lM1) wFX10_198 rfl rfl rfl rfl dX10_fails_10 ?_
  refine zJ.letM (fun u1 e1 => ?_)
  refine z_iconst (v := 0) hc dX10_fails_13 rfl ?_
  exact z_zret hc rfl dX10_fails_14
set_option maxRecDepth 100000 in
set_option maxHeartbeats 4000000 in
theorem sMo_puts : ∀ (v1 : Int32) (u : zM) r m1, Mo_puts v1 u = some (r, m1) → zMet l (wM D b) 0 0 yX10_puts cX10_puts 2 none [.ref 1, .int v1] u (eV r) m1 := by
  intro v1 u
  refine zMet.of (L := [(0, .ref 1), (1, .int v1)]) RX10 (by decide +kernel) rfl (Nat.le_of_ble_eq_true rfl) (fun h => by cases h) rfl (fun p e s mi args below meth c R fin hc hin hRm => ?_)
  unfold Mo_puts
  refine z_aload_n hc dX10_puts_0 0 rfl rfl ?_
  refine z_getR (x := 19) hc (ci := 10) (k := 26) (by decide) (by decide) zly10 lM1 (zkM lM1) wFX10_62 rfl dX10_puts_1 rfl (by decide) ?_
  refine z_aload_n hc dX10_puts_4 0 rfl rfl ?_
  refine z_getI hc (ci := 10) (k := 27) (by decide) (by decide) zly10 lM1 (zkM lM1) wFX10_201 rfl dX10_puts_5 ?_
  refine z_iload_n hc dX10_puts_8 1 rfl rfl ?_
  refine zJ.chk _ (fun h1 => ?_)
  refine z_iast (k := (ix (gI u 1 27))) hc lM19 (zkM lM19) h1 rfl dX10_puts_9 ?_
  refine zJ.letM (fun u1 e1 => ?_)
  refine z_aload_n hc dX10_puts_10 0 rfl rfl ?_
  refine z_dup hc dX10_puts_11 rfl ?_
  refine z_getI hc (ci := 10) (k := 27) (by decide) (by decide) zly10 lM1 (zkM lM1) wFX10_201 rfl dX10_puts_12 ?_
  refine z_iconst (v := 1) hc dX10_puts_15 rfl ?_
  refine z_iadd hc dX10_puts_16 ?_
  refine z_putI hc (ci := 10) (k := 27) (by decide) (by decide) zly10 lM1 (zkM lM1) wFX10_201 rfl rfl rfl rfl dX10_puts_17 ?_
  refine zJ.letM (fun u2 e2 => ?_)
  exact z_vret hc dX10_puts_20
set_option maxRecDepth 100000 in
set_option maxHeartbeats 4000000 in
theorem sMo_fact : ∀ (u : zM) r m1, Mo_fact u = some (r, m1) → zMet l (wM D b) 0 0 yX10_fact cX10_fact 1 (some .int) [.ref 1] u (eI r) m1 := by
  intro u
  refine zMet.of (L := [(0, .ref 1)]) RX10 (by decide +kernel) rfl (Nat.le_of_ble_eq_true rfl) (fun h => by cases h) rfl (fun p e s mi args below meth c R fin hc hin hRm => ?_)
  unfold Mo_fact
  refine z_aload_n hc dX10_fact_0 0 rfl rfl ?_
  refine z_getI hc (ci := 10) (k := 6) (by decide) (by decide) zly10 lM1 (zkM lM1) wFX10_187 rfl dX10_fact_1 ?_
  refine z_iconst (v := 1) hc dX10_fact_4 rfl ?_
  refine z_icmp_eq (tgt := 10) hc dX10_fact_5 (by decide) _ (fun h1 => ?_) (fun h1 => ?_)
  · refine z_aload_n hc dX10_fact_10 0 rfl rfl ?_
    refine z_getL hc (ci := 10) (k := 7) (by decide) (by decide) zly10 lM1 (zkM lM1) wFX10_180 rfl dX10_fact_11 ?_
    refine z_ldc2 (v := 6491892) hc wKX10_204 dX10_fact_14 ?_
    refine z_lcmp hc dX10_fact_17 ?_
    refine z_if_ne (tgt := 23) hc dX10_fact_18 (by decide) _ (fun h2 => ?_) (fun h2 => ?_)
    · refine z_aload_n hc dX10_fact_23 0 rfl rfl ?_
      refine z_getL hc (ci := 10) (k := 7) (by decide) (by decide) zly10 lM1 (zkM lM1) wFX10_180 rfl dX10_fact_24 ?_
      refine z_ldc2 (v := 3217420) hc wKX10_206 dX10_fact_27 ?_
      refine z_lcmp hc dX10_fact_30 ?_
      refine z_if_ne (tgt := 36) hc dX10_fact_31 (by decide) _ (fun h3 => ?_) (fun h3 => ?_)
      · refine z_aload_n hc dX10_fact_36 0 rfl rfl ?_
        refine z_getL hc (ci := 10) (k := 7) (by decide) (by decide) zly10 lM1 (zkM lM1) wFX10_180 rfl dX10_fact_37 ?_
        refine z_ldc2 (v := 454132) hc wKX10_208 dX10_fact_40 ?_
        refine z_lcmp hc dX10_fact_43 ?_
        refine z_if_ne (tgt := 51) hc dX10_fact_44 (by decide) _ (fun h4 => ?_) (fun h4 => ?_)
        · refine z_aload_n hc dX10_fact_51 0 rfl rfl ?_
          refine z_getL hc (ci := 10) (k := 7) (by decide) (by decide) zly10 lM1 (zkM lM1) wFX10_180 rfl dX10_fact_52 ?_
          refine z_ldc2 (v := 80006) hc wKX10_210 dX10_fact_55 ?_
          refine z_lcmp hc dX10_fact_58 ?_
          refine z_if_ne (tgt := 66) hc dX10_fact_59 (by decide) _ (fun h5 => ?_) (fun h5 => ?_)
          · refine z_iconst (v := 0) hc dX10_fact_66 rfl ?_
            exact z_iret hc dX10_fact_67
          · refine z_iconst (v := 4) hc dX10_fact_62 rfl ?_
            refine z_goto (tgt := 67) hc dX10_fact_63 (by decide) ?_
            exact z_iret hc dX10_fact_67
        · refine z_iconst (v := 3) hc dX10_fact_47 rfl ?_
          refine z_goto (tgt := 67) hc dX10_fact_48 (by decide) ?_
          exact z_iret hc dX10_fact_67
      · refine z_iconst (v := 2) hc dX10_fact_34 rfl ?_
        exact z_iret hc dX10_fact_35
    · refine z_iconst (v := 1) hc dX10_fact_21 rfl ?_
      exact z_iret hc dX10_fact_22
  · refine z_iconst (v := 0) hc dX10_fact_8 rfl ?_
    exact z_iret hc dX10_fact_9
set_option maxRecDepth 100000 in
set_option maxHeartbeats 4000000 in
theorem sMo_reads_120 {fin : Int32 × zM} (hc : zCx p s mi args meth c (wM D b) m0 RX10 cX10_reads 6 (some .boolean)) (hRm : R.frames = 2 ∧ R.locals = 42 ∧ R.cells = zc (wM D b) m0 fin.2 ∧ R.slots = zs (wM D b) m0 fin.2) {zr11 : Int32 → Int32 → zM → Option (Int32 × zM)} (hr11 : ∀ (v1 : Int32) (v2 : Int32) (u : zM), zJ eI p l e R s mi args below meth c (wM D b) m0 6 fin 11 [(0, .ref 1), (1, .int v1), (2, .int v2)] [] u (zr11 v1 v2 u)) (v1 : Int32) (v2 : Int32) (s1 : Int32) (s2 : Int32) (u : zM) : zJ eI p l e R s mi args below meth c (wM D b) m0 6 fin 120 [(0, .ref 1), (1, .int v1), (2, .int v2)] [.int s2, .int s1, .ref 20] u (Mo_reads_120 zr11 v1 v2 s1 s2 u) := by
  unfold Mo_reads_120
  refine zJ.chk _ (fun h1 => ?_)
  refine z_iast (k := (ix s1)) hc lM20 (zkM lM20) h1 rfl dX10_reads_120 ?_
  refine zJ.letM (fun u1 e1 => ?_)
  refine z_aload_n hc dX10_reads_121 0 rfl rfl ?_
  refine z_getR (x := 21) hc (ci := 10) (k := 29) (by decide) (by decide) zly10 lM1 (zkM lM1) wFX10_68 rfl dX10_reads_122 rfl (by decide) ?_
  refine z_iload_n hc dX10_reads_125 1 rfl rfl ?_
  refine z_iconst (v := 0) hc dX10_reads_126 rfl ?_
  refine zJ.chk _ (fun h2 => ?_)
  refine z_zast (k := (ix v1)) hc lM21 (zkM lM21) h2 rfl dX10_reads_127 ?_
  refine zJ.letM (fun u2 e2 => ?_)
  refine z_goto (tgt := 172) hc dX10_reads_128 (by decide) ?_
  refine z_aload_n hc dX10_reads_172 0 rfl rfl ?_
  refine z_callV (av := []) (enc' := eV) hc rfl (sMo_nextToken _) (ci := 10) (by decide) lM1 (zkM lM1) rfl wMX10_233 hpyX10_nextToken hmyX10_nextToken (rm_ok hRm (Nat.le_of_ble_eq_true rfl) (Nat.le_of_ble_eq_true rfl)) (Nat.le_of_ble_eq_true rfl) hRm.2.2 dX10_reads_173 (fun c1 u3 f1 => ?_)
  refine z_goto (tgt := 11) hc dX10_reads_176 (by decide) ?_
  exact hr11 v1 v2 _
set_option maxRecDepth 100000 in
set_option maxHeartbeats 4000000 in
theorem sMo_reads_99 {fin : Int32 × zM} (hc : zCx p s mi args meth c (wM D b) m0 RX10 cX10_reads 6 (some .boolean)) (hRm : R.frames = 2 ∧ R.locals = 42 ∧ R.cells = zc (wM D b) m0 fin.2 ∧ R.slots = zs (wM D b) m0 fin.2) {zr11 : Int32 → Int32 → zM → Option (Int32 × zM)} (hr11 : ∀ (v1 : Int32) (v2 : Int32) (u : zM), zJ eI p l e R s mi args below meth c (wM D b) m0 6 fin 11 [(0, .ref 1), (1, .int v1), (2, .int v2)] [] u (zr11 v1 v2 u)) (v1 : Int32) (v2 : Int32) (v4 : Int32) (s1 : Int32) (u : zM) : zJ eI p l e R s mi args below meth c (wM D b) m0 6 fin 99 [(0, .ref 1), (1, .int v1), (2, .int v2), (4, .int v4)] [.int s1, .ref 1] u (Mo_reads_99 zr11 v1 v2 v4 s1 u) := by
  unfold Mo_reads_99
  refine z_callV (av := [.int s1]) (enc' := eV) hc rfl (sMo_puts s1 _) (ci := 10) (by decide) lM1 (zkM lM1) rfl wMX10_229 hpyX10_puts hmyX10_puts (rm_ok hRm (Nat.le_of_ble_eq_true rfl) (Nat.le_of_ble_eq_true rfl)) (Nat.le_of_ble_eq_true rfl) hRm.2.2 dX10_reads_99 (fun c1 u1 f1 => ?_)
  refine z_iinc (L' := [(1, .int (v1 + 1)), (0, .ref 1), (2, .int v2), (4, .int v4)]) hc dX10_reads_102 1 rfl (v := (v1 + 1)) rfl (by decide) rfl rfl ?_
  refine z_aload_n hc dX10_reads_105 1 rfl rfl ?_
  refine z_getR (x := 20) hc (ci := 10) (k := 28) (by decide) (by decide) zly10 lM1 (zkM lM1) wFX10_65 rfl dX10_reads_106 rfl (by decide) ?_
  refine z_iload_n hc dX10_reads_109 0 rfl rfl ?_
  refine z_iload hc dX10_reads_110 3 rfl ?_
  refine z_if_eq (tgt := 119) hc dX10_reads_112 (by decide) _ (fun h1 => ?_) (fun h1 => ?_)
  · refine z_iconst (v := 2) hc dX10_reads_119 rfl ?_
    refine zJ.sub (L' := [(0, .ref 1), (1, .int (v1 + 1)), (2, .int v2)]) [1, 0, 2] rfl ?_
    exact sMo_reads_120 hc hRm hr11 (v1 + 1) v2 (v1 + 1) 2 _
  · refine z_iconst (v := 1) hc dX10_reads_115 rfl ?_
    refine z_goto (tgt := 120) hc dX10_reads_116 (by decide) ?_
    refine zJ.sub (L' := [(0, .ref 1), (1, .int (v1 + 1)), (2, .int v2)]) [1, 0, 2] rfl ?_
    exact sMo_reads_120 hc hRm hr11 (v1 + 1) v2 (v1 + 1) 1 _
set_option maxRecDepth 100000 in
set_option maxHeartbeats 4000000 in
theorem sMo_reads_86 {fin : Int32 × zM} (hc : zCx p s mi args meth c (wM D b) m0 RX10 cX10_reads 6 (some .boolean)) (hRm : R.frames = 2 ∧ R.locals = 42 ∧ R.cells = zc (wM D b) m0 fin.2 ∧ R.slots = zs (wM D b) m0 fin.2) {zr11 : Int32 → Int32 → zM → Option (Int32 × zM)} (hr11 : ∀ (v1 : Int32) (v2 : Int32) (u : zM), zJ eI p l e R s mi args below meth c (wM D b) m0 6 fin 11 [(0, .ref 1), (1, .int v1), (2, .int v2)] [] u (zr11 v1 v2 u)) (v1 : Int32) (v2 : Int32) (v4 : Int32) (u : zM) : zJ eI p l e R s mi args below meth c (wM D b) m0 6 fin 86 [(0, .ref 1), (1, .int v1), (2, .int v2), (4, .int v4)] [] u (Mo_reads_86 zr11 v1 v2 v4 u) := by
  unfold Mo_reads_86
  refine z_aload_n hc dX10_reads_86 0 rfl rfl ?_
  refine z_iload hc dX10_reads_87 3 rfl ?_
  refine z_if_eq (tgt := 97) hc dX10_reads_89 (by decide) _ (fun h1 => ?_) (fun h1 => ?_)
  · refine z_bipush (v := 28) hc dX10_reads_97 rfl ?_
    exact sMo_reads_99 hc hRm hr11 v1 v2 v4 28 _
  · refine z_bipush (v := 30) hc dX10_reads_92 rfl ?_
    refine z_goto (tgt := 99) hc dX10_reads_94 (by decide) ?_
    exact sMo_reads_99 hc hRm hr11 v1 v2 v4 30 _
set_option maxRecDepth 100000 in
set_option maxHeartbeats 4000000 in
theorem sMo_reads_152b {fin : Int32 × zM} (hc : zCx p s mi args meth c (wM D b) m0 RX10 cX10_reads 6 (some .boolean)) (hRm : R.frames = 2 ∧ R.locals = 42 ∧ R.cells = zc (wM D b) m0 fin.2 ∧ R.slots = zs (wM D b) m0 fin.2) {zr11 : Int32 → Int32 → zM → Option (Int32 × zM)} (hr11 : ∀ (v1 : Int32) (v2 : Int32) (u : zM), zJ eI p l e R s mi args below meth c (wM D b) m0 6 fin 11 [(0, .ref 1), (1, .int v1), (2, .int v2)] [] u (zr11 v1 v2 u)) {zr152 : Int32 → Int32 → zM → Option (Int32 × zM)} (hr152 : ∀ (v1 : Int32) (v2 : Int32) (u : zM), zJ eI p l e R s mi args below meth c (wM D b) m0 6 fin 152 [(0, .ref 1), (1, .int v1), (2, .int v2)] [] u (zr152 v1 v2 u)) (v1 : Int32) (v2 : Int32) (u : zM) : zJ eI p l e R s mi args below meth c (wM D b) m0 6 fin 152 [(0, .ref 1), (1, .int v1), (2, .int v2)] [] u (Mo_reads_152b zr11 zr152 v1 v2 u) := by
  unfold Mo_reads_152b
  refine z_iload_n hc dX10_reads_152 1 rfl rfl ?_
  refine z_if_le (tgt := 172) hc dX10_reads_153 (by decide) _ (fun h1 => ?_) (fun h1 => ?_)
  · refine z_aload_n hc dX10_reads_172 0 rfl rfl ?_
    refine z_callV (av := []) (enc' := eV) hc rfl (sMo_nextToken _) (ci := 10) (by decide) lM1 (zkM lM1) rfl wMX10_233 hpyX10_nextToken hmyX10_nextToken (rm_ok hRm (Nat.le_of_ble_eq_true rfl) (Nat.le_of_ble_eq_true rfl)) (Nat.le_of_ble_eq_true rfl) hRm.2.2 dX10_reads_173 (fun c1 u1 f1 => ?_)
    refine z_goto (tgt := 11) hc dX10_reads_176 (by decide) ?_
    exact hr11 v1 v2 _
  · refine z_aload_n hc dX10_reads_156 0 rfl rfl ?_
    refine z_getR (x := 20) hc (ci := 10) (k := 28) (by decide) (by decide) zly10 lM1 (zkM lM1) wFX10_65 rfl dX10_reads_157 rfl (by decide) ?_
    refine z_iload_n hc dX10_reads_160 1 rfl rfl ?_
    refine zJ.chk _ (fun h2 => ?_)
    refine z_iald (k := (ix v1)) hc lM20 (zkM lM20) h2 rfl dX10_reads_161 ?_
    refine z_iconst (v := 1) hc dX10_reads_162 rfl ?_
    refine z_icmp_ne (tgt := 172) hc dX10_reads_163 (by decide) _ (fun h3 => ?_) (fun h3 => ?_)
    · refine z_aload_n hc dX10_reads_172 0 rfl rfl ?_
      refine z_callV (av := []) (enc' := eV) hc rfl (sMo_nextToken _) (ci := 10) (by decide) lM1 (zkM lM1) rfl wMX10_233 hpyX10_nextToken hmyX10_nextToken (rm_ok hRm (Nat.le_of_ble_eq_true rfl) (Nat.le_of_ble_eq_true rfl)) (Nat.le_of_ble_eq_true rfl) hRm.2.2 dX10_reads_173 (fun c2 u2 f2 => ?_)
      refine z_goto (tgt := 11) hc dX10_reads_176 (by decide) ?_
      exact hr11 v1 v2 _
    · refine z_iinc (L' := [(1, .int (v1 + (-1))), (0, .ref 1), (2, .int v2)]) hc dX10_reads_166 1 rfl (v := (v1 + (-1))) rfl (by decide) rfl rfl ?_
      refine z_goto (tgt := 152) hc dX10_reads_169 (by decide) ?_
      refine zJ.sub (L' := [(0, .ref 1), (1, .int (v1 + (-1))), (2, .int v2)]) [1, 0, 2] rfl ?_
      exact hr152 (v1 + (-1)) v2 _
set_option maxRecDepth 100000 in
set_option maxHeartbeats 4000000 in
theorem sMo_reads_152 {fin : Int32 × zM} (hc : zCx p s mi args meth c (wM D b) m0 RX10 cX10_reads 6 (some .boolean)) (hRm : R.frames = 2 ∧ R.locals = 42 ∧ R.cells = zc (wM D b) m0 fin.2 ∧ R.slots = zs (wM D b) m0 fin.2) {zr11 : Int32 → Int32 → zM → Option (Int32 × zM)} (hr11 : ∀ (v1 : Int32) (v2 : Int32) (u : zM), zJ eI p l e R s mi args below meth c (wM D b) m0 6 fin 11 [(0, .ref 1), (1, .int v1), (2, .int v2)] [] u (zr11 v1 v2 u)) : ∀ (zf : Nat) (v1 : Int32) (v2 : Int32) (u : zM), zJ eI p l e R s mi args below meth c (wM D b) m0 6 fin 152 [(0, .ref 1), (1, .int v1), (2, .int v2)] [] u (Mo_reads_152 zf zr11 v1 v2 u) := by
  intro zf
  induction zf with
  | zero => intro v1 v2 u; exact zJ.nil
  | succ zf ih => intro v1 v2 u; exact sMo_reads_152b hc hRm hr11 ih v1 v2 u
set_option maxRecDepth 100000 in
set_option maxHeartbeats 4000000 in
theorem sMo_reads_65 {fin : Int32 × zM} (hc : zCx p s mi args meth c (wM D b) m0 RX10 cX10_reads 6 (some .boolean)) (hRm : R.frames = 2 ∧ R.locals = 42 ∧ R.cells = zc (wM D b) m0 fin.2 ∧ R.slots = zs (wM D b) m0 fin.2) {zr11 : Int32 → Int32 → zM → Option (Int32 × zM)} (hr11 : ∀ (v1 : Int32) (v2 : Int32) (u : zM), zJ eI p l e R s mi args below meth c (wM D b) m0 6 fin 11 [(0, .ref 1), (1, .int v1), (2, .int v2)] [] u (zr11 v1 v2 u)) (v1 : Int32) (v2 : Int32) (v3 : Int32) (v4 : Int32) (v5 : Int32) (u : zM) : zJ eI p l e R s mi args below meth c (wM D b) m0 6 fin 65 [(0, .ref 1), (1, .int v1), (2, .int v2), (3, .int v3), (4, .int v4), (5, .int v5)] [] u (Mo_reads_65 zr11 v1 v2 v3 v4 v5 u) := by
  unfold Mo_reads_65
  refine z_iload_n hc dX10_reads_65 1 rfl rfl ?_
  refine z_iconst (v := 5) hc dX10_reads_66 rfl ?_
  refine z_icmp_ne (tgt := 76) hc dX10_reads_67 (by decide) _ (fun h1 => ?_) (fun h1 => ?_)
  · refine z_iload hc dX10_reads_76 4 rfl ?_
    refine z_if_ne (tgt := 86) hc dX10_reads_78 (by decide) _ (fun h2 => ?_) (fun h2 => ?_)
    · refine zJ.sub (L' := [(0, .ref 1), (1, .int v1), (2, .int v2), (4, .int v4)]) [0, 1, 2, 4] rfl ?_
      exact sMo_reads_86 hc hRm hr11 v1 v2 v4 _
    · refine z_iload hc dX10_reads_81 5 rfl ?_
      refine z_if_eq (tgt := 131) hc dX10_reads_83 (by decide) _ (fun h3 => ?_) (fun h3 => ?_)
      · refine z_aload_n hc dX10_reads_131 0 rfl rfl ?_
        refine z_iload_n hc dX10_reads_132 3 rfl rfl ?_
        refine z_if_le (tgt := 140) hc dX10_reads_133 (by decide) _ (fun h4 => ?_) (fun h4 => ?_)
        · refine z_bipush (v := 100) hc dX10_reads_140 rfl ?_
          refine z_aload_n hc dX10_reads_142 0 rfl rfl ?_
          refine z_getI hc (ci := 10) (k := 8) (by decide) (by decide) zly10 lM1 (zkM lM1) wFX10_184 rfl dX10_reads_143 ?_
          refine z_iadd hc dX10_reads_146 ?_
          refine z_callV (av := [.int (100 + (gI u 1 8))]) (enc' := eV) hc rfl (sMo_puts (100 + (gI u 1 8)) _) (ci := 10) (by decide) lM1 (zkM lM1) rfl wMX10_229 hpyX10_puts hmyX10_puts (rm_ok hRm (Nat.le_of_ble_eq_true rfl) (Nat.le_of_ble_eq_true rfl)) (Nat.le_of_ble_eq_true rfl) hRm.2.2 dX10_reads_147 (fun c1 u1 f1 => ?_)
          refine z_iconst (v := 0) hc dX10_reads_150 rfl ?_
          refine z_istore_n (L' := [(2, .int 0), (0, .ref 1), (1, .int v1), (3, .int v3), (4, .int v4), (5, .int v5)]) hc dX10_reads_151 rfl (by decide) rfl rfl ?_
          refine zJ.sub (L' := [(0, .ref 1), (1, .int v1), (2, .int 0)]) [1, 2, 0] rfl ?_
          exact sMo_reads_152 hc hRm hr11 zF v1 0 _
        · refine z_iload_n hc dX10_reads_136 3 rfl rfl ?_
          refine z_goto (tgt := 147) hc dX10_reads_137 (by decide) ?_
          refine z_callV (av := [.int v3]) (enc' := eV) hc rfl (sMo_puts v3 _) (ci := 10) (by decide) lM1 (zkM lM1) rfl wMX10_229 hpyX10_puts hmyX10_puts (rm_ok hRm (Nat.le_of_ble_eq_true rfl) (Nat.le_of_ble_eq_true rfl)) (Nat.le_of_ble_eq_true rfl) hRm.2.2 dX10_reads_147 (fun c2 u2 f2 => ?_)
          refine z_iconst (v := 0) hc dX10_reads_150 rfl ?_
          refine z_istore_n (L' := [(2, .int 0), (0, .ref 1), (1, .int v1), (3, .int v3), (4, .int v4), (5, .int v5)]) hc dX10_reads_151 rfl (by decide) rfl rfl ?_
          refine zJ.sub (L' := [(0, .ref 1), (1, .int v1), (2, .int 0)]) [1, 2, 0] rfl ?_
          exact sMo_reads_152 hc hRm hr11 zF v1 0 _
      · refine zJ.sub (L' := [(0, .ref 1), (1, .int v1), (2, .int v2), (4, .int v4)]) [0, 1, 2, 4] rfl ?_
        exact sMo_reads_86 hc hRm hr11 v1 v2 v4 _
  · refine z_aload_n hc dX10_reads_70 0 rfl rfl ?_
    refine z_iconst (v := 5) hc dX10_reads_71 rfl ?_
    refine z_callV (av := [.int 5]) (enc' := eI) hc rfl (sMo_fails 5 _) (ci := 10) (by decide) lM1 (zkM lM1) rfl wMX10_226 hpyX10_fails hmyX10_fails (rm_ok hRm (Nat.le_of_ble_eq_true rfl) (Nat.le_of_ble_eq_true rfl)) (Nat.le_of_ble_eq_true rfl) hRm.2.2 dX10_reads_72 (fun c3 u3 f3 => ?_)
    exact z_zretC hc dX10_reads_75
set_option maxRecDepth 100000 in
set_option maxHeartbeats 4000000 in
theorem sMo_reads_206 {fin : Int32 × zM} (hc : zCx p s mi args meth c (wM D b) m0 RX10 cX10_reads 6 (some .boolean)) (hRm : R.frames = 2 ∧ R.locals = 42 ∧ R.cells = zc (wM D b) m0 fin.2 ∧ R.slots = zs (wM D b) m0 fin.2) {zr11 : Int32 → Int32 → zM → Option (Int32 × zM)} (hr11 : ∀ (v1 : Int32) (v2 : Int32) (u : zM), zJ eI p l e R s mi args below meth c (wM D b) m0 6 fin 11 [(0, .ref 1), (1, .int v1), (2, .int v2)] [] u (zr11 v1 v2 u)) (v1 : Int32) (u : zM) : zJ eI p l e R s mi args below meth c (wM D b) m0 6 fin 206 [(0, .ref 1), (1, .int v1)] [] u (Mo_reads_206 zr11 v1 u) := by
  unfold Mo_reads_206
  refine z_aload_n hc dX10_reads_206 0 rfl rfl ?_
  refine z_aload_n hc dX10_reads_207 0 rfl rfl ?_
  refine z_bipush (v := 43) hc dX10_reads_208 rfl ?_
  refine z_callV (av := [.int 43]) (enc' := eI) hc rfl (sMo_isSign 43 _) (ci := 10) (by decide) lM1 (zkM lM1) rfl wMX10_222 hpyX10_isSign hmyX10_isSign (rm_ok hRm (Nat.le_of_ble_eq_true rfl) (Nat.le_of_ble_eq_true rfl)) (Nat.le_of_ble_eq_true rfl) hRm.2.2 dX10_reads_210 (fun c1 u1 f1 => ?_)
  refine z_if_eq (tgt := 221) hc dX10_reads_213 (by decide) _ (fun h1 => ?_) (fun h1 => ?_)
  · refine z_aload_n hc dX10_reads_221 0 rfl rfl ?_
    refine z_bipush (v := 45) hc dX10_reads_222 rfl ?_
    refine z_callV (av := [.int 45]) (enc' := eI) hc rfl (sMo_isSign 45 _) (ci := 10) (by decide) lM1 (zkM lM1) rfl wMX10_222 hpyX10_isSign hmyX10_isSign (rm_ok hRm (Nat.le_of_ble_eq_true rfl) (Nat.le_of_ble_eq_true rfl)) (Nat.le_of_ble_eq_true rfl) hRm.2.2 dX10_reads_224 (fun c2 u2 f2 => ?_)
    refine z_if_eq (tgt := 235) hc dX10_reads_227 (by decide) _ (fun h2 => ?_) (fun h2 => ?_)
    · refine z_bipush (v := 22) hc dX10_reads_235 rfl ?_
      refine z_callV (av := [.int 22]) (enc' := eV) hc rfl (sMo_puts 22 _) (ci := 10) (by decide) lM1 (zkM lM1) rfl wMX10_229 hpyX10_puts hmyX10_puts (rm_ok hRm (Nat.le_of_ble_eq_true rfl) (Nat.le_of_ble_eq_true rfl)) (Nat.le_of_ble_eq_true rfl) hRm.2.2 dX10_reads_237 (fun c3 u3 f3 => ?_)
      refine z_iconst (v := 1) hc dX10_reads_240 rfl ?_
      refine z_istore_n (L' := [(2, .int 1), (0, .ref 1), (1, .int v1)]) hc dX10_reads_241 rfl (by decide) rfl rfl ?_
      refine z_goto (tgt := 424) hc dX10_reads_242 (by decide) ?_
      refine z_aload_n hc dX10_reads_424 1 rfl rfl ?_
      refine z_callV (av := []) (enc' := eV) hc rfl (sMo_nextToken _) (ci := 10) (by decide) lM1 (zkM lM1) rfl wMX10_233 hpyX10_nextToken hmyX10_nextToken (rm_ok hRm (Nat.le_of_ble_eq_true rfl) (Nat.le_of_ble_eq_true rfl)) (Nat.le_of_ble_eq_true rfl) hRm.2.2 dX10_reads_425 (fun c4 u4 f4 => ?_)
      refine z_goto (tgt := 11) hc dX10_reads_428 (by decide) ?_
      refine zJ.sub (L' := [(0, .ref 1), (1, .int v1), (2, .int 1)]) [1, 2, 0] rfl ?_
      exact hr11 v1 1 _
    · refine z_bipush (v := 21) hc dX10_reads_230 rfl ?_
      refine z_goto (tgt := 237) hc dX10_reads_232 (by decide) ?_
      refine z_callV (av := [.int 21]) (enc' := eV) hc rfl (sMo_puts 21 _) (ci := 10) (by decide) lM1 (zkM lM1) rfl wMX10_229 hpyX10_puts hmyX10_puts (rm_ok hRm (Nat.le_of_ble_eq_true rfl) (Nat.le_of_ble_eq_true rfl)) (Nat.le_of_ble_eq_true rfl) hRm.2.2 dX10_reads_237 (fun c5 u5 f5 => ?_)
      refine z_iconst (v := 1) hc dX10_reads_240 rfl ?_
      refine z_istore_n (L' := [(2, .int 1), (0, .ref 1), (1, .int v1)]) hc dX10_reads_241 rfl (by decide) rfl rfl ?_
      refine z_goto (tgt := 424) hc dX10_reads_242 (by decide) ?_
      refine z_aload_n hc dX10_reads_424 1 rfl rfl ?_
      refine z_callV (av := []) (enc' := eV) hc rfl (sMo_nextToken _) (ci := 10) (by decide) lM1 (zkM lM1) rfl wMX10_233 hpyX10_nextToken hmyX10_nextToken (rm_ok hRm (Nat.le_of_ble_eq_true rfl) (Nat.le_of_ble_eq_true rfl)) (Nat.le_of_ble_eq_true rfl) hRm.2.2 dX10_reads_425 (fun c6 u6 f6 => ?_)
      refine z_goto (tgt := 11) hc dX10_reads_428 (by decide) ?_
      refine zJ.sub (L' := [(0, .ref 1), (1, .int v1), (2, .int 1)]) [1, 2, 0] rfl ?_
      exact hr11 v1 1 _
  · refine z_bipush (v := 20) hc dX10_reads_216 rfl ?_
    refine z_goto (tgt := 237) hc dX10_reads_218 (by decide) ?_
    refine z_callV (av := [.int 20]) (enc' := eV) hc rfl (sMo_puts 20 _) (ci := 10) (by decide) lM1 (zkM lM1) rfl wMX10_229 hpyX10_puts hmyX10_puts (rm_ok hRm (Nat.le_of_ble_eq_true rfl) (Nat.le_of_ble_eq_true rfl)) (Nat.le_of_ble_eq_true rfl) hRm.2.2 dX10_reads_237 (fun c7 u7 f7 => ?_)
    refine z_iconst (v := 1) hc dX10_reads_240 rfl ?_
    refine z_istore_n (L' := [(2, .int 1), (0, .ref 1), (1, .int v1)]) hc dX10_reads_241 rfl (by decide) rfl rfl ?_
    refine z_goto (tgt := 424) hc dX10_reads_242 (by decide) ?_
    refine z_aload_n hc dX10_reads_424 1 rfl rfl ?_
    refine z_callV (av := []) (enc' := eV) hc rfl (sMo_nextToken _) (ci := 10) (by decide) lM1 (zkM lM1) rfl wMX10_233 hpyX10_nextToken hmyX10_nextToken (rm_ok hRm (Nat.le_of_ble_eq_true rfl) (Nat.le_of_ble_eq_true rfl)) (Nat.le_of_ble_eq_true rfl) hRm.2.2 dX10_reads_425 (fun c8 u8 f8 => ?_)
    refine z_goto (tgt := 11) hc dX10_reads_428 (by decide) ?_
    refine zJ.sub (L' := [(0, .ref 1), (1, .int v1), (2, .int 1)]) [1, 2, 0] rfl ?_
    exact hr11 v1 1 _
set_option maxRecDepth 100000 in
set_option maxHeartbeats 4000000 in
theorem sMo_reads_289 {fin : Int32 × zM} (hc : zCx p s mi args meth c (wM D b) m0 RX10 cX10_reads 6 (some .boolean)) (hRm : R.frames = 2 ∧ R.locals = 42 ∧ R.cells = zc (wM D b) m0 fin.2 ∧ R.slots = zs (wM D b) m0 fin.2) {zr11 : Int32 → Int32 → zM → Option (Int32 × zM)} (hr11 : ∀ (v1 : Int32) (v2 : Int32) (u : zM), zJ eI p l e R s mi args below meth c (wM D b) m0 6 fin 11 [(0, .ref 1), (1, .int v1), (2, .int v2)] [] u (zr11 v1 v2 u)) (v1 : Int32) (s1 : Int32) (u : zM) : zJ eI p l e R s mi args below meth c (wM D b) m0 6 fin 289 [(0, .ref 1), (1, .int v1)] [.int s1, .ref 1] u (Mo_reads_289 zr11 v1 s1 u) := by
  unfold Mo_reads_289
  refine z_callV (av := [.int s1]) (enc' := eV) hc rfl (sMo_puts s1 _) (ci := 10) (by decide) lM1 (zkM lM1) rfl wMX10_229 hpyX10_puts hmyX10_puts (rm_ok hRm (Nat.le_of_ble_eq_true rfl) (Nat.le_of_ble_eq_true rfl)) (Nat.le_of_ble_eq_true rfl) hRm.2.2 dX10_reads_289 (fun c1 u1 f1 => ?_)
  refine z_aload_n hc dX10_reads_292 0 rfl rfl ?_
  refine z_getR (x := 21) hc (ci := 10) (k := 29) (by decide) (by decide) zly10 lM1 (zkM lM1) wFX10_68 rfl dX10_reads_293 rfl (by decide) ?_
  refine z_iload_n hc dX10_reads_296 1 rfl rfl ?_
  refine z_iconst (v := 1) hc dX10_reads_297 rfl ?_
  refine zJ.chk _ (fun h1 => ?_)
  refine z_zast (k := (ix v1)) hc lM21 (zkM lM21) h1 rfl dX10_reads_298 ?_
  refine zJ.letM (fun u2 e1 => ?_)
  refine z_iconst (v := 1) hc dX10_reads_299 rfl ?_
  refine z_istore_n (L' := [(2, .int 1), (0, .ref 1), (1, .int v1)]) hc dX10_reads_300 rfl (by decide) rfl rfl ?_
  refine z_goto (tgt := 424) hc dX10_reads_301 (by decide) ?_
  refine z_aload_n hc dX10_reads_424 1 rfl rfl ?_
  refine z_callV (av := []) (enc' := eV) hc rfl (sMo_nextToken _) (ci := 10) (by decide) lM1 (zkM lM1) rfl wMX10_233 hpyX10_nextToken hmyX10_nextToken (rm_ok hRm (Nat.le_of_ble_eq_true rfl) (Nat.le_of_ble_eq_true rfl)) (Nat.le_of_ble_eq_true rfl) hRm.2.2 dX10_reads_425 (fun c2 u3 f2 => ?_)
  refine z_goto (tgt := 11) hc dX10_reads_428 (by decide) ?_
  refine zJ.sub (L' := [(0, .ref 1), (1, .int v1), (2, .int 1)]) [1, 2, 0] rfl ?_
  exact hr11 v1 1 _
set_option maxRecDepth 100000 in
set_option maxHeartbeats 4000000 in
theorem sMo_reads_342 {fin : Int32 × zM} (hc : zCx p s mi args meth c (wM D b) m0 RX10 cX10_reads 6 (some .boolean)) (hRm : R.frames = 2 ∧ R.locals = 42 ∧ R.cells = zc (wM D b) m0 fin.2 ∧ R.slots = zs (wM D b) m0 fin.2) {zr11 : Int32 → Int32 → zM → Option (Int32 × zM)} (hr11 : ∀ (v1 : Int32) (v2 : Int32) (u : zM), zJ eI p l e R s mi args below meth c (wM D b) m0 6 fin 11 [(0, .ref 1), (1, .int v1), (2, .int v2)] [] u (zr11 v1 v2 u)) (v1 : Int32) (s1 : Int32) (u : zM) : zJ eI p l e R s mi args below meth c (wM D b) m0 6 fin 342 [(0, .ref 1), (1, .int v1)] [.int s1, .ref 1] u (Mo_reads_342 zr11 v1 s1 u) := by
  unfold Mo_reads_342
  refine z_callV (av := [.int s1]) (enc' := eV) hc rfl (sMo_puts s1 _) (ci := 10) (by decide) lM1 (zkM lM1) rfl wMX10_229 hpyX10_puts hmyX10_puts (rm_ok hRm (Nat.le_of_ble_eq_true rfl) (Nat.le_of_ble_eq_true rfl)) (Nat.le_of_ble_eq_true rfl) hRm.2.2 dX10_reads_342 (fun c1 u1 f1 => ?_)
  refine z_aload_n hc dX10_reads_345 0 rfl rfl ?_
  refine z_getR (x := 21) hc (ci := 10) (k := 29) (by decide) (by decide) zly10 lM1 (zkM lM1) wFX10_68 rfl dX10_reads_346 rfl (by decide) ?_
  refine z_iload_n hc dX10_reads_349 1 rfl rfl ?_
  refine z_iconst (v := 0) hc dX10_reads_350 rfl ?_
  refine zJ.chk _ (fun h1 => ?_)
  refine z_zast (k := (ix v1)) hc lM21 (zkM lM21) h1 rfl dX10_reads_351 ?_
  refine zJ.letM (fun u2 e1 => ?_)
  refine z_iconst (v := 1) hc dX10_reads_352 rfl ?_
  refine z_istore_n (L' := [(2, .int 1), (0, .ref 1), (1, .int v1)]) hc dX10_reads_353 rfl (by decide) rfl rfl ?_
  refine z_goto (tgt := 424) hc dX10_reads_354 (by decide) ?_
  refine z_aload_n hc dX10_reads_424 1 rfl rfl ?_
  refine z_callV (av := []) (enc' := eV) hc rfl (sMo_nextToken _) (ci := 10) (by decide) lM1 (zkM lM1) rfl wMX10_233 hpyX10_nextToken hmyX10_nextToken (rm_ok hRm (Nat.le_of_ble_eq_true rfl) (Nat.le_of_ble_eq_true rfl)) (Nat.le_of_ble_eq_true rfl) hRm.2.2 dX10_reads_425 (fun c2 u3 f2 => ?_)
  refine z_goto (tgt := 11) hc dX10_reads_428 (by decide) ?_
  refine zJ.sub (L' := [(0, .ref 1), (1, .int v1), (2, .int 1)]) [1, 2, 0] rfl ?_
  exact hr11 v1 1 _
set_option maxRecDepth 100000 in
set_option maxHeartbeats 4000000 in
theorem sMo_reads_324 {fin : Int32 × zM} (hc : zCx p s mi args meth c (wM D b) m0 RX10 cX10_reads 6 (some .boolean)) (hRm : R.frames = 2 ∧ R.locals = 42 ∧ R.cells = zc (wM D b) m0 fin.2 ∧ R.slots = zs (wM D b) m0 fin.2) {zr11 : Int32 → Int32 → zM → Option (Int32 × zM)} (hr11 : ∀ (v1 : Int32) (v2 : Int32) (u : zM), zJ eI p l e R s mi args below meth c (wM D b) m0 6 fin 11 [(0, .ref 1), (1, .int v1), (2, .int v2)] [] u (zr11 v1 v2 u)) (v1 : Int32) (u : zM) : zJ eI p l e R s mi args below meth c (wM D b) m0 6 fin 324 [(0, .ref 1), (1, .int v1)] [] u (Mo_reads_324 zr11 v1 u) := by
  unfold Mo_reads_324
  refine z_aload_n hc dX10_reads_324 0 rfl rfl ?_
  refine z_aload_n hc dX10_reads_325 0 rfl rfl ?_
  refine z_ldc2 (v := 1111) hc wKX10_236 dX10_reads_326 ?_
  refine z_callV (av := [.long 1111]) (enc' := eI) hc rfl (sMo_isWord 1111 _) (ci := 10) (by decide) lM1 (zkM lM1) rfl wMX10_218 hpyX10_isWord hmyX10_isWord (rm_ok hRm (Nat.le_of_ble_eq_true rfl) (Nat.le_of_ble_eq_true rfl)) (Nat.le_of_ble_eq_true rfl) hRm.2.2 dX10_reads_329 (fun c1 u1 f1 => ?_)
  refine z_if_eq (tgt := 340) hc dX10_reads_332 (by decide) _ (fun h1 => ?_) (fun h1 => ?_)
  · refine z_bipush (v := 27) hc dX10_reads_340 rfl ?_
    exact sMo_reads_342 hc hRm hr11 v1 27 _
  · refine z_bipush (v := 26) hc dX10_reads_335 rfl ?_
    refine z_goto (tgt := 342) hc dX10_reads_337 (by decide) ?_
    exact sMo_reads_342 hc hRm hr11 v1 26 _
set_option maxRecDepth 100000 in
set_option maxHeartbeats 4000000 in
theorem sMo_reads_379b {fin : Int32 × zM} (hc : zCx p s mi args meth c (wM D b) m0 RX10 cX10_reads 6 (some .boolean)) (hRm : R.frames = 2 ∧ R.locals = 42 ∧ R.cells = zc (wM D b) m0 fin.2 ∧ R.slots = zs (wM D b) m0 fin.2) {zr11 : Int32 → Int32 → zM → Option (Int32 × zM)} (hr11 : ∀ (v1 : Int32) (v2 : Int32) (u : zM), zJ eI p l e R s mi args below meth c (wM D b) m0 6 fin 11 [(0, .ref 1), (1, .int v1), (2, .int v2)] [] u (zr11 v1 v2 u)) {zr379 : Int32 → Int32 → zM → Option (Int32 × zM)} (hr379 : ∀ (v1 : Int32) (v2 : Int32) (u : zM), zJ eI p l e R s mi args below meth c (wM D b) m0 6 fin 379 [(0, .ref 1), (1, .int v1), (2, .int v2)] [] u (zr379 v1 v2 u)) (v1 : Int32) (v2 : Int32) (u : zM) : zJ eI p l e R s mi args below meth c (wM D b) m0 6 fin 379 [(0, .ref 1), (1, .int v1), (2, .int v2)] [] u (Mo_reads_379b zr11 zr379 v1 v2 u) := by
  unfold Mo_reads_379b
  refine z_iload_n hc dX10_reads_379 1 rfl rfl ?_
  refine z_if_le (tgt := 424) hc dX10_reads_380 (by decide) _ (fun h1 => ?_) (fun h1 => ?_)
  · refine z_aload_n hc dX10_reads_424 0 rfl rfl ?_
    refine z_callV (av := []) (enc' := eV) hc rfl (sMo_nextToken _) (ci := 10) (by decide) lM1 (zkM lM1) rfl wMX10_233 hpyX10_nextToken hmyX10_nextToken (rm_ok hRm (Nat.le_of_ble_eq_true rfl) (Nat.le_of_ble_eq_true rfl)) (Nat.le_of_ble_eq_true rfl) hRm.2.2 dX10_reads_425 (fun c1 u1 f1 => ?_)
    refine z_goto (tgt := 11) hc dX10_reads_428 (by decide) ?_
    exact hr11 v1 v2 _
  · refine z_aload_n hc dX10_reads_383 0 rfl rfl ?_
    refine z_getR (x := 20) hc (ci := 10) (k := 28) (by decide) (by decide) zly10 lM1 (zkM lM1) wFX10_65 rfl dX10_reads_384 rfl (by decide) ?_
    refine z_iload_n hc dX10_reads_387 1 rfl rfl ?_
    refine zJ.chk _ (fun h2 => ?_)
    refine z_iald (k := (ix v1)) hc lM20 (zkM lM20) h2 rfl dX10_reads_388 ?_
    refine z_iconst (v := 1) hc dX10_reads_389 rfl ?_
    refine z_icmp_ne (tgt := 424) hc dX10_reads_390 (by decide) _ (fun h3 => ?_) (fun h3 => ?_)
    · refine z_aload_n hc dX10_reads_424 0 rfl rfl ?_
      refine z_callV (av := []) (enc' := eV) hc rfl (sMo_nextToken _) (ci := 10) (by decide) lM1 (zkM lM1) rfl wMX10_233 hpyX10_nextToken hmyX10_nextToken (rm_ok hRm (Nat.le_of_ble_eq_true rfl) (Nat.le_of_ble_eq_true rfl)) (Nat.le_of_ble_eq_true rfl) hRm.2.2 dX10_reads_425 (fun c2 u2 f2 => ?_)
      refine z_goto (tgt := 11) hc dX10_reads_428 (by decide) ?_
      exact hr11 v1 v2 _
    · refine z_iinc (L' := [(1, .int (v1 + (-1))), (0, .ref 1), (2, .int v2)]) hc dX10_reads_393 1 rfl (v := (v1 + (-1))) rfl (by decide) rfl rfl ?_
      refine z_goto (tgt := 379) hc dX10_reads_396 (by decide) ?_
      refine zJ.sub (L' := [(0, .ref 1), (1, .int (v1 + (-1))), (2, .int v2)]) [1, 0, 2] rfl ?_
      exact hr379 (v1 + (-1)) v2 _
set_option maxRecDepth 100000 in
set_option maxHeartbeats 4000000 in
theorem sMo_reads_379 {fin : Int32 × zM} (hc : zCx p s mi args meth c (wM D b) m0 RX10 cX10_reads 6 (some .boolean)) (hRm : R.frames = 2 ∧ R.locals = 42 ∧ R.cells = zc (wM D b) m0 fin.2 ∧ R.slots = zs (wM D b) m0 fin.2) {zr11 : Int32 → Int32 → zM → Option (Int32 × zM)} (hr11 : ∀ (v1 : Int32) (v2 : Int32) (u : zM), zJ eI p l e R s mi args below meth c (wM D b) m0 6 fin 11 [(0, .ref 1), (1, .int v1), (2, .int v2)] [] u (zr11 v1 v2 u)) : ∀ (zf : Nat) (v1 : Int32) (v2 : Int32) (u : zM), zJ eI p l e R s mi args below meth c (wM D b) m0 6 fin 379 [(0, .ref 1), (1, .int v1), (2, .int v2)] [] u (Mo_reads_379 zf zr11 v1 v2 u) := by
  intro zf
  induction zf with
  | zero => intro v1 v2 u; exact zJ.nil
  | succ zf ih => intro v1 v2 u; exact sMo_reads_379b hc hRm hr11 ih v1 v2 u
set_option maxRecDepth 100000 in
set_option maxHeartbeats 4000000 in
theorem sMo_reads_399 {fin : Int32 × zM} (hc : zCx p s mi args meth c (wM D b) m0 RX10 cX10_reads 6 (some .boolean)) (hRm : R.frames = 2 ∧ R.locals = 42 ∧ R.cells = zc (wM D b) m0 fin.2 ∧ R.slots = zs (wM D b) m0 fin.2) (v1 : Int32) (u : zM) : zJ eI p l e R s mi args below meth c (wM D b) m0 6 fin 399 [(0, .ref 1), (1, .int v1)] [] u (Mo_reads_399 v1 u) := by
  unfold Mo_reads_399
  refine z_iload_n hc dX10_reads_399 1 rfl rfl ?_
  refine z_if_ne (tgt := 418) hc dX10_reads_400 (by decide) _ (fun h1 => ?_) (fun h1 => ?_)
  · refine z_aload_n hc dX10_reads_418 0 rfl rfl ?_
    refine z_iconst (v := 1) hc dX10_reads_419 rfl ?_
    refine z_callV (av := [.int 1]) (enc' := eI) hc rfl (sMo_fails 1 _) (ci := 10) (by decide) lM1 (zkM lM1) rfl wMX10_226 hpyX10_fails hmyX10_fails (rm_ok hRm (Nat.le_of_ble_eq_true rfl) (Nat.le_of_ble_eq_true rfl)) (Nat.le_of_ble_eq_true rfl) hRm.2.2 dX10_reads_420 (fun c1 u1 f1 => ?_)
    exact z_zretC hc dX10_reads_423
  · refine z_aload_n hc dX10_reads_403 0 rfl rfl ?_
    refine z_bipush (v := 59) hc dX10_reads_404 rfl ?_
    refine z_callV (av := [.int 59]) (enc' := eI) hc rfl (sMo_isSign 59 _) (ci := 10) (by decide) lM1 (zkM lM1) rfl wMX10_222 hpyX10_isSign hmyX10_isSign (rm_ok hRm (Nat.le_of_ble_eq_true rfl) (Nat.le_of_ble_eq_true rfl)) (Nat.le_of_ble_eq_true rfl) hRm.2.2 dX10_reads_406 (fun c2 u2 f2 => ?_)
    refine z_if_eq (tgt := 418) hc dX10_reads_409 (by decide) _ (fun h2 => ?_) (fun h2 => ?_)
    · refine z_aload_n hc dX10_reads_418 0 rfl rfl ?_
      refine z_iconst (v := 1) hc dX10_reads_419 rfl ?_
      refine z_callV (av := [.int 1]) (enc' := eI) hc rfl (sMo_fails 1 _) (ci := 10) (by decide) lM1 (zkM lM1) rfl wMX10_226 hpyX10_fails hmyX10_fails (rm_ok hRm (Nat.le_of_ble_eq_true rfl) (Nat.le_of_ble_eq_true rfl)) (Nat.le_of_ble_eq_true rfl) hRm.2.2 dX10_reads_420 (fun c3 u3 f3 => ?_)
      exact z_zretC hc dX10_reads_423
    · refine z_aload_n hc dX10_reads_412 0 rfl rfl ?_
      refine z_callV (av := []) (enc' := eV) hc rfl (sMo_nextToken _) (ci := 10) (by decide) lM1 (zkM lM1) rfl wMX10_233 hpyX10_nextToken hmyX10_nextToken (rm_ok hRm (Nat.le_of_ble_eq_true rfl) (Nat.le_of_ble_eq_true rfl)) (Nat.le_of_ble_eq_true rfl) hRm.2.2 dX10_reads_413 (fun c4 u4 f4 => ?_)
      refine z_iconst (v := 1) hc dX10_reads_416 rfl ?_
      exact z_zret hc rfl dX10_reads_417
set_option maxRecDepth 100000 in
set_option maxHeartbeats 4000000 in
theorem sMo_reads_304 {fin : Int32 × zM} (hc : zCx p s mi args meth c (wM D b) m0 RX10 cX10_reads 6 (some .boolean)) (hRm : R.frames = 2 ∧ R.locals = 42 ∧ R.cells = zc (wM D b) m0 fin.2 ∧ R.slots = zs (wM D b) m0 fin.2) {zr11 : Int32 → Int32 → zM → Option (Int32 × zM)} (hr11 : ∀ (v1 : Int32) (v2 : Int32) (u : zM), zJ eI p l e R s mi args below meth c (wM D b) m0 6 fin 11 [(0, .ref 1), (1, .int v1), (2, .int v2)] [] u (zr11 v1 v2 u)) (v1 : Int32) (v2 : Int32) (u : zM) : zJ eI p l e R s mi args below meth c (wM D b) m0 6 fin 304 [(0, .ref 1), (1, .int v1), (2, .int v2)] [] u (Mo_reads_304 zr11 v1 v2 u) := by
  unfold Mo_reads_304
  refine z_aload_n hc dX10_reads_304 0 rfl rfl ?_
  refine z_ldc2 (v := 1111) hc wKX10_236 dX10_reads_305 ?_
  refine z_callV (av := [.long 1111]) (enc' := eI) hc rfl (sMo_isWord 1111 _) (ci := 10) (by decide) lM1 (zkM lM1) rfl wMX10_218 hpyX10_isWord hmyX10_isWord (rm_ok hRm (Nat.le_of_ble_eq_true rfl) (Nat.le_of_ble_eq_true rfl)) (Nat.le_of_ble_eq_true rfl) hRm.2.2 dX10_reads_308 (fun c1 u1 f1 => ?_)
  refine z_if_ne (tgt := 324) hc dX10_reads_311 (by decide) _ (fun h1 => ?_) (fun h1 => ?_)
  · refine zJ.sub (L' := [(0, .ref 1), (1, .int v1)]) [0, 1] rfl ?_
    exact sMo_reads_324 hc hRm hr11 v1 _
  · refine z_aload_n hc dX10_reads_314 0 rfl rfl ?_
    refine z_ldc2 (v := 423) hc wKX10_238 dX10_reads_315 ?_
    refine z_callV (av := [.long 423]) (enc' := eI) hc rfl (sMo_isWord 423 _) (ci := 10) (by decide) lM1 (zkM lM1) rfl wMX10_218 hpyX10_isWord hmyX10_isWord (rm_ok hRm (Nat.le_of_ble_eq_true rfl) (Nat.le_of_ble_eq_true rfl)) (Nat.le_of_ble_eq_true rfl) hRm.2.2 dX10_reads_318 (fun c2 u2 f2 => ?_)
    refine z_if_eq (tgt := 357) hc dX10_reads_321 (by decide) _ (fun h2 => ?_) (fun h2 => ?_)
    · refine z_aload_n hc dX10_reads_357 0 rfl rfl ?_
      refine z_bipush (v := 41) hc dX10_reads_358 rfl ?_
      refine z_callV (av := [.int 41]) (enc' := eI) hc rfl (sMo_isSign 41 _) (ci := 10) (by decide) lM1 (zkM lM1) rfl wMX10_222 hpyX10_isSign hmyX10_isSign (rm_ok hRm (Nat.le_of_ble_eq_true rfl) (Nat.le_of_ble_eq_true rfl)) (Nat.le_of_ble_eq_true rfl) hRm.2.2 dX10_reads_360 (fun c3 u3 f3 => ?_)
      refine z_if_eq (tgt := 399) hc dX10_reads_363 (by decide) _ (fun h3 => ?_) (fun h3 => ?_)
      · refine zJ.sub (L' := [(0, .ref 1), (1, .int v1)]) [0, 1] rfl ?_
        exact sMo_reads_399 hc hRm v1 _
      · refine z_iload_n hc dX10_reads_366 1 rfl rfl ?_
        refine z_if_le (tgt := 399) hc dX10_reads_367 (by decide) _ (fun h4 => ?_) (fun h4 => ?_)
        · refine zJ.sub (L' := [(0, .ref 1), (1, .int v1)]) [0, 1] rfl ?_
          exact sMo_reads_399 hc hRm v1 _
        · refine z_aload_n hc dX10_reads_370 0 rfl rfl ?_
          refine z_bipush (v := 29) hc dX10_reads_371 rfl ?_
          refine z_callV (av := [.int 29]) (enc' := eV) hc rfl (sMo_puts 29 _) (ci := 10) (by decide) lM1 (zkM lM1) rfl wMX10_229 hpyX10_puts hmyX10_puts (rm_ok hRm (Nat.le_of_ble_eq_true rfl) (Nat.le_of_ble_eq_true rfl)) (Nat.le_of_ble_eq_true rfl) hRm.2.2 dX10_reads_373 (fun c4 u4 f4 => ?_)
          refine z_iinc (L' := [(1, .int (v1 + (-1))), (0, .ref 1), (2, .int v2)]) hc dX10_reads_376 1 rfl (v := (v1 + (-1))) rfl (by decide) rfl rfl ?_
          refine zJ.sub (L' := [(0, .ref 1), (1, .int (v1 + (-1))), (2, .int v2)]) [1, 0, 2] rfl ?_
          exact sMo_reads_379 hc hRm hr11 zF (v1 + (-1)) v2 _
    · refine zJ.sub (L' := [(0, .ref 1), (1, .int v1)]) [0, 1] rfl ?_
      exact sMo_reads_324 hc hRm hr11 v1 _
set_option maxRecDepth 100000 in
set_option maxHeartbeats 4000000 in
theorem sMo_reads_263 {fin : Int32 × zM} (hc : zCx p s mi args meth c (wM D b) m0 RX10 cX10_reads 6 (some .boolean)) (hRm : R.frames = 2 ∧ R.locals = 42 ∧ R.cells = zc (wM D b) m0 fin.2 ∧ R.slots = zs (wM D b) m0 fin.2) {zr11 : Int32 → Int32 → zM → Option (Int32 × zM)} (hr11 : ∀ (v1 : Int32) (v2 : Int32) (u : zM), zJ eI p l e R s mi args below meth c (wM D b) m0 6 fin 11 [(0, .ref 1), (1, .int v1), (2, .int v2)] [] u (zr11 v1 v2 u)) (v1 : Int32) (v2 : Int32) (u : zM) : zJ eI p l e R s mi args below meth c (wM D b) m0 6 fin 263 [(0, .ref 1), (1, .int v1), (2, .int v2)] [] u (Mo_reads_263 zr11 v1 v2 u) := by
  unfold Mo_reads_263
  refine z_aload_n hc dX10_reads_263 0 rfl rfl ?_
  refine z_getR (x := 21) hc (ci := 10) (k := 29) (by decide) (by decide) zly10 lM1 (zkM lM1) wFX10_68 rfl dX10_reads_264 rfl (by decide) ?_
  refine z_iload_n hc dX10_reads_267 1 rfl rfl ?_
  refine zJ.chk _ (fun h1 => ?_)
  refine z_zald (k := (ix v1)) hc lM21 (zkM lM21) h1 rfl dX10_reads_268 ?_
  refine z_if_ne (tgt := 304) hc dX10_reads_269 (by decide) _ (fun h2 => ?_) (fun h2 => ?_)
  · exact sMo_reads_304 hc hRm hr11 v1 v2 _
  · refine z_aload_n hc dX10_reads_272 0 rfl rfl ?_
    refine z_aload_n hc dX10_reads_273 0 rfl rfl ?_
    refine z_bipush (v := 60) hc dX10_reads_274 rfl ?_
    refine z_callV (av := [.int 60]) (enc' := eI) hc rfl (sMo_isSign 60 _) (ci := 10) (by decide) lM1 (zkM lM1) rfl wMX10_222 hpyX10_isSign hmyX10_isSign (rm_ok hRm (Nat.le_of_ble_eq_true rfl) (Nat.le_of_ble_eq_true rfl)) (Nat.le_of_ble_eq_true rfl) hRm.2.2 dX10_reads_276 (fun c1 u1 f1 => ?_)
    refine z_if_eq (tgt := 287) hc dX10_reads_279 (by decide) _ (fun h3 => ?_) (fun h3 => ?_)
    · refine z_bipush (v := 25) hc dX10_reads_287 rfl ?_
      refine zJ.sub (L' := [(0, .ref 1), (1, .int v1)]) [0, 1] rfl ?_
      exact sMo_reads_289 hc hRm hr11 v1 25 _
    · refine z_bipush (v := 24) hc dX10_reads_282 rfl ?_
      refine z_goto (tgt := 289) hc dX10_reads_284 (by decide) ?_
      refine zJ.sub (L' := [(0, .ref 1), (1, .int v1)]) [0, 1] rfl ?_
      exact sMo_reads_289 hc hRm hr11 v1 24 _
set_option maxRecDepth 100000 in
set_option maxHeartbeats 4000000 in
theorem sMo_reads_11b {fin : Int32 × zM} (hc : zCx p s mi args meth c (wM D b) m0 RX10 cX10_reads 6 (some .boolean)) (hRm : R.frames = 2 ∧ R.locals = 42 ∧ R.cells = zc (wM D b) m0 fin.2 ∧ R.slots = zs (wM D b) m0 fin.2) {zr11 : Int32 → Int32 → zM → Option (Int32 × zM)} (hr11 : ∀ (v1 : Int32) (v2 : Int32) (u : zM), zJ eI p l e R s mi args below meth c (wM D b) m0 6 fin 11 [(0, .ref 1), (1, .int v1), (2, .int v2)] [] u (zr11 v1 v2 u)) (v1 : Int32) (v2 : Int32) (u : zM) : zJ eI p l e R s mi args below meth c (wM D b) m0 6 fin 11 [(0, .ref 1), (1, .int v1), (2, .int v2)] [] u (Mo_reads_11b zr11 v1 v2 u) := by
  unfold Mo_reads_11b
  refine z_iload_n hc dX10_reads_11 2 rfl rfl ?_
  refine z_if_eq (tgt := 179) hc dX10_reads_12 (by decide) _ (fun h1 => ?_) (fun h1 => ?_)
  · refine z_aload_n hc dX10_reads_179 0 rfl rfl ?_
    refine z_bipush (v := 43) hc dX10_reads_180 rfl ?_
    refine z_callV (av := [.int 43]) (enc' := eI) hc rfl (sMo_isSign 43 _) (ci := 10) (by decide) lM1 (zkM lM1) rfl wMX10_222 hpyX10_isSign hmyX10_isSign (rm_ok hRm (Nat.le_of_ble_eq_true rfl) (Nat.le_of_ble_eq_true rfl)) (Nat.le_of_ble_eq_true rfl) hRm.2.2 dX10_reads_182 (fun c1 u1 f1 => ?_)
    refine z_if_ne (tgt := 206) hc dX10_reads_185 (by decide) _ (fun h2 => ?_) (fun h2 => ?_)
    · refine zJ.sub (L' := [(0, .ref 1), (1, .int v1)]) [0, 1] rfl ?_
      exact sMo_reads_206 hc hRm hr11 v1 _
    · refine z_aload_n hc dX10_reads_188 0 rfl rfl ?_
      refine z_bipush (v := 45) hc dX10_reads_189 rfl ?_
      refine z_callV (av := [.int 45]) (enc' := eI) hc rfl (sMo_isSign 45 _) (ci := 10) (by decide) lM1 (zkM lM1) rfl wMX10_222 hpyX10_isSign hmyX10_isSign (rm_ok hRm (Nat.le_of_ble_eq_true rfl) (Nat.le_of_ble_eq_true rfl)) (Nat.le_of_ble_eq_true rfl) hRm.2.2 dX10_reads_191 (fun c2 u2 f2 => ?_)
      refine z_if_ne (tgt := 206) hc dX10_reads_194 (by decide) _ (fun h3 => ?_) (fun h3 => ?_)
      · refine zJ.sub (L' := [(0, .ref 1), (1, .int v1)]) [0, 1] rfl ?_
        exact sMo_reads_206 hc hRm hr11 v1 _
      · refine z_aload_n hc dX10_reads_197 0 rfl rfl ?_
        refine z_bipush (v := 42) hc dX10_reads_198 rfl ?_
        refine z_callV (av := [.int 42]) (enc' := eI) hc rfl (sMo_isSign 42 _) (ci := 10) (by decide) lM1 (zkM lM1) rfl wMX10_222 hpyX10_isSign hmyX10_isSign (rm_ok hRm (Nat.le_of_ble_eq_true rfl) (Nat.le_of_ble_eq_true rfl)) (Nat.le_of_ble_eq_true rfl) hRm.2.2 dX10_reads_200 (fun c3 u3 f3 => ?_)
        refine z_if_eq (tgt := 245) hc dX10_reads_203 (by decide) _ (fun h4 => ?_) (fun h4 => ?_)
        · refine z_aload_n hc dX10_reads_245 0 rfl rfl ?_
          refine z_bipush (v := 60) hc dX10_reads_246 rfl ?_
          refine z_callV (av := [.int 60]) (enc' := eI) hc rfl (sMo_isSign 60 _) (ci := 10) (by decide) lM1 (zkM lM1) rfl wMX10_222 hpyX10_isSign hmyX10_isSign (rm_ok hRm (Nat.le_of_ble_eq_true rfl) (Nat.le_of_ble_eq_true rfl)) (Nat.le_of_ble_eq_true rfl) hRm.2.2 dX10_reads_248 (fun c4 u4 f4 => ?_)
          refine z_if_ne (tgt := 263) hc dX10_reads_251 (by decide) _ (fun h5 => ?_) (fun h5 => ?_)
          · exact sMo_reads_263 hc hRm hr11 v1 v2 _
          · refine z_aload_n hc dX10_reads_254 0 rfl rfl ?_
            refine z_bipush (v := 61) hc dX10_reads_255 rfl ?_
            refine z_callV (av := [.int 61]) (enc' := eI) hc rfl (sMo_isSign 61 _) (ci := 10) (by decide) lM1 (zkM lM1) rfl wMX10_222 hpyX10_isSign hmyX10_isSign (rm_ok hRm (Nat.le_of_ble_eq_true rfl) (Nat.le_of_ble_eq_true rfl)) (Nat.le_of_ble_eq_true rfl) hRm.2.2 dX10_reads_257 (fun c5 u5 f5 => ?_)
            refine z_if_eq (tgt := 304) hc dX10_reads_260 (by decide) _ (fun h6 => ?_) (fun h6 => ?_)
            · exact sMo_reads_304 hc hRm hr11 v1 v2 _
            · exact sMo_reads_263 hc hRm hr11 v1 v2 _
        · refine zJ.sub (L' := [(0, .ref 1), (1, .int v1)]) [0, 1] rfl ?_
          exact sMo_reads_206 hc hRm hr11 v1 _
  · refine z_aload_n hc dX10_reads_15 0 rfl rfl ?_
    refine z_callV (av := []) (enc' := eI) hc rfl (sMo_fact _) (ci := 10) (by decide) lM1 (zkM lM1) rfl wMX10_212 hpyX10_fact hmyX10_fact (rm_ok hRm (Nat.le_of_ble_eq_true rfl) (Nat.le_of_ble_eq_true rfl)) (Nat.le_of_ble_eq_true rfl) hRm.2.2 dX10_reads_16 (fun c6 u6 f6 => ?_)
    refine z_istore_n (L' := [(3, .int c6), (0, .ref 1), (1, .int v1), (2, .int v2)]) hc dX10_reads_19 rfl (by decide) rfl rfl ?_
    refine z_aload_n hc dX10_reads_20 1 rfl rfl ?_
    refine z_ldc2 (v := 10631) hc wKX10_216 dX10_reads_21 ?_
    refine z_callV (av := [.long 10631]) (enc' := eI) hc rfl (sMo_isWord 10631 _) (ci := 10) (by decide) lM1 (zkM lM1) rfl wMX10_218 hpyX10_isWord hmyX10_isWord (rm_ok hRm (Nat.le_of_ble_eq_true rfl) (Nat.le_of_ble_eq_true rfl)) (Nat.le_of_ble_eq_true rfl) hRm.2.2 dX10_reads_24 (fun c7 u7 f7 => ?_)
    refine z_istore (L' := [(4, .int c7), (3, .int c6), (0, .ref 1), (1, .int v1), (2, .int v2)]) hc dX10_reads_27 (by decide) rfl rfl ?_
    refine z_aload_n hc dX10_reads_29 2 rfl rfl ?_
    refine z_bipush (v := 40) hc dX10_reads_30 rfl ?_
    refine z_callV (av := [.int 40]) (enc' := eI) hc rfl (sMo_isSign 40 _) (ci := 10) (by decide) lM1 (zkM lM1) rfl wMX10_222 hpyX10_isSign hmyX10_isSign (rm_ok hRm (Nat.le_of_ble_eq_true rfl) (Nat.le_of_ble_eq_true rfl)) (Nat.le_of_ble_eq_true rfl) hRm.2.2 dX10_reads_32 (fun c8 u8 f8 => ?_)
    refine z_istore (L' := [(5, .int c8), (4, .int c7), (3, .int c6), (0, .ref 1), (1, .int v1), (2, .int v2)]) hc dX10_reads_35 (by decide) rfl rfl ?_
    refine z_iload_n hc dX10_reads_37 2 rfl rfl ?_
    refine z_if_ne (tgt := 65) hc dX10_reads_38 (by decide) _ (fun h7 => ?_) (fun h7 => ?_)
    · refine zJ.sub (L' := [(0, .ref 1), (1, .int v1), (2, .int v2), (3, .int c6), (4, .int c7), (5, .int c8)]) [3, 4, 5, 2, 1, 0] rfl ?_
      exact sMo_reads_65 hc hRm hr11 v1 v2 c6 c7 c8 _
    · refine z_iload hc dX10_reads_41 1 rfl ?_
      refine z_if_ne (tgt := 65) hc dX10_reads_43 (by decide) _ (fun h8 => ?_) (fun h8 => ?_)
      · refine zJ.sub (L' := [(0, .ref 1), (1, .int v1), (2, .int v2), (3, .int c6), (4, .int c7), (5, .int c8)]) [3, 4, 5, 2, 1, 0] rfl ?_
        exact sMo_reads_65 hc hRm hr11 v1 v2 c6 c7 c8 _
      · refine z_iload hc dX10_reads_46 0 rfl ?_
        refine z_if_ne (tgt := 65) hc dX10_reads_48 (by decide) _ (fun h9 => ?_) (fun h9 => ?_)
        · refine zJ.sub (L' := [(0, .ref 1), (1, .int v1), (2, .int v2), (3, .int c6), (4, .int c7), (5, .int c8)]) [3, 4, 5, 2, 1, 0] rfl ?_
          exact sMo_reads_65 hc hRm hr11 v1 v2 c6 c7 c8 _
        · refine z_aload_n hc dX10_reads_51 3 rfl rfl ?_
          refine z_getI hc (ci := 10) (k := 6) (by decide) (by decide) zly10 lM1 (zkM lM1) wFX10_187 rfl dX10_reads_52 ?_
          refine z_iconst (v := 2) hc dX10_reads_55 rfl ?_
          refine z_icmp_eq (tgt := 65) hc dX10_reads_56 (by decide) _ (fun h10 => ?_) (fun h10 => ?_)
          · refine zJ.sub (L' := [(0, .ref 1), (1, .int v1), (2, .int v2), (3, .int c6), (4, .int c7), (5, .int c8)]) [3, 4, 5, 2, 1, 0] rfl ?_
            exact sMo_reads_65 hc hRm hr11 v1 v2 c6 c7 c8 _
          · refine z_aload_n hc dX10_reads_59 3 rfl rfl ?_
            refine z_iconst (v := 1) hc dX10_reads_60 rfl ?_
            refine z_callV (av := [.int 1]) (enc' := eI) hc rfl (sMo_fails 1 _) (ci := 10) (by decide) lM1 (zkM lM1) rfl wMX10_226 hpyX10_fails hmyX10_fails (rm_ok hRm (Nat.le_of_ble_eq_true rfl) (Nat.le_of_ble_eq_true rfl)) (Nat.le_of_ble_eq_true rfl) hRm.2.2 dX10_reads_61 (fun c9 u9 f9 => ?_)
            exact z_zretC hc dX10_reads_64
set_option maxRecDepth 100000 in
set_option maxHeartbeats 4000000 in
theorem sMo_reads_11 {fin : Int32 × zM} (hc : zCx p s mi args meth c (wM D b) m0 RX10 cX10_reads 6 (some .boolean)) (hRm : R.frames = 2 ∧ R.locals = 42 ∧ R.cells = zc (wM D b) m0 fin.2 ∧ R.slots = zs (wM D b) m0 fin.2) : ∀ (zf : Nat) (v1 : Int32) (v2 : Int32) (u : zM), zJ eI p l e R s mi args below meth c (wM D b) m0 6 fin 11 [(0, .ref 1), (1, .int v1), (2, .int v2)] [] u (Mo_reads_11 zf v1 v2 u) := by
  intro zf
  induction zf with
  | zero => intro v1 v2 u; exact zJ.nil
  | succ zf ih => intro v1 v2 u; exact sMo_reads_11b hc hRm ih v1 v2 u
set_option maxRecDepth 100000 in
set_option maxHeartbeats 4000000 in
theorem sMo_reads : ∀ (u : zM) r m1, Mo_reads u = some (r, m1) → zMet l (wM D b) 2 42 yX10_reads cX10_reads 6 (some .boolean) [.ref 1] u (eI r) m1 := by
  intro u
  refine zMet.of (L := [(0, .ref 1)]) RX10 (by decide +kernel) rfl (Nat.le_of_ble_eq_true rfl) (fun h => by cases h) rfl (fun p e s mi args below meth c R fin hc hin hRm => ?_)
  unfold Mo_reads
  refine z_iconst (v := 0) hc dX10_reads_0 rfl ?_
  refine z_istore_n (L' := [(1, .int 0), (0, .ref 1)]) hc dX10_reads_1 rfl (by decide) rfl rfl ?_
  refine z_iconst (v := 1) hc dX10_reads_2 rfl ?_
  refine z_istore_n (L' := [(2, .int 1), (1, .int 0), (0, .ref 1)]) hc dX10_reads_3 rfl (by decide) rfl rfl ?_
  refine z_aload_n hc dX10_reads_4 2 rfl rfl ?_
  refine z_getR (x := 21) hc (ci := 10) (k := 29) (by decide) (by decide) zly10 lM1 (zkM lM1) wFX10_68 rfl dX10_reads_5 rfl (by decide) ?_
  refine z_iconst (v := 0) hc dX10_reads_8 rfl ?_
  refine z_iconst (v := 0) hc dX10_reads_9 rfl ?_
  refine z_zast (k := 0) hc lM21 (zkM lM21) rfl rfl dX10_reads_10 ?_
  refine zJ.letM (fun u1 e1 => ?_)
  refine zJ.sub (L' := [(0, .ref 1), (1, .int 0), (2, .int 1)]) [2, 1, 0] rfl ?_
  exact sMo_reads_11 hc hRm zF 0 1 _
set_option maxRecDepth 100000 in
set_option maxHeartbeats 4000000 in
theorem sMo_opens : ∀ (v1 : Int32) (u : zM) r m1, Mo_opens v1 u = some (r, m1) → zMet l (wM D b) 0 0 yX10_opens cX10_opens 2 none [.ref 1, .int v1] u (eV r) m1 := by
  intro v1 u
  refine zMet.of (L := [(0, .ref 1), (1, .int v1)]) RX10 (by decide +kernel) rfl (Nat.le_of_ble_eq_true rfl) (fun h => by cases h) rfl (fun p e s mi args below meth c R fin hc hin hRm => ?_)
  unfold Mo_opens
  refine z_aload_n hc dX10_opens_0 0 rfl rfl ?_
  refine z_getR (x := 23) hc (ci := 10) (k := 31) (by decide) (by decide) zly10 lM1 (zkM lM1) wFX10_75 rfl dX10_opens_1 rfl (by decide) ?_
  refine z_iload_n hc dX10_opens_4 1 rfl rfl ?_
  refine z_iconst (v := 0) hc dX10_opens_5 rfl ?_
  refine zJ.chk _ (fun h1 => ?_)
  refine z_iast (k := (ix v1)) hc lM23 (zkM lM23) h1 rfl dX10_opens_6 ?_
  refine zJ.letM (fun u1 e1 => ?_)
  refine z_aload_n hc dX10_opens_7 0 rfl rfl ?_
  refine z_getR (x := 25) hc (ci := 10) (k := 33) (by decide) (by decide) zly10 lM1 (zkM lM1) wFX10_81 rfl dX10_opens_8 rfl (by decide) ?_
  refine z_iload_n hc dX10_opens_11 1 rfl rfl ?_
  refine z_iconst (v := 0) hc dX10_opens_12 rfl ?_
  refine zJ.chk _ (fun h2 => ?_)
  refine z_iast (k := (ix v1)) hc lM25 (zkM lM25) h2 rfl dX10_opens_13 ?_
  refine zJ.letM (fun u2 e2 => ?_)
  refine z_aload_n hc dX10_opens_14 0 rfl rfl ?_
  refine z_getR (x := 26) hc (ci := 10) (k := 34) (by decide) (by decide) zly10 lM1 (zkM lM1) wFX10_84 rfl dX10_opens_15 rfl (by decide) ?_
  refine z_iload_n hc dX10_opens_18 1 rfl rfl ?_
  refine z_iconst (v := 0) hc dX10_opens_19 rfl ?_
  refine zJ.chk _ (fun h3 => ?_)
  refine z_iast (k := (ix v1)) hc lM26 (zkM lM26) h3 rfl dX10_opens_20 ?_
  refine zJ.letM (fun u3 e3 => ?_)
  refine z_aload_n hc dX10_opens_21 0 rfl rfl ?_
  refine z_getR (x := 27) hc (ci := 10) (k := 35) (by decide) (by decide) zly10 lM1 (zkM lM1) wFX10_87 rfl dX10_opens_22 rfl (by decide) ?_
  refine z_iload_n hc dX10_opens_25 1 rfl rfl ?_
  refine z_bipush (v := 20) hc dX10_opens_26 rfl ?_
  refine zJ.chk _ (fun h4 => ?_)
  refine z_iast (k := (ix v1)) hc lM27 (zkM lM27) h4 rfl dX10_opens_28 ?_
  refine zJ.letM (fun u4 e4 => ?_)
  refine z_aload_n hc dX10_opens_29 0 rfl rfl ?_
  refine z_getR (x := 29) hc (ci := 10) (k := 37) (by decide) (by decide) zly10 lM1 (zkM lM1) wFX10_93 rfl dX10_opens_30 rfl (by decide) ?_
  refine z_iload_n hc dX10_opens_33 1 rfl rfl ?_
  refine z_iconst (v := 0) hc dX10_opens_34 rfl ?_
  refine zJ.chk _ (fun h5 => ?_)
  refine z_iast (k := (ix v1)) hc lM29 (zkM lM29) h5 rfl dX10_opens_35 ?_
  refine zJ.letM (fun u5 e5 => ?_)
  exact z_vret hc dX10_opens_36
set_option maxRecDepth 100000 in
set_option maxHeartbeats 4000000 in
theorem sMo_sums : ∀ (v1 : Int32) (u : zM) r m1, Mo_sums v1 u = some (r, m1) → zMet l (wM D b) 0 0 yX10_sums cX10_sums 2 none [.ref 1, .int v1] u (eV r) m1 := by
  intro v1 u
  refine zMet.of (L := [(0, .ref 1), (1, .int v1)]) RX10 (by decide +kernel) rfl (Nat.le_of_ble_eq_true rfl) (fun h => by cases h) rfl (fun p e s mi args below meth c R fin hc hin hRm => ?_)
  unfold Mo_sums
  refine z_aload_n hc dX10_sums_0 0 rfl rfl ?_
  refine z_getR (x := 26) hc (ci := 10) (k := 34) (by decide) (by decide) zly10 lM1 (zkM lM1) wFX10_84 rfl dX10_sums_1 rfl (by decide) ?_
  refine z_iload_n hc dX10_sums_4 1 rfl rfl ?_
  refine z_aload_n hc dX10_sums_5 0 rfl rfl ?_
  refine z_getR (x := 27) hc (ci := 10) (k := 35) (by decide) (by decide) zly10 lM1 (zkM lM1) wFX10_87 rfl dX10_sums_6 rfl (by decide) ?_
  refine z_iload_n hc dX10_sums_9 1 rfl rfl ?_
  refine zJ.chk _ (fun h1 => ?_)
  refine z_iald (k := (ix v1)) hc lM27 (zkM lM27) h1 rfl dX10_sums_10 ?_
  refine z_bipush (v := 21) hc dX10_sums_11 rfl ?_
  refine z_icmp_ne (tgt := 32) hc dX10_sums_13 (by decide) _ (fun h2 => ?_) (fun h2 => ?_)
  · refine z_aload_n hc dX10_sums_32 0 rfl rfl ?_
    refine z_getR (x := 26) hc (ci := 10) (k := 34) (by decide) (by decide) zly10 lM1 (zkM lM1) wFX10_84 rfl dX10_sums_33 rfl (by decide) ?_
    refine z_iload_n hc dX10_sums_36 1 rfl rfl ?_
    refine zJ.chk _ (fun h3 => ?_)
    refine z_iald (k := (ix v1)) hc lM26 (zkM lM26) h3 rfl dX10_sums_37 ?_
    refine z_aload_n hc dX10_sums_38 0 rfl rfl ?_
    refine z_getR (x := 28) hc (ci := 10) (k := 36) (by decide) (by decide) zly10 lM1 (zkM lM1) wFX10_90 rfl dX10_sums_39 rfl (by decide) ?_
    refine z_iload_n hc dX10_sums_42 1 rfl rfl ?_
    refine zJ.chk _ (fun h4 => ?_)
    refine z_iald (k := (ix v1)) hc lM28 (zkM lM28) h4 rfl dX10_sums_43 ?_
    refine z_iadd hc dX10_sums_44 ?_
    refine zJ.chk _ (fun h5 => ?_)
    refine z_iast (k := (ix v1)) hc lM26 (zkM lM26) h5 rfl dX10_sums_45 ?_
    refine zJ.letM (fun u1 e1 => ?_)
    refine z_aload_n hc dX10_sums_46 0 rfl rfl ?_
    refine z_getR (x := 29) hc (ci := 10) (k := 37) (by decide) (by decide) zly10 lM1 (zkM lM1) wFX10_93 rfl dX10_sums_47 rfl (by decide) ?_
    refine z_iload_n hc dX10_sums_50 1 rfl rfl ?_
    refine z_iconst (v := 0) hc dX10_sums_51 rfl ?_
    refine zJ.chk _ (fun h6 => ?_)
    refine z_iast (k := (ix v1)) hc lM29 (zkM lM29) h6 rfl dX10_sums_52 ?_
    refine zJ.letM (fun u2 e2 => ?_)
    exact z_vret hc dX10_sums_53
  · refine z_aload_n hc dX10_sums_16 0 rfl rfl ?_
    refine z_getR (x := 26) hc (ci := 10) (k := 34) (by decide) (by decide) zly10 lM1 (zkM lM1) wFX10_84 rfl dX10_sums_17 rfl (by decide) ?_
    refine z_iload_n hc dX10_sums_20 1 rfl rfl ?_
    refine zJ.chk _ (fun h7 => ?_)
    refine z_iald (k := (ix v1)) hc lM26 (zkM lM26) h7 rfl dX10_sums_21 ?_
    refine z_aload_n hc dX10_sums_22 0 rfl rfl ?_
    refine z_getR (x := 28) hc (ci := 10) (k := 36) (by decide) (by decide) zly10 lM1 (zkM lM1) wFX10_90 rfl dX10_sums_23 rfl (by decide) ?_
    refine z_iload_n hc dX10_sums_26 1 rfl rfl ?_
    refine zJ.chk _ (fun h8 => ?_)
    refine z_iald (k := (ix v1)) hc lM28 (zkM lM28) h8 rfl dX10_sums_27 ?_
    refine z_isub hc dX10_sums_28 ?_
    refine z_goto (tgt := 45) hc dX10_sums_29 (by decide) ?_
    refine zJ.chk _ (fun h9 => ?_)
    refine z_iast (k := (ix v1)) hc lM26 (zkM lM26) h9 rfl dX10_sums_45 ?_
    refine zJ.letM (fun u3 e3 => ?_)
    refine z_aload_n hc dX10_sums_46 0 rfl rfl ?_
    refine z_getR (x := 29) hc (ci := 10) (k := 37) (by decide) (by decide) zly10 lM1 (zkM lM1) wFX10_93 rfl dX10_sums_47 rfl (by decide) ?_
    refine z_iload_n hc dX10_sums_50 1 rfl rfl ?_
    refine z_iconst (v := 0) hc dX10_sums_51 rfl ?_
    refine zJ.chk _ (fun h10 => ?_)
    refine z_iast (k := (ix v1)) hc lM29 (zkM lM29) h10 rfl dX10_sums_52 ?_
    refine zJ.letM (fun u4 e4 => ?_)
    exact z_vret hc dX10_sums_53
set_option maxRecDepth 100000 in
set_option maxHeartbeats 4000000 in
theorem sMo_tests_136 {fin : Unit × zM} (hc : zCx p s mi args meth c (wM D b) m0 RX10 cX10_tests 3 none) (hRm : R.frames = 1 ∧ R.locals = 21 ∧ R.cells = zc (wM D b) m0 fin.2 ∧ R.slots = zs (wM D b) m0 fin.2) (v1 : Int32) (v2 : Int32) (u : zM) : zJ eV p l e R s mi args below meth c (wM D b) m0 3 fin 136 [(0, .ref 1), (1, .int v1), (2, .int v2)] [] u (Mo_tests_136 v1 v2 u) := by
  unfold Mo_tests_136
  refine z_aload_n hc dX10_tests_136 0 rfl rfl ?_
  refine z_getR (x := 22) hc (ci := 10) (k := 30) (by decide) (by decide) zly10 lM1 (zkM lM1) wFX10_72 rfl dX10_tests_137 rfl (by decide) ?_
  refine z_iload_n hc dX10_tests_140 1 rfl rfl ?_
  refine z_iload_n hc dX10_tests_141 2 rfl rfl ?_
  refine zJ.chk _ (fun h1 => ?_)
  refine z_iast (k := (ix v1)) hc lM22 (zkM lM22) h1 rfl dX10_tests_142 ?_
  refine zJ.letM (fun u1 e1 => ?_)
  refine z_aload_n hc dX10_tests_143 0 rfl rfl ?_
  refine z_getR (x := 25) hc (ci := 10) (k := 33) (by decide) (by decide) zly10 lM1 (zkM lM1) wFX10_81 rfl dX10_tests_144 rfl (by decide) ?_
  refine z_iload_n hc dX10_tests_147 1 rfl rfl ?_
  refine z_iconst (v := 0) hc dX10_tests_148 rfl ?_
  refine zJ.chk _ (fun h2 => ?_)
  refine z_iast (k := (ix v1)) hc lM25 (zkM lM25) h2 rfl dX10_tests_149 ?_
  refine zJ.letM (fun u2 e2 => ?_)
  refine z_aload_n hc dX10_tests_150 0 rfl rfl ?_
  refine z_getR (x := 26) hc (ci := 10) (k := 34) (by decide) (by decide) zly10 lM1 (zkM lM1) wFX10_84 rfl dX10_tests_151 rfl (by decide) ?_
  refine z_iload_n hc dX10_tests_154 1 rfl rfl ?_
  refine z_iconst (v := 0) hc dX10_tests_155 rfl ?_
  refine zJ.chk _ (fun h3 => ?_)
  refine z_iast (k := (ix v1)) hc lM26 (zkM lM26) h3 rfl dX10_tests_156 ?_
  refine zJ.letM (fun u3 e3 => ?_)
  refine z_aload_n hc dX10_tests_157 0 rfl rfl ?_
  refine z_getR (x := 27) hc (ci := 10) (k := 35) (by decide) (by decide) zly10 lM1 (zkM lM1) wFX10_87 rfl dX10_tests_158 rfl (by decide) ?_
  refine z_iload_n hc dX10_tests_161 1 rfl rfl ?_
  refine z_bipush (v := 20) hc dX10_tests_162 rfl ?_
  refine zJ.chk _ (fun h4 => ?_)
  refine z_iast (k := (ix v1)) hc lM27 (zkM lM27) h4 rfl dX10_tests_164 ?_
  refine zJ.letM (fun u4 e4 => ?_)
  exact z_vret hc dX10_tests_165
set_option maxRecDepth 100000 in
set_option maxHeartbeats 4000000 in
theorem sMo_tests_135 {fin : Unit × zM} (hc : zCx p s mi args meth c (wM D b) m0 RX10 cX10_tests 3 none) (hRm : R.frames = 1 ∧ R.locals = 21 ∧ R.cells = zc (wM D b) m0 fin.2 ∧ R.slots = zs (wM D b) m0 fin.2) (v1 : Int32) (s0 : Int32) (u : zM) : zJ eV p l e R s mi args below meth c (wM D b) m0 3 fin 135 [(0, .ref 1), (1, .int v1)] [.int s0] u (Mo_tests_135 v1 s0 u) := by
  unfold Mo_tests_135
  refine z_istore_n (L' := [(2, .int s0), (0, .ref 1), (1, .int v1)]) hc dX10_tests_135 rfl (by decide) rfl rfl ?_
  refine zJ.sub (L' := [(0, .ref 1), (1, .int v1), (2, .int s0)]) [1, 2, 0] rfl ?_
  exact sMo_tests_136 hc hRm v1 s0 _
set_option maxRecDepth 100000 in
set_option maxHeartbeats 4000000 in
theorem sMo_tests_130 {fin : Unit × zM} (hc : zCx p s mi args meth c (wM D b) m0 RX10 cX10_tests 3 none) (hRm : R.frames = 1 ∧ R.locals = 21 ∧ R.cells = zc (wM D b) m0 fin.2 ∧ R.slots = zs (wM D b) m0 fin.2) (v1 : Int32) (u : zM) : zJ eV p l e R s mi args below meth c (wM D b) m0 3 fin 130 [(0, .ref 1), (1, .int v1)] [] u (Mo_tests_130 v1 u) := by
  unfold Mo_tests_130
  refine z_iconst (v := 1) hc dX10_tests_130 rfl ?_
  refine z_goto (tgt := 135) hc dX10_tests_131 (by decide) ?_
  exact sMo_tests_135 hc hRm v1 1 _
set_option maxRecDepth 100000 in
set_option maxHeartbeats 4000000 in
theorem sMo_tests_106 {fin : Unit × zM} (hc : zCx p s mi args meth c (wM D b) m0 RX10 cX10_tests 3 none) (hRm : R.frames = 1 ∧ R.locals = 21 ∧ R.cells = zc (wM D b) m0 fin.2 ∧ R.slots = zs (wM D b) m0 fin.2) (v1 : Int32) (v2 : Int32) (u : zM) : zJ eV p l e R s mi args below meth c (wM D b) m0 3 fin 106 [(0, .ref 1), (1, .int v1), (2, .int v2)] [] u (Mo_tests_106 v1 v2 u) := by
  unfold Mo_tests_106
  refine z_aload_n hc dX10_tests_106 0 rfl rfl ?_
  refine z_getR (x := 23) hc (ci := 10) (k := 31) (by decide) (by decide) zly10 lM1 (zkM lM1) wFX10_75 rfl dX10_tests_107 rfl (by decide) ?_
  refine z_iload_n hc dX10_tests_110 1 rfl rfl ?_
  refine zJ.chk _ (fun h1 => ?_)
  refine z_iald (k := (ix v1)) hc lM23 (zkM lM23) h1 rfl dX10_tests_111 ?_
  refine z_bipush (v := 27) hc dX10_tests_112 rfl ?_
  refine z_icmp_ne (tgt := 136) hc dX10_tests_114 (by decide) _ (fun h2 => ?_) (fun h2 => ?_)
  · exact sMo_tests_136 hc hRm v1 v2 _
  · refine z_aload_n hc dX10_tests_117 0 rfl rfl ?_
    refine z_getR (x := 22) hc (ci := 10) (k := 30) (by decide) (by decide) zly10 lM1 (zkM lM1) wFX10_72 rfl dX10_tests_118 rfl (by decide) ?_
    refine z_iload_n hc dX10_tests_121 1 rfl rfl ?_
    refine zJ.chk _ (fun h3 => ?_)
    refine z_iald (k := (ix v1)) hc lM22 (zkM lM22) h3 rfl dX10_tests_122 ?_
    refine z_if_ne (tgt := 130) hc dX10_tests_123 (by decide) _ (fun h4 => ?_) (fun h4 => ?_)
    · refine zJ.sub (L' := [(0, .ref 1), (1, .int v1)]) [0, 1] rfl ?_
      exact sMo_tests_130 hc hRm v1 _
    · refine z_iload_n hc dX10_tests_126 2 rfl rfl ?_
      refine z_if_eq (tgt := 134) hc dX10_tests_127 (by decide) _ (fun h5 => ?_) (fun h5 => ?_)
      · refine z_iconst (v := 0) hc dX10_tests_134 rfl ?_
        refine zJ.sub (L' := [(0, .ref 1), (1, .int v1)]) [0, 1] rfl ?_
        exact sMo_tests_135 hc hRm v1 0 _
      · refine zJ.sub (L' := [(0, .ref 1), (1, .int v1)]) [0, 1] rfl ?_
        exact sMo_tests_130 hc hRm v1 _
set_option maxRecDepth 100000 in
set_option maxHeartbeats 4000000 in
theorem sMo_tests_105 {fin : Unit × zM} (hc : zCx p s mi args meth c (wM D b) m0 RX10 cX10_tests 3 none) (hRm : R.frames = 1 ∧ R.locals = 21 ∧ R.cells = zc (wM D b) m0 fin.2 ∧ R.slots = zs (wM D b) m0 fin.2) (v1 : Int32) (s0 : Int32) (u : zM) : zJ eV p l e R s mi args below meth c (wM D b) m0 3 fin 105 [(0, .ref 1), (1, .int v1)] [.int s0] u (Mo_tests_105 v1 s0 u) := by
  unfold Mo_tests_105
  refine z_istore_n (L' := [(2, .int s0), (0, .ref 1), (1, .int v1)]) hc dX10_tests_105 rfl (by decide) rfl rfl ?_
  refine zJ.sub (L' := [(0, .ref 1), (1, .int v1), (2, .int s0)]) [1, 2, 0] rfl ?_
  exact sMo_tests_106 hc hRm v1 s0 _
set_option maxRecDepth 100000 in
set_option maxHeartbeats 4000000 in
theorem sMo_tests_104 {fin : Unit × zM} (hc : zCx p s mi args meth c (wM D b) m0 RX10 cX10_tests 3 none) (hRm : R.frames = 1 ∧ R.locals = 21 ∧ R.cells = zc (wM D b) m0 fin.2 ∧ R.slots = zs (wM D b) m0 fin.2) (v1 : Int32) (u : zM) : zJ eV p l e R s mi args below meth c (wM D b) m0 3 fin 104 [(0, .ref 1), (1, .int v1)] [] u (Mo_tests_104 v1 u) := by
  unfold Mo_tests_104
  refine z_iconst (v := 0) hc dX10_tests_104 rfl ?_
  exact sMo_tests_105 hc hRm v1 0 _
set_option maxRecDepth 100000 in
set_option maxHeartbeats 4000000 in
theorem sMo_tests_76 {fin : Unit × zM} (hc : zCx p s mi args meth c (wM D b) m0 RX10 cX10_tests 3 none) (hRm : R.frames = 1 ∧ R.locals = 21 ∧ R.cells = zc (wM D b) m0 fin.2 ∧ R.slots = zs (wM D b) m0 fin.2) (v1 : Int32) (v2 : Int32) (u : zM) : zJ eV p l e R s mi args below meth c (wM D b) m0 3 fin 76 [(0, .ref 1), (1, .int v1), (2, .int v2)] [] u (Mo_tests_76 v1 v2 u) := by
  unfold Mo_tests_76
  refine z_aload_n hc dX10_tests_76 0 rfl rfl ?_
  refine z_getR (x := 23) hc (ci := 10) (k := 31) (by decide) (by decide) zly10 lM1 (zkM lM1) wFX10_75 rfl dX10_tests_77 rfl (by decide) ?_
  refine z_iload_n hc dX10_tests_80 1 rfl rfl ?_
  refine zJ.chk _ (fun h1 => ?_)
  refine z_iald (k := (ix v1)) hc lM23 (zkM lM23) h1 rfl dX10_tests_81 ?_
  refine z_bipush (v := 26) hc dX10_tests_82 rfl ?_
  refine z_icmp_ne (tgt := 106) hc dX10_tests_84 (by decide) _ (fun h2 => ?_) (fun h2 => ?_)
  · exact sMo_tests_106 hc hRm v1 v2 _
  · refine z_aload_n hc dX10_tests_87 0 rfl rfl ?_
    refine z_getR (x := 22) hc (ci := 10) (k := 30) (by decide) (by decide) zly10 lM1 (zkM lM1) wFX10_72 rfl dX10_tests_88 rfl (by decide) ?_
    refine z_iload_n hc dX10_tests_91 1 rfl rfl ?_
    refine zJ.chk _ (fun h3 => ?_)
    refine z_iald (k := (ix v1)) hc lM22 (zkM lM22) h3 rfl dX10_tests_92 ?_
    refine z_if_eq (tgt := 104) hc dX10_tests_93 (by decide) _ (fun h4 => ?_) (fun h4 => ?_)
    · refine zJ.sub (L' := [(0, .ref 1), (1, .int v1)]) [0, 1] rfl ?_
      exact sMo_tests_104 hc hRm v1 _
    · refine z_iload_n hc dX10_tests_96 2 rfl rfl ?_
      refine z_if_eq (tgt := 104) hc dX10_tests_97 (by decide) _ (fun h5 => ?_) (fun h5 => ?_)
      · refine zJ.sub (L' := [(0, .ref 1), (1, .int v1)]) [0, 1] rfl ?_
        exact sMo_tests_104 hc hRm v1 _
      · refine z_iconst (v := 1) hc dX10_tests_100 rfl ?_
        refine z_goto (tgt := 105) hc dX10_tests_101 (by decide) ?_
        refine zJ.sub (L' := [(0, .ref 1), (1, .int v1)]) [0, 1] rfl ?_
        exact sMo_tests_105 hc hRm v1 1 _
set_option maxRecDepth 100000 in
set_option maxHeartbeats 4000000 in
theorem sMo_tests_75 {fin : Unit × zM} (hc : zCx p s mi args meth c (wM D b) m0 RX10 cX10_tests 3 none) (hRm : R.frames = 1 ∧ R.locals = 21 ∧ R.cells = zc (wM D b) m0 fin.2 ∧ R.slots = zs (wM D b) m0 fin.2) (v1 : Int32) (s0 : Int32) (u : zM) : zJ eV p l e R s mi args below meth c (wM D b) m0 3 fin 75 [(0, .ref 1), (1, .int v1)] [.int s0] u (Mo_tests_75 v1 s0 u) := by
  unfold Mo_tests_75
  refine z_istore_n (L' := [(2, .int s0), (0, .ref 1), (1, .int v1)]) hc dX10_tests_75 rfl (by decide) rfl rfl ?_
  refine zJ.sub (L' := [(0, .ref 1), (1, .int v1), (2, .int s0)]) [1, 2, 0] rfl ?_
  exact sMo_tests_76 hc hRm v1 s0 _
set_option maxRecDepth 100000 in
set_option maxHeartbeats 4000000 in
theorem sMo_tests_44 {fin : Unit × zM} (hc : zCx p s mi args meth c (wM D b) m0 RX10 cX10_tests 3 none) (hRm : R.frames = 1 ∧ R.locals = 21 ∧ R.cells = zc (wM D b) m0 fin.2 ∧ R.slots = zs (wM D b) m0 fin.2) (v1 : Int32) (v2 : Int32) (u : zM) : zJ eV p l e R s mi args below meth c (wM D b) m0 3 fin 44 [(0, .ref 1), (1, .int v1), (2, .int v2)] [] u (Mo_tests_44 v1 v2 u) := by
  unfold Mo_tests_44
  refine z_aload_n hc dX10_tests_44 0 rfl rfl ?_
  refine z_getR (x := 25) hc (ci := 10) (k := 33) (by decide) (by decide) zly10 lM1 (zkM lM1) wFX10_81 rfl dX10_tests_45 rfl (by decide) ?_
  refine z_iload_n hc dX10_tests_48 1 rfl rfl ?_
  refine zJ.chk _ (fun h1 => ?_)
  refine z_iald (k := (ix v1)) hc lM25 (zkM lM25) h1 rfl dX10_tests_49 ?_
  refine z_bipush (v := 25) hc dX10_tests_50 rfl ?_
  refine z_icmp_ne (tgt := 76) hc dX10_tests_52 (by decide) _ (fun h2 => ?_) (fun h2 => ?_)
  · exact sMo_tests_76 hc hRm v1 v2 _
  · refine z_aload_n hc dX10_tests_55 0 rfl rfl ?_
    refine z_getR (x := 24) hc (ci := 10) (k := 32) (by decide) (by decide) zly10 lM1 (zkM lM1) wFX10_78 rfl dX10_tests_56 rfl (by decide) ?_
    refine z_iload_n hc dX10_tests_59 1 rfl rfl ?_
    refine zJ.chk _ (fun h3 => ?_)
    refine z_iald (k := (ix v1)) hc lM24 (zkM lM24) h3 rfl dX10_tests_60 ?_
    refine z_aload_n hc dX10_tests_61 0 rfl rfl ?_
    refine z_getR (x := 26) hc (ci := 10) (k := 34) (by decide) (by decide) zly10 lM1 (zkM lM1) wFX10_84 rfl dX10_tests_62 rfl (by decide) ?_
    refine z_iload_n hc dX10_tests_65 1 rfl rfl ?_
    refine zJ.chk _ (fun h4 => ?_)
    refine z_iald (k := (ix v1)) hc lM26 (zkM lM26) h4 rfl dX10_tests_66 ?_
    refine z_icmp_ne (tgt := 74) hc dX10_tests_67 (by decide) _ (fun h5 => ?_) (fun h5 => ?_)
    · refine z_iconst (v := 0) hc dX10_tests_74 rfl ?_
      refine zJ.sub (L' := [(0, .ref 1), (1, .int v1)]) [0, 1] rfl ?_
      exact sMo_tests_75 hc hRm v1 0 _
    · refine z_iconst (v := 1) hc dX10_tests_70 rfl ?_
      refine z_goto (tgt := 75) hc dX10_tests_71 (by decide) ?_
      refine zJ.sub (L' := [(0, .ref 1), (1, .int v1)]) [0, 1] rfl ?_
      exact sMo_tests_75 hc hRm v1 1 _
set_option maxRecDepth 100000 in
set_option maxHeartbeats 4000000 in
theorem sMo_tests_43 {fin : Unit × zM} (hc : zCx p s mi args meth c (wM D b) m0 RX10 cX10_tests 3 none) (hRm : R.frames = 1 ∧ R.locals = 21 ∧ R.cells = zc (wM D b) m0 fin.2 ∧ R.slots = zs (wM D b) m0 fin.2) (v1 : Int32) (s0 : Int32) (u : zM) : zJ eV p l e R s mi args below meth c (wM D b) m0 3 fin 43 [(0, .ref 1), (1, .int v1)] [.int s0] u (Mo_tests_43 v1 s0 u) := by
  unfold Mo_tests_43
  refine z_istore_n (L' := [(2, .int s0), (0, .ref 1), (1, .int v1)]) hc dX10_tests_43 rfl (by decide) rfl rfl ?_
  refine zJ.sub (L' := [(0, .ref 1), (1, .int v1), (2, .int s0)]) [1, 2, 0] rfl ?_
  exact sMo_tests_44 hc hRm v1 s0 _
set_option maxRecDepth 100000 in
set_option maxHeartbeats 4000000 in
theorem sMo_tests : ∀ (v1 : Int32) (u : zM) r m1, Mo_tests v1 u = some (r, m1) → zMet l (wM D b) 1 21 yX10_tests cX10_tests 3 none [.ref 1, .int v1] u (eV r) m1 := by
  intro v1 u
  refine zMet.of (L := [(0, .ref 1), (1, .int v1)]) RX10 (by decide +kernel) rfl (Nat.le_of_ble_eq_true rfl) (fun h => by cases h) rfl (fun p e s mi args below meth c R fin hc hin hRm => ?_)
  unfold Mo_tests
  refine z_aload_n hc dX10_tests_0 0 rfl rfl ?_
  refine z_iload_n hc dX10_tests_1 1 rfl rfl ?_
  refine z_callV (av := [.int v1]) (enc' := eV) hc rfl (sMo_sums v1 _) (ci := 10) (by decide) lM1 (zkM lM1) rfl wMX10_240 hpyX10_sums hmyX10_sums (rm_ok hRm (Nat.le_of_ble_eq_true rfl) (Nat.le_of_ble_eq_true rfl)) (Nat.le_of_ble_eq_true rfl) hRm.2.2 dX10_tests_2 (fun c1 u1 f1 => ?_)
  refine z_aload_n hc dX10_tests_5 0 rfl rfl ?_
  refine z_getR (x := 26) hc (ci := 10) (k := 34) (by decide) (by decide) zly10 lM1 (zkM lM1) wFX10_84 rfl dX10_tests_6 rfl (by decide) ?_
  refine z_iload_n hc dX10_tests_9 1 rfl rfl ?_
  refine zJ.chk _ (fun h1 => ?_)
  refine z_iald (k := (ix v1)) hc lM26 (zkM lM26) h1 rfl dX10_tests_10 ?_
  refine zJ.letI (fun x1 e1 => ?_)
  refine z_istore_n (L' := [(2, .int x1), (0, .ref 1), (1, .int v1)]) hc dX10_tests_11 rfl (by decide) rfl rfl ?_
  refine z_aload_n hc dX10_tests_12 1 rfl rfl ?_
  refine z_getR (x := 25) hc (ci := 10) (k := 33) (by decide) (by decide) zly10 lM1 (zkM lM1) wFX10_81 rfl dX10_tests_13 rfl (by decide) ?_
  refine z_iload_n hc dX10_tests_16 2 rfl rfl ?_
  refine zJ.chk _ (fun h2 => ?_)
  refine z_iald (k := (ix v1)) hc lM25 (zkM lM25) h2 rfl dX10_tests_17 ?_
  refine z_bipush (v := 24) hc dX10_tests_18 rfl ?_
  refine z_icmp_ne (tgt := 44) hc dX10_tests_20 (by decide) _ (fun h3 => ?_) (fun h3 => ?_)
  · refine zJ.sub (L' := [(0, .ref 1), (1, .int v1), (2, .int x1)]) [1, 2, 0] rfl ?_
    exact sMo_tests_44 hc hRm v1 x1 _
  · refine z_aload_n hc dX10_tests_23 1 rfl rfl ?_
    refine z_getR (x := 24) hc (ci := 10) (k := 32) (by decide) (by decide) zly10 lM1 (zkM lM1) wFX10_78 rfl dX10_tests_24 rfl (by decide) ?_
    refine z_iload_n hc dX10_tests_27 2 rfl rfl ?_
    refine zJ.chk _ (fun h4 => ?_)
    refine z_iald (k := (ix v1)) hc lM24 (zkM lM24) h4 rfl dX10_tests_28 ?_
    refine z_aload_n hc dX10_tests_29 1 rfl rfl ?_
    refine z_getR (x := 26) hc (ci := 10) (k := 34) (by decide) (by decide) zly10 lM1 (zkM lM1) wFX10_84 rfl dX10_tests_30 rfl (by decide) ?_
    refine z_iload_n hc dX10_tests_33 2 rfl rfl ?_
    refine zJ.chk _ (fun h5 => ?_)
    refine z_iald (k := (ix v1)) hc lM26 (zkM lM26) h5 rfl dX10_tests_34 ?_
    refine z_icmp_ge (tgt := 42) hc dX10_tests_35 (by decide) _ (fun h6 => ?_) (fun h6 => ?_)
    · refine z_iconst (v := 0) hc dX10_tests_42 rfl ?_
      refine zJ.sub (L' := [(0, .ref 1), (1, .int v1)]) [1, 2] rfl ?_
      exact sMo_tests_43 hc hRm v1 0 _
    · refine z_iconst (v := 1) hc dX10_tests_38 rfl ?_
      refine z_goto (tgt := 43) hc dX10_tests_39 (by decide) ?_
      refine zJ.sub (L' := [(0, .ref 1), (1, .int v1)]) [1, 2] rfl ?_
      exact sMo_tests_43 hc hRm v1 1 _
set_option maxRecDepth 100000 in
set_option maxHeartbeats 4000000 in
theorem sMo_worked_46 {fin : Int32 × zM} (hc : zCx p s mi args meth c (wM D b) m0 RX10 cX10_worked 6 (some .int)) (hRm : R.frames = 2 ∧ R.locals = 43 ∧ R.cells = zc (wM D b) m0 fin.2 ∧ R.slots = zs (wM D b) m0 fin.2) {zr14 : Int32 → Int32 → Int32 → zM → Option (Int32 × zM)} (hr14 : ∀ (v1 : Int32) (v2 : Int32) (v3 : Int32) (u : zM), zJ eI p l e R s mi args below meth c (wM D b) m0 6 fin 14 [(0, .ref 1), (1, .int v1), (2, .int v2), (3, .int v3)] [] u (zr14 v1 v2 v3 u)) (v1 : Int32) (v2 : Int32) (v3 : Int32) (v4 : Int32) (u : zM) : zJ eI p l e R s mi args below meth c (wM D b) m0 6 fin 46 [(0, .ref 1), (1, .int v1), (2, .int v2), (3, .int v3), (4, .int v4)] [] u (Mo_worked_46 zr14 v1 v2 v3 v4 u) := by
  unfold Mo_worked_46
  refine z_iinc (L' := [(2, .int (v2 + 1)), (0, .ref 1), (1, .int v1), (3, .int v3), (4, .int v4)]) hc dX10_worked_46 2 rfl (v := (v2 + 1)) rfl (by decide) rfl rfl ?_
  refine z_aload_n hc dX10_worked_49 1 rfl rfl ?_
  refine z_getR (x := 30) hc (ci := 10) (k := 38) (by decide) (by decide) zly10 lM1 (zkM lM1) wFX10_96 rfl dX10_worked_50 rfl (by decide) ?_
  refine z_iload_n hc dX10_worked_53 0 rfl rfl ?_
  refine z_iload hc dX10_worked_54 4 rfl ?_
  refine z_bipush (v := 30) hc dX10_worked_56 rfl ?_
  refine z_icmp_ne (tgt := 65) hc dX10_worked_58 (by decide) _ (fun h1 => ?_) (fun h1 => ?_)
  · refine z_iconst (v := 0) hc dX10_worked_65 rfl ?_
    refine zJ.chk _ (fun h2 => ?_)
    refine z_iast (k := (ix (v2 + 1))) hc lM30 (zkM lM30) h2 rfl dX10_worked_66 ?_
    refine zJ.letM (fun u1 e1 => ?_)
    refine z_aload_n hc dX10_worked_67 1 rfl rfl ?_
    refine z_iload_n hc dX10_worked_68 0 rfl rfl ?_
    refine z_callV (av := [.int (v2 + 1)]) (enc' := eV) hc rfl (sMo_opens (v2 + 1) _) (ci := 10) (by decide) lM1 (zkM lM1) rfl wMX10_243 hpyX10_opens hmyX10_opens (rm_ok hRm (Nat.le_of_ble_eq_true rfl) (Nat.le_of_ble_eq_true rfl)) (Nat.le_of_ble_eq_true rfl) hRm.2.2 dX10_worked_69 (fun c1 u2 f1 => ?_)
    refine z_goto (tgt := 329) hc dX10_worked_72 (by decide) ?_
    refine z_iinc (L' := [(3, .int (v3 + 1)), (2, .int (v2 + 1)), (0, .ref 1), (1, .int v1), (4, .int v4)]) hc dX10_worked_329 3 rfl (v := (v3 + 1)) rfl (by decide) rfl rfl ?_
    refine z_goto (tgt := 14) hc dX10_worked_332 (by decide) ?_
    refine zJ.sub (L' := [(0, .ref 1), (1, .int v1), (2, .int (v2 + 1)), (3, .int (v3 + 1))]) [2, 3, 1, 0] rfl ?_
    exact hr14 v1 (v2 + 1) (v3 + 1) _
  · refine z_iconst (v := 1) hc dX10_worked_61 rfl ?_
    refine z_goto (tgt := 66) hc dX10_worked_62 (by decide) ?_
    refine zJ.chk _ (fun h3 => ?_)
    refine z_iast (k := (ix (v2 + 1))) hc lM30 (zkM lM30) h3 rfl dX10_worked_66 ?_
    refine zJ.letM (fun u3 e2 => ?_)
    refine z_aload_n hc dX10_worked_67 1 rfl rfl ?_
    refine z_iload_n hc dX10_worked_68 0 rfl rfl ?_
    refine z_callV (av := [.int (v2 + 1)]) (enc' := eV) hc rfl (sMo_opens (v2 + 1) _) (ci := 10) (by decide) lM1 (zkM lM1) rfl wMX10_243 hpyX10_opens hmyX10_opens (rm_ok hRm (Nat.le_of_ble_eq_true rfl) (Nat.le_of_ble_eq_true rfl)) (Nat.le_of_ble_eq_true rfl) hRm.2.2 dX10_worked_69 (fun c2 u4 f2 => ?_)
    refine z_goto (tgt := 329) hc dX10_worked_72 (by decide) ?_
    refine z_iinc (L' := [(3, .int (v3 + 1)), (2, .int (v2 + 1)), (0, .ref 1), (1, .int v1), (4, .int v4)]) hc dX10_worked_329 3 rfl (v := (v3 + 1)) rfl (by decide) rfl rfl ?_
    refine z_goto (tgt := 14) hc dX10_worked_332 (by decide) ?_
    refine zJ.sub (L' := [(0, .ref 1), (1, .int v1), (2, .int (v2 + 1)), (3, .int (v3 + 1))]) [2, 3, 1, 0] rfl ?_
    exact hr14 v1 (v2 + 1) (v3 + 1) _
set_option maxRecDepth 100000 in
set_option maxHeartbeats 4000000 in
theorem sMo_worked_89 {fin : Int32 × zM} (hc : zCx p s mi args meth c (wM D b) m0 RX10 cX10_worked 6 (some .int)) (hRm : R.frames = 2 ∧ R.locals = 43 ∧ R.cells = zc (wM D b) m0 fin.2 ∧ R.slots = zs (wM D b) m0 fin.2) {zr14 : Int32 → Int32 → Int32 → zM → Option (Int32 × zM)} (hr14 : ∀ (v1 : Int32) (v2 : Int32) (v3 : Int32) (u : zM), zJ eI p l e R s mi args below meth c (wM D b) m0 6 fin 14 [(0, .ref 1), (1, .int v1), (2, .int v2), (3, .int v3)] [] u (zr14 v1 v2 v3 u)) (v1 : Int32) (v2 : Int32) (v3 : Int32) (v4 : Int32) (u : zM) : zJ eI p l e R s mi args below meth c (wM D b) m0 6 fin 89 [(0, .ref 1), (1, .int v1), (2, .int v2), (3, .int v3), (4, .int v4)] [] u (Mo_worked_89 zr14 v1 v2 v3 v4 u) := by
  unfold Mo_worked_89
  refine z_aload_n hc dX10_worked_89 0 rfl rfl ?_
  refine z_iload_n hc dX10_worked_90 2 rfl rfl ?_
  refine z_callV (av := [.int v2]) (enc' := eV) hc rfl (sMo_sums v2 _) (ci := 10) (by decide) lM1 (zkM lM1) rfl wMX10_240 hpyX10_sums hmyX10_sums (rm_ok hRm (Nat.le_of_ble_eq_true rfl) (Nat.le_of_ble_eq_true rfl)) (Nat.le_of_ble_eq_true rfl) hRm.2.2 dX10_worked_91 (fun c1 u1 f1 => ?_)
  refine z_aload_n hc dX10_worked_94 0 rfl rfl ?_
  refine z_getR (x := 27) hc (ci := 10) (k := 35) (by decide) (by decide) zly10 lM1 (zkM lM1) wFX10_87 rfl dX10_worked_95 rfl (by decide) ?_
  refine z_iload_n hc dX10_worked_98 2 rfl rfl ?_
  refine z_iload hc dX10_worked_99 4 rfl ?_
  refine zJ.chk _ (fun h1 => ?_)
  refine z_iast (k := (ix v2)) hc lM27 (zkM lM27) h1 rfl dX10_worked_101 ?_
  refine zJ.letM (fun u2 e1 => ?_)
  refine z_goto (tgt := 329) hc dX10_worked_102 (by decide) ?_
  refine z_iinc (L' := [(3, .int (v3 + 1)), (0, .ref 1), (1, .int v1), (2, .int v2), (4, .int v4)]) hc dX10_worked_329 3 rfl (v := (v3 + 1)) rfl (by decide) rfl rfl ?_
  refine z_goto (tgt := 14) hc dX10_worked_332 (by decide) ?_
  refine zJ.sub (L' := [(0, .ref 1), (1, .int v1), (2, .int v2), (3, .int (v3 + 1))]) [1, 2, 3, 0] rfl ?_
  exact hr14 v1 v2 (v3 + 1) _
set_option maxRecDepth 100000 in
set_option maxHeartbeats 4000000 in
theorem sMo_worked_137 {fin : Int32 × zM} (hc : zCx p s mi args meth c (wM D b) m0 RX10 cX10_worked 6 (some .int)) (hRm : R.frames = 2 ∧ R.locals = 43 ∧ R.cells = zc (wM D b) m0 fin.2 ∧ R.slots = zs (wM D b) m0 fin.2) {zr14 : Int32 → Int32 → Int32 → zM → Option (Int32 × zM)} (hr14 : ∀ (v1 : Int32) (v2 : Int32) (v3 : Int32) (u : zM), zJ eI p l e R s mi args below meth c (wM D b) m0 6 fin 14 [(0, .ref 1), (1, .int v1), (2, .int v2), (3, .int v3)] [] u (zr14 v1 v2 v3 u)) (v1 : Int32) (v2 : Int32) (v3 : Int32) (v4 : Int32) (u : zM) : zJ eI p l e R s mi args below meth c (wM D b) m0 6 fin 137 [(0, .ref 1), (1, .int v1), (2, .int v2), (3, .int v3), (4, .int v4)] [] u (Mo_worked_137 zr14 v1 v2 v3 v4 u) := by
  unfold Mo_worked_137
  refine z_aload_n hc dX10_worked_137 0 rfl rfl ?_
  refine z_iload_n hc dX10_worked_138 2 rfl rfl ?_
  refine z_callV (av := [.int v2]) (enc' := eV) hc rfl (sMo_sums v2 _) (ci := 10) (by decide) lM1 (zkM lM1) rfl wMX10_240 hpyX10_sums hmyX10_sums (rm_ok hRm (Nat.le_of_ble_eq_true rfl) (Nat.le_of_ble_eq_true rfl)) (Nat.le_of_ble_eq_true rfl) hRm.2.2 dX10_worked_139 (fun c1 u1 f1 => ?_)
  refine z_aload_n hc dX10_worked_142 0 rfl rfl ?_
  refine z_getR (x := 24) hc (ci := 10) (k := 32) (by decide) (by decide) zly10 lM1 (zkM lM1) wFX10_78 rfl dX10_worked_143 rfl (by decide) ?_
  refine z_iload_n hc dX10_worked_146 2 rfl rfl ?_
  refine z_aload_n hc dX10_worked_147 0 rfl rfl ?_
  refine z_getR (x := 26) hc (ci := 10) (k := 34) (by decide) (by decide) zly10 lM1 (zkM lM1) wFX10_84 rfl dX10_worked_148 rfl (by decide) ?_
  refine z_iload_n hc dX10_worked_151 2 rfl rfl ?_
  refine zJ.chk _ (fun h1 => ?_)
  refine z_iald (k := (ix v2)) hc lM26 (zkM lM26) h1 rfl dX10_worked_152 ?_
  refine zJ.chk _ (fun h2 => ?_)
  refine z_iast (k := (ix v2)) hc lM24 (zkM lM24) h2 rfl dX10_worked_153 ?_
  refine zJ.letM (fun u2 e1 => ?_)
  refine z_aload_n hc dX10_worked_154 0 rfl rfl ?_
  refine z_getR (x := 25) hc (ci := 10) (k := 33) (by decide) (by decide) zly10 lM1 (zkM lM1) wFX10_81 rfl dX10_worked_155 rfl (by decide) ?_
  refine z_iload_n hc dX10_worked_158 2 rfl rfl ?_
  refine z_iload hc dX10_worked_159 4 rfl ?_
  refine zJ.chk _ (fun h3 => ?_)
  refine z_iast (k := (ix v2)) hc lM25 (zkM lM25) h3 rfl dX10_worked_161 ?_
  refine zJ.letM (fun u3 e2 => ?_)
  refine z_aload_n hc dX10_worked_162 0 rfl rfl ?_
  refine z_getR (x := 26) hc (ci := 10) (k := 34) (by decide) (by decide) zly10 lM1 (zkM lM1) wFX10_84 rfl dX10_worked_163 rfl (by decide) ?_
  refine z_iload_n hc dX10_worked_166 2 rfl rfl ?_
  refine z_iconst (v := 0) hc dX10_worked_167 rfl ?_
  refine zJ.chk _ (fun h4 => ?_)
  refine z_iast (k := (ix v2)) hc lM26 (zkM lM26) h4 rfl dX10_worked_168 ?_
  refine zJ.letM (fun u4 e3 => ?_)
  refine z_aload_n hc dX10_worked_169 0 rfl rfl ?_
  refine z_getR (x := 27) hc (ci := 10) (k := 35) (by decide) (by decide) zly10 lM1 (zkM lM1) wFX10_87 rfl dX10_worked_170 rfl (by decide) ?_
  refine z_iload_n hc dX10_worked_173 2 rfl rfl ?_
  refine z_bipush (v := 20) hc dX10_worked_174 rfl ?_
  refine zJ.chk _ (fun h5 => ?_)
  refine z_iast (k := (ix v2)) hc lM27 (zkM lM27) h5 rfl dX10_worked_176 ?_
  refine zJ.letM (fun u5 e4 => ?_)
  refine z_goto (tgt := 329) hc dX10_worked_177 (by decide) ?_
  refine z_iinc (L' := [(3, .int (v3 + 1)), (0, .ref 1), (1, .int v1), (2, .int v2), (4, .int v4)]) hc dX10_worked_329 3 rfl (v := (v3 + 1)) rfl (by decide) rfl rfl ?_
  refine z_goto (tgt := 14) hc dX10_worked_332 (by decide) ?_
  refine zJ.sub (L' := [(0, .ref 1), (1, .int v1), (2, .int v2), (3, .int (v3 + 1))]) [1, 2, 3, 0] rfl ?_
  exact hr14 v1 v2 (v3 + 1) _
set_option maxRecDepth 100000 in
set_option maxHeartbeats 4000000 in
theorem sMo_worked_194 {fin : Int32 × zM} (hc : zCx p s mi args meth c (wM D b) m0 RX10 cX10_worked 6 (some .int)) (hRm : R.frames = 2 ∧ R.locals = 43 ∧ R.cells = zc (wM D b) m0 fin.2 ∧ R.slots = zs (wM D b) m0 fin.2) {zr14 : Int32 → Int32 → Int32 → zM → Option (Int32 × zM)} (hr14 : ∀ (v1 : Int32) (v2 : Int32) (v3 : Int32) (u : zM), zJ eI p l e R s mi args below meth c (wM D b) m0 6 fin 14 [(0, .ref 1), (1, .int v1), (2, .int v2), (3, .int v3)] [] u (zr14 v1 v2 v3 u)) (v1 : Int32) (v2 : Int32) (v3 : Int32) (v4 : Int32) (u : zM) : zJ eI p l e R s mi args below meth c (wM D b) m0 6 fin 194 [(0, .ref 1), (1, .int v1), (2, .int v2), (3, .int v3), (4, .int v4)] [] u (Mo_worked_194 zr14 v1 v2 v3 v4 u) := by
  unfold Mo_worked_194
  refine z_aload_n hc dX10_worked_194 0 rfl rfl ?_
  refine z_iload_n hc dX10_worked_195 2 rfl rfl ?_
  refine z_callV (av := [.int v2]) (enc' := eV) hc rfl (sMo_tests v2 _) (ci := 10) (by decide) lM1 (zkM lM1) rfl wMX10_246 hpyX10_tests hmyX10_tests (rm_ok hRm (Nat.le_of_ble_eq_true rfl) (Nat.le_of_ble_eq_true rfl)) (Nat.le_of_ble_eq_true rfl) hRm.2.2 dX10_worked_196 (fun c1 u1 f1 => ?_)
  refine z_aload_n hc dX10_worked_199 0 rfl rfl ?_
  refine z_getR (x := 23) hc (ci := 10) (k := 31) (by decide) (by decide) zly10 lM1 (zkM lM1) wFX10_75 rfl dX10_worked_200 rfl (by decide) ?_
  refine z_iload_n hc dX10_worked_203 2 rfl rfl ?_
  refine z_iload hc dX10_worked_204 4 rfl ?_
  refine zJ.chk _ (fun h1 => ?_)
  refine z_iast (k := (ix v2)) hc lM23 (zkM lM23) h1 rfl dX10_worked_206 ?_
  refine zJ.letM (fun u2 e1 => ?_)
  refine z_goto (tgt := 329) hc dX10_worked_207 (by decide) ?_
  refine z_iinc (L' := [(3, .int (v3 + 1)), (0, .ref 1), (1, .int v1), (2, .int v2), (4, .int v4)]) hc dX10_worked_329 3 rfl (v := (v3 + 1)) rfl (by decide) rfl rfl ?_
  refine z_goto (tgt := 14) hc dX10_worked_332 (by decide) ?_
  refine zJ.sub (L' := [(0, .ref 1), (1, .int v1), (2, .int v2), (3, .int (v3 + 1))]) [1, 2, 3, 0] rfl ?_
  exact hr14 v1 v2 (v3 + 1) _
set_option maxRecDepth 100000 in
set_option maxHeartbeats 4000000 in
theorem sMo_worked_300 {fin : Int32 × zM} (hc : zCx p s mi args meth c (wM D b) m0 RX10 cX10_worked 6 (some .int)) (hRm : R.frames = 2 ∧ R.locals = 43 ∧ R.cells = zc (wM D b) m0 fin.2 ∧ R.slots = zs (wM D b) m0 fin.2) {zr14 : Int32 → Int32 → Int32 → zM → Option (Int32 × zM)} (hr14 : ∀ (v1 : Int32) (v2 : Int32) (v3 : Int32) (u : zM), zJ eI p l e R s mi args below meth c (wM D b) m0 6 fin 14 [(0, .ref 1), (1, .int v1), (2, .int v2), (3, .int v3)] [] u (zr14 v1 v2 v3 u)) (v1 : Int32) (v2 : Int32) (v3 : Int32) (v5 : Int32) (u : zM) : zJ eI p l e R s mi args below meth c (wM D b) m0 6 fin 300 [(0, .ref 1), (1, .int v1), (2, .int v2), (3, .int v3), (5, .int v5)] [] u (Mo_worked_300 zr14 v1 v2 v3 v5 u) := by
  unfold Mo_worked_300
  refine z_aload_n hc dX10_worked_300 0 rfl rfl ?_
  refine z_getR (x := 28) hc (ci := 10) (k := 36) (by decide) (by decide) zly10 lM1 (zkM lM1) wFX10_90 rfl dX10_worked_301 rfl (by decide) ?_
  refine z_iload_n hc dX10_worked_304 2 rfl rfl ?_
  refine z_aload_n hc dX10_worked_305 0 rfl rfl ?_
  refine z_getR (x := 29) hc (ci := 10) (k := 37) (by decide) (by decide) zly10 lM1 (zkM lM1) wFX10_93 rfl dX10_worked_306 rfl (by decide) ?_
  refine z_iload_n hc dX10_worked_309 2 rfl rfl ?_
  refine zJ.chk _ (fun h1 => ?_)
  refine z_iald (k := (ix v2)) hc lM29 (zkM lM29) h1 rfl dX10_worked_310 ?_
  refine z_if_ne (tgt := 319) hc dX10_worked_311 (by decide) _ (fun h2 => ?_) (fun h2 => ?_)
  · refine z_aload_n hc dX10_worked_319 0 rfl rfl ?_
    refine z_getR (x := 28) hc (ci := 10) (k := 36) (by decide) (by decide) zly10 lM1 (zkM lM1) wFX10_90 rfl dX10_worked_320 rfl (by decide) ?_
    refine z_iload_n hc dX10_worked_323 2 rfl rfl ?_
    refine zJ.chk _ (fun h3 => ?_)
    refine z_iald (k := (ix v2)) hc lM28 (zkM lM28) h3 rfl dX10_worked_324 ?_
    refine z_iload hc dX10_worked_325 4 rfl ?_
    refine z_imul hc dX10_worked_327 ?_
    refine zJ.chk _ (fun h4 => ?_)
    refine z_iast (k := (ix v2)) hc lM28 (zkM lM28) h4 rfl dX10_worked_328 ?_
    refine zJ.letM (fun u1 e1 => ?_)
    refine z_iinc (L' := [(3, .int (v3 + 1)), (0, .ref 1), (1, .int v1), (2, .int v2), (5, .int v5)]) hc dX10_worked_329 3 rfl (v := (v3 + 1)) rfl (by decide) rfl rfl ?_
    refine z_goto (tgt := 14) hc dX10_worked_332 (by decide) ?_
    refine zJ.sub (L' := [(0, .ref 1), (1, .int v1), (2, .int v2), (3, .int (v3 + 1))]) [1, 2, 3, 0] rfl ?_
    exact hr14 v1 v2 (v3 + 1) _
  · refine z_iload hc dX10_worked_314 4 rfl ?_
    refine z_goto (tgt := 328) hc dX10_worked_316 (by decide) ?_
    refine zJ.chk _ (fun h5 => ?_)
    refine z_iast (k := (ix v2)) hc lM28 (zkM lM28) h5 rfl dX10_worked_328 ?_
    refine zJ.letM (fun u2 e2 => ?_)
    refine z_iinc (L' := [(3, .int (v3 + 1)), (0, .ref 1), (1, .int v1), (2, .int v2), (5, .int v5)]) hc dX10_worked_329 3 rfl (v := (v3 + 1)) rfl (by decide) rfl rfl ?_
    refine z_goto (tgt := 14) hc dX10_worked_332 (by decide) ?_
    refine zJ.sub (L' := [(0, .ref 1), (1, .int v1), (2, .int v2), (3, .int (v3 + 1))]) [1, 2, 3, 0] rfl ?_
    exact hr14 v1 v2 (v3 + 1) _
set_option maxRecDepth 100000 in
set_option maxHeartbeats 4000000 in
theorem sMo_worked_268b {fin : Int32 × zM} (hc : zCx p s mi args meth c (wM D b) m0 RX10 cX10_worked 6 (some .int)) (hRm : R.frames = 2 ∧ R.locals = 43 ∧ R.cells = zc (wM D b) m0 fin.2 ∧ R.slots = zs (wM D b) m0 fin.2) {zr14 : Int32 → Int32 → Int32 → zM → Option (Int32 × zM)} (hr14 : ∀ (v1 : Int32) (v2 : Int32) (v3 : Int32) (u : zM), zJ eI p l e R s mi args below meth c (wM D b) m0 6 fin 14 [(0, .ref 1), (1, .int v1), (2, .int v2), (3, .int v3)] [] u (zr14 v1 v2 v3 u)) {zr268 : Int32 → Int32 → Int32 → Int32 → zM → Option (Int32 × zM)} (hr268 : ∀ (v1 : Int32) (v2 : Int32) (v3 : Int32) (v5 : Int32) (u : zM), zJ eI p l e R s mi args below meth c (wM D b) m0 6 fin 268 [(0, .ref 1), (1, .int v1), (2, .int v2), (3, .int v3), (5, .int v5)] [] u (zr268 v1 v2 v3 v5 u)) (v1 : Int32) (v2 : Int32) (v3 : Int32) (v5 : Int32) (u : zM) : zJ eI p l e R s mi args below meth c (wM D b) m0 6 fin 268 [(0, .ref 1), (1, .int v1), (2, .int v2), (3, .int v3), (5, .int v5)] [] u (Mo_worked_268b zr14 zr268 v1 v2 v3 v5 u) := by
  unfold Mo_worked_268b
  refine z_iload_n hc dX10_worked_268 2 rfl rfl ?_
  refine z_if_le (tgt := 300) hc dX10_worked_269 (by decide) _ (fun h1 => ?_) (fun h1 => ?_)
  · exact sMo_worked_300 hc hRm hr14 v1 v2 v3 v5 _
  · refine z_aload_n hc dX10_worked_272 0 rfl rfl ?_
    refine z_getR (x := 30) hc (ci := 10) (k := 38) (by decide) (by decide) zly10 lM1 (zkM lM1) wFX10_96 rfl dX10_worked_273 rfl (by decide) ?_
    refine z_iload_n hc dX10_worked_276 2 rfl rfl ?_
    refine zJ.chk _ (fun h2 => ?_)
    refine z_iald (k := (ix v2)) hc lM30 (zkM lM30) h2 rfl dX10_worked_277 ?_
    refine z_iconst (v := 1) hc dX10_worked_278 rfl ?_
    refine z_icmp_ne (tgt := 300) hc dX10_worked_279 (by decide) _ (fun h3 => ?_) (fun h3 => ?_)
    · exact sMo_worked_300 hc hRm hr14 v1 v2 v3 v5 _
    · refine z_iload hc dX10_worked_282 4 rfl ?_
      refine z_if_ne (tgt := 291) hc dX10_worked_284 (by decide) _ (fun h4 => ?_) (fun h4 => ?_)
      · refine z_iconst (v := 0) hc dX10_worked_291 rfl ?_
        refine z_istore (L' := [(5, .int 0), (0, .ref 1), (1, .int v1), (2, .int v2), (3, .int v3)]) hc dX10_worked_292 (by decide) rfl rfl ?_
        refine z_iinc (L' := [(2, .int (v2 + (-1))), (5, .int 0), (0, .ref 1), (1, .int v1), (3, .int v3)]) hc dX10_worked_294 3 rfl (v := (v2 + (-1))) rfl (by decide) rfl rfl ?_
        refine z_goto (tgt := 268) hc dX10_worked_297 (by decide) ?_
        refine zJ.sub (L' := [(0, .ref 1), (1, .int v1), (2, .int (v2 + (-1))), (3, .int v3), (5, .int 0)]) [2, 3, 0, 4, 1] rfl ?_
        exact hr268 v1 (v2 + (-1)) v3 0 _
      · refine z_iconst (v := 1) hc dX10_worked_287 rfl ?_
        refine z_goto (tgt := 292) hc dX10_worked_288 (by decide) ?_
        refine z_istore (L' := [(5, .int 1), (0, .ref 1), (1, .int v1), (2, .int v2), (3, .int v3)]) hc dX10_worked_292 (by decide) rfl rfl ?_
        refine z_iinc (L' := [(2, .int (v2 + (-1))), (5, .int 1), (0, .ref 1), (1, .int v1), (3, .int v3)]) hc dX10_worked_294 3 rfl (v := (v2 + (-1))) rfl (by decide) rfl rfl ?_
        refine z_goto (tgt := 268) hc dX10_worked_297 (by decide) ?_
        refine zJ.sub (L' := [(0, .ref 1), (1, .int v1), (2, .int (v2 + (-1))), (3, .int v3), (5, .int 1)]) [2, 3, 0, 4, 1] rfl ?_
        exact hr268 v1 (v2 + (-1)) v3 1 _
set_option maxRecDepth 100000 in
set_option maxHeartbeats 4000000 in
theorem sMo_worked_268 {fin : Int32 × zM} (hc : zCx p s mi args meth c (wM D b) m0 RX10 cX10_worked 6 (some .int)) (hRm : R.frames = 2 ∧ R.locals = 43 ∧ R.cells = zc (wM D b) m0 fin.2 ∧ R.slots = zs (wM D b) m0 fin.2) {zr14 : Int32 → Int32 → Int32 → zM → Option (Int32 × zM)} (hr14 : ∀ (v1 : Int32) (v2 : Int32) (v3 : Int32) (u : zM), zJ eI p l e R s mi args below meth c (wM D b) m0 6 fin 14 [(0, .ref 1), (1, .int v1), (2, .int v2), (3, .int v3)] [] u (zr14 v1 v2 v3 u)) : ∀ (zf : Nat) (v1 : Int32) (v2 : Int32) (v3 : Int32) (v5 : Int32) (u : zM), zJ eI p l e R s mi args below meth c (wM D b) m0 6 fin 268 [(0, .ref 1), (1, .int v1), (2, .int v2), (3, .int v3), (5, .int v5)] [] u (Mo_worked_268 zf zr14 v1 v2 v3 v5 u) := by
  intro zf
  induction zf with
  | zero => intro v1 v2 v3 v5 u; exact zJ.nil
  | succ zf ih => intro v1 v2 v3 v5 u; exact sMo_worked_268b hc hRm hr14 ih v1 v2 v3 v5 u
set_option maxRecDepth 100000 in
set_option maxHeartbeats 4000000 in
theorem sMo_worked_243 {fin : Int32 × zM} (hc : zCx p s mi args meth c (wM D b) m0 RX10 cX10_worked 6 (some .int)) (hRm : R.frames = 2 ∧ R.locals = 43 ∧ R.cells = zc (wM D b) m0 fin.2 ∧ R.slots = zs (wM D b) m0 fin.2) {zr14 : Int32 → Int32 → Int32 → zM → Option (Int32 × zM)} (hr14 : ∀ (v1 : Int32) (v2 : Int32) (v3 : Int32) (u : zM), zJ eI p l e R s mi args below meth c (wM D b) m0 6 fin 14 [(0, .ref 1), (1, .int v1), (2, .int v2), (3, .int v3)] [] u (zr14 v1 v2 v3 u)) (v1 : Int32) (v2 : Int32) (v3 : Int32) (v4 : Int32) (s0 : Int32) (u : zM) : zJ eI p l e R s mi args below meth c (wM D b) m0 6 fin 243 [(0, .ref 1), (1, .int v1), (2, .int v2), (3, .int v3), (4, .int v4)] [.int s0] u (Mo_worked_243 zr14 v1 v2 v3 v4 s0 u) := by
  unfold Mo_worked_243
  refine z_istore (L' := [(5, .int s0), (0, .ref 1), (1, .int v1), (2, .int v2), (3, .int v3), (4, .int v4)]) hc dX10_worked_243 (by decide) rfl rfl ?_
  refine z_iload hc dX10_worked_245 5 rfl ?_
  refine z_bipush (v := 29) hc dX10_worked_247 rfl ?_
  refine z_icmp_ne (tgt := 268) hc dX10_worked_249 (by decide) _ (fun h1 => ?_) (fun h1 => ?_)
  · refine zJ.sub (L' := [(0, .ref 1), (1, .int v1), (2, .int v2), (3, .int v3), (5, .int s0)]) [1, 2, 3, 4, 0] rfl ?_
    exact sMo_worked_268 hc hRm hr14 zF v1 v2 v3 s0 _
  · refine z_aload_n hc dX10_worked_252 1 rfl rfl ?_
    refine z_iload_n hc dX10_worked_253 3 rfl rfl ?_
    refine z_callV (av := [.int v2]) (enc' := eV) hc rfl (sMo_tests v2 _) (ci := 10) (by decide) lM1 (zkM lM1) rfl wMX10_246 hpyX10_tests hmyX10_tests (rm_ok hRm (Nat.le_of_ble_eq_true rfl) (Nat.le_of_ble_eq_true rfl)) (Nat.le_of_ble_eq_true rfl) hRm.2.2 dX10_worked_254 (fun c1 u1 f1 => ?_)
    refine z_aload_n hc dX10_worked_257 1 rfl rfl ?_
    refine z_getR (x := 22) hc (ci := 10) (k := 30) (by decide) (by decide) zly10 lM1 (zkM lM1) wFX10_72 rfl dX10_worked_258 rfl (by decide) ?_
    refine z_iload_n hc dX10_worked_261 3 rfl rfl ?_
    refine zJ.chk _ (fun h2 => ?_)
    refine z_iald (k := (ix v2)) hc lM22 (zkM lM22) h2 rfl dX10_worked_262 ?_
    refine zJ.letI (fun x1 e1 => ?_)
    refine z_istore (L' := [(5, .int x1), (0, .ref 1), (1, .int v1), (2, .int v2), (3, .int v3), (4, .int v4)]) hc dX10_worked_263 (by decide) rfl rfl ?_
    refine z_iinc (L' := [(2, .int (v2 + (-1))), (5, .int x1), (0, .ref 1), (1, .int v1), (3, .int v3), (4, .int v4)]) hc dX10_worked_265 3 rfl (v := (v2 + (-1))) rfl (by decide) rfl rfl ?_
    refine zJ.sub (L' := [(0, .ref 1), (1, .int v1), (2, .int (v2 + (-1))), (3, .int v3), (5, .int x1)]) [2, 3, 0, 4, 1] rfl ?_
    exact sMo_worked_268 hc hRm hr14 zF v1 (v2 + (-1)) v3 x1 _
set_option maxRecDepth 100000 in
set_option maxHeartbeats 4000000 in
theorem sMo_worked_14b {fin : Int32 × zM} (hc : zCx p s mi args meth c (wM D b) m0 RX10 cX10_worked 6 (some .int)) (hRm : R.frames = 2 ∧ R.locals = 43 ∧ R.cells = zc (wM D b) m0 fin.2 ∧ R.slots = zs (wM D b) m0 fin.2) {zr14 : Int32 → Int32 → Int32 → zM → Option (Int32 × zM)} (hr14 : ∀ (v1 : Int32) (v2 : Int32) (v3 : Int32) (u : zM), zJ eI p l e R s mi args below meth c (wM D b) m0 6 fin 14 [(0, .ref 1), (1, .int v1), (2, .int v2), (3, .int v3)] [] u (zr14 v1 v2 v3 u)) (v1 : Int32) (v2 : Int32) (v3 : Int32) (u : zM) : zJ eI p l e R s mi args below meth c (wM D b) m0 6 fin 14 [(0, .ref 1), (1, .int v1), (2, .int v2), (3, .int v3)] [] u (Mo_worked_14b zr14 v1 v2 v3 u) := by
  unfold Mo_worked_14b
  refine z_iload_n hc dX10_worked_14 3 rfl rfl ?_
  refine z_aload_n hc dX10_worked_15 0 rfl rfl ?_
  refine z_getR (x := 18) hc (ci := 10) (k := 25) (by decide) (by decide) zly10 lM1 (zkM lM1) wFX10_59 rfl dX10_worked_16 rfl (by decide) ?_
  refine z_iload_n hc dX10_worked_19 1 rfl rfl ?_
  refine zJ.chk _ (fun h1 => ?_)
  refine z_iald (k := (ix v1)) hc lM18 (zkM lM18) h1 rfl dX10_worked_20 ?_
  refine z_icmp_ge (tgt := 335) hc dX10_worked_21 (by decide) _ (fun h2 => ?_) (fun h2 => ?_)
  · refine z_aload_n hc dX10_worked_335 0 rfl rfl ?_
    refine z_iconst (v := 0) hc dX10_worked_336 rfl ?_
    refine z_callV (av := [.int 0]) (enc' := eV) hc rfl (sMo_tests 0 _) (ci := 10) (by decide) lM1 (zkM lM1) rfl wMX10_246 hpyX10_tests hmyX10_tests (rm_ok hRm (Nat.le_of_ble_eq_true rfl) (Nat.le_of_ble_eq_true rfl)) (Nat.le_of_ble_eq_true rfl) hRm.2.2 dX10_worked_337 (fun c1 u1 f1 => ?_)
    refine z_aload_n hc dX10_worked_340 0 rfl rfl ?_
    refine z_getR (x := 22) hc (ci := 10) (k := 30) (by decide) (by decide) zly10 lM1 (zkM lM1) wFX10_72 rfl dX10_worked_341 rfl (by decide) ?_
    refine z_iconst (v := 0) hc dX10_worked_344 rfl ?_
    refine z_iald (k := 0) hc lM22 (zkM lM22) rfl rfl dX10_worked_345 ?_
    exact z_iret hc dX10_worked_346
  · refine z_aload_n hc dX10_worked_24 0 rfl rfl ?_
    refine z_getR (x := 19) hc (ci := 10) (k := 26) (by decide) (by decide) zly10 lM1 (zkM lM1) wFX10_62 rfl dX10_worked_25 rfl (by decide) ?_
    refine z_iload_n hc dX10_worked_28 3 rfl rfl ?_
    refine zJ.chk _ (fun h3 => ?_)
    refine z_iald (k := (ix v3)) hc lM19 (zkM lM19) h3 rfl dX10_worked_29 ?_
    refine zJ.letI (fun x1 e1 => ?_)
    refine z_istore (L' := [(4, .int x1), (0, .ref 1), (1, .int v1), (2, .int v2), (3, .int v3)]) hc dX10_worked_30 (by decide) rfl rfl ?_
    refine z_iload hc dX10_worked_32 0 rfl ?_
    refine z_bipush (v := 28) hc dX10_worked_34 rfl ?_
    refine z_icmp_eq (tgt := 46) hc dX10_worked_36 (by decide) _ (fun h4 => ?_) (fun h4 => ?_)
    · refine zJ.sub (L' := [(0, .ref 1), (1, .int v1), (2, .int v2), (3, .int v3), (4, .int x1)]) [1, 2, 3, 4, 0] rfl ?_
      exact sMo_worked_46 hc hRm hr14 v1 v2 v3 x1 _
    · refine z_iload hc dX10_worked_39 0 rfl ?_
      refine z_bipush (v := 30) hc dX10_worked_41 rfl ?_
      refine z_icmp_ne (tgt := 75) hc dX10_worked_43 (by decide) _ (fun h5 => ?_) (fun h5 => ?_)
      · refine z_iload hc dX10_worked_75 0 rfl ?_
        refine z_bipush (v := 20) hc dX10_worked_77 rfl ?_
        refine z_icmp_eq (tgt := 89) hc dX10_worked_79 (by decide) _ (fun h6 => ?_) (fun h6 => ?_)
        · refine zJ.sub (L' := [(0, .ref 1), (1, .int v1), (2, .int v2), (3, .int v3), (4, .int x1)]) [1, 2, 3, 4, 0] rfl ?_
          exact sMo_worked_89 hc hRm hr14 v1 v2 v3 x1 _
        · refine z_iload hc dX10_worked_82 0 rfl ?_
          refine z_bipush (v := 21) hc dX10_worked_84 rfl ?_
          refine z_icmp_ne (tgt := 105) hc dX10_worked_86 (by decide) _ (fun h7 => ?_) (fun h7 => ?_)
          · refine z_iload hc dX10_worked_105 0 rfl ?_
            refine z_bipush (v := 22) hc dX10_worked_107 rfl ?_
            refine z_icmp_ne (tgt := 123) hc dX10_worked_109 (by decide) _ (fun h8 => ?_) (fun h8 => ?_)
            · refine z_iload hc dX10_worked_123 0 rfl ?_
              refine z_bipush (v := 24) hc dX10_worked_125 rfl ?_
              refine z_icmp_eq (tgt := 137) hc dX10_worked_127 (by decide) _ (fun h9 => ?_) (fun h9 => ?_)
              · refine zJ.sub (L' := [(0, .ref 1), (1, .int v1), (2, .int v2), (3, .int v3), (4, .int x1)]) [1, 2, 3, 4, 0] rfl ?_
                exact sMo_worked_137 hc hRm hr14 v1 v2 v3 x1 _
              · refine z_iload hc dX10_worked_130 0 rfl ?_
                refine z_bipush (v := 25) hc dX10_worked_132 rfl ?_
                refine z_icmp_ne (tgt := 180) hc dX10_worked_134 (by decide) _ (fun h10 => ?_) (fun h10 => ?_)
                · refine z_iload hc dX10_worked_180 0 rfl ?_
                  refine z_bipush (v := 26) hc dX10_worked_182 rfl ?_
                  refine z_icmp_eq (tgt := 194) hc dX10_worked_184 (by decide) _ (fun h11 => ?_) (fun h11 => ?_)
                  · refine zJ.sub (L' := [(0, .ref 1), (1, .int v1), (2, .int v2), (3, .int v3), (4, .int x1)]) [1, 2, 3, 4, 0] rfl ?_
                    exact sMo_worked_194 hc hRm hr14 v1 v2 v3 x1 _
                  · refine z_iload hc dX10_worked_187 0 rfl ?_
                    refine z_bipush (v := 27) hc dX10_worked_189 rfl ?_
                    refine z_icmp_ne (tgt := 210) hc dX10_worked_191 (by decide) _ (fun h12 => ?_) (fun h12 => ?_)
                    · refine z_iload hc dX10_worked_210 0 rfl ?_
                      refine z_bipush (v := 100) hc dX10_worked_212 rfl ?_
                      refine z_icmp_lt (tgt := 225) hc dX10_worked_214 (by decide) _ (fun h13 => ?_) (fun h13 => ?_)
                      · refine z_iload hc dX10_worked_225 0 rfl ?_
                        refine z_bipush (v := 20) hc dX10_worked_227 rfl ?_
                        refine z_icmp_ge (tgt := 242) hc dX10_worked_229 (by decide) _ (fun h14 => ?_) (fun h14 => ?_)
                        · refine z_iconst (v := 0) hc dX10_worked_242 rfl ?_
                          refine zJ.sub (L' := [(0, .ref 1), (1, .int v1), (2, .int v2), (3, .int v3), (4, .int x1)]) [1, 2, 3, 4, 0] rfl ?_
                          exact sMo_worked_243 hc hRm hr14 v1 v2 v3 x1 0 _
                        · refine z_aload_n hc dX10_worked_232 1 rfl rfl ?_
                          refine z_getR (x := 31) hc (ci := 10) (k := 39) (by decide) (by decide) zly10 lM1 (zkM lM1) wFX10_99 rfl dX10_worked_233 rfl (by decide) ?_
                          refine z_iload hc dX10_worked_236 0 rfl ?_
                          refine zJ.chk _ (fun h15 => ?_)
                          refine z_iald (k := (ix x1)) hc lM31 (zkM lM31) h15 rfl dX10_worked_238 ?_
                          refine z_goto (tgt := 243) hc dX10_worked_239 (by decide) ?_
                          refine zJ.sub (L' := [(0, .ref 1), (1, .int v1), (2, .int v2), (3, .int v3), (4, .int x1)]) [1, 2, 3, 4, 0] rfl ?_
                          exact sMo_worked_243 hc hRm hr14 v1 v2 v3 x1 (gI u 31 (ix x1)) _
                      · refine z_iload hc dX10_worked_217 0 rfl ?_
                        refine z_bipush (v := 100) hc dX10_worked_219 rfl ?_
                        refine z_isub hc dX10_worked_221 ?_
                        refine z_goto (tgt := 243) hc dX10_worked_222 (by decide) ?_
                        refine zJ.sub (L' := [(0, .ref 1), (1, .int v1), (2, .int v2), (3, .int v3), (4, .int x1)]) [1, 2, 3, 4, 0] rfl ?_
                        exact sMo_worked_243 hc hRm hr14 v1 v2 v3 x1 (x1 - 100) _
                    · refine zJ.sub (L' := [(0, .ref 1), (1, .int v1), (2, .int v2), (3, .int v3), (4, .int x1)]) [1, 2, 3, 4, 0] rfl ?_
                      exact sMo_worked_194 hc hRm hr14 v1 v2 v3 x1 _
                · refine zJ.sub (L' := [(0, .ref 1), (1, .int v1), (2, .int v2), (3, .int v3), (4, .int x1)]) [1, 2, 3, 4, 0] rfl ?_
                  exact sMo_worked_137 hc hRm hr14 v1 v2 v3 x1 _
            · refine z_aload_n hc dX10_worked_112 1 rfl rfl ?_
              refine z_getR (x := 29) hc (ci := 10) (k := 37) (by decide) (by decide) zly10 lM1 (zkM lM1) wFX10_93 rfl dX10_worked_113 rfl (by decide) ?_
              refine z_iload_n hc dX10_worked_116 3 rfl rfl ?_
              refine z_iload hc dX10_worked_117 0 rfl ?_
              refine zJ.chk _ (fun h16 => ?_)
              refine z_iast (k := (ix v2)) hc lM29 (zkM lM29) h16 rfl dX10_worked_119 ?_
              refine zJ.letM (fun u2 e2 => ?_)
              refine z_goto (tgt := 329) hc dX10_worked_120 (by decide) ?_
              refine z_iinc (L' := [(3, .int (v3 + 1)), (4, .int x1), (0, .ref 1), (1, .int v1), (2, .int v2)]) hc dX10_worked_329 4 rfl (v := (v3 + 1)) rfl (by decide) rfl rfl ?_
              refine z_goto (tgt := 14) hc dX10_worked_332 (by decide) ?_
              refine zJ.sub (L' := [(0, .ref 1), (1, .int v1), (2, .int v2), (3, .int (v3 + 1))]) [2, 3, 4, 0] rfl ?_
              exact hr14 v1 v2 (v3 + 1) _
          · refine zJ.sub (L' := [(0, .ref 1), (1, .int v1), (2, .int v2), (3, .int v3), (4, .int x1)]) [1, 2, 3, 4, 0] rfl ?_
            exact sMo_worked_89 hc hRm hr14 v1 v2 v3 x1 _
      · refine zJ.sub (L' := [(0, .ref 1), (1, .int v1), (2, .int v2), (3, .int v3), (4, .int x1)]) [1, 2, 3, 4, 0] rfl ?_
        exact sMo_worked_46 hc hRm hr14 v1 v2 v3 x1 _
set_option maxRecDepth 100000 in
set_option maxHeartbeats 4000000 in
theorem sMo_worked_14 {fin : Int32 × zM} (hc : zCx p s mi args meth c (wM D b) m0 RX10 cX10_worked 6 (some .int)) (hRm : R.frames = 2 ∧ R.locals = 43 ∧ R.cells = zc (wM D b) m0 fin.2 ∧ R.slots = zs (wM D b) m0 fin.2) : ∀ (zf : Nat) (v1 : Int32) (v2 : Int32) (v3 : Int32) (u : zM), zJ eI p l e R s mi args below meth c (wM D b) m0 6 fin 14 [(0, .ref 1), (1, .int v1), (2, .int v2), (3, .int v3)] [] u (Mo_worked_14 zf v1 v2 v3 u) := by
  intro zf
  induction zf with
  | zero => intro v1 v2 v3 u; exact zJ.nil
  | succ zf ih => intro v1 v2 v3 u; exact sMo_worked_14b hc hRm ih v1 v2 v3 u
set_option maxRecDepth 100000 in
set_option maxHeartbeats 4000000 in
theorem sMo_worked : ∀ (v1 : Int32) (u : zM) r m1, Mo_worked v1 u = some (r, m1) → zMet l (wM D b) 2 43 yX10_worked cX10_worked 6 (some .int) [.ref 1, .int v1] u (eI r) m1 := by
  intro v1 u
  refine zMet.of (L := [(0, .ref 1), (1, .int v1)]) RX10 (by decide +kernel) rfl (Nat.le_of_ble_eq_true rfl) (fun h => by cases h) rfl (fun p e s mi args below meth c R fin hc hin hRm => ?_)
  unfold Mo_worked
  refine z_iconst (v := 0) hc dX10_worked_0 rfl ?_
  refine z_istore_n (L' := [(2, .int 0), (0, .ref 1), (1, .int v1)]) hc dX10_worked_1 rfl (by decide) rfl rfl ?_
  refine z_aload_n hc dX10_worked_2 1 rfl rfl ?_
  refine z_iconst (v := 0) hc dX10_worked_3 rfl ?_
  refine z_callV (av := [.int 0]) (enc' := eV) hc rfl (sMo_opens 0 _) (ci := 10) (by decide) lM1 (zkM lM1) rfl wMX10_243 hpyX10_opens hmyX10_opens (rm_ok hRm (Nat.le_of_ble_eq_true rfl) (Nat.le_of_ble_eq_true rfl)) (Nat.le_of_ble_eq_true rfl) hRm.2.2 dX10_worked_4 (fun c1 u1 f1 => ?_)
  refine z_aload_n hc dX10_worked_7 1 rfl rfl ?_
  refine z_getR (x := 17) hc (ci := 10) (k := 24) (by decide) (by decide) zly10 lM1 (zkM lM1) wFX10_56 rfl dX10_worked_8 rfl (by decide) ?_
  refine z_iload_n hc dX10_worked_11 2 rfl rfl ?_
  refine zJ.chk _ (fun h1 => ?_)
  refine z_iald (k := (ix v1)) hc lM17 (zkM lM17) h1 rfl dX10_worked_12 ?_
  refine zJ.letI (fun x1 e1 => ?_)
  refine z_istore_n (L' := [(3, .int x1), (2, .int 0), (0, .ref 1), (1, .int v1)]) hc dX10_worked_13 rfl (by decide) rfl rfl ?_
  refine zJ.sub (L' := [(0, .ref 1), (1, .int v1), (2, .int 0), (3, .int x1)]) [2, 3, 1, 0] rfl ?_
  exact sMo_worked_14 hc hRm zF v1 0 x1 _
set_option maxRecDepth 100000 in
set_option maxHeartbeats 4000000 in
theorem sMo_isKept : ∀ (u : zM) r m1, Mo_isKept u = some (r, m1) → zMet l (wM D b) 0 0 yX10_isKept cX10_isKept 1 (some .boolean) [.ref 1] u (eI r) m1 := by
  intro u
  refine zMet.of (L := [(0, .ref 1)]) RX10 (by decide +kernel) rfl (Nat.le_of_ble_eq_true rfl) (fun h => by cases h) rfl (fun p e s mi args below meth c R fin hc hin hRm => ?_)
  unfold Mo_isKept
  refine z_aload_n hc dX10_isKept_0 0 rfl rfl ?_
  refine z_getI hc (ci := 10) (k := 6) (by decide) (by decide) zly10 lM1 (zkM lM1) wFX10_187 rfl dX10_isKept_1 ?_
  refine z_iconst (v := 1) hc dX10_isKept_4 rfl ?_
  refine z_icmp_eq (tgt := 10) hc dX10_isKept_5 (by decide) _ (fun h1 => ?_) (fun h1 => ?_)
  · refine z_aload_n hc dX10_isKept_10 0 rfl rfl ?_
    refine z_getL hc (ci := 10) (k := 7) (by decide) (by decide) zly10 lM1 (zkM lM1) wFX10_180 rfl dX10_isKept_11 ?_
    refine z_ldc2 (v := 8740067) hc wKX10_249 dX10_isKept_14 ?_
    refine z_lcmp hc dX10_isKept_17 ?_
    refine z_if_eq (tgt := 263) hc dX10_isKept_18 (by decide) _ (fun h2 => ?_) (fun h2 => ?_)
    · refine z_iconst (v := 1) hc dX10_isKept_263 rfl ?_
      refine z_goto (tgt := 268) hc dX10_isKept_264 (by decide) ?_
      exact z_zret hc rfl dX10_isKept_268
    · refine z_aload_n hc dX10_isKept_21 0 rfl rfl ?_
      refine z_getL hc (ci := 10) (k := 7) (by decide) (by decide) zly10 lM1 (zkM lM1) wFX10_180 rfl dX10_isKept_22 ?_
      refine z_ldc2 (v := 12257559) hc wKX10_251 dX10_isKept_25 ?_
      refine z_lcmp hc dX10_isKept_28 ?_
      refine z_if_eq (tgt := 263) hc dX10_isKept_29 (by decide) _ (fun h3 => ?_) (fun h3 => ?_)
      · refine z_iconst (v := 1) hc dX10_isKept_263 rfl ?_
        refine z_goto (tgt := 268) hc dX10_isKept_264 (by decide) ?_
        exact z_zret hc rfl dX10_isKept_268
      · refine z_aload_n hc dX10_isKept_32 0 rfl rfl ?_
        refine z_getL hc (ci := 10) (k := 7) (by decide) (by decide) zly10 lM1 (zkM lM1) wFX10_180 rfl dX10_isKept_33 ?_
        refine z_ldc2 (v := 283616032) hc wKX10_253 dX10_isKept_36 ?_
        refine z_lcmp hc dX10_isKept_39 ?_
        refine z_if_eq (tgt := 263) hc dX10_isKept_40 (by decide) _ (fun h4 => ?_) (fun h4 => ?_)
        · refine z_iconst (v := 1) hc dX10_isKept_263 rfl ?_
          refine z_goto (tgt := 268) hc dX10_isKept_264 (by decide) ?_
          exact z_zret hc rfl dX10_isKept_268
        · refine z_aload_n hc dX10_isKept_43 0 rfl rfl ?_
          refine z_getL hc (ci := 10) (k := 7) (by decide) (by decide) zly10 lM1 (zkM lM1) wFX10_180 rfl dX10_isKept_44 ?_
          refine z_ldc2 (v := 232608281) hc wKX10_255 dX10_isKept_47 ?_
          refine z_lcmp hc dX10_isKept_50 ?_
          refine z_if_eq (tgt := 263) hc dX10_isKept_51 (by decide) _ (fun h5 => ?_) (fun h5 => ?_)
          · refine z_iconst (v := 1) hc dX10_isKept_263 rfl ?_
            refine z_goto (tgt := 268) hc dX10_isKept_264 (by decide) ?_
            exact z_zret hc rfl dX10_isKept_268
          · refine z_aload_n hc dX10_isKept_54 0 rfl rfl ?_
            refine z_getL hc (ci := 10) (k := 7) (by decide) (by decide) zly10 lM1 (zkM lM1) wFX10_180 rfl dX10_isKept_55 ?_
            refine z_ldc2 (v := 257) hc wKX10_257 dX10_isKept_58 ?_
            refine z_lcmp hc dX10_isKept_61 ?_
            refine z_if_eq (tgt := 263) hc dX10_isKept_62 (by decide) _ (fun h6 => ?_) (fun h6 => ?_)
            · refine z_iconst (v := 1) hc dX10_isKept_263 rfl ?_
              refine z_goto (tgt := 268) hc dX10_isKept_264 (by decide) ?_
              exact z_zret hc rfl dX10_isKept_268
            · refine z_aload_n hc dX10_isKept_65 0 rfl rfl ?_
              refine z_getL hc (ci := 10) (k := 7) (by decide) (by decide) zly10 lM1 (zkM lM1) wFX10_180 rfl dX10_isKept_66 ?_
              refine z_ldc2 (v := 8380008) hc wKX10_259 dX10_isKept_69 ?_
              refine z_lcmp hc dX10_isKept_72 ?_
              refine z_if_eq (tgt := 263) hc dX10_isKept_73 (by decide) _ (fun h7 => ?_) (fun h7 => ?_)
              · refine z_iconst (v := 1) hc dX10_isKept_263 rfl ?_
                refine z_goto (tgt := 268) hc dX10_isKept_264 (by decide) ?_
                exact z_zret hc rfl dX10_isKept_268
              · refine z_aload_n hc dX10_isKept_76 0 rfl rfl ?_
                refine z_getL hc (ci := 10) (k := 7) (by decide) (by decide) zly10 lM1 (zkM lM1) wFX10_180 rfl dX10_isKept_77 ?_
                refine z_ldc2 (v := 315743) hc wKX10_261 dX10_isKept_80 ?_
                refine z_lcmp hc dX10_isKept_83 ?_
                refine z_if_eq (tgt := 263) hc dX10_isKept_84 (by decide) _ (fun h8 => ?_) (fun h8 => ?_)
                · refine z_iconst (v := 1) hc dX10_isKept_263 rfl ?_
                  refine z_goto (tgt := 268) hc dX10_isKept_264 (by decide) ?_
                  exact z_zret hc rfl dX10_isKept_268
                · refine z_aload_n hc dX10_isKept_87 0 rfl rfl ?_
                  refine z_getL hc (ci := 10) (k := 7) (by decide) (by decide) zly10 lM1 (zkM lM1) wFX10_180 rfl dX10_isKept_88 ?_
                  refine z_ldc2 (v := 466094) hc wKX10_263 dX10_isKept_91 ?_
                  refine z_lcmp hc dX10_isKept_94 ?_
                  refine z_if_eq (tgt := 263) hc dX10_isKept_95 (by decide) _ (fun h9 => ?_) (fun h9 => ?_)
                  · refine z_iconst (v := 1) hc dX10_isKept_263 rfl ?_
                    refine z_goto (tgt := 268) hc dX10_isKept_264 (by decide) ?_
                    exact z_zret hc rfl dX10_isKept_268
                  · refine z_aload_n hc dX10_isKept_98 0 rfl rfl ?_
                    refine z_getL hc (ci := 10) (k := 7) (by decide) (by decide) zly10 lM1 (zkM lM1) wFX10_180 rfl dX10_isKept_99 ?_
                    refine z_ldc2 (v := 4797) hc wKX10_265 dX10_isKept_102 ?_
                    refine z_lcmp hc dX10_isKept_105 ?_
                    refine z_if_eq (tgt := 263) hc dX10_isKept_106 (by decide) _ (fun h10 => ?_) (fun h10 => ?_)
                    · refine z_iconst (v := 1) hc dX10_isKept_263 rfl ?_
                      refine z_goto (tgt := 268) hc dX10_isKept_264 (by decide) ?_
                      exact z_zret hc rfl dX10_isKept_268
                    · refine z_aload_n hc dX10_isKept_109 0 rfl rfl ?_
                      refine z_getL hc (ci := 10) (k := 7) (by decide) (by decide) zly10 lM1 (zkM lM1) wFX10_180 rfl dX10_isKept_110 ?_
                      refine z_ldc2 (v := 79) hc wKX10_267 dX10_isKept_113 ?_
                      refine z_lcmp hc dX10_isKept_116 ?_
                      refine z_if_eq (tgt := 263) hc dX10_isKept_117 (by decide) _ (fun h11 => ?_) (fun h11 => ?_)
                      · refine z_iconst (v := 1) hc dX10_isKept_263 rfl ?_
                        refine z_goto (tgt := 268) hc dX10_isKept_264 (by decide) ?_
                        exact z_zret hc rfl dX10_isKept_268
                      · refine z_aload_n hc dX10_isKept_120 0 rfl rfl ?_
                        refine z_getL hc (ci := 10) (k := 7) (by decide) (by decide) zly10 lM1 (zkM lM1) wFX10_180 rfl dX10_isKept_121 ?_
                        refine z_ldc2 (v := 355280) hc wKX10_269 dX10_isKept_124 ?_
                        refine z_lcmp hc dX10_isKept_127 ?_
                        refine z_if_eq (tgt := 263) hc dX10_isKept_128 (by decide) _ (fun h12 => ?_) (fun h12 => ?_)
                        · refine z_iconst (v := 1) hc dX10_isKept_263 rfl ?_
                          refine z_goto (tgt := 268) hc dX10_isKept_264 (by decide) ?_
                          exact z_zret hc rfl dX10_isKept_268
                        · refine z_aload_n hc dX10_isKept_131 0 rfl rfl ?_
                          refine z_getL hc (ci := 10) (k := 7) (by decide) (by decide) zly10 lM1 (zkM lM1) wFX10_180 rfl dX10_isKept_132 ?_
                          refine z_ldc2 (v := 456913) hc wKX10_271 dX10_isKept_135 ?_
                          refine z_lcmp hc dX10_isKept_138 ?_
                          refine z_if_eq (tgt := 263) hc dX10_isKept_139 (by decide) _ (fun h13 => ?_) (fun h13 => ?_)
                          · refine z_iconst (v := 1) hc dX10_isKept_263 rfl ?_
                            refine z_goto (tgt := 268) hc dX10_isKept_264 (by decide) ?_
                            exact z_zret hc rfl dX10_isKept_268
                          · refine z_aload_n hc dX10_isKept_142 0 rfl rfl ?_
                            refine z_getL hc (ci := 10) (k := 7) (by decide) (by decide) zly10 lM1 (zkM lM1) wFX10_180 rfl dX10_isKept_143 ?_
                            refine z_ldc2 (v := 2968) hc wKX10_273 dX10_isKept_146 ?_
                            refine z_lcmp hc dX10_isKept_149 ?_
                            refine z_if_eq (tgt := 263) hc dX10_isKept_150 (by decide) _ (fun h14 => ?_) (fun h14 => ?_)
                            · refine z_iconst (v := 1) hc dX10_isKept_263 rfl ?_
                              refine z_goto (tgt := 268) hc dX10_isKept_264 (by decide) ?_
                              exact z_zret hc rfl dX10_isKept_268
                            · refine z_aload_n hc dX10_isKept_153 0 rfl rfl ?_
                              refine z_getL hc (ci := 10) (k := 7) (by decide) (by decide) zly10 lM1 (zkM lM1) wFX10_180 rfl dX10_isKept_154 ?_
                              refine z_ldc2 (v := 394691) hc wKX10_275 dX10_isKept_157 ?_
                              refine z_lcmp hc dX10_isKept_160 ?_
                              refine z_if_eq (tgt := 263) hc dX10_isKept_161 (by decide) _ (fun h15 => ?_) (fun h15 => ?_)
                              · refine z_iconst (v := 1) hc dX10_isKept_263 rfl ?_
                                refine z_goto (tgt := 268) hc dX10_isKept_264 (by decide) ?_
                                exact z_zret hc rfl dX10_isKept_268
                              · refine z_aload_n hc dX10_isKept_164 0 rfl rfl ?_
                                refine z_getL hc (ci := 10) (k := 7) (by decide) (by decide) zly10 lM1 (zkM lM1) wFX10_180 rfl dX10_isKept_165 ?_
                                refine z_ldc2 (v := 391000) hc wKX10_277 dX10_isKept_168 ?_
                                refine z_lcmp hc dX10_isKept_171 ?_
                                refine z_if_eq (tgt := 263) hc dX10_isKept_172 (by decide) _ (fun h16 => ?_) (fun h16 => ?_)
                                · refine z_iconst (v := 1) hc dX10_isKept_263 rfl ?_
                                  refine z_goto (tgt := 268) hc dX10_isKept_264 (by decide) ?_
                                  exact z_zret hc rfl dX10_isKept_268
                                · refine z_aload_n hc dX10_isKept_175 0 rfl rfl ?_
                                  refine z_getL hc (ci := 10) (k := 7) (by decide) (by decide) zly10 lM1 (zkM lM1) wFX10_180 rfl dX10_isKept_176 ?_
                                  refine z_ldc2 (v := 10209515) hc wKX10_279 dX10_isKept_179 ?_
                                  refine z_lcmp hc dX10_isKept_182 ?_
                                  refine z_if_eq (tgt := 263) hc dX10_isKept_183 (by decide) _ (fun h17 => ?_) (fun h17 => ?_)
                                  · refine z_iconst (v := 1) hc dX10_isKept_263 rfl ?_
                                    refine z_goto (tgt := 268) hc dX10_isKept_264 (by decide) ?_
                                    exact z_zret hc rfl dX10_isKept_268
                                  · refine z_aload_n hc dX10_isKept_186 0 rfl rfl ?_
                                    refine z_getL hc (ci := 10) (k := 7) (by decide) (by decide) zly10 lM1 (zkM lM1) wFX10_180 rfl dX10_isKept_187 ?_
                                    refine z_ldc2 (v := 8740238) hc wKX10_281 dX10_isKept_190 ?_
                                    refine z_lcmp hc dX10_isKept_193 ?_
                                    refine z_if_eq (tgt := 263) hc dX10_isKept_194 (by decide) _ (fun h18 => ?_) (fun h18 => ?_)
                                    · refine z_iconst (v := 1) hc dX10_isKept_263 rfl ?_
                                      refine z_goto (tgt := 268) hc dX10_isKept_264 (by decide) ?_
                                      exact z_zret hc rfl dX10_isKept_268
                                    · refine z_aload_n hc dX10_isKept_197 0 rfl rfl ?_
                                      refine z_getL hc (ci := 10) (k := 7) (by decide) (by decide) zly10 lM1 (zkM lM1) wFX10_180 rfl dX10_isKept_198 ?_
                                      refine z_ldc2 (v := 453949) hc wKX10_283 dX10_isKept_201 ?_
                                      refine z_lcmp hc dX10_isKept_204 ?_
                                      refine z_if_eq (tgt := 263) hc dX10_isKept_205 (by decide) _ (fun h19 => ?_) (fun h19 => ?_)
                                      · refine z_iconst (v := 1) hc dX10_isKept_263 rfl ?_
                                        refine z_goto (tgt := 268) hc dX10_isKept_264 (by decide) ?_
                                        exact z_zret hc rfl dX10_isKept_268
                                      · refine z_aload_n hc dX10_isKept_208 0 rfl rfl ?_
                                        refine z_getL hc (ci := 10) (k := 7) (by decide) (by decide) zly10 lM1 (zkM lM1) wFX10_180 rfl dX10_isKept_209 ?_
                                        refine z_ldc2 (v := 29628900) hc wKX10_285 dX10_isKept_212 ?_
                                        refine z_lcmp hc dX10_isKept_215 ?_
                                        refine z_if_eq (tgt := 263) hc dX10_isKept_216 (by decide) _ (fun h20 => ?_) (fun h20 => ?_)
                                        · refine z_iconst (v := 1) hc dX10_isKept_263 rfl ?_
                                          refine z_goto (tgt := 268) hc dX10_isKept_264 (by decide) ?_
                                          exact z_zret hc rfl dX10_isKept_268
                                        · refine z_aload_n hc dX10_isKept_219 0 rfl rfl ?_
                                          refine z_getL hc (ci := 10) (k := 7) (by decide) (by decide) zly10 lM1 (zkM lM1) wFX10_180 rfl dX10_isKept_220 ?_
                                          refine z_ldc2 (v := 83023) hc wKX10_287 dX10_isKept_223 ?_
                                          refine z_lcmp hc dX10_isKept_226 ?_
                                          refine z_if_eq (tgt := 263) hc dX10_isKept_227 (by decide) _ (fun h21 => ?_) (fun h21 => ?_)
                                          · refine z_iconst (v := 1) hc dX10_isKept_263 rfl ?_
                                            refine z_goto (tgt := 268) hc dX10_isKept_264 (by decide) ?_
                                            exact z_zret hc rfl dX10_isKept_268
                                          · refine z_aload_n hc dX10_isKept_230 0 rfl rfl ?_
                                            refine z_getL hc (ci := 10) (k := 7) (by decide) (by decide) zly10 lM1 (zkM lM1) wFX10_180 rfl dX10_isKept_231 ?_
                                            refine z_ldc2 (v := 10631) hc wKX10_216 dX10_isKept_234 ?_
                                            refine z_lcmp hc dX10_isKept_237 ?_
                                            refine z_if_eq (tgt := 263) hc dX10_isKept_238 (by decide) _ (fun h22 => ?_) (fun h22 => ?_)
                                            · refine z_iconst (v := 1) hc dX10_isKept_263 rfl ?_
                                              refine z_goto (tgt := 268) hc dX10_isKept_264 (by decide) ?_
                                              exact z_zret hc rfl dX10_isKept_268
                                            · refine z_aload_n hc dX10_isKept_241 0 rfl rfl ?_
                                              refine z_getL hc (ci := 10) (k := 7) (by decide) (by decide) zly10 lM1 (zkM lM1) wFX10_180 rfl dX10_isKept_242 ?_
                                              refine z_ldc2 (v := 1111) hc wKX10_236 dX10_isKept_245 ?_
                                              refine z_lcmp hc dX10_isKept_248 ?_
                                              refine z_if_eq (tgt := 263) hc dX10_isKept_249 (by decide) _ (fun h23 => ?_) (fun h23 => ?_)
                                              · refine z_iconst (v := 1) hc dX10_isKept_263 rfl ?_
                                                refine z_goto (tgt := 268) hc dX10_isKept_264 (by decide) ?_
                                                exact z_zret hc rfl dX10_isKept_268
                                              · refine z_aload_n hc dX10_isKept_252 0 rfl rfl ?_
                                                refine z_getL hc (ci := 10) (k := 7) (by decide) (by decide) zly10 lM1 (zkM lM1) wFX10_180 rfl dX10_isKept_253 ?_
                                                refine z_ldc2 (v := 423) hc wKX10_238 dX10_isKept_256 ?_
                                                refine z_lcmp hc dX10_isKept_259 ?_
                                                refine z_if_ne (tgt := 267) hc dX10_isKept_260 (by decide) _ (fun h24 => ?_) (fun h24 => ?_)
                                                · refine z_iconst (v := 0) hc dX10_isKept_267 rfl ?_
                                                  exact z_zret hc rfl dX10_isKept_268
                                                · refine z_iconst (v := 1) hc dX10_isKept_263 rfl ?_
                                                  refine z_goto (tgt := 268) hc dX10_isKept_264 (by decide) ?_
                                                  exact z_zret hc rfl dX10_isKept_268
  · refine z_iconst (v := 1) hc dX10_isKept_8 rfl ?_
    exact z_zret hc rfl dX10_isKept_9
set_option maxRecDepth 100000 in
set_option maxHeartbeats 4000000 in
theorem sMo_namedIn_3b {fin : Int32 × zM} (hc : zCx p s mi args meth c (wM D b) m0 RX10 cX10_namedIn 5 (some .int)) (hRm : R.frames = 0 ∧ R.locals = 0 ∧ R.cells = zc (wM D b) m0 fin.2 ∧ R.slots = zs (wM D b) m0 fin.2) {zr3 : Nat → Int32 → Int32 → Int32 → zM → Option (Int32 × zM)} (hr3 : ∀ (r1 : Nat) (v2 : Int32) (v3 : Int32) (v4 : Int32) (u : zM), zJ eI p l e R s mi args below meth c (wM D b) m0 5 fin 3 [(0, .ref 1), (1, .ref r1), (2, .int v2), (3, .int v3), (4, .int v4)] [] u (zr3 r1 v2 v3 v4 u)) (r1 : Nat) (v2 : Int32) (v3 : Int32) (v4 : Int32) (u : zM) : zJ eI p l e R s mi args below meth c (wM D b) m0 5 fin 3 [(0, .ref 1), (1, .ref r1), (2, .int v2), (3, .int v3), (4, .int v4)] [] u (Mo_namedIn_3b zr3 r1 v2 v3 v4 u) := by
  unfold Mo_namedIn_3b
  refine zJ.chk _ (fun h1 => ?_)
  refine z_iload hc dX10_namedIn_3 4 rfl ?_
  refine z_iload_n hc dX10_namedIn_5 2 rfl rfl ?_
  refine z_iload_n hc dX10_namedIn_6 3 rfl rfl ?_
  refine z_iadd hc dX10_namedIn_7 ?_
  refine z_icmp_ge (tgt := 34) hc dX10_namedIn_8 (by decide) _ (fun h2 => ?_) (fun h2 => ?_)
  · refine z_iconst (v := (-1)) hc dX10_namedIn_34 rfl ?_
    exact z_iret hc dX10_namedIn_35
  · refine z_aload_n hc dX10_namedIn_11 1 rfl rfl ?_
    refine z_iload hc dX10_namedIn_12 4 rfl ?_
    refine zJ.chk _ (fun h3 => ?_)
    refine z_lald (k := (ix v4)) hc (lyM h1) (zkM (lyM h1)) h3 rfl dX10_namedIn_14 ?_
    refine z_aload_n hc dX10_namedIn_15 0 rfl rfl ?_
    refine z_getL hc (ci := 10) (k := 7) (by decide) (by decide) zly10 lM1 (zkM lM1) wFX10_180 rfl dX10_namedIn_16 ?_
    refine z_lcmp hc dX10_namedIn_19 ?_
    refine z_if_ne (tgt := 28) hc dX10_namedIn_20 (by decide) _ (fun h4 => ?_) (fun h4 => ?_)
    · refine z_iinc (L' := [(4, .int (v4 + 1)), (0, .ref 1), (1, .ref r1), (2, .int v2), (3, .int v3)]) hc dX10_namedIn_28 4 rfl (v := (v4 + 1)) rfl (by decide) rfl rfl ?_
      refine z_goto (tgt := 3) hc dX10_namedIn_31 (by decide) ?_
      refine zJ.sub (L' := [(0, .ref 1), (1, .ref r1), (2, .int v2), (3, .int v3), (4, .int (v4 + 1))]) [1, 2, 3, 4, 0] rfl ?_
      exact hr3 r1 v2 v3 (v4 + 1) _
    · refine z_iload hc dX10_namedIn_23 4 rfl ?_
      refine z_iload_n hc dX10_namedIn_25 2 rfl rfl ?_
      refine z_isub hc dX10_namedIn_26 ?_
      exact z_iret hc dX10_namedIn_27
set_option maxRecDepth 100000 in
set_option maxHeartbeats 4000000 in
theorem sMo_namedIn_3 {fin : Int32 × zM} (hc : zCx p s mi args meth c (wM D b) m0 RX10 cX10_namedIn 5 (some .int)) (hRm : R.frames = 0 ∧ R.locals = 0 ∧ R.cells = zc (wM D b) m0 fin.2 ∧ R.slots = zs (wM D b) m0 fin.2) : ∀ (zf : Nat) (r1 : Nat) (v2 : Int32) (v3 : Int32) (v4 : Int32) (u : zM), zJ eI p l e R s mi args below meth c (wM D b) m0 5 fin 3 [(0, .ref 1), (1, .ref r1), (2, .int v2), (3, .int v3), (4, .int v4)] [] u (Mo_namedIn_3 zf r1 v2 v3 v4 u) := by
  intro zf
  induction zf with
  | zero => intro r1 v2 v3 v4 u; exact zJ.nil
  | succ zf ih => intro r1 v2 v3 v4 u; exact sMo_namedIn_3b hc hRm ih r1 v2 v3 v4 u
set_option maxRecDepth 100000 in
set_option maxHeartbeats 4000000 in
theorem sMo_namedIn : ∀ (r1 : Nat) (v2 : Int32) (v3 : Int32) (u : zM) r m1, Mo_namedIn r1 v2 v3 u = some (r, m1) → zMet l (wM D b) 0 0 yX10_namedIn cX10_namedIn 5 (some .int) [.ref 1, .ref r1, .int v2, .int v3] u (eI r) m1 := by
  intro r1 v2 v3 u
  refine zMet.of (L := [(0, .ref 1), (1, .ref r1), (2, .int v2), (3, .int v3)]) RX10 (by decide +kernel) rfl (Nat.le_of_ble_eq_true rfl) (fun h => by cases h) rfl (fun p e s mi args below meth c R fin hc hin hRm => ?_)
  unfold Mo_namedIn
  refine zJ.chk _ (fun h1 => ?_)
  refine z_iload_n hc dX10_namedIn_0 2 rfl rfl ?_
  refine z_istore (L' := [(4, .int v2), (0, .ref 1), (1, .ref r1), (2, .int v2), (3, .int v3)]) hc dX10_namedIn_1 (by decide) rfl rfl ?_
  refine zJ.sub (L' := [(0, .ref 1), (1, .ref r1), (2, .int v2), (3, .int v3), (4, .int v2)]) [1, 2, 3, 4, 0] rfl ?_
  exact sMo_namedIn_3 hc hRm zF r1 v2 v3 v2 _
set_option maxRecDepth 100000 in
set_option maxHeartbeats 4000000 in
theorem sMo_placeNamed : ∀ (v1 : Int32) (u : zM) r m1, Mo_placeNamed v1 u = some (r, m1) → zMet l (wM D b) 1 24 yX10_placeNamed cX10_placeNamed 2 (some .int) [.ref 1, .int v1] u (eI r) m1 := by
  intro v1 u
  refine zMet.of (L := [(0, .ref 1), (1, .int v1)]) RX10 (by decide +kernel) rfl (Nat.le_of_ble_eq_true rfl) (fun h => by cases h) rfl (fun p e s mi args below meth c R fin hc hin hRm => ?_)
  unfold Mo_placeNamed
  refine z_aload_n hc dX10_placeNamed_0 0 rfl rfl ?_
  refine z_aload_n hc dX10_placeNamed_1 0 rfl rfl ?_
  refine z_getR (x := 4) hc (ci := 10) (k := 11) (by decide) (by decide) zly10 lM1 (zkM lM1) wFX10_16 rfl dX10_placeNamed_2 rfl (by decide) ?_
  refine z_bipush (v := 7) hc dX10_placeNamed_5 rfl ?_
  refine z_iload_n hc dX10_placeNamed_7 1 rfl rfl ?_
  refine z_imul hc dX10_placeNamed_8 ?_
  refine z_aload_n hc dX10_placeNamed_9 0 rfl rfl ?_
  refine z_getR (x := 3) hc (ci := 10) (k := 10) (by decide) (by decide) zly10 lM1 (zkM lM1) wFX10_13 rfl dX10_placeNamed_10 rfl (by decide) ?_
  refine z_bipush (v := 6) hc dX10_placeNamed_13 rfl ?_
  refine z_iload_n hc dX10_placeNamed_15 1 rfl rfl ?_
  refine z_imul hc dX10_placeNamed_16 ?_
  refine z_iconst (v := 0) hc dX10_placeNamed_17 rfl ?_
  refine z_iadd hc dX10_placeNamed_18 ?_
  refine zJ.chk _ (fun h1 => ?_)
  refine z_iald (k := (ix ((6 * v1) + 0))) hc lM3 (zkM lM3) h1 rfl dX10_placeNamed_19 ?_
  refine z_callV (av := [.ref 4, .int (7 * v1), .int (gI u 3 (ix ((6 * v1) + 0)))]) (enc' := eI) hc rfl (sMo_namedIn 4 (7 * v1) (gI u 3 (ix ((6 * v1) + 0))) _) (ci := 10) (by decide) lM1 (zkM lM1) rfl wMX10_289 hpyX10_namedIn hmyX10_namedIn (rm_ok hRm (Nat.le_of_ble_eq_true rfl) (Nat.le_of_ble_eq_true rfl)) (Nat.le_of_ble_eq_true rfl) hRm.2.2 dX10_placeNamed_20 (fun c1 u1 f1 => ?_)
  exact z_iret hc dX10_placeNamed_23
set_option maxRecDepth 100000 in
set_option maxHeartbeats 4000000 in
theorem sMo_personNamed : ∀ (v1 : Int32) (u : zM) r m1, Mo_personNamed v1 u = some (r, m1) → zMet l (wM D b) 1 24 yX10_personNamed cX10_personNamed 2 (some .int) [.ref 1, .int v1] u (eI r) m1 := by
  intro v1 u
  refine zMet.of (L := [(0, .ref 1), (1, .int v1)]) RX10 (by decide +kernel) rfl (Nat.le_of_ble_eq_true rfl) (fun h => by cases h) rfl (fun p e s mi args below meth c R fin hc hin hRm => ?_)
  unfold Mo_personNamed
  refine z_aload_n hc dX10_personNamed_0 0 rfl rfl ?_
  refine z_aload_n hc dX10_personNamed_1 0 rfl rfl ?_
  refine z_getR (x := 5) hc (ci := 10) (k := 12) (by decide) (by decide) zly10 lM1 (zkM lM1) wFX10_20 rfl dX10_personNamed_2 rfl (by decide) ?_
  refine z_iconst (v := 5) hc dX10_personNamed_5 rfl ?_
  refine z_iload_n hc dX10_personNamed_6 1 rfl rfl ?_
  refine z_imul hc dX10_personNamed_7 ?_
  refine z_aload_n hc dX10_personNamed_8 0 rfl rfl ?_
  refine z_getR (x := 3) hc (ci := 10) (k := 10) (by decide) (by decide) zly10 lM1 (zkM lM1) wFX10_13 rfl dX10_personNamed_9 rfl (by decide) ?_
  refine z_bipush (v := 6) hc dX10_personNamed_12 rfl ?_
  refine z_iload_n hc dX10_personNamed_14 1 rfl rfl ?_
  refine z_imul hc dX10_personNamed_15 ?_
  refine z_iconst (v := 2) hc dX10_personNamed_16 rfl ?_
  refine z_iadd hc dX10_personNamed_17 ?_
  refine zJ.chk _ (fun h1 => ?_)
  refine z_iald (k := (ix ((6 * v1) + 2))) hc lM3 (zkM lM3) h1 rfl dX10_personNamed_18 ?_
  refine z_callV (av := [.ref 5, .int (5 * v1), .int (gI u 3 (ix ((6 * v1) + 2)))]) (enc' := eI) hc rfl (sMo_namedIn 5 (5 * v1) (gI u 3 (ix ((6 * v1) + 2))) _) (ci := 10) (by decide) lM1 (zkM lM1) rfl wMX10_289 hpyX10_namedIn hmyX10_namedIn (rm_ok hRm (Nat.le_of_ble_eq_true rfl) (Nat.le_of_ble_eq_true rfl)) (Nat.le_of_ble_eq_true rfl) hRm.2.2 dX10_personNamed_19 (fun c1 u1 f1 => ?_)
  exact z_iret hc dX10_personNamed_22
set_option maxRecDepth 100000 in
set_option maxHeartbeats 4000000 in
theorem sMo_otterNamed : ∀ (v1 : Int32) (u : zM) r m1, Mo_otterNamed v1 u = some (r, m1) → zMet l (wM D b) 1 24 yX10_otterNamed cX10_otterNamed 2 (some .int) [.ref 1, .int v1] u (eI r) m1 := by
  intro v1 u
  refine zMet.of (L := [(0, .ref 1), (1, .int v1)]) RX10 (by decide +kernel) rfl (Nat.le_of_ble_eq_true rfl) (fun h => by cases h) rfl (fun p e s mi args below meth c R fin hc hin hRm => ?_)
  unfold Mo_otterNamed
  refine z_aload_n hc dX10_otterNamed_0 0 rfl rfl ?_
  refine z_aload_n hc dX10_otterNamed_1 0 rfl rfl ?_
  refine z_getR (x := 6) hc (ci := 10) (k := 13) (by decide) (by decide) zly10 lM1 (zkM lM1) wFX10_23 rfl dX10_otterNamed_2 rfl (by decide) ?_
  refine z_iconst (v := 3) hc dX10_otterNamed_5 rfl ?_
  refine z_iload_n hc dX10_otterNamed_6 1 rfl rfl ?_
  refine z_imul hc dX10_otterNamed_7 ?_
  refine z_aload_n hc dX10_otterNamed_8 0 rfl rfl ?_
  refine z_getR (x := 3) hc (ci := 10) (k := 10) (by decide) (by decide) zly10 lM1 (zkM lM1) wFX10_13 rfl dX10_otterNamed_9 rfl (by decide) ?_
  refine z_bipush (v := 6) hc dX10_otterNamed_12 rfl ?_
  refine z_iload_n hc dX10_otterNamed_14 1 rfl rfl ?_
  refine z_imul hc dX10_otterNamed_15 ?_
  refine z_iconst (v := 3) hc dX10_otterNamed_16 rfl ?_
  refine z_iadd hc dX10_otterNamed_17 ?_
  refine zJ.chk _ (fun h1 => ?_)
  refine z_iald (k := (ix ((6 * v1) + 3))) hc lM3 (zkM lM3) h1 rfl dX10_otterNamed_18 ?_
  refine z_callV (av := [.ref 6, .int (3 * v1), .int (gI u 3 (ix ((6 * v1) + 3)))]) (enc' := eI) hc rfl (sMo_namedIn 6 (3 * v1) (gI u 3 (ix ((6 * v1) + 3))) _) (ci := 10) (by decide) lM1 (zkM lM1) rfl wMX10_289 hpyX10_namedIn hmyX10_namedIn (rm_ok hRm (Nat.le_of_ble_eq_true rfl) (Nat.le_of_ble_eq_true rfl)) (Nat.le_of_ble_eq_true rfl) hRm.2.2 dX10_otterNamed_19 (fun c1 u1 f1 => ?_)
  exact z_iret hc dX10_otterNamed_22
set_option maxRecDepth 100000 in
set_option maxHeartbeats 4000000 in
theorem sMo_writNamed : ∀ (v1 : Int32) (u : zM) r m1, Mo_writNamed v1 u = some (r, m1) → zMet l (wM D b) 1 24 yX10_writNamed cX10_writNamed 2 (some .int) [.ref 1, .int v1] u (eI r) m1 := by
  intro v1 u
  refine zMet.of (L := [(0, .ref 1), (1, .int v1)]) RX10 (by decide +kernel) rfl (Nat.le_of_ble_eq_true rfl) (fun h => by cases h) rfl (fun p e s mi args below meth c R fin hc hin hRm => ?_)
  unfold Mo_writNamed
  refine z_aload_n hc dX10_writNamed_0 0 rfl rfl ?_
  refine z_aload_n hc dX10_writNamed_1 0 rfl rfl ?_
  refine z_getR (x := 7) hc (ci := 10) (k := 14) (by decide) (by decide) zly10 lM1 (zkM lM1) wFX10_26 rfl dX10_writNamed_2 rfl (by decide) ?_
  refine z_bipush (v := 6) hc dX10_writNamed_5 rfl ?_
  refine z_iload_n hc dX10_writNamed_7 1 rfl rfl ?_
  refine z_imul hc dX10_writNamed_8 ?_
  refine z_aload_n hc dX10_writNamed_9 0 rfl rfl ?_
  refine z_getR (x := 3) hc (ci := 10) (k := 10) (by decide) (by decide) zly10 lM1 (zkM lM1) wFX10_13 rfl dX10_writNamed_10 rfl (by decide) ?_
  refine z_bipush (v := 6) hc dX10_writNamed_13 rfl ?_
  refine z_iload_n hc dX10_writNamed_15 1 rfl rfl ?_
  refine z_imul hc dX10_writNamed_16 ?_
  refine z_iconst (v := 4) hc dX10_writNamed_17 rfl ?_
  refine z_iadd hc dX10_writNamed_18 ?_
  refine zJ.chk _ (fun h1 => ?_)
  refine z_iald (k := (ix ((6 * v1) + 4))) hc lM3 (zkM lM3) h1 rfl dX10_writNamed_19 ?_
  refine z_callV (av := [.ref 7, .int (6 * v1), .int (gI u 3 (ix ((6 * v1) + 4)))]) (enc' := eI) hc rfl (sMo_namedIn 7 (6 * v1) (gI u 3 (ix ((6 * v1) + 4))) _) (ci := 10) (by decide) lM1 (zkM lM1) rfl wMX10_289 hpyX10_namedIn hmyX10_namedIn (rm_ok hRm (Nat.le_of_ble_eq_true rfl) (Nat.le_of_ble_eq_true rfl)) (Nat.le_of_ble_eq_true rfl) hRm.2.2 dX10_writNamed_20 (fun c1 u1 f1 => ?_)
  exact z_iret hc dX10_writNamed_23
set_option maxRecDepth 100000 in
set_option maxHeartbeats 4000000 in
theorem sMo_needsNumber : ∀ (v1 : Int32) (v2 : Int32) (u : zM) r m1, Mo_needsNumber v1 v2 u = some (r, m1) → zMet l (wM D b) 2 42 yX10_needsNumber cX10_needsNumber 3 (some .boolean) [.ref 1, .int v1, .int v2] u (eI r) m1 := by
  intro v1 v2 u
  refine zMet.of (L := [(0, .ref 1), (1, .int v1), (2, .int v2)]) RX10 (by decide +kernel) rfl (Nat.le_of_ble_eq_true rfl) (fun h => by cases h) rfl (fun p e s mi args below meth c R fin hc hin hRm => ?_)
  unfold Mo_needsNumber
  refine z_aload_n hc dX10_needsNumber_0 0 rfl rfl ?_
  refine z_getI hc (ci := 10) (k := 6) (by decide) (by decide) zly10 lM1 (zkM lM1) wFX10_187 rfl dX10_needsNumber_1 ?_
  refine z_iconst (v := 2) hc dX10_needsNumber_4 rfl ?_
  refine z_icmp_eq (tgt := 14) hc dX10_needsNumber_5 (by decide) _ (fun h1 => ?_) (fun h1 => ?_)
  · refine z_aload_n hc dX10_needsNumber_14 0 rfl rfl ?_
    refine z_getI hc (ci := 10) (k := 8) (by decide) (by decide) zly10 lM1 (zkM lM1) wFX10_184 rfl dX10_needsNumber_15 ?_
    refine z_iload_n hc dX10_needsNumber_18 1 rfl rfl ?_
    refine z_iload_n hc dX10_needsNumber_19 2 rfl rfl ?_
    refine z_callS (av := [.int (gI u 1 8), .int v1, .int v2]) (enc' := eI) hc rfl (sMo_within (gI u 1 8) v1 v2 _) wMX10_293 hpyX10_within hmyX10_within (rm_ok hRm (Nat.le_of_ble_eq_true rfl) (Nat.le_of_ble_eq_true rfl)) (Nat.le_of_ble_eq_true rfl) hRm.2.2 dX10_needsNumber_20 (fun c1 u1 f1 => ?_)
    refine z_if_ne (tgt := 32) hc dX10_needsNumber_23 (by decide) _ (fun h2 => ?_) (fun h2 => ?_)
    · refine z_aload_n hc dX10_needsNumber_32 0 rfl rfl ?_
      refine z_aload_n hc dX10_needsNumber_33 0 rfl rfl ?_
      refine z_getI hc (ci := 10) (k := 8) (by decide) (by decide) zly10 lM1 (zkM lM1) wFX10_184 rfl dX10_needsNumber_34 ?_
      refine z_putI hc (ci := 10) (k := 40) (by decide) (by decide) zly10 lM1 (zkM lM1) wFX10_297 rfl rfl rfl rfl dX10_needsNumber_37 ?_
      refine zJ.letM (fun u2 e1 => ?_)
      refine z_aload_n hc dX10_needsNumber_40 0 rfl rfl ?_
      refine z_callV (av := []) (enc' := eV) hc rfl (sMo_nextToken _) (ci := 10) (by decide) lM1 (zkM lM1) rfl wMX10_233 hpyX10_nextToken hmyX10_nextToken (rm_ok hRm (Nat.le_of_ble_eq_true rfl) (Nat.le_of_ble_eq_true rfl)) (Nat.le_of_ble_eq_true rfl) hRm.2.2 dX10_needsNumber_41 (fun c2 u3 f2 => ?_)
      refine z_iconst (v := 1) hc dX10_needsNumber_44 rfl ?_
      exact z_zret hc rfl dX10_needsNumber_45
    · refine z_aload_n hc dX10_needsNumber_26 0 rfl rfl ?_
      refine z_iconst (v := 4) hc dX10_needsNumber_27 rfl ?_
      refine z_callV (av := [.int 4]) (enc' := eI) hc rfl (sMo_fails 4 _) (ci := 10) (by decide) lM1 (zkM lM1) rfl wMX10_226 hpyX10_fails hmyX10_fails (rm_ok hRm (Nat.le_of_ble_eq_true rfl) (Nat.le_of_ble_eq_true rfl)) (Nat.le_of_ble_eq_true rfl) hRm.2.2 dX10_needsNumber_28 (fun c3 u4 f3 => ?_)
      exact z_zretC hc dX10_needsNumber_31
  · refine z_aload_n hc dX10_needsNumber_8 0 rfl rfl ?_
    refine z_iconst (v := 1) hc dX10_needsNumber_9 rfl ?_
    refine z_callV (av := [.int 1]) (enc' := eI) hc rfl (sMo_fails 1 _) (ci := 10) (by decide) lM1 (zkM lM1) rfl wMX10_226 hpyX10_fails hmyX10_fails (rm_ok hRm (Nat.le_of_ble_eq_true rfl) (Nat.le_of_ble_eq_true rfl)) (Nat.le_of_ble_eq_true rfl) hRm.2.2 dX10_needsNumber_10 (fun c4 u5 f4 => ?_)
    exact z_zretC hc dX10_needsNumber_13
set_option maxRecDepth 100000 in
set_option maxHeartbeats 4000000 in
theorem sMo_needsWord : ∀ (v1 : Int64) (u : zM) r m1, Mo_needsWord v1 u = some (r, m1) → zMet l (wM D b) 2 42 yX10_needsWord cX10_needsWord 3 (some .boolean) [.ref 1, .long v1] u (eI r) m1 := by
  intro v1 u
  refine zMet.of (L := [(0, .ref 1), (1, .long v1)]) RX10 (by decide +kernel) rfl (Nat.le_of_ble_eq_true rfl) (fun h => by cases h) rfl (fun p e s mi args below meth c R fin hc hin hRm => ?_)
  unfold Mo_needsWord
  refine z_aload_n hc dX10_needsWord_0 0 rfl rfl ?_
  refine z_lload_n hc dX10_needsWord_1 1 rfl rfl ?_
  refine z_callV (av := [.long v1]) (enc' := eI) hc rfl (sMo_isWord v1 _) (ci := 10) (by decide) lM1 (zkM lM1) rfl wMX10_218 hpyX10_isWord hmyX10_isWord (rm_ok hRm (Nat.le_of_ble_eq_true rfl) (Nat.le_of_ble_eq_true rfl)) (Nat.le_of_ble_eq_true rfl) hRm.2.2 dX10_needsWord_2 (fun c1 u1 f1 => ?_)
  refine z_if_ne (tgt := 14) hc dX10_needsWord_5 (by decide) _ (fun h1 => ?_) (fun h1 => ?_)
  · refine z_aload_n hc dX10_needsWord_14 0 rfl rfl ?_
    refine z_callV (av := []) (enc' := eV) hc rfl (sMo_nextToken _) (ci := 10) (by decide) lM1 (zkM lM1) rfl wMX10_233 hpyX10_nextToken hmyX10_nextToken (rm_ok hRm (Nat.le_of_ble_eq_true rfl) (Nat.le_of_ble_eq_true rfl)) (Nat.le_of_ble_eq_true rfl) hRm.2.2 dX10_needsWord_15 (fun c2 u2 f2 => ?_)
    refine z_iconst (v := 1) hc dX10_needsWord_18 rfl ?_
    exact z_zret hc rfl dX10_needsWord_19
  · refine z_aload_n hc dX10_needsWord_8 0 rfl rfl ?_
    refine z_iconst (v := 1) hc dX10_needsWord_9 rfl ?_
    refine z_callV (av := [.int 1]) (enc' := eI) hc rfl (sMo_fails 1 _) (ci := 10) (by decide) lM1 (zkM lM1) rfl wMX10_226 hpyX10_fails hmyX10_fails (rm_ok hRm (Nat.le_of_ble_eq_true rfl) (Nat.le_of_ble_eq_true rfl)) (Nat.le_of_ble_eq_true rfl) hRm.2.2 dX10_needsWord_10 (fun c3 u3 f3 => ?_)
    exact z_zretC hc dX10_needsWord_13
set_option maxRecDepth 100000 in
set_option maxHeartbeats 4000000 in
theorem sMo_needsBoth : ∀ (v1 : Int64) (v3 : Int32) (v4 : Int32) (u : zM) r m1, Mo_needsBoth v1 v3 v4 u = some (r, m1) → zMet l (wM D b) 3 64 yX10_needsBoth cX10_needsBoth 5 (some .boolean) [.ref 1, .long v1, .int v3, .int v4] u (eI r) m1 := by
  intro v1 v3 v4 u
  refine zMet.of (L := [(0, .ref 1), (1, .long v1), (3, .int v3), (4, .int v4)]) RX10 (by decide +kernel) rfl (Nat.le_of_ble_eq_true rfl) (fun h => by cases h) rfl (fun p e s mi args below meth c R fin hc hin hRm => ?_)
  unfold Mo_needsBoth
  refine z_aload_n hc dX10_needsBoth_0 0 rfl rfl ?_
  refine z_lload_n hc dX10_needsBoth_1 1 rfl rfl ?_
  refine z_callV (av := [.long v1]) (enc' := eI) hc rfl (sMo_needsWord v1 _) (ci := 10) (by decide) lM1 (zkM lM1) rfl wMX10_300 hpyX10_needsWord hmyX10_needsWord (rm_ok hRm (Nat.le_of_ble_eq_true rfl) (Nat.le_of_ble_eq_true rfl)) (Nat.le_of_ble_eq_true rfl) hRm.2.2 dX10_needsBoth_2 (fun c1 u1 f1 => ?_)
  refine z_if_eq (tgt := 22) hc dX10_needsBoth_5 (by decide) _ (fun h1 => ?_) (fun h1 => ?_)
  · refine z_iconst (v := 0) hc dX10_needsBoth_22 rfl ?_
    exact z_zret hc rfl dX10_needsBoth_23
  · refine z_aload_n hc dX10_needsBoth_8 0 rfl rfl ?_
    refine z_iload_n hc dX10_needsBoth_9 2 rfl rfl ?_
    refine z_iload hc dX10_needsBoth_10 3 rfl ?_
    refine z_callV (av := [.int v3, .int v4]) (enc' := eI) hc rfl (sMo_needsNumber v3 v4 _) (ci := 10) (by decide) lM1 (zkM lM1) rfl wMX10_303 hpyX10_needsNumber hmyX10_needsNumber (rm_ok hRm (Nat.le_of_ble_eq_true rfl) (Nat.le_of_ble_eq_true rfl)) (Nat.le_of_ble_eq_true rfl) hRm.2.2 dX10_needsBoth_12 (fun c2 u2 f2 => ?_)
    refine z_if_eq (tgt := 22) hc dX10_needsBoth_15 (by decide) _ (fun h2 => ?_) (fun h2 => ?_)
    · refine z_iconst (v := 0) hc dX10_needsBoth_22 rfl ?_
      exact z_zret hc rfl dX10_needsBoth_23
    · refine z_iconst (v := 1) hc dX10_needsBoth_18 rfl ?_
      refine z_goto (tgt := 23) hc dX10_needsBoth_19 (by decide) ?_
      exact z_zret hc rfl dX10_needsBoth_23
set_option maxRecDepth 100000 in
set_option maxHeartbeats 4000000 in
theorem sMo_closes : ∀ (u : zM) r m1, Mo_closes u = some (r, m1) → zMet l (wM D b) 2 42 yX10_closes cX10_closes 1 (some .boolean) [.ref 1] u (eI r) m1 := by
  intro u
  refine zMet.of (L := [(0, .ref 1)]) RX10 (by decide +kernel) rfl (Nat.le_of_ble_eq_true rfl) (fun h => by cases h) rfl (fun p e s mi args below meth c R fin hc hin hRm => ?_)
  unfold Mo_closes
  refine z_aload_n hc dX10_closes_0 0 rfl rfl ?_
  refine z_bipush (v := 59) hc dX10_closes_1 rfl ?_
  refine z_callV (av := [.int 59]) (enc' := eI) hc rfl (sMo_isSign 59 _) (ci := 10) (by decide) lM1 (zkM lM1) rfl wMX10_222 hpyX10_isSign hmyX10_isSign (rm_ok hRm (Nat.le_of_ble_eq_true rfl) (Nat.le_of_ble_eq_true rfl)) (Nat.le_of_ble_eq_true rfl) hRm.2.2 dX10_closes_3 (fun c1 u1 f1 => ?_)
  refine z_if_ne (tgt := 15) hc dX10_closes_6 (by decide) _ (fun h1 => ?_) (fun h1 => ?_)
  · refine z_aload_n hc dX10_closes_15 0 rfl rfl ?_
    refine z_callV (av := []) (enc' := eV) hc rfl (sMo_nextToken _) (ci := 10) (by decide) lM1 (zkM lM1) rfl wMX10_233 hpyX10_nextToken hmyX10_nextToken (rm_ok hRm (Nat.le_of_ble_eq_true rfl) (Nat.le_of_ble_eq_true rfl)) (Nat.le_of_ble_eq_true rfl) hRm.2.2 dX10_closes_16 (fun c2 u2 f2 => ?_)
    refine z_iconst (v := 1) hc dX10_closes_19 rfl ?_
    exact z_zret hc rfl dX10_closes_20
  · refine z_aload_n hc dX10_closes_9 0 rfl rfl ?_
    refine z_iconst (v := 1) hc dX10_closes_10 rfl ?_
    refine z_callV (av := [.int 1]) (enc' := eI) hc rfl (sMo_fails 1 _) (ci := 10) (by decide) lM1 (zkM lM1) rfl wMX10_226 hpyX10_fails hmyX10_fails (rm_ok hRm (Nat.le_of_ble_eq_true rfl) (Nat.le_of_ble_eq_true rfl)) (Nat.le_of_ble_eq_true rfl) hRm.2.2 dX10_closes_11 (fun c3 u3 f3 => ?_)
    exact z_zretC hc dX10_closes_14
set_option maxRecDepth 100000 in
set_option maxHeartbeats 4000000 in
theorem sMo_needsNew : ∀ (u : zM) r m1, Mo_needsNew u = some (r, m1) → zMet l (wM D b) 2 45 yX10_needsNew cX10_needsNew 1 (some .boolean) [.ref 1] u (eI r) m1 := by
  intro u
  refine zMet.of (L := [(0, .ref 1)]) RX10 (by decide +kernel) rfl (Nat.le_of_ble_eq_true rfl) (fun h => by cases h) rfl (fun p e s mi args below meth c R fin hc hin hRm => ?_)
  unfold Mo_needsNew
  refine z_aload_n hc dX10_needsNew_0 0 rfl rfl ?_
  refine z_callV (av := []) (enc' := eI) hc rfl (sMo_isKept _) (ci := 10) (by decide) lM1 (zkM lM1) rfl wMX10_307 hpyX10_isKept hmyX10_isKept (rm_ok hRm (Nat.le_of_ble_eq_true rfl) (Nat.le_of_ble_eq_true rfl)) (Nat.le_of_ble_eq_true rfl) hRm.2.2 dX10_needsNew_1 (fun c1 u1 f1 => ?_)
  refine z_if_eq (tgt := 13) hc dX10_needsNew_4 (by decide) _ (fun h1 => ?_) (fun h1 => ?_)
  · refine z_aload_n hc dX10_needsNew_13 0 rfl rfl ?_
    refine z_iconst (v := 1) hc dX10_needsNew_14 rfl ?_
    refine z_callV (av := [.int 1]) (enc' := eI) hc rfl (sMo_placeNamed 1 _) (ci := 10) (by decide) lM1 (zkM lM1) rfl wMX10_311 hpyX10_placeNamed hmyX10_placeNamed (rm_ok hRm (Nat.le_of_ble_eq_true rfl) (Nat.le_of_ble_eq_true rfl)) (Nat.le_of_ble_eq_true rfl) hRm.2.2 dX10_needsNew_15 (fun c2 u2 f2 => ?_)
    refine z_if_ge (tgt := 45) hc dX10_needsNew_18 (by decide) _ (fun h2 => ?_) (fun h2 => ?_)
    · refine z_aload_n hc dX10_needsNew_45 0 rfl rfl ?_
      refine z_iconst (v := 3) hc dX10_needsNew_46 rfl ?_
      refine z_callV (av := [.int 3]) (enc' := eI) hc rfl (sMo_fails 3 _) (ci := 10) (by decide) lM1 (zkM lM1) rfl wMX10_226 hpyX10_fails hmyX10_fails (rm_ok hRm (Nat.le_of_ble_eq_true rfl) (Nat.le_of_ble_eq_true rfl)) (Nat.le_of_ble_eq_true rfl) hRm.2.2 dX10_needsNew_47 (fun c3 u3 f3 => ?_)
      exact z_zretC hc dX10_needsNew_50
    · refine z_aload_n hc dX10_needsNew_21 0 rfl rfl ?_
      refine z_iconst (v := 1) hc dX10_needsNew_22 rfl ?_
      refine z_callV (av := [.int 1]) (enc' := eI) hc rfl (sMo_personNamed 1 _) (ci := 10) (by decide) lM1 (zkM lM1) rfl wMX10_314 hpyX10_personNamed hmyX10_personNamed (rm_ok hRm (Nat.le_of_ble_eq_true rfl) (Nat.le_of_ble_eq_true rfl)) (Nat.le_of_ble_eq_true rfl) hRm.2.2 dX10_needsNew_23 (fun c4 u4 f4 => ?_)
      refine z_if_ge (tgt := 45) hc dX10_needsNew_26 (by decide) _ (fun h3 => ?_) (fun h3 => ?_)
      · refine z_aload_n hc dX10_needsNew_45 0 rfl rfl ?_
        refine z_iconst (v := 3) hc dX10_needsNew_46 rfl ?_
        refine z_callV (av := [.int 3]) (enc' := eI) hc rfl (sMo_fails 3 _) (ci := 10) (by decide) lM1 (zkM lM1) rfl wMX10_226 hpyX10_fails hmyX10_fails (rm_ok hRm (Nat.le_of_ble_eq_true rfl) (Nat.le_of_ble_eq_true rfl)) (Nat.le_of_ble_eq_true rfl) hRm.2.2 dX10_needsNew_47 (fun c5 u5 f5 => ?_)
        exact z_zretC hc dX10_needsNew_50
      · refine z_aload_n hc dX10_needsNew_29 0 rfl rfl ?_
        refine z_iconst (v := 1) hc dX10_needsNew_30 rfl ?_
        refine z_callV (av := [.int 1]) (enc' := eI) hc rfl (sMo_otterNamed 1 _) (ci := 10) (by decide) lM1 (zkM lM1) rfl wMX10_317 hpyX10_otterNamed hmyX10_otterNamed (rm_ok hRm (Nat.le_of_ble_eq_true rfl) (Nat.le_of_ble_eq_true rfl)) (Nat.le_of_ble_eq_true rfl) hRm.2.2 dX10_needsNew_31 (fun c6 u6 f6 => ?_)
        refine z_if_ge (tgt := 45) hc dX10_needsNew_34 (by decide) _ (fun h4 => ?_) (fun h4 => ?_)
        · refine z_aload_n hc dX10_needsNew_45 0 rfl rfl ?_
          refine z_iconst (v := 3) hc dX10_needsNew_46 rfl ?_
          refine z_callV (av := [.int 3]) (enc' := eI) hc rfl (sMo_fails 3 _) (ci := 10) (by decide) lM1 (zkM lM1) rfl wMX10_226 hpyX10_fails hmyX10_fails (rm_ok hRm (Nat.le_of_ble_eq_true rfl) (Nat.le_of_ble_eq_true rfl)) (Nat.le_of_ble_eq_true rfl) hRm.2.2 dX10_needsNew_47 (fun c7 u7 f7 => ?_)
          exact z_zretC hc dX10_needsNew_50
        · refine z_aload_n hc dX10_needsNew_37 0 rfl rfl ?_
          refine z_iconst (v := 1) hc dX10_needsNew_38 rfl ?_
          refine z_callV (av := [.int 1]) (enc' := eI) hc rfl (sMo_writNamed 1 _) (ci := 10) (by decide) lM1 (zkM lM1) rfl wMX10_320 hpyX10_writNamed hmyX10_writNamed (rm_ok hRm (Nat.le_of_ble_eq_true rfl) (Nat.le_of_ble_eq_true rfl)) (Nat.le_of_ble_eq_true rfl) hRm.2.2 dX10_needsNew_39 (fun c8 u8 f8 => ?_)
          refine z_if_lt (tgt := 51) hc dX10_needsNew_42 (by decide) _ (fun h5 => ?_) (fun h5 => ?_)
          · refine z_aload_n hc dX10_needsNew_51 0 rfl rfl ?_
            refine z_aload_n hc dX10_needsNew_52 0 rfl rfl ?_
            refine z_getL hc (ci := 10) (k := 7) (by decide) (by decide) zly10 lM1 (zkM lM1) wFX10_180 rfl dX10_needsNew_53 ?_
            refine z_putL hc (ci := 10) (k := 41) (by decide) (by decide) zly10 lM1 (zkM lM1) wFX10_323 rfl rfl dX10_needsNew_56 ?_
            refine zJ.letM (fun u9 e1 => ?_)
            refine z_aload_n hc dX10_needsNew_59 0 rfl rfl ?_
            refine z_callV (av := []) (enc' := eV) hc rfl (sMo_nextToken _) (ci := 10) (by decide) lM1 (zkM lM1) rfl wMX10_233 hpyX10_nextToken hmyX10_nextToken (rm_ok hRm (Nat.le_of_ble_eq_true rfl) (Nat.le_of_ble_eq_true rfl)) (Nat.le_of_ble_eq_true rfl) hRm.2.2 dX10_needsNew_60 (fun c9 u10 f9 => ?_)
            refine z_iconst (v := 1) hc dX10_needsNew_63 rfl ?_
            exact z_zret hc rfl dX10_needsNew_64
          · refine z_aload_n hc dX10_needsNew_45 0 rfl rfl ?_
            refine z_iconst (v := 3) hc dX10_needsNew_46 rfl ?_
            refine z_callV (av := [.int 3]) (enc' := eI) hc rfl (sMo_fails 3 _) (ci := 10) (by decide) lM1 (zkM lM1) rfl wMX10_226 hpyX10_fails hmyX10_fails (rm_ok hRm (Nat.le_of_ble_eq_true rfl) (Nat.le_of_ble_eq_true rfl)) (Nat.le_of_ble_eq_true rfl) hRm.2.2 dX10_needsNew_47 (fun c10 u11 f10 => ?_)
            exact z_zretC hc dX10_needsNew_50
  · refine z_aload_n hc dX10_needsNew_7 0 rfl rfl ?_
    refine z_iconst (v := 1) hc dX10_needsNew_8 rfl ?_
    refine z_callV (av := [.int 1]) (enc' := eI) hc rfl (sMo_fails 1 _) (ci := 10) (by decide) lM1 (zkM lM1) rfl wMX10_226 hpyX10_fails hmyX10_fails (rm_ok hRm (Nat.le_of_ble_eq_true rfl) (Nat.le_of_ble_eq_true rfl)) (Nat.le_of_ble_eq_true rfl) hRm.2.2 dX10_needsNew_9 (fun c11 u12 f11 => ?_)
    exact z_zretC hc dX10_needsNew_12
set_option maxRecDepth 100000 in
set_option maxHeartbeats 4000000 in
theorem sMo_isFound : ∀ (v1 : Int32) (u : zM) r m1, Mo_isFound v1 u = some (r, m1) → zMet l (wM D b) 1 21 yX10_isFound cX10_isFound 2 (some .boolean) [.ref 1, .int v1] u (eI r) m1 := by
  intro v1 u
  refine zMet.of (L := [(0, .ref 1), (1, .int v1)]) RX10 (by decide +kernel) rfl (Nat.le_of_ble_eq_true rfl) (fun h => by cases h) rfl (fun p e s mi args below meth c R fin hc hin hRm => ?_)
  unfold Mo_isFound
  refine z_aload_n hc dX10_isFound_0 0 rfl rfl ?_
  refine z_callV (av := []) (enc' := eI) hc rfl (sMo_isKept _) (ci := 10) (by decide) lM1 (zkM lM1) rfl wMX10_307 hpyX10_isKept hmyX10_isKept (rm_ok hRm (Nat.le_of_ble_eq_true rfl) (Nat.le_of_ble_eq_true rfl)) (Nat.le_of_ble_eq_true rfl) hRm.2.2 dX10_isFound_1 (fun c1 u1 f1 => ?_)
  refine z_if_eq (tgt := 13) hc dX10_isFound_4 (by decide) _ (fun h1 => ?_) (fun h1 => ?_)
  · refine z_aload_n hc dX10_isFound_13 0 rfl rfl ?_
    refine z_iload_n hc dX10_isFound_14 1 rfl rfl ?_
    refine z_putI hc (ci := 10) (k := 40) (by decide) (by decide) zly10 lM1 (zkM lM1) wFX10_297 rfl rfl rfl rfl dX10_isFound_15 ?_
    refine zJ.letM (fun u2 e1 => ?_)
    refine z_aload_n hc dX10_isFound_18 0 rfl rfl ?_
    refine z_getI hc (ci := 10) (k := 40) (by decide) (by decide) zly10 lM1 (zkM lM1) wFX10_297 rfl dX10_isFound_19 ?_
    refine z_if_ge (tgt := 33) hc dX10_isFound_22 (by decide) _ (fun h2 => ?_) (fun h2 => ?_)
    · refine z_iconst (v := 1) hc dX10_isFound_33 rfl ?_
      refine z_goto (tgt := 38) hc dX10_isFound_34 (by decide) ?_
      exact z_zret hc rfl dX10_isFound_38
    · refine z_aload_n hc dX10_isFound_25 0 rfl rfl ?_
      refine z_iconst (v := 2) hc dX10_isFound_26 rfl ?_
      refine z_callV (av := [.int 2]) (enc' := eI) hc rfl (sMo_fails 2 _) (ci := 10) (by decide) lM1 (zkM lM1) rfl wMX10_226 hpyX10_fails hmyX10_fails (rm_ok hRm (Nat.le_of_ble_eq_true rfl) (Nat.le_of_ble_eq_true rfl)) (Nat.le_of_ble_eq_true rfl) hRm.2.2 dX10_isFound_27 (fun c2 u3 f2 => ?_)
      refine z_if_eq (tgt := 37) hc dX10_isFound_30 (by decide) _ (fun h3 => ?_) (fun h3 => ?_)
      · refine z_iconst (v := 0) hc dX10_isFound_37 rfl ?_
        exact z_zret hc rfl dX10_isFound_38
      · refine z_iconst (v := 1) hc dX10_isFound_33 rfl ?_
        refine z_goto (tgt := 38) hc dX10_isFound_34 (by decide) ?_
        exact z_zret hc rfl dX10_isFound_38
  · refine z_aload_n hc dX10_isFound_7 0 rfl rfl ?_
    refine z_iconst (v := 1) hc dX10_isFound_8 rfl ?_
    refine z_callV (av := [.int 1]) (enc' := eI) hc rfl (sMo_fails 1 _) (ci := 10) (by decide) lM1 (zkM lM1) rfl wMX10_226 hpyX10_fails hmyX10_fails (rm_ok hRm (Nat.le_of_ble_eq_true rfl) (Nat.le_of_ble_eq_true rfl)) (Nat.le_of_ble_eq_true rfl) hRm.2.2 dX10_isFound_9 (fun c3 u4 f3 => ?_)
    exact z_zretC hc dX10_isFound_12
set_option maxRecDepth 100000 in
set_option maxHeartbeats 4000000 in
theorem sMo_passesFound : ∀ (v1 : Int32) (u : zM) r m1, Mo_passesFound v1 u = some (r, m1) → zMet l (wM D b) 2 42 yX10_passesFound cX10_passesFound 2 (some .boolean) [.ref 1, .int v1] u (eI r) m1 := by
  intro v1 u
  refine zMet.of (L := [(0, .ref 1), (1, .int v1)]) RX10 (by decide +kernel) rfl (Nat.le_of_ble_eq_true rfl) (fun h => by cases h) rfl (fun p e s mi args below meth c R fin hc hin hRm => ?_)
  unfold Mo_passesFound
  refine z_aload_n hc dX10_passesFound_0 0 rfl rfl ?_
  refine z_iload_n hc dX10_passesFound_1 1 rfl rfl ?_
  refine z_callV (av := [.int v1]) (enc' := eI) hc rfl (sMo_isFound v1 _) (ci := 10) (by decide) lM1 (zkM lM1) rfl wMX10_326 hpyX10_isFound hmyX10_isFound (rm_ok hRm (Nat.le_of_ble_eq_true rfl) (Nat.le_of_ble_eq_true rfl)) (Nat.le_of_ble_eq_true rfl) hRm.2.2 dX10_passesFound_2 (fun c1 u1 f1 => ?_)
  refine z_if_ne (tgt := 10) hc dX10_passesFound_5 (by decide) _ (fun h1 => ?_) (fun h1 => ?_)
  · refine z_aload_n hc dX10_passesFound_10 0 rfl rfl ?_
    refine z_callV (av := []) (enc' := eV) hc rfl (sMo_nextToken _) (ci := 10) (by decide) lM1 (zkM lM1) rfl wMX10_233 hpyX10_nextToken hmyX10_nextToken (rm_ok hRm (Nat.le_of_ble_eq_true rfl) (Nat.le_of_ble_eq_true rfl)) (Nat.le_of_ble_eq_true rfl) hRm.2.2 dX10_passesFound_11 (fun c2 u2 f2 => ?_)
    refine z_iconst (v := 1) hc dX10_passesFound_14 rfl ?_
    exact z_zret hc rfl dX10_passesFound_15
  · refine z_iconst (v := 0) hc dX10_passesFound_8 rfl ?_
    exact z_zret hc rfl dX10_passesFound_9
set_option maxRecDepth 100000 in
set_option maxHeartbeats 4000000 in
theorem sMo_readsPlace : ∀ (u : zM) r m1, Mo_readsPlace u = some (r, m1) → zMet l (wM D b) 4 88 yX10_readsPlace cX10_readsPlace 2 (some .boolean) [.ref 1] u (eI r) m1 := by
  intro u
  refine zMet.of (L := [(0, .ref 1)]) RX10 (by decide +kernel) rfl (Nat.le_of_ble_eq_true rfl) (fun h => by cases h) rfl (fun p e s mi args below meth c R fin hc hin hRm => ?_)
  unfold Mo_readsPlace
  refine z_bipush (v := 7) hc dX10_readsPlace_0 rfl ?_
  refine z_aload_n hc dX10_readsPlace_2 0 rfl rfl ?_
  refine z_getR (x := 3) hc (ci := 10) (k := 10) (by decide) (by decide) zly10 lM1 (zkM lM1) wFX10_13 rfl dX10_readsPlace_3 rfl (by decide) ?_
  refine z_bipush (v := 6) hc dX10_readsPlace_6 rfl ?_
  refine z_iald (k := 6) hc lM3 (zkM lM3) rfl rfl dX10_readsPlace_8 ?_
  refine z_iadd hc dX10_readsPlace_9 ?_
  refine zJ.letI (fun x1 e1 => ?_)
  refine z_istore_n (L' := [(1, .int x1), (0, .ref 1)]) hc dX10_readsPlace_10 rfl (by decide) rfl rfl ?_
  refine z_iload_n hc dX10_readsPlace_11 0 rfl rfl ?_
  refine z_bipush (v := 14) hc dX10_readsPlace_12 rfl ?_
  refine z_icmp_ne (tgt := 23) hc dX10_readsPlace_14 (by decide) _ (fun h1 => ?_) (fun h1 => ?_)
  · refine z_aload_n hc dX10_readsPlace_23 1 rfl rfl ?_
    refine z_callV (av := []) (enc' := eV) hc rfl (sMo_nextToken _) (ci := 10) (by decide) lM1 (zkM lM1) rfl wMX10_233 hpyX10_nextToken hmyX10_nextToken (rm_ok hRm (Nat.le_of_ble_eq_true rfl) (Nat.le_of_ble_eq_true rfl)) (Nat.le_of_ble_eq_true rfl) hRm.2.2 dX10_readsPlace_24 (fun c1 u1 f1 => ?_)
    refine z_aload_n hc dX10_readsPlace_27 1 rfl rfl ?_
    refine z_callV (av := []) (enc' := eI) hc rfl (sMo_needsNew _) (ci := 10) (by decide) lM1 (zkM lM1) rfl wMX10_329 hpyX10_needsNew hmyX10_needsNew (rm_ok hRm (Nat.le_of_ble_eq_true rfl) (Nat.le_of_ble_eq_true rfl)) (Nat.le_of_ble_eq_true rfl) hRm.2.2 dX10_readsPlace_28 (fun c2 u2 f2 => ?_)
    refine z_if_eq (tgt := 47) hc dX10_readsPlace_31 (by decide) _ (fun h2 => ?_) (fun h2 => ?_)
    · refine z_iconst (v := 0) hc dX10_readsPlace_47 rfl ?_
      exact z_zret hc rfl dX10_readsPlace_48
    · refine z_aload_n hc dX10_readsPlace_34 1 rfl rfl ?_
      refine z_ldc2 (v := 12257559) hc wKX10_251 dX10_readsPlace_35 ?_
      refine z_iconst (v := 0) hc dX10_readsPlace_38 rfl ?_
      refine z_bipush (v := 9) hc dX10_readsPlace_39 rfl ?_
      refine z_callV (av := [.long 12257559, .int 0, .int 9]) (enc' := eI) hc rfl (sMo_needsBoth 12257559 0 9 _) (ci := 10) (by decide) lM1 (zkM lM1) rfl wMX10_332 hpyX10_needsBoth hmyX10_needsBoth (rm_ok hRm (Nat.le_of_ble_eq_true rfl) (Nat.le_of_ble_eq_true rfl)) (Nat.le_of_ble_eq_true rfl) hRm.2.2 dX10_readsPlace_41 (fun c3 u3 f3 => ?_)
      refine z_if_ne (tgt := 49) hc dX10_readsPlace_44 (by decide) _ (fun h3 => ?_) (fun h3 => ?_)
      · refine z_aload_n hc dX10_readsPlace_49 1 rfl rfl ?_
        refine z_getR (x := 8) hc (ci := 10) (k := 15) (by decide) (by decide) zly10 lM1 (zkM lM1) wFX10_29 rfl dX10_readsPlace_50 rfl (by decide) ?_
        refine z_iload_n hc dX10_readsPlace_53 0 rfl rfl ?_
        refine z_aload_n hc dX10_readsPlace_54 1 rfl rfl ?_
        refine z_getI hc (ci := 10) (k := 40) (by decide) (by decide) zly10 lM1 (zkM lM1) wFX10_297 rfl dX10_readsPlace_55 ?_
        refine zJ.chk _ (fun h4 => ?_)
        refine z_iast (k := (ix x1)) hc lM8 (zkM lM8) h4 rfl dX10_readsPlace_58 ?_
        refine zJ.letM (fun u4 e2 => ?_)
        refine z_aload_n hc dX10_readsPlace_59 1 rfl rfl ?_
        refine z_getR (x := 9) hc (ci := 10) (k := 16) (by decide) (by decide) zly10 lM1 (zkM lM1) wFX10_32 rfl dX10_readsPlace_60 rfl (by decide) ?_
        refine z_iload_n hc dX10_readsPlace_63 0 rfl rfl ?_
        refine z_iconst (v := 0) hc dX10_readsPlace_64 rfl ?_
        refine zJ.chk _ (fun h5 => ?_)
        refine z_iast (k := (ix x1)) hc lM9 (zkM lM9) h5 rfl dX10_readsPlace_65 ?_
        refine zJ.letM (fun u5 e3 => ?_)
        refine z_aload_n hc dX10_readsPlace_66 1 rfl rfl ?_
        refine z_getR (x := 4) hc (ci := 10) (k := 11) (by decide) (by decide) zly10 lM1 (zkM lM1) wFX10_16 rfl dX10_readsPlace_67 rfl (by decide) ?_
        refine z_iload_n hc dX10_readsPlace_70 0 rfl rfl ?_
        refine z_aload_n hc dX10_readsPlace_71 1 rfl rfl ?_
        refine z_getL hc (ci := 10) (k := 41) (by decide) (by decide) zly10 lM1 (zkM lM1) wFX10_323 rfl dX10_readsPlace_72 ?_
        refine zJ.chk _ (fun h6 => ?_)
        refine z_last (k := (ix x1)) hc lM4 (zkM lM4) h6 rfl dX10_readsPlace_75 ?_
        refine zJ.letM (fun u6 e4 => ?_)
        refine z_aload_n hc dX10_readsPlace_76 1 rfl rfl ?_
        refine z_getR (x := 3) hc (ci := 10) (k := 10) (by decide) (by decide) zly10 lM1 (zkM lM1) wFX10_13 rfl dX10_readsPlace_77 rfl (by decide) ?_
        refine z_bipush (v := 6) hc dX10_readsPlace_80 rfl ?_
        refine z_dup2 hc dX10_readsPlace_82 rfl rfl ?_
        refine z_iald (k := 6) hc lM3 (zkM lM3) rfl rfl dX10_readsPlace_83 ?_
        refine z_iconst (v := 1) hc dX10_readsPlace_84 rfl ?_
        refine z_iadd hc dX10_readsPlace_85 ?_
        refine z_iast (k := 6) hc lM3 (zkM lM3) rfl rfl dX10_readsPlace_86 ?_
        refine zJ.letM (fun u7 e5 => ?_)
        refine z_aload_n hc dX10_readsPlace_87 1 rfl rfl ?_
        refine z_callV (av := []) (enc' := eI) hc rfl (sMo_closes _) (ci := 10) (by decide) lM1 (zkM lM1) rfl wMX10_336 hpyX10_closes hmyX10_closes (rm_ok hRm (Nat.le_of_ble_eq_true rfl) (Nat.le_of_ble_eq_true rfl)) (Nat.le_of_ble_eq_true rfl) hRm.2.2 dX10_readsPlace_88 (fun c4 u8 f4 => ?_)
        exact z_zretC hc dX10_readsPlace_91
      · refine z_iconst (v := 0) hc dX10_readsPlace_47 rfl ?_
        exact z_zret hc rfl dX10_readsPlace_48
  · refine z_aload_n hc dX10_readsPlace_17 1 rfl rfl ?_
    refine z_iconst (v := 5) hc dX10_readsPlace_18 rfl ?_
    refine z_callV (av := [.int 5]) (enc' := eI) hc rfl (sMo_fails 5 _) (ci := 10) (by decide) lM1 (zkM lM1) rfl wMX10_226 hpyX10_fails hmyX10_fails (rm_ok hRm (Nat.le_of_ble_eq_true rfl) (Nat.le_of_ble_eq_true rfl)) (Nat.le_of_ble_eq_true rfl) hRm.2.2 dX10_readsPlace_19 (fun c5 u9 f5 => ?_)
    exact z_zretC hc dX10_readsPlace_22
set_option maxRecDepth 100000 in
set_option maxHeartbeats 4000000 in
theorem sMo_readsStream : ∀ (u : zM) r m1, Mo_readsStream u = some (r, m1) → zMet l (wM D b) 3 63 yX10_readsStream cX10_readsStream 2 (some .boolean) [.ref 1] u (eI r) m1 := by
  intro u
  refine zMet.of (L := [(0, .ref 1)]) RX10 (by decide +kernel) rfl (Nat.le_of_ble_eq_true rfl) (fun h => by cases h) rfl (fun p e s mi args below meth c R fin hc hin hRm => ?_)
  unfold Mo_readsStream
  refine z_aload_n hc dX10_readsStream_0 0 rfl rfl ?_
  refine z_getR (x := 3) hc (ci := 10) (k := 10) (by decide) (by decide) zly10 lM1 (zkM lM1) wFX10_13 rfl dX10_readsStream_1 rfl (by decide) ?_
  refine z_bipush (v := 7) hc dX10_readsStream_4 rfl ?_
  refine z_iald (k := 7) hc lM3 (zkM lM3) rfl rfl dX10_readsStream_6 ?_
  refine z_bipush (v := 10) hc dX10_readsStream_7 rfl ?_
  refine z_icmp_ne (tgt := 18) hc dX10_readsStream_9 (by decide) _ (fun h1 => ?_) (fun h1 => ?_)
  · refine z_aload_n hc dX10_readsStream_18 0 rfl rfl ?_
    refine z_callV (av := []) (enc' := eV) hc rfl (sMo_nextToken _) (ci := 10) (by decide) lM1 (zkM lM1) rfl wMX10_233 hpyX10_nextToken hmyX10_nextToken (rm_ok hRm (Nat.le_of_ble_eq_true rfl) (Nat.le_of_ble_eq_true rfl)) (Nat.le_of_ble_eq_true rfl) hRm.2.2 dX10_readsStream_19 (fun c1 u1 f1 => ?_)
    refine z_aload_n hc dX10_readsStream_22 0 rfl rfl ?_
    refine z_aload_n hc dX10_readsStream_23 0 rfl rfl ?_
    refine z_iconst (v := 1) hc dX10_readsStream_24 rfl ?_
    refine z_callV (av := [.int 1]) (enc' := eI) hc rfl (sMo_placeNamed 1 _) (ci := 10) (by decide) lM1 (zkM lM1) rfl wMX10_311 hpyX10_placeNamed hmyX10_placeNamed (rm_ok hRm (Nat.le_of_ble_eq_true rfl) (Nat.le_of_ble_eq_true rfl)) (Nat.le_of_ble_eq_true rfl) hRm.2.2 dX10_readsStream_25 (fun c2 u2 f2 => ?_)
    refine z_callV (av := [.int c2]) (enc' := eI) hc rfl (sMo_passesFound c2 _) (ci := 10) (by decide) lM1 (zkM lM1) rfl wMX10_339 hpyX10_passesFound hmyX10_passesFound (rm_ok hRm (Nat.le_of_ble_eq_true rfl) (Nat.le_of_ble_eq_true rfl)) (Nat.le_of_ble_eq_true rfl) hRm.2.2 dX10_readsStream_28 (fun c3 u3 f3 => ?_)
    refine z_if_ne (tgt := 36) hc dX10_readsStream_31 (by decide) _ (fun h2 => ?_) (fun h2 => ?_)
    · refine z_aload_n hc dX10_readsStream_36 0 rfl rfl ?_
      refine z_getI hc (ci := 10) (k := 40) (by decide) (by decide) zly10 lM1 (zkM lM1) wFX10_297 rfl dX10_readsStream_37 ?_
      refine zJ.letI (fun x1 e1 => ?_)
      refine z_istore_n (L' := [(1, .int x1), (0, .ref 1)]) hc dX10_readsStream_40 rfl (by decide) rfl rfl ?_
      refine z_aload_n hc dX10_readsStream_41 1 rfl rfl ?_
      refine z_aload_n hc dX10_readsStream_42 1 rfl rfl ?_
      refine z_iconst (v := 1) hc dX10_readsStream_43 rfl ?_
      refine z_callV (av := [.int 1]) (enc' := eI) hc rfl (sMo_placeNamed 1 _) (ci := 10) (by decide) lM1 (zkM lM1) rfl wMX10_311 hpyX10_placeNamed hmyX10_placeNamed (rm_ok hRm (Nat.le_of_ble_eq_true rfl) (Nat.le_of_ble_eq_true rfl)) (Nat.le_of_ble_eq_true rfl) hRm.2.2 dX10_readsStream_44 (fun c4 u4 f4 => ?_)
      refine z_callV (av := [.int c4]) (enc' := eI) hc rfl (sMo_isFound c4 _) (ci := 10) (by decide) lM1 (zkM lM1) rfl wMX10_326 hpyX10_isFound hmyX10_isFound (rm_ok hRm (Nat.le_of_ble_eq_true rfl) (Nat.le_of_ble_eq_true rfl)) (Nat.le_of_ble_eq_true rfl) hRm.2.2 dX10_readsStream_47 (fun c5 u5 f5 => ?_)
      refine z_if_ne (tgt := 55) hc dX10_readsStream_50 (by decide) _ (fun h3 => ?_) (fun h3 => ?_)
      · refine z_iload_n hc dX10_readsStream_55 0 rfl rfl ?_
        refine z_aload_n hc dX10_readsStream_56 1 rfl rfl ?_
        refine z_getI hc (ci := 10) (k := 40) (by decide) (by decide) zly10 lM1 (zkM lM1) wFX10_297 rfl dX10_readsStream_57 ?_
        refine z_icmp_eq (tgt := 83) hc dX10_readsStream_60 (by decide) _ (fun h4 => ?_) (fun h4 => ?_)
        · refine z_aload_n hc dX10_readsStream_83 1 rfl rfl ?_
          refine z_iconst (v := 3) hc dX10_readsStream_84 rfl ?_
          refine z_callV (av := [.int 3]) (enc' := eI) hc rfl (sMo_fails 3 _) (ci := 10) (by decide) lM1 (zkM lM1) rfl wMX10_226 hpyX10_fails hmyX10_fails (rm_ok hRm (Nat.le_of_ble_eq_true rfl) (Nat.le_of_ble_eq_true rfl)) (Nat.le_of_ble_eq_true rfl) hRm.2.2 dX10_readsStream_85 (fun c6 u6 f6 => ?_)
          exact z_zretC hc dX10_readsStream_88
        · refine z_aload_n hc dX10_readsStream_63 1 rfl rfl ?_
          refine z_getR (x := 9) hc (ci := 10) (k := 16) (by decide) (by decide) zly10 lM1 (zkM lM1) wFX10_32 rfl dX10_readsStream_64 rfl (by decide) ?_
          refine z_bipush (v := 7) hc dX10_readsStream_67 rfl ?_
          refine z_iload_n hc dX10_readsStream_69 0 rfl rfl ?_
          refine z_iadd hc dX10_readsStream_70 ?_
          refine zJ.chk _ (fun h5 => ?_)
          refine z_iald (k := (ix (7 + x1))) hc lM9 (zkM lM9) h5 rfl dX10_readsStream_71 ?_
          refine z_aload_n hc dX10_readsStream_72 1 rfl rfl ?_
          refine z_getI hc (ci := 10) (k := 40) (by decide) (by decide) zly10 lM1 (zkM lM1) wFX10_297 rfl dX10_readsStream_73 ?_
          refine z_ishr hc dX10_readsStream_76 ?_
          refine z_iconst (v := 1) hc dX10_readsStream_77 rfl ?_
          refine z_iand hc dX10_readsStream_78 ?_
          refine z_iconst (v := 1) hc dX10_readsStream_79 rfl ?_
          refine z_icmp_ne (tgt := 89) hc dX10_readsStream_80 (by decide) _ (fun h6 => ?_) (fun h6 => ?_)
          · refine z_aload_n hc dX10_readsStream_89 1 rfl rfl ?_
            refine z_getR (x := 9) hc (ci := 10) (k := 16) (by decide) (by decide) zly10 lM1 (zkM lM1) wFX10_32 rfl dX10_readsStream_90 rfl (by decide) ?_
            refine z_bipush (v := 7) hc dX10_readsStream_93 rfl ?_
            refine z_iload_n hc dX10_readsStream_95 0 rfl rfl ?_
            refine z_iadd hc dX10_readsStream_96 ?_
            refine z_dup2 hc dX10_readsStream_97 rfl rfl ?_
            refine zJ.chk _ (fun h7 => ?_)
            refine z_iald (k := (ix (7 + x1))) hc lM9 (zkM lM9) h7 rfl dX10_readsStream_98 ?_
            refine z_iconst (v := 1) hc dX10_readsStream_99 rfl ?_
            refine z_aload_n hc dX10_readsStream_100 1 rfl rfl ?_
            refine z_getI hc (ci := 10) (k := 40) (by decide) (by decide) zly10 lM1 (zkM lM1) wFX10_297 rfl dX10_readsStream_101 ?_
            refine z_ishl hc dX10_readsStream_104 ?_
            refine z_ior hc dX10_readsStream_105 ?_
            refine zJ.chk _ (fun h8 => ?_)
            refine z_iast (k := (ix (7 + x1))) hc lM9 (zkM lM9) h8 rfl dX10_readsStream_106 ?_
            refine zJ.letM (fun u7 e2 => ?_)
            refine z_aload_n hc dX10_readsStream_107 1 rfl rfl ?_
            refine z_getR (x := 9) hc (ci := 10) (k := 16) (by decide) (by decide) zly10 lM1 (zkM lM1) wFX10_32 rfl dX10_readsStream_108 rfl (by decide) ?_
            refine z_bipush (v := 7) hc dX10_readsStream_111 rfl ?_
            refine z_aload_n hc dX10_readsStream_113 1 rfl rfl ?_
            refine z_getI hc (ci := 10) (k := 40) (by decide) (by decide) zly10 lM1 (zkM lM1) wFX10_297 rfl dX10_readsStream_114 ?_
            refine z_iadd hc dX10_readsStream_117 ?_
            refine z_dup2 hc dX10_readsStream_118 rfl rfl ?_
            refine zJ.chk _ (fun h9 => ?_)
            refine z_iald (k := (ix (7 + (gI u7 1 40)))) hc lM9 (zkM lM9) h9 rfl dX10_readsStream_119 ?_
            refine z_iconst (v := 1) hc dX10_readsStream_120 rfl ?_
            refine z_iload_n hc dX10_readsStream_121 0 rfl rfl ?_
            refine z_ishl hc dX10_readsStream_122 ?_
            refine z_ior hc dX10_readsStream_123 ?_
            refine zJ.chk _ (fun h10 => ?_)
            refine z_iast (k := (ix (7 + (gI u7 1 40)))) hc lM9 (zkM lM9) h10 rfl dX10_readsStream_124 ?_
            refine zJ.letM (fun u8 e3 => ?_)
            refine z_aload_n hc dX10_readsStream_125 1 rfl rfl ?_
            refine z_getR (x := 3) hc (ci := 10) (k := 10) (by decide) (by decide) zly10 lM1 (zkM lM1) wFX10_13 rfl dX10_readsStream_126 rfl (by decide) ?_
            refine z_bipush (v := 7) hc dX10_readsStream_129 rfl ?_
            refine z_dup2 hc dX10_readsStream_131 rfl rfl ?_
            refine z_iald (k := 7) hc lM3 (zkM lM3) rfl rfl dX10_readsStream_132 ?_
            refine z_iconst (v := 1) hc dX10_readsStream_133 rfl ?_
            refine z_iadd hc dX10_readsStream_134 ?_
            refine z_iast (k := 7) hc lM3 (zkM lM3) rfl rfl dX10_readsStream_135 ?_
            refine zJ.letM (fun u9 e4 => ?_)
            refine z_aload_n hc dX10_readsStream_136 1 rfl rfl ?_
            refine z_callV (av := []) (enc' := eV) hc rfl (sMo_nextToken _) (ci := 10) (by decide) lM1 (zkM lM1) rfl wMX10_233 hpyX10_nextToken hmyX10_nextToken (rm_ok hRm (Nat.le_of_ble_eq_true rfl) (Nat.le_of_ble_eq_true rfl)) (Nat.le_of_ble_eq_true rfl) hRm.2.2 dX10_readsStream_137 (fun c7 u10 f7 => ?_)
            refine z_aload_n hc dX10_readsStream_140 1 rfl rfl ?_
            refine z_callV (av := []) (enc' := eI) hc rfl (sMo_closes _) (ci := 10) (by decide) lM1 (zkM lM1) rfl wMX10_336 hpyX10_closes hmyX10_closes (rm_ok hRm (Nat.le_of_ble_eq_true rfl) (Nat.le_of_ble_eq_true rfl)) (Nat.le_of_ble_eq_true rfl) hRm.2.2 dX10_readsStream_141 (fun c8 u11 f8 => ?_)
            exact z_zretC hc dX10_readsStream_144
          · refine z_aload_n hc dX10_readsStream_83 1 rfl rfl ?_
            refine z_iconst (v := 3) hc dX10_readsStream_84 rfl ?_
            refine z_callV (av := [.int 3]) (enc' := eI) hc rfl (sMo_fails 3 _) (ci := 10) (by decide) lM1 (zkM lM1) rfl wMX10_226 hpyX10_fails hmyX10_fails (rm_ok hRm (Nat.le_of_ble_eq_true rfl) (Nat.le_of_ble_eq_true rfl)) (Nat.le_of_ble_eq_true rfl) hRm.2.2 dX10_readsStream_85 (fun c9 u12 f9 => ?_)
            exact z_zretC hc dX10_readsStream_88
      · refine z_iconst (v := 0) hc dX10_readsStream_53 rfl ?_
        exact z_zret hc rfl dX10_readsStream_54
    · refine z_iconst (v := 0) hc dX10_readsStream_34 rfl ?_
      exact z_zret hc rfl dX10_readsStream_35
  · refine z_aload_n hc dX10_readsStream_12 0 rfl rfl ?_
    refine z_iconst (v := 5) hc dX10_readsStream_13 rfl ?_
    refine z_callV (av := [.int 5]) (enc' := eI) hc rfl (sMo_fails 5 _) (ci := 10) (by decide) lM1 (zkM lM1) rfl wMX10_226 hpyX10_fails hmyX10_fails (rm_ok hRm (Nat.le_of_ble_eq_true rfl) (Nat.le_of_ble_eq_true rfl)) (Nat.le_of_ble_eq_true rfl) hRm.2.2 dX10_readsStream_14 (fun c10 u13 f10 => ?_)
    exact z_zretC hc dX10_readsStream_17
set_option maxRecDepth 100000 in
set_option maxHeartbeats 4000000 in
theorem sMo_readsPerson_97 {fin : Int32 × zM} (hc : zCx p s mi args meth c (wM D b) m0 RX10 cX10_readsPerson 2 (some .boolean)) (hRm : R.frames = 3 ∧ R.locals = 65 ∧ R.cells = zc (wM D b) m0 fin.2 ∧ R.slots = zs (wM D b) m0 fin.2) (v1 : Int32) (s1 : Int32) (s2 : Int32) (u : zM) : zJ eI p l e R s mi args below meth c (wM D b) m0 2 fin 97 [(0, .ref 1), (1, .int v1)] [.int s2, .int s1, .ref 10] u (Mo_readsPerson_97 v1 s1 s2 u) := by
  unfold Mo_readsPerson_97
  refine zJ.chk _ (fun h1 => ?_)
  refine z_iast (k := (ix s1)) hc lM10 (zkM lM10) h1 rfl dX10_readsPerson_97 ?_
  refine zJ.letM (fun u1 e1 => ?_)
  refine z_aload_n hc dX10_readsPerson_98 0 rfl rfl ?_
  refine z_getR (x := 10) hc (ci := 10) (k := 17) (by decide) (by decide) zly10 lM1 (zkM lM1) wFX10_35 rfl dX10_readsPerson_99 rfl (by decide) ?_
  refine z_iload_n hc dX10_readsPerson_102 1 rfl rfl ?_
  refine zJ.chk _ (fun h2 => ?_)
  refine z_iald (k := (ix v1)) hc lM10 (zkM lM10) h2 rfl dX10_readsPerson_103 ?_
  refine z_if_ge (tgt := 113) hc dX10_readsPerson_104 (by decide) _ (fun h3 => ?_) (fun h3 => ?_)
  · refine z_aload_n hc dX10_readsPerson_113 0 rfl rfl ?_
    refine z_callV (av := []) (enc' := eV) hc rfl (sMo_nextToken _) (ci := 10) (by decide) lM1 (zkM lM1) rfl wMX10_233 hpyX10_nextToken hmyX10_nextToken (rm_ok hRm (Nat.le_of_ble_eq_true rfl) (Nat.le_of_ble_eq_true rfl)) (Nat.le_of_ble_eq_true rfl) hRm.2.2 dX10_readsPerson_114 (fun c1 u2 f1 => ?_)
    refine z_aload_n hc dX10_readsPerson_117 0 rfl rfl ?_
    refine z_ldc2 (v := 257) hc wKX10_257 dX10_readsPerson_118 ?_
    refine z_callV (av := [.long 257]) (enc' := eI) hc rfl (sMo_needsWord 257 _) (ci := 10) (by decide) lM1 (zkM lM1) rfl wMX10_300 hpyX10_needsWord hmyX10_needsWord (rm_ok hRm (Nat.le_of_ble_eq_true rfl) (Nat.le_of_ble_eq_true rfl)) (Nat.le_of_ble_eq_true rfl) hRm.2.2 dX10_readsPerson_121 (fun c2 u3 f2 => ?_)
    refine z_if_eq (tgt := 139) hc dX10_readsPerson_124 (by decide) _ (fun h4 => ?_) (fun h4 => ?_)
    · refine z_iconst (v := 0) hc dX10_readsPerson_139 rfl ?_
      exact z_zret hc rfl dX10_readsPerson_140
    · refine z_aload_n hc dX10_readsPerson_127 0 rfl rfl ?_
      refine z_aload_n hc dX10_readsPerson_128 0 rfl rfl ?_
      refine z_iconst (v := 1) hc dX10_readsPerson_129 rfl ?_
      refine z_callV (av := [.int 1]) (enc' := eI) hc rfl (sMo_placeNamed 1 _) (ci := 10) (by decide) lM1 (zkM lM1) rfl wMX10_311 hpyX10_placeNamed hmyX10_placeNamed (rm_ok hRm (Nat.le_of_ble_eq_true rfl) (Nat.le_of_ble_eq_true rfl)) (Nat.le_of_ble_eq_true rfl) hRm.2.2 dX10_readsPerson_130 (fun c3 u4 f3 => ?_)
      refine z_callV (av := [.int c3]) (enc' := eI) hc rfl (sMo_passesFound c3 _) (ci := 10) (by decide) lM1 (zkM lM1) rfl wMX10_339 hpyX10_passesFound hmyX10_passesFound (rm_ok hRm (Nat.le_of_ble_eq_true rfl) (Nat.le_of_ble_eq_true rfl)) (Nat.le_of_ble_eq_true rfl) hRm.2.2 dX10_readsPerson_133 (fun c4 u5 f4 => ?_)
      refine z_if_ne (tgt := 141) hc dX10_readsPerson_136 (by decide) _ (fun h5 => ?_) (fun h5 => ?_)
      · refine z_aload_n hc dX10_readsPerson_141 0 rfl rfl ?_
        refine z_getR (x := 11) hc (ci := 10) (k := 18) (by decide) (by decide) zly10 lM1 (zkM lM1) wFX10_38 rfl dX10_readsPerson_142 rfl (by decide) ?_
        refine z_iload_n hc dX10_readsPerson_145 1 rfl rfl ?_
        refine z_aload_n hc dX10_readsPerson_146 0 rfl rfl ?_
        refine z_getI hc (ci := 10) (k := 40) (by decide) (by decide) zly10 lM1 (zkM lM1) wFX10_297 rfl dX10_readsPerson_147 ?_
        refine zJ.chk _ (fun h6 => ?_)
        refine z_iast (k := (ix v1)) hc lM11 (zkM lM11) h6 rfl dX10_readsPerson_150 ?_
        refine zJ.letM (fun u6 e2 => ?_)
        refine z_aload_n hc dX10_readsPerson_151 0 rfl rfl ?_
        refine z_getR (x := 5) hc (ci := 10) (k := 12) (by decide) (by decide) zly10 lM1 (zkM lM1) wFX10_20 rfl dX10_readsPerson_152 rfl (by decide) ?_
        refine z_iload_n hc dX10_readsPerson_155 1 rfl rfl ?_
        refine z_aload_n hc dX10_readsPerson_156 0 rfl rfl ?_
        refine z_getL hc (ci := 10) (k := 41) (by decide) (by decide) zly10 lM1 (zkM lM1) wFX10_323 rfl dX10_readsPerson_157 ?_
        refine zJ.chk _ (fun h7 => ?_)
        refine z_last (k := (ix v1)) hc lM5 (zkM lM5) h7 rfl dX10_readsPerson_160 ?_
        refine zJ.letM (fun u7 e3 => ?_)
        refine z_aload_n hc dX10_readsPerson_161 0 rfl rfl ?_
        refine z_getR (x := 3) hc (ci := 10) (k := 10) (by decide) (by decide) zly10 lM1 (zkM lM1) wFX10_13 rfl dX10_readsPerson_162 rfl (by decide) ?_
        refine z_bipush (v := 8) hc dX10_readsPerson_165 rfl ?_
        refine z_dup2 hc dX10_readsPerson_167 rfl rfl ?_
        refine z_iald (k := 8) hc lM3 (zkM lM3) rfl rfl dX10_readsPerson_168 ?_
        refine z_iconst (v := 1) hc dX10_readsPerson_169 rfl ?_
        refine z_iadd hc dX10_readsPerson_170 ?_
        refine z_iast (k := 8) hc lM3 (zkM lM3) rfl rfl dX10_readsPerson_171 ?_
        refine zJ.letM (fun u8 e4 => ?_)
        refine z_aload_n hc dX10_readsPerson_172 0 rfl rfl ?_
        refine z_callV (av := []) (enc' := eI) hc rfl (sMo_closes _) (ci := 10) (by decide) lM1 (zkM lM1) rfl wMX10_336 hpyX10_closes hmyX10_closes (rm_ok hRm (Nat.le_of_ble_eq_true rfl) (Nat.le_of_ble_eq_true rfl)) (Nat.le_of_ble_eq_true rfl) hRm.2.2 dX10_readsPerson_173 (fun c5 u9 f5 => ?_)
        exact z_zretC hc dX10_readsPerson_176
      · refine z_iconst (v := 0) hc dX10_readsPerson_139 rfl ?_
        exact z_zret hc rfl dX10_readsPerson_140
  · refine z_aload_n hc dX10_readsPerson_107 0 rfl rfl ?_
    refine z_iconst (v := 1) hc dX10_readsPerson_108 rfl ?_
    refine z_callV (av := [.int 1]) (enc' := eI) hc rfl (sMo_fails 1 _) (ci := 10) (by decide) lM1 (zkM lM1) rfl wMX10_226 hpyX10_fails hmyX10_fails (rm_ok hRm (Nat.le_of_ble_eq_true rfl) (Nat.le_of_ble_eq_true rfl)) (Nat.le_of_ble_eq_true rfl) hRm.2.2 dX10_readsPerson_109 (fun c6 u10 f6 => ?_)
    exact z_zretC hc dX10_readsPerson_112
set_option maxRecDepth 100000 in
set_option maxHeartbeats 4000000 in
theorem sMo_readsPerson : ∀ (u : zM) r m1, Mo_readsPerson u = some (r, m1) → zMet l (wM D b) 3 65 yX10_readsPerson cX10_readsPerson 2 (some .boolean) [.ref 1] u (eI r) m1 := by
  intro u
  refine zMet.of (L := [(0, .ref 1)]) RX10 (by decide +kernel) rfl (Nat.le_of_ble_eq_true rfl) (fun h => by cases h) rfl (fun p e s mi args below meth c R fin hc hin hRm => ?_)
  unfold Mo_readsPerson
  refine z_iconst (v := 5) hc dX10_readsPerson_0 rfl ?_
  refine z_aload_n hc dX10_readsPerson_1 0 rfl rfl ?_
  refine z_getR (x := 3) hc (ci := 10) (k := 10) (by decide) (by decide) zly10 lM1 (zkM lM1) wFX10_13 rfl dX10_readsPerson_2 rfl (by decide) ?_
  refine z_bipush (v := 8) hc dX10_readsPerson_5 rfl ?_
  refine z_iald (k := 8) hc lM3 (zkM lM3) rfl rfl dX10_readsPerson_7 ?_
  refine z_iadd hc dX10_readsPerson_8 ?_
  refine zJ.letI (fun x1 e1 => ?_)
  refine z_istore_n (L' := [(1, .int x1), (0, .ref 1)]) hc dX10_readsPerson_9 rfl (by decide) rfl rfl ?_
  refine z_iload_n hc dX10_readsPerson_10 0 rfl rfl ?_
  refine z_bipush (v := 10) hc dX10_readsPerson_11 rfl ?_
  refine z_icmp_ne (tgt := 22) hc dX10_readsPerson_13 (by decide) _ (fun h1 => ?_) (fun h1 => ?_)
  · refine z_aload_n hc dX10_readsPerson_22 1 rfl rfl ?_
    refine z_callV (av := []) (enc' := eV) hc rfl (sMo_nextToken _) (ci := 10) (by decide) lM1 (zkM lM1) rfl wMX10_233 hpyX10_nextToken hmyX10_nextToken (rm_ok hRm (Nat.le_of_ble_eq_true rfl) (Nat.le_of_ble_eq_true rfl)) (Nat.le_of_ble_eq_true rfl) hRm.2.2 dX10_readsPerson_23 (fun c1 u1 f1 => ?_)
    refine z_aload_n hc dX10_readsPerson_26 1 rfl rfl ?_
    refine z_callV (av := []) (enc' := eI) hc rfl (sMo_needsNew _) (ci := 10) (by decide) lM1 (zkM lM1) rfl wMX10_329 hpyX10_needsNew hmyX10_needsNew (rm_ok hRm (Nat.le_of_ble_eq_true rfl) (Nat.le_of_ble_eq_true rfl)) (Nat.le_of_ble_eq_true rfl) hRm.2.2 dX10_readsPerson_27 (fun c2 u2 f2 => ?_)
    refine z_if_ne (tgt := 35) hc dX10_readsPerson_30 (by decide) _ (fun h2 => ?_) (fun h2 => ?_)
    · refine z_aload_n hc dX10_readsPerson_35 1 rfl rfl ?_
      refine z_getR (x := 10) hc (ci := 10) (k := 17) (by decide) (by decide) zly10 lM1 (zkM lM1) wFX10_35 rfl dX10_readsPerson_36 rfl (by decide) ?_
      refine z_iload_n hc dX10_readsPerson_39 0 rfl rfl ?_
      refine z_aload_n hc dX10_readsPerson_40 1 rfl rfl ?_
      refine z_ldc2 (v := 8740238) hc wKX10_281 dX10_readsPerson_41 ?_
      refine z_callV (av := [.long 8740238]) (enc' := eI) hc rfl (sMo_isWord 8740238 _) (ci := 10) (by decide) lM1 (zkM lM1) rfl wMX10_218 hpyX10_isWord hmyX10_isWord (rm_ok hRm (Nat.le_of_ble_eq_true rfl) (Nat.le_of_ble_eq_true rfl)) (Nat.le_of_ble_eq_true rfl) hRm.2.2 dX10_readsPerson_44 (fun c3 u3 f3 => ?_)
      refine z_if_eq (tgt := 54) hc dX10_readsPerson_47 (by decide) _ (fun h3 => ?_) (fun h3 => ?_)
      · refine z_aload_n hc dX10_readsPerson_54 1 rfl rfl ?_
        refine z_ldc2 (v := 453949) hc wKX10_283 dX10_readsPerson_55 ?_
        refine z_callV (av := [.long 453949]) (enc' := eI) hc rfl (sMo_isWord 453949 _) (ci := 10) (by decide) lM1 (zkM lM1) rfl wMX10_218 hpyX10_isWord hmyX10_isWord (rm_ok hRm (Nat.le_of_ble_eq_true rfl) (Nat.le_of_ble_eq_true rfl)) (Nat.le_of_ble_eq_true rfl) hRm.2.2 dX10_readsPerson_58 (fun c4 u4 f4 => ?_)
        refine z_if_eq (tgt := 68) hc dX10_readsPerson_61 (by decide) _ (fun h4 => ?_) (fun h4 => ?_)
        · refine z_aload_n hc dX10_readsPerson_68 1 rfl rfl ?_
          refine z_ldc2 (v := 29628900) hc wKX10_285 dX10_readsPerson_69 ?_
          refine z_callV (av := [.long 29628900]) (enc' := eI) hc rfl (sMo_isWord 29628900 _) (ci := 10) (by decide) lM1 (zkM lM1) rfl wMX10_218 hpyX10_isWord hmyX10_isWord (rm_ok hRm (Nat.le_of_ble_eq_true rfl) (Nat.le_of_ble_eq_true rfl)) (Nat.le_of_ble_eq_true rfl) hRm.2.2 dX10_readsPerson_72 (fun c5 u5 f5 => ?_)
          refine z_if_eq (tgt := 82) hc dX10_readsPerson_75 (by decide) _ (fun h5 => ?_) (fun h5 => ?_)
          · refine z_aload_n hc dX10_readsPerson_82 1 rfl rfl ?_
            refine z_ldc2 (v := 83023) hc wKX10_287 dX10_readsPerson_83 ?_
            refine z_callV (av := [.long 83023]) (enc' := eI) hc rfl (sMo_isWord 83023 _) (ci := 10) (by decide) lM1 (zkM lM1) rfl wMX10_218 hpyX10_isWord hmyX10_isWord (rm_ok hRm (Nat.le_of_ble_eq_true rfl) (Nat.le_of_ble_eq_true rfl)) (Nat.le_of_ble_eq_true rfl) hRm.2.2 dX10_readsPerson_86 (fun c6 u6 f6 => ?_)
            refine z_if_eq (tgt := 96) hc dX10_readsPerson_89 (by decide) _ (fun h6 => ?_) (fun h6 => ?_)
            · refine z_iconst (v := (-1)) hc dX10_readsPerson_96 rfl ?_
              refine zJ.sub (L' := [(0, .ref 1), (1, .int x1)]) [1, 0] rfl ?_
              exact sMo_readsPerson_97 hc hRm x1 x1 (-1) _
            · refine z_iconst (v := 3) hc dX10_readsPerson_92 rfl ?_
              refine z_goto (tgt := 97) hc dX10_readsPerson_93 (by decide) ?_
              refine zJ.sub (L' := [(0, .ref 1), (1, .int x1)]) [1, 0] rfl ?_
              exact sMo_readsPerson_97 hc hRm x1 x1 3 _
          · refine z_iconst (v := 2) hc dX10_readsPerson_78 rfl ?_
            refine z_goto (tgt := 97) hc dX10_readsPerson_79 (by decide) ?_
            refine zJ.sub (L' := [(0, .ref 1), (1, .int x1)]) [1, 0] rfl ?_
            exact sMo_readsPerson_97 hc hRm x1 x1 2 _
        · refine z_iconst (v := 1) hc dX10_readsPerson_64 rfl ?_
          refine z_goto (tgt := 97) hc dX10_readsPerson_65 (by decide) ?_
          refine zJ.sub (L' := [(0, .ref 1), (1, .int x1)]) [1, 0] rfl ?_
          exact sMo_readsPerson_97 hc hRm x1 x1 1 _
      · refine z_iconst (v := 0) hc dX10_readsPerson_50 rfl ?_
        refine z_goto (tgt := 97) hc dX10_readsPerson_51 (by decide) ?_
        refine zJ.sub (L' := [(0, .ref 1), (1, .int x1)]) [1, 0] rfl ?_
        exact sMo_readsPerson_97 hc hRm x1 x1 0 _
    · refine z_iconst (v := 0) hc dX10_readsPerson_33 rfl ?_
      exact z_zret hc rfl dX10_readsPerson_34
  · refine z_aload_n hc dX10_readsPerson_16 1 rfl rfl ?_
    refine z_iconst (v := 5) hc dX10_readsPerson_17 rfl ?_
    refine z_callV (av := [.int 5]) (enc' := eI) hc rfl (sMo_fails 5 _) (ci := 10) (by decide) lM1 (zkM lM1) rfl wMX10_226 hpyX10_fails hmyX10_fails (rm_ok hRm (Nat.le_of_ble_eq_true rfl) (Nat.le_of_ble_eq_true rfl)) (Nat.le_of_ble_eq_true rfl) hRm.2.2 dX10_readsPerson_18 (fun c7 u7 f7 => ?_)
    exact z_zretC hc dX10_readsPerson_21
set_option maxRecDepth 100000 in
set_option maxHeartbeats 4000000 in
theorem sMo_readsOtter : ∀ (u : zM) r m1, Mo_readsOtter u = some (r, m1) → zMet l (wM D b) 4 88 yX10_readsOtter cX10_readsOtter 2 (some .boolean) [.ref 1] u (eI r) m1 := by
  intro u
  refine zMet.of (L := [(0, .ref 1)]) RX10 (by decide +kernel) rfl (Nat.le_of_ble_eq_true rfl) (fun h => by cases h) rfl (fun p e s mi args below meth c R fin hc hin hRm => ?_)
  unfold Mo_readsOtter
  refine z_iconst (v := 3) hc dX10_readsOtter_0 rfl ?_
  refine z_aload_n hc dX10_readsOtter_1 0 rfl rfl ?_
  refine z_getR (x := 3) hc (ci := 10) (k := 10) (by decide) (by decide) zly10 lM1 (zkM lM1) wFX10_13 rfl dX10_readsOtter_2 rfl (by decide) ?_
  refine z_bipush (v := 9) hc dX10_readsOtter_5 rfl ?_
  refine z_iald (k := 9) hc lM3 (zkM lM3) rfl rfl dX10_readsOtter_7 ?_
  refine z_iadd hc dX10_readsOtter_8 ?_
  refine zJ.letI (fun x1 e1 => ?_)
  refine z_istore_n (L' := [(1, .int x1), (0, .ref 1)]) hc dX10_readsOtter_9 rfl (by decide) rfl rfl ?_
  refine z_iload_n hc dX10_readsOtter_10 0 rfl rfl ?_
  refine z_bipush (v := 6) hc dX10_readsOtter_11 rfl ?_
  refine z_icmp_ne (tgt := 22) hc dX10_readsOtter_13 (by decide) _ (fun h1 => ?_) (fun h1 => ?_)
  · refine z_aload_n hc dX10_readsOtter_22 1 rfl rfl ?_
    refine z_callV (av := []) (enc' := eV) hc rfl (sMo_nextToken _) (ci := 10) (by decide) lM1 (zkM lM1) rfl wMX10_233 hpyX10_nextToken hmyX10_nextToken (rm_ok hRm (Nat.le_of_ble_eq_true rfl) (Nat.le_of_ble_eq_true rfl)) (Nat.le_of_ble_eq_true rfl) hRm.2.2 dX10_readsOtter_23 (fun c1 u1 f1 => ?_)
    refine z_aload_n hc dX10_readsOtter_26 1 rfl rfl ?_
    refine z_callV (av := []) (enc' := eI) hc rfl (sMo_needsNew _) (ci := 10) (by decide) lM1 (zkM lM1) rfl wMX10_329 hpyX10_needsNew hmyX10_needsNew (rm_ok hRm (Nat.le_of_ble_eq_true rfl) (Nat.le_of_ble_eq_true rfl)) (Nat.le_of_ble_eq_true rfl) hRm.2.2 dX10_readsOtter_27 (fun c2 u2 f2 => ?_)
    refine z_if_eq (tgt := 55) hc dX10_readsOtter_30 (by decide) _ (fun h2 => ?_) (fun h2 => ?_)
    · refine z_iconst (v := 0) hc dX10_readsOtter_55 rfl ?_
      exact z_zret hc rfl dX10_readsOtter_56
    · refine z_aload_n hc dX10_readsOtter_33 1 rfl rfl ?_
      refine z_ldc2 (v := 257) hc wKX10_257 dX10_readsOtter_34 ?_
      refine z_callV (av := [.long 257]) (enc' := eI) hc rfl (sMo_needsWord 257 _) (ci := 10) (by decide) lM1 (zkM lM1) rfl wMX10_300 hpyX10_needsWord hmyX10_needsWord (rm_ok hRm (Nat.le_of_ble_eq_true rfl) (Nat.le_of_ble_eq_true rfl)) (Nat.le_of_ble_eq_true rfl) hRm.2.2 dX10_readsOtter_37 (fun c3 u3 f3 => ?_)
      refine z_if_eq (tgt := 55) hc dX10_readsOtter_40 (by decide) _ (fun h3 => ?_) (fun h3 => ?_)
      · refine z_iconst (v := 0) hc dX10_readsOtter_55 rfl ?_
        exact z_zret hc rfl dX10_readsOtter_56
      · refine z_aload_n hc dX10_readsOtter_43 1 rfl rfl ?_
        refine z_aload_n hc dX10_readsOtter_44 1 rfl rfl ?_
        refine z_iconst (v := 1) hc dX10_readsOtter_45 rfl ?_
        refine z_callV (av := [.int 1]) (enc' := eI) hc rfl (sMo_placeNamed 1 _) (ci := 10) (by decide) lM1 (zkM lM1) rfl wMX10_311 hpyX10_placeNamed hmyX10_placeNamed (rm_ok hRm (Nat.le_of_ble_eq_true rfl) (Nat.le_of_ble_eq_true rfl)) (Nat.le_of_ble_eq_true rfl) hRm.2.2 dX10_readsOtter_46 (fun c4 u4 f4 => ?_)
        refine z_callV (av := [.int c4]) (enc' := eI) hc rfl (sMo_passesFound c4 _) (ci := 10) (by decide) lM1 (zkM lM1) rfl wMX10_339 hpyX10_passesFound hmyX10_passesFound (rm_ok hRm (Nat.le_of_ble_eq_true rfl) (Nat.le_of_ble_eq_true rfl)) (Nat.le_of_ble_eq_true rfl) hRm.2.2 dX10_readsOtter_49 (fun c5 u5 f5 => ?_)
        refine z_if_ne (tgt := 57) hc dX10_readsOtter_52 (by decide) _ (fun h4 => ?_) (fun h4 => ?_)
        · refine z_aload_n hc dX10_readsOtter_57 1 rfl rfl ?_
          refine z_getR (x := 12) hc (ci := 10) (k := 19) (by decide) (by decide) zly10 lM1 (zkM lM1) wFX10_41 rfl dX10_readsOtter_58 rfl (by decide) ?_
          refine z_iload_n hc dX10_readsOtter_61 0 rfl rfl ?_
          refine z_aload_n hc dX10_readsOtter_62 1 rfl rfl ?_
          refine z_getI hc (ci := 10) (k := 40) (by decide) (by decide) zly10 lM1 (zkM lM1) wFX10_297 rfl dX10_readsOtter_63 ?_
          refine zJ.chk _ (fun h5 => ?_)
          refine z_iast (k := (ix x1)) hc lM12 (zkM lM12) h5 rfl dX10_readsOtter_66 ?_
          refine zJ.letM (fun u6 e2 => ?_)
          refine z_aload_n hc dX10_readsOtter_67 1 rfl rfl ?_
          refine z_ldc2 (v := 315743) hc wKX10_261 dX10_readsOtter_68 ?_
          refine z_iconst (v := 1) hc dX10_readsOtter_71 rfl ?_
          refine z_iconst (v := 3) hc dX10_readsOtter_72 rfl ?_
          refine z_callV (av := [.long 315743, .int 1, .int 3]) (enc' := eI) hc rfl (sMo_needsBoth 315743 1 3 _) (ci := 10) (by decide) lM1 (zkM lM1) rfl wMX10_332 hpyX10_needsBoth hmyX10_needsBoth (rm_ok hRm (Nat.le_of_ble_eq_true rfl) (Nat.le_of_ble_eq_true rfl)) (Nat.le_of_ble_eq_true rfl) hRm.2.2 dX10_readsOtter_73 (fun c6 u7 f6 => ?_)
          refine z_if_ne (tgt := 81) hc dX10_readsOtter_76 (by decide) _ (fun h6 => ?_) (fun h6 => ?_)
          · refine z_aload_n hc dX10_readsOtter_81 1 rfl rfl ?_
            refine z_getR (x := 13) hc (ci := 10) (k := 20) (by decide) (by decide) zly10 lM1 (zkM lM1) wFX10_44 rfl dX10_readsOtter_82 rfl (by decide) ?_
            refine z_iload_n hc dX10_readsOtter_85 0 rfl rfl ?_
            refine z_aload_n hc dX10_readsOtter_86 1 rfl rfl ?_
            refine z_getI hc (ci := 10) (k := 40) (by decide) (by decide) zly10 lM1 (zkM lM1) wFX10_297 rfl dX10_readsOtter_87 ?_
            refine zJ.chk _ (fun h7 => ?_)
            refine z_iast (k := (ix x1)) hc lM13 (zkM lM13) h7 rfl dX10_readsOtter_90 ?_
            refine zJ.letM (fun u8 e3 => ?_)
            refine z_aload_n hc dX10_readsOtter_91 1 rfl rfl ?_
            refine z_getR (x := 6) hc (ci := 10) (k := 13) (by decide) (by decide) zly10 lM1 (zkM lM1) wFX10_23 rfl dX10_readsOtter_92 rfl (by decide) ?_
            refine z_iload_n hc dX10_readsOtter_95 0 rfl rfl ?_
            refine z_aload_n hc dX10_readsOtter_96 1 rfl rfl ?_
            refine z_getL hc (ci := 10) (k := 41) (by decide) (by decide) zly10 lM1 (zkM lM1) wFX10_323 rfl dX10_readsOtter_97 ?_
            refine zJ.chk _ (fun h8 => ?_)
            refine z_last (k := (ix x1)) hc lM6 (zkM lM6) h8 rfl dX10_readsOtter_100 ?_
            refine zJ.letM (fun u9 e4 => ?_)
            refine z_aload_n hc dX10_readsOtter_101 1 rfl rfl ?_
            refine z_getR (x := 3) hc (ci := 10) (k := 10) (by decide) (by decide) zly10 lM1 (zkM lM1) wFX10_13 rfl dX10_readsOtter_102 rfl (by decide) ?_
            refine z_bipush (v := 9) hc dX10_readsOtter_105 rfl ?_
            refine z_dup2 hc dX10_readsOtter_107 rfl rfl ?_
            refine z_iald (k := 9) hc lM3 (zkM lM3) rfl rfl dX10_readsOtter_108 ?_
            refine z_iconst (v := 1) hc dX10_readsOtter_109 rfl ?_
            refine z_iadd hc dX10_readsOtter_110 ?_
            refine z_iast (k := 9) hc lM3 (zkM lM3) rfl rfl dX10_readsOtter_111 ?_
            refine zJ.letM (fun u10 e5 => ?_)
            refine z_aload_n hc dX10_readsOtter_112 1 rfl rfl ?_
            refine z_callV (av := []) (enc' := eI) hc rfl (sMo_closes _) (ci := 10) (by decide) lM1 (zkM lM1) rfl wMX10_336 hpyX10_closes hmyX10_closes (rm_ok hRm (Nat.le_of_ble_eq_true rfl) (Nat.le_of_ble_eq_true rfl)) (Nat.le_of_ble_eq_true rfl) hRm.2.2 dX10_readsOtter_113 (fun c7 u11 f7 => ?_)
            exact z_zretC hc dX10_readsOtter_116
          · refine z_iconst (v := 0) hc dX10_readsOtter_79 rfl ?_
            exact z_zret hc rfl dX10_readsOtter_80
        · refine z_iconst (v := 0) hc dX10_readsOtter_55 rfl ?_
          exact z_zret hc rfl dX10_readsOtter_56
  · refine z_aload_n hc dX10_readsOtter_16 1 rfl rfl ?_
    refine z_iconst (v := 5) hc dX10_readsOtter_17 rfl ?_
    refine z_callV (av := [.int 5]) (enc' := eI) hc rfl (sMo_fails 5 _) (ci := 10) (by decide) lM1 (zkM lM1) rfl wMX10_226 hpyX10_fails hmyX10_fails (rm_ok hRm (Nat.le_of_ble_eq_true rfl) (Nat.le_of_ble_eq_true rfl)) (Nat.le_of_ble_eq_true rfl) hRm.2.2 dX10_readsOtter_18 (fun c8 u12 f8 => ?_)
    exact z_zretC hc dX10_readsOtter_21
set_option maxRecDepth 100000 in
set_option maxHeartbeats 4000000 in
theorem sMo_readsWrit : ∀ (u : zM) r m1, Mo_readsWrit u = some (r, m1) → zMet l (wM D b) 4 88 yX10_readsWrit cX10_readsWrit 2 (some .boolean) [.ref 1] u (eI r) m1 := by
  intro u
  refine zMet.of (L := [(0, .ref 1)]) RX10 (by decide +kernel) rfl (Nat.le_of_ble_eq_true rfl) (fun h => by cases h) rfl (fun p e s mi args below meth c R fin hc hin hRm => ?_)
  unfold Mo_readsWrit
  refine z_bipush (v := 6) hc dX10_readsWrit_0 rfl ?_
  refine z_aload_n hc dX10_readsWrit_2 0 rfl rfl ?_
  refine z_getR (x := 3) hc (ci := 10) (k := 10) (by decide) (by decide) zly10 lM1 (zkM lM1) wFX10_13 rfl dX10_readsWrit_3 rfl (by decide) ?_
  refine z_bipush (v := 10) hc dX10_readsWrit_6 rfl ?_
  refine z_iald (k := 10) hc lM3 (zkM lM3) rfl rfl dX10_readsWrit_8 ?_
  refine z_iadd hc dX10_readsWrit_9 ?_
  refine zJ.letI (fun x1 e1 => ?_)
  refine z_istore_n (L' := [(1, .int x1), (0, .ref 1)]) hc dX10_readsWrit_10 rfl (by decide) rfl rfl ?_
  refine z_iload_n hc dX10_readsWrit_11 0 rfl rfl ?_
  refine z_bipush (v := 12) hc dX10_readsWrit_12 rfl ?_
  refine z_icmp_ne (tgt := 23) hc dX10_readsWrit_14 (by decide) _ (fun h1 => ?_) (fun h1 => ?_)
  · refine z_aload_n hc dX10_readsWrit_23 1 rfl rfl ?_
    refine z_callV (av := []) (enc' := eV) hc rfl (sMo_nextToken _) (ci := 10) (by decide) lM1 (zkM lM1) rfl wMX10_233 hpyX10_nextToken hmyX10_nextToken (rm_ok hRm (Nat.le_of_ble_eq_true rfl) (Nat.le_of_ble_eq_true rfl)) (Nat.le_of_ble_eq_true rfl) hRm.2.2 dX10_readsWrit_24 (fun c1 u1 f1 => ?_)
    refine z_aload_n hc dX10_readsWrit_27 1 rfl rfl ?_
    refine z_callV (av := []) (enc' := eI) hc rfl (sMo_needsNew _) (ci := 10) (by decide) lM1 (zkM lM1) rfl wMX10_329 hpyX10_needsNew hmyX10_needsNew (rm_ok hRm (Nat.le_of_ble_eq_true rfl) (Nat.le_of_ble_eq_true rfl)) (Nat.le_of_ble_eq_true rfl) hRm.2.2 dX10_readsWrit_28 (fun c2 u2 f2 => ?_)
    refine z_if_eq (tgt := 56) hc dX10_readsWrit_31 (by decide) _ (fun h2 => ?_) (fun h2 => ?_)
    · refine z_iconst (v := 0) hc dX10_readsWrit_56 rfl ?_
      exact z_zret hc rfl dX10_readsWrit_57
    · refine z_aload_n hc dX10_readsWrit_34 1 rfl rfl ?_
      refine z_ldc2 (v := 4797) hc wKX10_265 dX10_readsWrit_35 ?_
      refine z_callV (av := [.long 4797]) (enc' := eI) hc rfl (sMo_needsWord 4797 _) (ci := 10) (by decide) lM1 (zkM lM1) rfl wMX10_300 hpyX10_needsWord hmyX10_needsWord (rm_ok hRm (Nat.le_of_ble_eq_true rfl) (Nat.le_of_ble_eq_true rfl)) (Nat.le_of_ble_eq_true rfl) hRm.2.2 dX10_readsWrit_38 (fun c3 u3 f3 => ?_)
      refine z_if_eq (tgt := 56) hc dX10_readsWrit_41 (by decide) _ (fun h3 => ?_) (fun h3 => ?_)
      · refine z_iconst (v := 0) hc dX10_readsWrit_56 rfl ?_
        exact z_zret hc rfl dX10_readsWrit_57
      · refine z_aload_n hc dX10_readsWrit_44 1 rfl rfl ?_
        refine z_aload_n hc dX10_readsWrit_45 1 rfl rfl ?_
        refine z_iconst (v := 1) hc dX10_readsWrit_46 rfl ?_
        refine z_callV (av := [.int 1]) (enc' := eI) hc rfl (sMo_personNamed 1 _) (ci := 10) (by decide) lM1 (zkM lM1) rfl wMX10_314 hpyX10_personNamed hmyX10_personNamed (rm_ok hRm (Nat.le_of_ble_eq_true rfl) (Nat.le_of_ble_eq_true rfl)) (Nat.le_of_ble_eq_true rfl) hRm.2.2 dX10_readsWrit_47 (fun c4 u4 f4 => ?_)
        refine z_callV (av := [.int c4]) (enc' := eI) hc rfl (sMo_passesFound c4 _) (ci := 10) (by decide) lM1 (zkM lM1) rfl wMX10_339 hpyX10_passesFound hmyX10_passesFound (rm_ok hRm (Nat.le_of_ble_eq_true rfl) (Nat.le_of_ble_eq_true rfl)) (Nat.le_of_ble_eq_true rfl) hRm.2.2 dX10_readsWrit_50 (fun c5 u5 f5 => ?_)
        refine z_if_ne (tgt := 58) hc dX10_readsWrit_53 (by decide) _ (fun h4 => ?_) (fun h4 => ?_)
        · refine z_aload_n hc dX10_readsWrit_58 1 rfl rfl ?_
          refine z_getR (x := 14) hc (ci := 10) (k := 21) (by decide) (by decide) zly10 lM1 (zkM lM1) wFX10_47 rfl dX10_readsWrit_59 rfl (by decide) ?_
          refine z_iload_n hc dX10_readsWrit_62 0 rfl rfl ?_
          refine z_aload_n hc dX10_readsWrit_63 1 rfl rfl ?_
          refine z_getI hc (ci := 10) (k := 40) (by decide) (by decide) zly10 lM1 (zkM lM1) wFX10_297 rfl dX10_readsWrit_64 ?_
          refine zJ.chk _ (fun h5 => ?_)
          refine z_iast (k := (ix x1)) hc lM14 (zkM lM14) h5 rfl dX10_readsWrit_67 ?_
          refine zJ.letM (fun u6 e2 => ?_)
          refine z_aload_n hc dX10_readsWrit_68 1 rfl rfl ?_
          refine z_ldc2 (v := 79) hc wKX10_267 dX10_readsWrit_69 ?_
          refine z_iconst (v := 0) hc dX10_readsWrit_72 rfl ?_
          refine z_bipush (v := 60) hc dX10_readsWrit_73 rfl ?_
          refine z_callV (av := [.long 79, .int 0, .int 60]) (enc' := eI) hc rfl (sMo_needsBoth 79 0 60 _) (ci := 10) (by decide) lM1 (zkM lM1) rfl wMX10_332 hpyX10_needsBoth hmyX10_needsBoth (rm_ok hRm (Nat.le_of_ble_eq_true rfl) (Nat.le_of_ble_eq_true rfl)) (Nat.le_of_ble_eq_true rfl) hRm.2.2 dX10_readsWrit_75 (fun c6 u7 f6 => ?_)
          refine z_if_ne (tgt := 83) hc dX10_readsWrit_78 (by decide) _ (fun h6 => ?_) (fun h6 => ?_)
          · refine z_aload_n hc dX10_readsWrit_83 1 rfl rfl ?_
            refine z_getR (x := 15) hc (ci := 10) (k := 22) (by decide) (by decide) zly10 lM1 (zkM lM1) wFX10_50 rfl dX10_readsWrit_84 rfl (by decide) ?_
            refine z_iload_n hc dX10_readsWrit_87 0 rfl rfl ?_
            refine z_aload_n hc dX10_readsWrit_88 1 rfl rfl ?_
            refine z_getI hc (ci := 10) (k := 40) (by decide) (by decide) zly10 lM1 (zkM lM1) wFX10_297 rfl dX10_readsWrit_89 ?_
            refine zJ.chk _ (fun h7 => ?_)
            refine z_iast (k := (ix x1)) hc lM15 (zkM lM15) h7 rfl dX10_readsWrit_92 ?_
            refine zJ.letM (fun u8 e3 => ?_)
            refine z_aload_n hc dX10_readsWrit_93 1 rfl rfl ?_
            refine z_getR (x := 7) hc (ci := 10) (k := 14) (by decide) (by decide) zly10 lM1 (zkM lM1) wFX10_26 rfl dX10_readsWrit_94 rfl (by decide) ?_
            refine z_iload_n hc dX10_readsWrit_97 0 rfl rfl ?_
            refine z_aload_n hc dX10_readsWrit_98 1 rfl rfl ?_
            refine z_getL hc (ci := 10) (k := 41) (by decide) (by decide) zly10 lM1 (zkM lM1) wFX10_323 rfl dX10_readsWrit_99 ?_
            refine zJ.chk _ (fun h8 => ?_)
            refine z_last (k := (ix x1)) hc lM7 (zkM lM7) h8 rfl dX10_readsWrit_102 ?_
            refine zJ.letM (fun u9 e4 => ?_)
            refine z_aload_n hc dX10_readsWrit_103 1 rfl rfl ?_
            refine z_getR (x := 3) hc (ci := 10) (k := 10) (by decide) (by decide) zly10 lM1 (zkM lM1) wFX10_13 rfl dX10_readsWrit_104 rfl (by decide) ?_
            refine z_bipush (v := 10) hc dX10_readsWrit_107 rfl ?_
            refine z_dup2 hc dX10_readsWrit_109 rfl rfl ?_
            refine z_iald (k := 10) hc lM3 (zkM lM3) rfl rfl dX10_readsWrit_110 ?_
            refine z_iconst (v := 1) hc dX10_readsWrit_111 rfl ?_
            refine z_iadd hc dX10_readsWrit_112 ?_
            refine z_iast (k := 10) hc lM3 (zkM lM3) rfl rfl dX10_readsWrit_113 ?_
            refine zJ.letM (fun u10 e5 => ?_)
            refine z_aload_n hc dX10_readsWrit_114 1 rfl rfl ?_
            refine z_callV (av := []) (enc' := eI) hc rfl (sMo_closes _) (ci := 10) (by decide) lM1 (zkM lM1) rfl wMX10_336 hpyX10_closes hmyX10_closes (rm_ok hRm (Nat.le_of_ble_eq_true rfl) (Nat.le_of_ble_eq_true rfl)) (Nat.le_of_ble_eq_true rfl) hRm.2.2 dX10_readsWrit_115 (fun c7 u11 f7 => ?_)
            exact z_zretC hc dX10_readsWrit_118
          · refine z_iconst (v := 0) hc dX10_readsWrit_81 rfl ?_
            exact z_zret hc rfl dX10_readsWrit_82
        · refine z_iconst (v := 0) hc dX10_readsWrit_56 rfl ?_
          exact z_zret hc rfl dX10_readsWrit_57
  · refine z_aload_n hc dX10_readsWrit_17 1 rfl rfl ?_
    refine z_iconst (v := 5) hc dX10_readsWrit_18 rfl ?_
    refine z_callV (av := [.int 5]) (enc' := eI) hc rfl (sMo_fails 5 _) (ci := 10) (by decide) lM1 (zkM lM1) rfl wMX10_226 hpyX10_fails hmyX10_fails (rm_ok hRm (Nat.le_of_ble_eq_true rfl) (Nat.le_of_ble_eq_true rfl)) (Nat.le_of_ble_eq_true rfl) hRm.2.2 dX10_readsWrit_19 (fun c8 u12 f8 => ?_)
    exact z_zretC hc dX10_readsWrit_22
set_option maxRecDepth 100000 in
set_option maxHeartbeats 4000000 in
theorem sMo_readsRain_38 {fin : Int32 × zM} (hc : zCx p s mi args meth c (wM D b) m0 RX10 cX10_readsRain 1 (some .boolean)) (hRm : R.frames = 3 ∧ R.locals = 62 ∧ R.cells = zc (wM D b) m0 fin.2 ∧ R.slots = zs (wM D b) m0 fin.2) {zr20 : zM → Option (Int32 × zM)} (hr20 : ∀ (u : zM), zJ eI p l e R s mi args below meth c (wM D b) m0 1 fin 20 [(0, .ref 1)] [] u (zr20 u)) (u : zM) : zJ eI p l e R s mi args below meth c (wM D b) m0 1 fin 38 [(0, .ref 1)] [] u (Mo_readsRain_38 zr20 u) := by
  unfold Mo_readsRain_38
  refine z_aload_n hc dX10_readsRain_38 0 rfl rfl ?_
  refine z_getI hc (ci := 10) (k := 6) (by decide) (by decide) zly10 lM1 (zkM lM1) wFX10_187 rfl dX10_readsRain_39 ?_
  refine z_iconst (v := 2) hc dX10_readsRain_42 rfl ?_
  refine z_icmp_eq (tgt := 52) hc dX10_readsRain_43 (by decide) _ (fun h1 => ?_) (fun h1 => ?_)
  · refine z_aload_n hc dX10_readsRain_52 0 rfl rfl ?_
    refine z_getI hc (ci := 10) (k := 8) (by decide) (by decide) zly10 lM1 (zkM lM1) wFX10_184 rfl dX10_readsRain_53 ?_
    refine z_bipush (v := 9) hc dX10_readsRain_56 rfl ?_
    refine z_icmp_le (tgt := 67) hc dX10_readsRain_58 (by decide) _ (fun h2 => ?_) (fun h2 => ?_)
    · refine z_aload_n hc dX10_readsRain_67 0 rfl rfl ?_
      refine z_getR (x := 3) hc (ci := 10) (k := 10) (by decide) (by decide) zly10 lM1 (zkM lM1) wFX10_13 rfl dX10_readsRain_68 rfl (by decide) ?_
      refine z_bipush (v := 11) hc dX10_readsRain_71 rfl ?_
      refine z_iald (k := 11) hc lM3 (zkM lM3) rfl rfl dX10_readsRain_73 ?_
      refine z_bipush (v := 12) hc dX10_readsRain_74 rfl ?_
      refine z_icmp_ne (tgt := 85) hc dX10_readsRain_76 (by decide) _ (fun h3 => ?_) (fun h3 => ?_)
      · refine z_aload_n hc dX10_readsRain_85 0 rfl rfl ?_
        refine z_getR (x := 16) hc (ci := 10) (k := 23) (by decide) (by decide) zly10 lM1 (zkM lM1) wFX10_53 rfl dX10_readsRain_86 rfl (by decide) ?_
        refine z_bipush (v := 12) hc dX10_readsRain_89 rfl ?_
        refine z_aload_n hc dX10_readsRain_91 0 rfl rfl ?_
        refine z_getR (x := 3) hc (ci := 10) (k := 10) (by decide) (by decide) zly10 lM1 (zkM lM1) wFX10_13 rfl dX10_readsRain_92 rfl (by decide) ?_
        refine z_bipush (v := 11) hc dX10_readsRain_95 rfl ?_
        refine z_iald (k := 11) hc lM3 (zkM lM3) rfl rfl dX10_readsRain_97 ?_
        refine z_iadd hc dX10_readsRain_98 ?_
        refine z_aload_n hc dX10_readsRain_99 0 rfl rfl ?_
        refine z_getI hc (ci := 10) (k := 8) (by decide) (by decide) zly10 lM1 (zkM lM1) wFX10_184 rfl dX10_readsRain_100 ?_
        refine zJ.chk _ (fun h4 => ?_)
        refine z_iast (k := (ix (12 + (gI u 3 11)))) hc lM16 (zkM lM16) h4 rfl dX10_readsRain_103 ?_
        refine zJ.letM (fun u1 e1 => ?_)
        refine z_aload_n hc dX10_readsRain_104 0 rfl rfl ?_
        refine z_getR (x := 3) hc (ci := 10) (k := 10) (by decide) (by decide) zly10 lM1 (zkM lM1) wFX10_13 rfl dX10_readsRain_105 rfl (by decide) ?_
        refine z_bipush (v := 11) hc dX10_readsRain_108 rfl ?_
        refine z_dup2 hc dX10_readsRain_110 rfl rfl ?_
        refine z_iald (k := 11) hc lM3 (zkM lM3) rfl rfl dX10_readsRain_111 ?_
        refine z_iconst (v := 1) hc dX10_readsRain_112 rfl ?_
        refine z_iadd hc dX10_readsRain_113 ?_
        refine z_iast (k := 11) hc lM3 (zkM lM3) rfl rfl dX10_readsRain_114 ?_
        refine zJ.letM (fun u2 e2 => ?_)
        refine z_aload_n hc dX10_readsRain_115 0 rfl rfl ?_
        refine z_callV (av := []) (enc' := eV) hc rfl (sMo_nextToken _) (ci := 10) (by decide) lM1 (zkM lM1) rfl wMX10_233 hpyX10_nextToken hmyX10_nextToken (rm_ok hRm (Nat.le_of_ble_eq_true rfl) (Nat.le_of_ble_eq_true rfl)) (Nat.le_of_ble_eq_true rfl) hRm.2.2 dX10_readsRain_116 (fun c1 u3 f1 => ?_)
        refine z_goto (tgt := 20) hc dX10_readsRain_119 (by decide) ?_
        exact hr20 _
      · refine z_aload_n hc dX10_readsRain_79 0 rfl rfl ?_
        refine z_iconst (v := 5) hc dX10_readsRain_80 rfl ?_
        refine z_callV (av := [.int 5]) (enc' := eI) hc rfl (sMo_fails 5 _) (ci := 10) (by decide) lM1 (zkM lM1) rfl wMX10_226 hpyX10_fails hmyX10_fails (rm_ok hRm (Nat.le_of_ble_eq_true rfl) (Nat.le_of_ble_eq_true rfl)) (Nat.le_of_ble_eq_true rfl) hRm.2.2 dX10_readsRain_81 (fun c2 u4 f2 => ?_)
        exact z_zretC hc dX10_readsRain_84
    · refine z_aload_n hc dX10_readsRain_61 0 rfl rfl ?_
      refine z_iconst (v := 4) hc dX10_readsRain_62 rfl ?_
      refine z_callV (av := [.int 4]) (enc' := eI) hc rfl (sMo_fails 4 _) (ci := 10) (by decide) lM1 (zkM lM1) rfl wMX10_226 hpyX10_fails hmyX10_fails (rm_ok hRm (Nat.le_of_ble_eq_true rfl) (Nat.le_of_ble_eq_true rfl)) (Nat.le_of_ble_eq_true rfl) hRm.2.2 dX10_readsRain_63 (fun c3 u5 f3 => ?_)
      exact z_zretC hc dX10_readsRain_66
  · refine z_aload_n hc dX10_readsRain_46 0 rfl rfl ?_
    refine z_iconst (v := 1) hc dX10_readsRain_47 rfl ?_
    refine z_callV (av := [.int 1]) (enc' := eI) hc rfl (sMo_fails 1 _) (ci := 10) (by decide) lM1 (zkM lM1) rfl wMX10_226 hpyX10_fails hmyX10_fails (rm_ok hRm (Nat.le_of_ble_eq_true rfl) (Nat.le_of_ble_eq_true rfl)) (Nat.le_of_ble_eq_true rfl) hRm.2.2 dX10_readsRain_48 (fun c4 u6 f4 => ?_)
    exact z_zretC hc dX10_readsRain_51
set_option maxRecDepth 100000 in
set_option maxHeartbeats 4000000 in
theorem sMo_readsRain_20b {fin : Int32 × zM} (hc : zCx p s mi args meth c (wM D b) m0 RX10 cX10_readsRain 1 (some .boolean)) (hRm : R.frames = 3 ∧ R.locals = 62 ∧ R.cells = zc (wM D b) m0 fin.2 ∧ R.slots = zs (wM D b) m0 fin.2) {zr20 : zM → Option (Int32 × zM)} (hr20 : ∀ (u : zM), zJ eI p l e R s mi args below meth c (wM D b) m0 1 fin 20 [(0, .ref 1)] [] u (zr20 u)) (u : zM) : zJ eI p l e R s mi args below meth c (wM D b) m0 1 fin 20 [(0, .ref 1)] [] u (Mo_readsRain_20b zr20 u) := by
  unfold Mo_readsRain_20b
  refine z_aload_n hc dX10_readsRain_20 0 rfl rfl ?_
  refine z_getR (x := 3) hc (ci := 10) (k := 10) (by decide) (by decide) zly10 lM1 (zkM lM1) wFX10_13 rfl dX10_readsRain_21 rfl (by decide) ?_
  refine z_bipush (v := 11) hc dX10_readsRain_24 rfl ?_
  refine z_iald (k := 11) hc lM3 (zkM lM3) rfl rfl dX10_readsRain_26 ?_
  refine z_if_eq (tgt := 38) hc dX10_readsRain_27 (by decide) _ (fun h1 => ?_) (fun h1 => ?_)
  · exact sMo_readsRain_38 hc hRm hr20 _
  · refine z_aload_n hc dX10_readsRain_30 0 rfl rfl ?_
    refine z_getI hc (ci := 10) (k := 6) (by decide) (by decide) zly10 lM1 (zkM lM1) wFX10_187 rfl dX10_readsRain_31 ?_
    refine z_iconst (v := 2) hc dX10_readsRain_34 rfl ?_
    refine z_icmp_ne (tgt := 122) hc dX10_readsRain_35 (by decide) _ (fun h2 => ?_) (fun h2 => ?_)
    · refine z_aload_n hc dX10_readsRain_122 0 rfl rfl ?_
      refine z_callV (av := []) (enc' := eI) hc rfl (sMo_closes _) (ci := 10) (by decide) lM1 (zkM lM1) rfl wMX10_336 hpyX10_closes hmyX10_closes (rm_ok hRm (Nat.le_of_ble_eq_true rfl) (Nat.le_of_ble_eq_true rfl)) (Nat.le_of_ble_eq_true rfl) hRm.2.2 dX10_readsRain_123 (fun c1 u1 f1 => ?_)
      exact z_zretC hc dX10_readsRain_126
    · exact sMo_readsRain_38 hc hRm hr20 _
set_option maxRecDepth 100000 in
set_option maxHeartbeats 4000000 in
theorem sMo_readsRain_20 {fin : Int32 × zM} (hc : zCx p s mi args meth c (wM D b) m0 RX10 cX10_readsRain 1 (some .boolean)) (hRm : R.frames = 3 ∧ R.locals = 62 ∧ R.cells = zc (wM D b) m0 fin.2 ∧ R.slots = zs (wM D b) m0 fin.2) : ∀ (zf : Nat) (u : zM), zJ eI p l e R s mi args below meth c (wM D b) m0 1 fin 20 [(0, .ref 1)] [] u (Mo_readsRain_20 zf u) := by
  intro zf
  induction zf with
  | zero => intro u; exact zJ.nil
  | succ zf ih => intro u; exact sMo_readsRain_20b hc hRm ih u
set_option maxRecDepth 100000 in
set_option maxHeartbeats 4000000 in
theorem sMo_readsRain : ∀ (u : zM) r m1, Mo_readsRain u = some (r, m1) → zMet l (wM D b) 3 62 yX10_readsRain cX10_readsRain 1 (some .boolean) [.ref 1] u (eI r) m1 := by
  intro u
  refine zMet.of (L := [(0, .ref 1)]) RX10 (by decide +kernel) rfl (Nat.le_of_ble_eq_true rfl) (fun h => by cases h) rfl (fun p e s mi args below meth c R fin hc hin hRm => ?_)
  unfold Mo_readsRain
  refine z_aload_n hc dX10_readsRain_0 0 rfl rfl ?_
  refine z_getR (x := 3) hc (ci := 10) (k := 10) (by decide) (by decide) zly10 lM1 (zkM lM1) wFX10_13 rfl dX10_readsRain_1 rfl (by decide) ?_
  refine z_bipush (v := 11) hc dX10_readsRain_4 rfl ?_
  refine z_iald (k := 11) hc lM3 (zkM lM3) rfl rfl dX10_readsRain_6 ?_
  refine z_if_le (tgt := 16) hc dX10_readsRain_7 (by decide) _ (fun h1 => ?_) (fun h1 => ?_)
  · refine z_aload_n hc dX10_readsRain_16 0 rfl rfl ?_
    refine z_callV (av := []) (enc' := eV) hc rfl (sMo_nextToken _) (ci := 10) (by decide) lM1 (zkM lM1) rfl wMX10_233 hpyX10_nextToken hmyX10_nextToken (rm_ok hRm (Nat.le_of_ble_eq_true rfl) (Nat.le_of_ble_eq_true rfl)) (Nat.le_of_ble_eq_true rfl) hRm.2.2 dX10_readsRain_17 (fun c1 u1 f1 => ?_)
    exact sMo_readsRain_20 hc hRm zF _
  · refine z_aload_n hc dX10_readsRain_10 0 rfl rfl ?_
    refine z_iconst (v := 3) hc dX10_readsRain_11 rfl ?_
    refine z_callV (av := [.int 3]) (enc' := eI) hc rfl (sMo_fails 3 _) (ci := 10) (by decide) lM1 (zkM lM1) rfl wMX10_226 hpyX10_fails hmyX10_fails (rm_ok hRm (Nat.le_of_ble_eq_true rfl) (Nat.le_of_ble_eq_true rfl)) (Nat.le_of_ble_eq_true rfl) hRm.2.2 dX10_readsRain_12 (fun c2 u2 f2 => ?_)
    exact z_zretC hc dX10_readsRain_15
set_option maxRecDepth 100000 in
set_option maxHeartbeats 4000000 in
theorem sMo_readsWets : ∀ (u : zM) r m1, Mo_readsWets u = some (r, m1) → zMet l (wM D b) 3 67 yX10_readsWets cX10_readsWets 1 (some .boolean) [.ref 1] u (eI r) m1 := by
  intro u
  refine zMet.of (L := [(0, .ref 1)]) RX10 (by decide +kernel) rfl (Nat.le_of_ble_eq_true rfl) (fun h => by cases h) rfl (fun p e s mi args below meth c R fin hc hin hRm => ?_)
  unfold Mo_readsWets
  refine z_aload_n hc dX10_readsWets_0 0 rfl rfl ?_
  refine z_getR (x := 18) hc (ci := 10) (k := 25) (by decide) (by decide) zly10 lM1 (zkM lM1) wFX10_59 rfl dX10_readsWets_1 rfl (by decide) ?_
  refine z_iconst (v := 1) hc dX10_readsWets_4 rfl ?_
  refine z_iald (k := 1) hc lM18 (zkM lM18) rfl rfl dX10_readsWets_5 ?_
  refine z_aload_n hc dX10_readsWets_6 0 rfl rfl ?_
  refine z_getR (x := 17) hc (ci := 10) (k := 24) (by decide) (by decide) zly10 lM1 (zkM lM1) wFX10_56 rfl dX10_readsWets_7 rfl (by decide) ?_
  refine z_iconst (v := 1) hc dX10_readsWets_10 rfl ?_
  refine z_iald (k := 1) hc lM17 (zkM lM17) rfl rfl dX10_readsWets_11 ?_
  refine z_icmp_le (tgt := 21) hc dX10_readsWets_12 (by decide) _ (fun h1 => ?_) (fun h1 => ?_)
  · refine z_aload_n hc dX10_readsWets_21 0 rfl rfl ?_
    refine z_callV (av := []) (enc' := eV) hc rfl (sMo_nextToken _) (ci := 10) (by decide) lM1 (zkM lM1) rfl wMX10_233 hpyX10_nextToken hmyX10_nextToken (rm_ok hRm (Nat.le_of_ble_eq_true rfl) (Nat.le_of_ble_eq_true rfl)) (Nat.le_of_ble_eq_true rfl) hRm.2.2 dX10_readsWets_22 (fun c1 u1 f1 => ?_)
    refine z_aload_n hc dX10_readsWets_25 0 rfl rfl ?_
    refine z_getR (x := 17) hc (ci := 10) (k := 24) (by decide) (by decide) zly10 lM1 (zkM lM1) wFX10_56 rfl dX10_readsWets_26 rfl (by decide) ?_
    refine z_iconst (v := 1) hc dX10_readsWets_29 rfl ?_
    refine z_aload_n hc dX10_readsWets_30 0 rfl rfl ?_
    refine z_getI hc (ci := 10) (k := 27) (by decide) (by decide) zly10 lM1 (zkM lM1) wFX10_201 rfl dX10_readsWets_31 ?_
    refine z_iast (k := 1) hc lM17 (zkM lM17) rfl rfl dX10_readsWets_34 ?_
    refine zJ.letM (fun u2 e1 => ?_)
    refine z_aload_n hc dX10_readsWets_35 0 rfl rfl ?_
    refine z_callV (av := []) (enc' := eI) hc rfl (sMo_reads _) (ci := 10) (by decide) lM1 (zkM lM1) rfl wMX10_342 hpyX10_reads hmyX10_reads (rm_ok hRm (Nat.le_of_ble_eq_true rfl) (Nat.le_of_ble_eq_true rfl)) (Nat.le_of_ble_eq_true rfl) hRm.2.2 dX10_readsWets_36 (fun c2 u3 f2 => ?_)
    refine z_if_ne (tgt := 44) hc dX10_readsWets_39 (by decide) _ (fun h2 => ?_) (fun h2 => ?_)
    · refine z_aload_n hc dX10_readsWets_44 0 rfl rfl ?_
      refine z_getR (x := 18) hc (ci := 10) (k := 25) (by decide) (by decide) zly10 lM1 (zkM lM1) wFX10_59 rfl dX10_readsWets_45 rfl (by decide) ?_
      refine z_iconst (v := 1) hc dX10_readsWets_48 rfl ?_
      refine z_aload_n hc dX10_readsWets_49 0 rfl rfl ?_
      refine z_getI hc (ci := 10) (k := 27) (by decide) (by decide) zly10 lM1 (zkM lM1) wFX10_201 rfl dX10_readsWets_50 ?_
      refine z_iast (k := 1) hc lM18 (zkM lM18) rfl rfl dX10_readsWets_53 ?_
      refine zJ.letM (fun u4 e2 => ?_)
      refine z_iconst (v := 1) hc dX10_readsWets_54 rfl ?_
      exact z_zret hc rfl dX10_readsWets_55
    · refine z_iconst (v := 0) hc dX10_readsWets_42 rfl ?_
      exact z_zret hc rfl dX10_readsWets_43
  · refine z_aload_n hc dX10_readsWets_15 0 rfl rfl ?_
    refine z_iconst (v := 3) hc dX10_readsWets_16 rfl ?_
    refine z_callV (av := [.int 3]) (enc' := eI) hc rfl (sMo_fails 3 _) (ci := 10) (by decide) lM1 (zkM lM1) rfl wMX10_226 hpyX10_fails hmyX10_fails (rm_ok hRm (Nat.le_of_ble_eq_true rfl) (Nat.le_of_ble_eq_true rfl)) (Nat.le_of_ble_eq_true rfl) hRm.2.2 dX10_readsWets_17 (fun c3 u5 f3 => ?_)
    exact z_zretC hc dX10_readsWets_20
set_option maxRecDepth 100000 in
set_option maxHeartbeats 4000000 in
theorem sMo_begins : ∀ (u : zM) r m1, Mo_begins u = some (r, m1) → zMet l (wM D b) 2 42 yX10_begins cX10_begins 1 none [.ref 1] u (eV r) m1 := by
  intro u
  refine zMet.of (L := [(0, .ref 1)]) RX10 (by decide +kernel) rfl (Nat.le_of_ble_eq_true rfl) (fun h => by cases h) rfl (fun p e s mi args below meth c R fin hc hin hRm => ?_)
  unfold Mo_begins
  refine z_aload_n hc dX10_begins_0 0 rfl rfl ?_
  refine z_aload_n hc dX10_begins_1 0 rfl rfl ?_
  refine z_getI hc (ci := 10) (k := 1) (by decide) (by decide) zly10 lM1 (zkM lM1) wFX10_168 rfl dX10_begins_2 ?_
  refine z_putI hc (ci := 10) (k := 3) (by decide) (by decide) zly10 lM1 (zkM lM1) wFX10_171 rfl rfl rfl rfl dX10_begins_5 ?_
  refine zJ.letM (fun u1 e1 => ?_)
  refine z_aload_n hc dX10_begins_8 0 rfl rfl ?_
  refine z_iconst (v := 0) hc dX10_begins_9 rfl ?_
  refine z_putI hc (ci := 10) (k := 1) (by decide) (by decide) zly10 lM1 (zkM lM1) wFX10_168 rfl rfl rfl rfl dX10_begins_10 ?_
  refine zJ.letM (fun u2 e2 => ?_)
  refine z_aload_n hc dX10_begins_13 0 rfl rfl ?_
  refine z_iconst (v := 0) hc dX10_begins_14 rfl ?_
  refine z_putI hc (ci := 10) (k := 4) (by decide) (by decide) zly10 lM1 (zkM lM1) wFX10_174 rfl rfl rfl rfl dX10_begins_15 ?_
  refine zJ.letM (fun u3 e3 => ?_)
  refine z_aload_n hc dX10_begins_18 0 rfl rfl ?_
  refine z_callV (av := []) (enc' := eV) hc rfl (sMo_nextToken _) (ci := 10) (by decide) lM1 (zkM lM1) rfl wMX10_233 hpyX10_nextToken hmyX10_nextToken (rm_ok hRm (Nat.le_of_ble_eq_true rfl) (Nat.le_of_ble_eq_true rfl)) (Nat.le_of_ble_eq_true rfl) hRm.2.2 dX10_begins_19 (fun c1 u4 f1 => ?_)
  exact z_vret hc dX10_begins_22
set_option maxRecDepth 100000 in
set_option maxHeartbeats 4000000 in
theorem sMo_readsAll_53b {fin : Int32 × zM} (hc : zCx p s mi args meth c (wM D b) m0 RX10 cX10_readsAll 2 (some .boolean)) (hRm : R.frames = 5 ∧ R.locals = 109 ∧ R.cells = zc (wM D b) m0 fin.2 ∧ R.slots = zs (wM D b) m0 fin.2) {zr53 : zM → Option (Int32 × zM)} (hr53 : ∀ (u : zM), zJ eI p l e R s mi args below meth c (wM D b) m0 2 fin 53 [(0, .ref 1)] [] u (zr53 u)) (u : zM) : zJ eI p l e R s mi args below meth c (wM D b) m0 2 fin 53 [(0, .ref 1)] [] u (Mo_readsAll_53b zr53 u) := by
  unfold Mo_readsAll_53b
  refine z_aload_n hc dX10_readsAll_53 0 rfl rfl ?_
  refine z_getI hc (ci := 10) (k := 6) (by decide) (by decide) zly10 lM1 (zkM lM1) wFX10_187 rfl dX10_readsAll_54 ?_
  refine z_if_eq (tgt := 194) hc dX10_readsAll_57 (by decide) _ (fun h1 => ?_) (fun h1 => ?_)
  · refine z_iconst (v := 1) hc dX10_readsAll_194 rfl ?_
    exact z_zret hc rfl dX10_readsAll_195
  · refine z_aload_n hc dX10_readsAll_60 0 rfl rfl ?_
    refine z_ldc2 (v := 8740067) hc wKX10_249 dX10_readsAll_61 ?_
    refine z_callV (av := [.long 8740067]) (enc' := eI) hc rfl (sMo_isWord 8740067 _) (ci := 10) (by decide) lM1 (zkM lM1) rfl wMX10_218 hpyX10_isWord hmyX10_isWord (rm_ok hRm (Nat.le_of_ble_eq_true rfl) (Nat.le_of_ble_eq_true rfl)) (Nat.le_of_ble_eq_true rfl) hRm.2.2 dX10_readsAll_64 (fun c1 u1 f1 => ?_)
    refine z_if_eq (tgt := 77) hc dX10_readsAll_67 (by decide) _ (fun h2 => ?_) (fun h2 => ?_)
    · refine z_aload_n hc dX10_readsAll_77 0 rfl rfl ?_
      refine z_ldc2 (v := 283616032) hc wKX10_253 dX10_readsAll_78 ?_
      refine z_callV (av := [.long 283616032]) (enc' := eI) hc rfl (sMo_isWord 283616032 _) (ci := 10) (by decide) lM1 (zkM lM1) rfl wMX10_218 hpyX10_isWord hmyX10_isWord (rm_ok hRm (Nat.le_of_ble_eq_true rfl) (Nat.le_of_ble_eq_true rfl)) (Nat.le_of_ble_eq_true rfl) hRm.2.2 dX10_readsAll_81 (fun c2 u2 f2 => ?_)
      refine z_if_eq (tgt := 94) hc dX10_readsAll_84 (by decide) _ (fun h3 => ?_) (fun h3 => ?_)
      · refine z_aload_n hc dX10_readsAll_94 0 rfl rfl ?_
        refine z_ldc2 (v := 232608281) hc wKX10_255 dX10_readsAll_95 ?_
        refine z_callV (av := [.long 232608281]) (enc' := eI) hc rfl (sMo_isWord 232608281 _) (ci := 10) (by decide) lM1 (zkM lM1) rfl wMX10_218 hpyX10_isWord hmyX10_isWord (rm_ok hRm (Nat.le_of_ble_eq_true rfl) (Nat.le_of_ble_eq_true rfl)) (Nat.le_of_ble_eq_true rfl) hRm.2.2 dX10_readsAll_98 (fun c3 u3 f3 => ?_)
        refine z_if_eq (tgt := 111) hc dX10_readsAll_101 (by decide) _ (fun h4 => ?_) (fun h4 => ?_)
        · refine z_aload_n hc dX10_readsAll_111 0 rfl rfl ?_
          refine z_ldc2 (v := 8380008) hc wKX10_259 dX10_readsAll_112 ?_
          refine z_callV (av := [.long 8380008]) (enc' := eI) hc rfl (sMo_isWord 8380008 _) (ci := 10) (by decide) lM1 (zkM lM1) rfl wMX10_218 hpyX10_isWord hmyX10_isWord (rm_ok hRm (Nat.le_of_ble_eq_true rfl) (Nat.le_of_ble_eq_true rfl)) (Nat.le_of_ble_eq_true rfl) hRm.2.2 dX10_readsAll_115 (fun c4 u4 f4 => ?_)
          refine z_if_eq (tgt := 128) hc dX10_readsAll_118 (by decide) _ (fun h5 => ?_) (fun h5 => ?_)
          · refine z_aload_n hc dX10_readsAll_128 0 rfl rfl ?_
            refine z_ldc2 (v := 466094) hc wKX10_263 dX10_readsAll_129 ?_
            refine z_callV (av := [.long 466094]) (enc' := eI) hc rfl (sMo_isWord 466094 _) (ci := 10) (by decide) lM1 (zkM lM1) rfl wMX10_218 hpyX10_isWord hmyX10_isWord (rm_ok hRm (Nat.le_of_ble_eq_true rfl) (Nat.le_of_ble_eq_true rfl)) (Nat.le_of_ble_eq_true rfl) hRm.2.2 dX10_readsAll_132 (fun c5 u5 f5 => ?_)
            refine z_if_eq (tgt := 145) hc dX10_readsAll_135 (by decide) _ (fun h6 => ?_) (fun h6 => ?_)
            · refine z_aload_n hc dX10_readsAll_145 0 rfl rfl ?_
              refine z_ldc2 (v := 355280) hc wKX10_269 dX10_readsAll_146 ?_
              refine z_callV (av := [.long 355280]) (enc' := eI) hc rfl (sMo_isWord 355280 _) (ci := 10) (by decide) lM1 (zkM lM1) rfl wMX10_218 hpyX10_isWord hmyX10_isWord (rm_ok hRm (Nat.le_of_ble_eq_true rfl) (Nat.le_of_ble_eq_true rfl)) (Nat.le_of_ble_eq_true rfl) hRm.2.2 dX10_readsAll_149 (fun c6 u6 f6 => ?_)
              refine z_if_eq (tgt := 162) hc dX10_readsAll_152 (by decide) _ (fun h7 => ?_) (fun h7 => ?_)
              · refine z_aload_n hc dX10_readsAll_162 0 rfl rfl ?_
                refine z_ldc2 (v := 456913) hc wKX10_271 dX10_readsAll_163 ?_
                refine z_callV (av := [.long 456913]) (enc' := eI) hc rfl (sMo_isWord 456913 _) (ci := 10) (by decide) lM1 (zkM lM1) rfl wMX10_218 hpyX10_isWord hmyX10_isWord (rm_ok hRm (Nat.le_of_ble_eq_true rfl) (Nat.le_of_ble_eq_true rfl)) (Nat.le_of_ble_eq_true rfl) hRm.2.2 dX10_readsAll_166 (fun c7 u7 f7 => ?_)
                refine z_if_eq (tgt := 179) hc dX10_readsAll_169 (by decide) _ (fun h8 => ?_) (fun h8 => ?_)
                · refine z_aload_n hc dX10_readsAll_179 0 rfl rfl ?_
                  refine z_iconst (v := 1) hc dX10_readsAll_180 rfl ?_
                  refine z_callV (av := [.int 1]) (enc' := eI) hc rfl (sMo_fails 1 _) (ci := 10) (by decide) lM1 (zkM lM1) rfl wMX10_226 hpyX10_fails hmyX10_fails (rm_ok hRm (Nat.le_of_ble_eq_true rfl) (Nat.le_of_ble_eq_true rfl)) (Nat.le_of_ble_eq_true rfl) hRm.2.2 dX10_readsAll_181 (fun c8 u8 f8 => ?_)
                  refine z_istore_n (L' := [(1, .int c8), (0, .ref 1)]) hc dX10_readsAll_184 rfl (by decide) rfl rfl ?_
                  refine z_iload_n hc dX10_readsAll_185 0 rfl rfl ?_
                  refine z_if_ne (tgt := 191) hc dX10_readsAll_186 (by decide) _ (fun h9 => ?_) (fun h9 => ?_)
                  · refine z_goto (tgt := 53) hc dX10_readsAll_191 (by decide) ?_
                    refine zJ.sub (L' := [(0, .ref 1)]) [1] rfl ?_
                    exact hr53 _
                  · refine z_iconst (v := 0) hc dX10_readsAll_189 rfl ?_
                    exact z_zret hc rfl dX10_readsAll_190
                · refine z_aload_n hc dX10_readsAll_172 0 rfl rfl ?_
                  refine z_callV (av := []) (enc' := eI) hc rfl (sMo_readsWets _) (ci := 10) (by decide) lM1 (zkM lM1) rfl wMX10_366 hpyX10_readsWets hmyX10_readsWets (rm_ok hRm (Nat.le_of_ble_eq_true rfl) (Nat.le_of_ble_eq_true rfl)) (Nat.le_of_ble_eq_true rfl) hRm.2.2 dX10_readsAll_173 (fun c9 u9 f9 => ?_)
                  refine z_goto (tgt := 184) hc dX10_readsAll_176 (by decide) ?_
                  refine z_istore_n (L' := [(1, .int c9), (0, .ref 1)]) hc dX10_readsAll_184 rfl (by decide) rfl rfl ?_
                  refine z_iload_n hc dX10_readsAll_185 0 rfl rfl ?_
                  refine z_if_ne (tgt := 191) hc dX10_readsAll_186 (by decide) _ (fun h10 => ?_) (fun h10 => ?_)
                  · refine z_goto (tgt := 53) hc dX10_readsAll_191 (by decide) ?_
                    refine zJ.sub (L' := [(0, .ref 1)]) [1] rfl ?_
                    exact hr53 _
                  · refine z_iconst (v := 0) hc dX10_readsAll_189 rfl ?_
                    exact z_zret hc rfl dX10_readsAll_190
              · refine z_aload_n hc dX10_readsAll_155 0 rfl rfl ?_
                refine z_callV (av := []) (enc' := eI) hc rfl (sMo_readsRain _) (ci := 10) (by decide) lM1 (zkM lM1) rfl wMX10_363 hpyX10_readsRain hmyX10_readsRain (rm_ok hRm (Nat.le_of_ble_eq_true rfl) (Nat.le_of_ble_eq_true rfl)) (Nat.le_of_ble_eq_true rfl) hRm.2.2 dX10_readsAll_156 (fun c10 u10 f10 => ?_)
                refine z_goto (tgt := 184) hc dX10_readsAll_159 (by decide) ?_
                refine z_istore_n (L' := [(1, .int c10), (0, .ref 1)]) hc dX10_readsAll_184 rfl (by decide) rfl rfl ?_
                refine z_iload_n hc dX10_readsAll_185 0 rfl rfl ?_
                refine z_if_ne (tgt := 191) hc dX10_readsAll_186 (by decide) _ (fun h11 => ?_) (fun h11 => ?_)
                · refine z_goto (tgt := 53) hc dX10_readsAll_191 (by decide) ?_
                  refine zJ.sub (L' := [(0, .ref 1)]) [1] rfl ?_
                  exact hr53 _
                · refine z_iconst (v := 0) hc dX10_readsAll_189 rfl ?_
                  exact z_zret hc rfl dX10_readsAll_190
            · refine z_aload_n hc dX10_readsAll_138 0 rfl rfl ?_
              refine z_callV (av := []) (enc' := eI) hc rfl (sMo_readsWrit _) (ci := 10) (by decide) lM1 (zkM lM1) rfl wMX10_360 hpyX10_readsWrit hmyX10_readsWrit (rm_ok hRm (Nat.le_of_ble_eq_true rfl) (Nat.le_of_ble_eq_true rfl)) (Nat.le_of_ble_eq_true rfl) hRm.2.2 dX10_readsAll_139 (fun c11 u11 f11 => ?_)
              refine z_goto (tgt := 184) hc dX10_readsAll_142 (by decide) ?_
              refine z_istore_n (L' := [(1, .int c11), (0, .ref 1)]) hc dX10_readsAll_184 rfl (by decide) rfl rfl ?_
              refine z_iload_n hc dX10_readsAll_185 0 rfl rfl ?_
              refine z_if_ne (tgt := 191) hc dX10_readsAll_186 (by decide) _ (fun h12 => ?_) (fun h12 => ?_)
              · refine z_goto (tgt := 53) hc dX10_readsAll_191 (by decide) ?_
                refine zJ.sub (L' := [(0, .ref 1)]) [1] rfl ?_
                exact hr53 _
              · refine z_iconst (v := 0) hc dX10_readsAll_189 rfl ?_
                exact z_zret hc rfl dX10_readsAll_190
          · refine z_aload_n hc dX10_readsAll_121 0 rfl rfl ?_
            refine z_callV (av := []) (enc' := eI) hc rfl (sMo_readsOtter _) (ci := 10) (by decide) lM1 (zkM lM1) rfl wMX10_357 hpyX10_readsOtter hmyX10_readsOtter (rm_ok hRm (Nat.le_of_ble_eq_true rfl) (Nat.le_of_ble_eq_true rfl)) (Nat.le_of_ble_eq_true rfl) hRm.2.2 dX10_readsAll_122 (fun c12 u12 f12 => ?_)
            refine z_goto (tgt := 184) hc dX10_readsAll_125 (by decide) ?_
            refine z_istore_n (L' := [(1, .int c12), (0, .ref 1)]) hc dX10_readsAll_184 rfl (by decide) rfl rfl ?_
            refine z_iload_n hc dX10_readsAll_185 0 rfl rfl ?_
            refine z_if_ne (tgt := 191) hc dX10_readsAll_186 (by decide) _ (fun h13 => ?_) (fun h13 => ?_)
            · refine z_goto (tgt := 53) hc dX10_readsAll_191 (by decide) ?_
              refine zJ.sub (L' := [(0, .ref 1)]) [1] rfl ?_
              exact hr53 _
            · refine z_iconst (v := 0) hc dX10_readsAll_189 rfl ?_
              exact z_zret hc rfl dX10_readsAll_190
        · refine z_aload_n hc dX10_readsAll_104 0 rfl rfl ?_
          refine z_callV (av := []) (enc' := eI) hc rfl (sMo_readsPerson _) (ci := 10) (by decide) lM1 (zkM lM1) rfl wMX10_354 hpyX10_readsPerson hmyX10_readsPerson (rm_ok hRm (Nat.le_of_ble_eq_true rfl) (Nat.le_of_ble_eq_true rfl)) (Nat.le_of_ble_eq_true rfl) hRm.2.2 dX10_readsAll_105 (fun c13 u13 f13 => ?_)
          refine z_goto (tgt := 184) hc dX10_readsAll_108 (by decide) ?_
          refine z_istore_n (L' := [(1, .int c13), (0, .ref 1)]) hc dX10_readsAll_184 rfl (by decide) rfl rfl ?_
          refine z_iload_n hc dX10_readsAll_185 0 rfl rfl ?_
          refine z_if_ne (tgt := 191) hc dX10_readsAll_186 (by decide) _ (fun h14 => ?_) (fun h14 => ?_)
          · refine z_goto (tgt := 53) hc dX10_readsAll_191 (by decide) ?_
            refine zJ.sub (L' := [(0, .ref 1)]) [1] rfl ?_
            exact hr53 _
          · refine z_iconst (v := 0) hc dX10_readsAll_189 rfl ?_
            exact z_zret hc rfl dX10_readsAll_190
      · refine z_aload_n hc dX10_readsAll_87 0 rfl rfl ?_
        refine z_callV (av := []) (enc' := eI) hc rfl (sMo_readsStream _) (ci := 10) (by decide) lM1 (zkM lM1) rfl wMX10_351 hpyX10_readsStream hmyX10_readsStream (rm_ok hRm (Nat.le_of_ble_eq_true rfl) (Nat.le_of_ble_eq_true rfl)) (Nat.le_of_ble_eq_true rfl) hRm.2.2 dX10_readsAll_88 (fun c14 u14 f14 => ?_)
        refine z_goto (tgt := 184) hc dX10_readsAll_91 (by decide) ?_
        refine z_istore_n (L' := [(1, .int c14), (0, .ref 1)]) hc dX10_readsAll_184 rfl (by decide) rfl rfl ?_
        refine z_iload_n hc dX10_readsAll_185 0 rfl rfl ?_
        refine z_if_ne (tgt := 191) hc dX10_readsAll_186 (by decide) _ (fun h15 => ?_) (fun h15 => ?_)
        · refine z_goto (tgt := 53) hc dX10_readsAll_191 (by decide) ?_
          refine zJ.sub (L' := [(0, .ref 1)]) [1] rfl ?_
          exact hr53 _
        · refine z_iconst (v := 0) hc dX10_readsAll_189 rfl ?_
          exact z_zret hc rfl dX10_readsAll_190
    · refine z_aload_n hc dX10_readsAll_70 0 rfl rfl ?_
      refine z_callV (av := []) (enc' := eI) hc rfl (sMo_readsPlace _) (ci := 10) (by decide) lM1 (zkM lM1) rfl wMX10_348 hpyX10_readsPlace hmyX10_readsPlace (rm_ok hRm (Nat.le_of_ble_eq_true rfl) (Nat.le_of_ble_eq_true rfl)) (Nat.le_of_ble_eq_true rfl) hRm.2.2 dX10_readsAll_71 (fun c15 u15 f15 => ?_)
      refine z_goto (tgt := 184) hc dX10_readsAll_74 (by decide) ?_
      refine z_istore_n (L' := [(1, .int c15), (0, .ref 1)]) hc dX10_readsAll_184 rfl (by decide) rfl rfl ?_
      refine z_iload_n hc dX10_readsAll_185 0 rfl rfl ?_
      refine z_if_ne (tgt := 191) hc dX10_readsAll_186 (by decide) _ (fun h16 => ?_) (fun h16 => ?_)
      · refine z_goto (tgt := 53) hc dX10_readsAll_191 (by decide) ?_
        refine zJ.sub (L' := [(0, .ref 1)]) [1] rfl ?_
        exact hr53 _
      · refine z_iconst (v := 0) hc dX10_readsAll_189 rfl ?_
        exact z_zret hc rfl dX10_readsAll_190
set_option maxRecDepth 100000 in
set_option maxHeartbeats 4000000 in
theorem sMo_readsAll_53 {fin : Int32 × zM} (hc : zCx p s mi args meth c (wM D b) m0 RX10 cX10_readsAll 2 (some .boolean)) (hRm : R.frames = 5 ∧ R.locals = 109 ∧ R.cells = zc (wM D b) m0 fin.2 ∧ R.slots = zs (wM D b) m0 fin.2) : ∀ (zf : Nat) (u : zM), zJ eI p l e R s mi args below meth c (wM D b) m0 2 fin 53 [(0, .ref 1)] [] u (Mo_readsAll_53 zf u) := by
  intro zf
  induction zf with
  | zero => intro u; exact zJ.nil
  | succ zf ih => intro u; exact sMo_readsAll_53b hc hRm ih u
set_option maxRecDepth 100000 in
set_option maxHeartbeats 4000000 in
theorem sMo_readsAll_2b {fin : Int32 × zM} (hc : zCx p s mi args meth c (wM D b) m0 RX10 cX10_readsAll 2 (some .boolean)) (hRm : R.frames = 5 ∧ R.locals = 109 ∧ R.cells = zc (wM D b) m0 fin.2 ∧ R.slots = zs (wM D b) m0 fin.2) {zr2 : Int32 → zM → Option (Int32 × zM)} (hr2 : ∀ (v1 : Int32) (u : zM), zJ eI p l e R s mi args below meth c (wM D b) m0 2 fin 2 [(0, .ref 1), (1, .int v1)] [] u (zr2 v1 u)) (v1 : Int32) (u : zM) : zJ eI p l e R s mi args below meth c (wM D b) m0 2 fin 2 [(0, .ref 1), (1, .int v1)] [] u (Mo_readsAll_2b zr2 v1 u) := by
  unfold Mo_readsAll_2b
  refine z_iload_n hc dX10_readsAll_2 1 rfl rfl ?_
  refine z_bipush (v := 6) hc dX10_readsAll_3 rfl ?_
  refine z_icmp_ge (tgt := 24) hc dX10_readsAll_5 (by decide) _ (fun h1 => ?_) (fun h1 => ?_)
  · refine z_aload_n hc dX10_readsAll_24 0 rfl rfl ?_
    refine z_getR (x := 17) hc (ci := 10) (k := 24) (by decide) (by decide) zly10 lM1 (zkM lM1) wFX10_56 rfl dX10_readsAll_25 rfl (by decide) ?_
    refine z_iconst (v := 1) hc dX10_readsAll_28 rfl ?_
    refine z_sipush (v := 1000) hc dX10_readsAll_29 rfl ?_
    refine z_iast (k := 1) hc lM17 (zkM lM17) rfl rfl dX10_readsAll_32 ?_
    refine zJ.letM (fun u1 e1 => ?_)
    refine z_aload_n hc dX10_readsAll_33 0 rfl rfl ?_
    refine z_getR (x := 18) hc (ci := 10) (k := 25) (by decide) (by decide) zly10 lM1 (zkM lM1) wFX10_59 rfl dX10_readsAll_34 rfl (by decide) ?_
    refine z_iconst (v := 1) hc dX10_readsAll_37 rfl ?_
    refine z_sipush (v := 1000) hc dX10_readsAll_38 rfl ?_
    refine z_iast (k := 1) hc lM18 (zkM lM18) rfl rfl dX10_readsAll_41 ?_
    refine zJ.letM (fun u2 e2 => ?_)
    refine z_aload_n hc dX10_readsAll_42 0 rfl rfl ?_
    refine z_sipush (v := 1000) hc dX10_readsAll_43 rfl ?_
    refine z_putI hc (ci := 10) (k := 27) (by decide) (by decide) zly10 lM1 (zkM lM1) wFX10_201 rfl rfl rfl rfl dX10_readsAll_46 ?_
    refine zJ.letM (fun u3 e3 => ?_)
    refine z_aload_n hc dX10_readsAll_49 0 rfl rfl ?_
    refine z_callV (av := []) (enc' := eV) hc rfl (sMo_begins _) (ci := 10) (by decide) lM1 (zkM lM1) rfl wMX10_345 hpyX10_begins hmyX10_begins (rm_ok hRm (Nat.le_of_ble_eq_true rfl) (Nat.le_of_ble_eq_true rfl)) (Nat.le_of_ble_eq_true rfl) hRm.2.2 dX10_readsAll_50 (fun c1 u4 f1 => ?_)
    refine zJ.sub (L' := [(0, .ref 1)]) [0] rfl ?_
    exact sMo_readsAll_53 hc hRm zF _
  · refine z_aload_n hc dX10_readsAll_8 0 rfl rfl ?_
    refine z_getR (x := 3) hc (ci := 10) (k := 10) (by decide) (by decide) zly10 lM1 (zkM lM1) wFX10_13 rfl dX10_readsAll_9 rfl (by decide) ?_
    refine z_bipush (v := 6) hc dX10_readsAll_12 rfl ?_
    refine z_iload_n hc dX10_readsAll_14 1 rfl rfl ?_
    refine z_iadd hc dX10_readsAll_15 ?_
    refine z_iconst (v := 0) hc dX10_readsAll_16 rfl ?_
    refine zJ.chk _ (fun h2 => ?_)
    refine z_iast (k := (ix (6 + v1))) hc lM3 (zkM lM3) h2 rfl dX10_readsAll_17 ?_
    refine zJ.letM (fun u5 e4 => ?_)
    refine z_iinc (L' := [(1, .int (v1 + 1)), (0, .ref 1)]) hc dX10_readsAll_18 1 rfl (v := (v1 + 1)) rfl (by decide) rfl rfl ?_
    refine z_goto (tgt := 2) hc dX10_readsAll_21 (by decide) ?_
    refine zJ.sub (L' := [(0, .ref 1), (1, .int (v1 + 1))]) [1, 0] rfl ?_
    exact hr2 (v1 + 1) _
set_option maxRecDepth 100000 in
set_option maxHeartbeats 4000000 in
theorem sMo_readsAll_2 {fin : Int32 × zM} (hc : zCx p s mi args meth c (wM D b) m0 RX10 cX10_readsAll 2 (some .boolean)) (hRm : R.frames = 5 ∧ R.locals = 109 ∧ R.cells = zc (wM D b) m0 fin.2 ∧ R.slots = zs (wM D b) m0 fin.2) : ∀ (zf : Nat) (v1 : Int32) (u : zM), zJ eI p l e R s mi args below meth c (wM D b) m0 2 fin 2 [(0, .ref 1), (1, .int v1)] [] u (Mo_readsAll_2 zf v1 u) := by
  intro zf
  induction zf with
  | zero => intro v1 u; exact zJ.nil
  | succ zf ih => intro v1 u; exact sMo_readsAll_2b hc hRm ih v1 u
set_option maxRecDepth 100000 in
set_option maxHeartbeats 4000000 in
theorem sMo_readsAll : ∀ (u : zM) r m1, Mo_readsAll u = some (r, m1) → zMet l (wM D b) 5 109 yX10_readsAll cX10_readsAll 2 (some .boolean) [.ref 1] u (eI r) m1 := by
  intro u
  refine zMet.of (L := [(0, .ref 1)]) RX10 (by decide +kernel) rfl (Nat.le_of_ble_eq_true rfl) (fun h => by cases h) rfl (fun p e s mi args below meth c R fin hc hin hRm => ?_)
  unfold Mo_readsAll
  refine z_iconst (v := 0) hc dX10_readsAll_0 rfl ?_
  refine z_istore_n (L' := [(1, .int 0), (0, .ref 1)]) hc dX10_readsAll_1 rfl (by decide) rfl rfl ?_
  refine zJ.sub (L' := [(0, .ref 1), (1, .int 0)]) [1, 0] rfl ?_
  exact sMo_readsAll_2 hc hRm zF 0 _
end ZS
