/-! ===== the reference: whom, which, rain ===== -/
theorem Mo_whoAt_eq {v : zM} {N S : Nat → Nat} {K : Nat → Nat → Nat} (hN : WfN N) (hc : CtyM v N K) (hs : StM v 40 0 N S) (hw : WfS N S) (p : Nat) (hp : p < 2 ^ 20) : Mo_whoAt (nI p) v = some (nI (mk (fun q => decide (S (8 + q) = p)) (N 2)), v) := by
  obtain ⟨n0, n1, n2, n3, n4, n5⟩ := hN
  unfold Mo_whoAt
  refine lpz (fun n (s : Int32 × Int32) => Mo_whoAt_4 n (nI p) s.1 s.2 v) (fun k => (nI (mk (fun q => decide (S (8 + q) = p)) k), nI k)) (N 2) _ (by omega) (fun n => ?_) (fun n k hk => ?_)
  · show Mo_whoAt_4b _ _ _ _ _ = _
    simp (disch := omega) only [Mo_whoAt_4b, li0, li1, li2, li3, li4, li5, li6, li7, li8, li9, li10, li12, li13, li14, li15, li16, li19, li20, li21, li22, li23, li24, li25, li26, li27, li28, li29, li30, li31, li32, li37, li40, li41, li42, li43, li45, li47, li48, li57, li59, li60, li61, li63, li64, li75, li97, li98, li99, li100, li120, li122, li126, li200, li240, li255, li375, li400, li1000, li2000, li9999, neg_nI1, nI_leI, nI_ltI, nI_eq, nI_add, nI_1, pk_mul, ix_nI, ib_nI, if_true, if_false, eq_self, true_and, and_true, not_false_eq_true, not_true_eq_false, hc.1 2, Nat.le_refl]
  · show Mo_whoAt_4b _ _ _ _ _ = Mo_whoAt_4 _ _ _ _ _
    have e := hs.2.2.1 k hk
    rw [Nat.zero_add] at e
    have h9 := hw.2.2.1 k hk
    simp (disch := omega) only [Mo_whoAt_4b, zlet, zb_some, li0, li1, li2, li3, li4, li5, li6, li7, li8, li9, li10, li12, li13, li14, li15, li16, li19, li20, li21, li22, li23, li24, li25, li26, li27, li28, li29, li30, li31, li32, li37, li40, li41, li42, li43, li45, li47, li48, li57, li59, li60, li61, li63, li64, li75, li97, li98, li99, li100, li120, li122, li126, li200, li240, li255, li375, li400, li1000, li2000, li9999, neg_nI1, nI_leI, nI_ltI, nI_eq, nI_add, nI_1, pk_mul, ix_nI, ib_nI, if_true, if_false, eq_self, true_and, and_true, not_false_eq_true, not_true_eq_false, hc.1 2, Nat.not_le.mpr hk, e, bn_or0, bn_or (mk_lt10 _ (show k < 10 by omega))]
    by_cases h : S (8 + k) = p
    · rw [if_pos h, mk_t (by simp [h])]
    · rw [if_neg h, mk_f (by simp [h])]
