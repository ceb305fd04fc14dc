/-! ===== session ===== -/
def bgM (c k : Nat) : Prop := c = 1 ∧ (k = 0 ∨ k = 1 ∨ k = 3 ∨ (4 ≤ k ∧ k ≤ 9) ∨ k = 40 ∨ k = 41)
theorem rdM_bg {c k : Nat} (h : rdM c k) : bgM c k := by unfold rdM at h; unfold bgM; omega
theorem begin_eq {u v : zM} {c : Nat} {T : Nat → Nat} (hw : WfT c T) (h1 : TpC u c T) (h2 : TpM v c T) : ∃ u' v' b e k w m, Ta_begin u = some ((), u') ∧ Mo_begins v = some ((), v') ∧ Fin u' v' c T b e k w m ∧ gI v' 1 1 = nI 0 ∧ Fr rdC u u' ∧ Fr bgM v v' := by
  have hc := hw.1
  let u1 := sI (sI u 2 2 0) 2 6 0
  let v1 := sI (sI (sI v 1 3 (nI c)) 1 1 0) 1 4 0
  have f1 : Fr rdC u u1 := (Fr.sI (by unfold rdC; omega)).tr (Fr.sI (by unfold rdC; omega))
  have f2 : Fr bgM v v1 := ((Fr.sI (by unfold bgM; omega)).tr (Fr.sI (by unfold bgM; omega))).tr (Fr.sI (by unfold bgM; omega))
  have hk : TkR u1 v1 c T := ⟨hw, (f1.i (by unfold rdC; omega)).trans h1.1, fun i hi => (f1.i (by unfold rdC; omega)).trans (h1.2 i hi), (gs_ne (by omega)).trans ((gs_ne (by omega)).trans (gs_eq ⟨rfl, rfl⟩)), fun i hi => (f2.i (by unfold bgM; omega)).trans (h2.2 i hi)⟩
  obtain ⟨u', v', b, e, k, s1, s2, s3, s4, s5, s6⟩ := step_eq (p := 0) hk (by omega) ((gs_ne (by omega)).trans (gs_eq ⟨rfl, rfl⟩)) (gs_eq ⟨rfl, rfl⟩)
  obtain ⟨w, m, hx⟩ := s4.ex
  refine ⟨u', v', b, e, k, w, m, ?_, ?_, ⟨hk.st s5 s6, hx, (s5.i (by unfold stC; omega)).trans (gs_eq ⟨rfl, rfl⟩)⟩, (s6.i (by unfold stM; omega)).trans ((gs_ne (by omega)).trans (gs_eq ⟨rfl, rfl⟩)), f1.tr (s5.mono (fun c k => stC_rd)), f2.tr (s6.mono (fun c k q => rdM_bg (stM_rd q)))⟩
  · unfold Ta_begin
    rw [zl_e, zl_e, zb_eq s1]
  · unfold Mo_begins
    rw [h2.1, zl_e, zl_e, zl_e, zb_eq s2]
theorem fin_0 {u v : zM} (h1 : gI u 2 1 = nI 0) (h2 : gI v 1 1 = nI 0) : TapI u v := ⟨0, by decide, h1, h2, fun i hi => absurd hi (by omega)⟩
def ssC (l : Nat) (c k : Nat) : Prop := (c = 2 ∧ 1 ≤ k) ∨ (l ≤ c ∧ c ≤ l + 3)
def ssM (c k : Nat) : Prop := bgM c k ∨ (c = 32 ∧ k = 5) ∨ (33 ≤ c ∧ c ≤ 35 ∧ 200 ≤ k)
theorem snM_ss {c k : Nat} (h : snM c k) : ssM c k := by
  rcases h with h | h
  · exact Or.inl (rdM_bg h)
  · exact Or.inr h
theorem snC_ss {l c k : Nat} (h : snC l c k) : ssC l c k := by unfold snC rdC at h; unfold ssC; omega
theorem ss_keepC {t l c k : Nat} (ht : t = 4 ∨ t = 25) (hl : l = 46 ∨ l = 50) (h : keepC t c k) : ¬ ssC l c k := by unfold keepC at h; unfold ssC; omega
theorem ss_keepM {c k : Nat} (h : keepM c k) : ¬ ssM c k := by
  unfold ssM bgM
  rcases h with h | h | h | h | h | h | h | h | h | h | h | h | h <;> omega
