/-! ===== rules of memory ===== -/
theorem zlay_of {C : String} {T : u_T} {N : Nat} (h : ∀ k, k < N → u_lay C T k ∈ zT) : ∀ x ∈ u_ws C T N, x ∈ zT := by
  intro x hx
  obtain ⟨k, hk, rfl⟩ := List.mem_map.mp hx
  exact h k (List.mem_range.mp hk)
theorem zRep.obj {D : zD} {b : Nat} {lay : Nat → Nat × Nat} {rf : (Nat → Nat → Nat) → Nat → Nat → Nat} {mn : Nat × Bool} {mem mem' : zM} {H H' : Heap} {a ci n : Nat} (h : zRep D b lay rf mn mem H) (hlay : lay a = (10 + ci, n)) (hN : gN mem' = gN mem)
    (hs : ∀ x, x ≠ a → (∀ k, gI mem' x k = gI mem x k) ∧ (∀ k, gL mem' x k = gL mem x k) ∧ ∀ k, rf mem'.2.2.1 x k = rf mem.2.2.1 x k)
    (ho : t_OB (b + a) (D.1 ci) (zNf ci) (D.2.1 ci) H' (fun k => zfv b rf mem' a (zty ci k) k)) (hq : ∀ q, q ≠ b + a → H'[q]? = H[q]?) : zRep D b lay rf mn mem' H' := by
  have hok : ∀ x, zok mn mem' x → zok mn mem x := fun x hx => by unfold zok at hx ⊢; rw [← hN]; exact hx
  refine ⟨fun x k z h1 h2 h3 => ?_, fun x z h1 h2 => ?_, fun x k z h1 h2 h3 => ?_, fun x c z h1 h2 => ?_⟩
  · have hx : x ≠ a := fun e => by rw [e, hlay] at h2; cases h2; omega
    rw [hq _ (by omega), h.1 x k z (hok x h1) h2 h3]
    simp only [(hs x hx).1]
  · have hx : x ≠ a := fun e => by rw [e, hlay] at h2; have := congrArg Prod.fst h2; simp at this; omega
    rw [hq _ (by omega), h.2.1 x z (hok x h1) h2]
    simp only [(hs x hx).2.1]
  · have hx : x ≠ a := fun e => by rw [e, hlay] at h2; cases h2; omega
    rw [hq _ (by omega), h.2.2.1 x k z (hok x h1) h2 h3]
    simp only [(hs x hx).2.2]
  · by_cases hx : x = a
    · subst hx
      rw [hlay] at h2
      have e : ci = c := by have := congrArg Prod.fst h2; simp at this; exact this
      subst e
      exact ho
    · refine ((h.2.2.2 x c z (hok x h1) h2).kept (hq _ (by omega))).to (fun k _ => ?_)
      unfold zfv
      simp only [(hs x hx).1, (hs x hx).2.1, (hs x hx).2.2]
theorem zRep.arr {D : zD} {b : Nat} {lay : Nat → Nat × Nat} {rf : (Nat → Nat → Nat) → Nat → Nat → Nat} {mn : Nat × Bool} {mem mem' : zM} {H H' : Heap} {a kd n : Nat} {fv : Nat → Value} (h : zRep D b lay rf mn mem H) (hlay : lay a = (kd, n)) (hkd : kd < 10) (hN : gN mem' = gN mem)
    (hs : ∀ x, x ≠ a → (∀ k, gI mem' x k = gI mem x k) ∧ (∀ k, gL mem' x k = gL mem x k) ∧ ∀ k, rf mem'.2.2.1 x k = rf mem.2.2.1 x k)
    (ho : H'[b + a]? = some (arrV (D.2.2.1 kd) n fv)) (h1 : kd = 1 ∨ kd = 3 ∨ kd = 4 → ∀ j, fv j = .int (gI mem' a j)) (h2 : kd = 2 → ∀ j, fv j = .long (gL mem' a j)) (h5 : kd = 5 ∨ kd = 6 → ∀ j, fv j = zrv b (rf mem'.2.2.1 a j)) (hq : ∀ q, q ≠ b + a → H'[q]? = H[q]?) : zRep D b lay rf mn mem' H' := by
  have hok : ∀ x, zok mn mem' x → zok mn mem x := fun x hx => by unfold zok at hx ⊢; rw [← hN]; exact hx
  refine ⟨fun x k z g1 g2 g3 => ?_, fun x z g1 g2 => ?_, fun x k z g1 g2 g3 => ?_, fun x c z g1 g2 => ?_⟩
  · by_cases hx : x = a
    · subst hx
      rw [hlay] at g2
      cases g2
      rw [ho]
      congr 2
      funext j
      exact h1 g3 j
    · rw [hq _ (by omega), h.1 x k z (hok x g1) g2 g3]
      simp only [(hs x hx).1]
  · by_cases hx : x = a
    · subst hx
      rw [hlay] at g2
      cases g2
      rw [ho]
      congr 2
      funext j
      exact h2 rfl j
    · rw [hq _ (by omega), h.2.1 x z (hok x g1) g2]
      simp only [(hs x hx).2.1]
  · by_cases hx : x = a
    · subst hx
      rw [hlay] at g2
      cases g2
      rw [ho]
      congr 2
      funext j
      exact h5 g3 j
    · rw [hq _ (by omega), h.2.2.1 x k z (hok x g1) g2 g3]
      simp only [(hs x hx).2.2]
  · have hx : x ≠ a := fun e => by rw [e, hlay] at g2; cases g2; omega
    refine ((h.2.2.2 x c z (hok x g1) g2).kept (hq _ (by omega))).to (fun k _ => ?_)
    unfold zfv
    simp only [(hs x hx).1, (hs x hx).2.1, (hs x hx).2.2]
/-- a store: the memory is another, no cell has come -/
theorem zI.put {w : zWd} {s : State} {m0 mem mem' : zM} {H H' : Heap} {locs : List Loc} {a i : Nat} (h : zI w s m0 mem H locs) (htop : w.2.2.2.2.2 = true → s.heap.size = w.2.1 + gN m0 + 1) (hok : zok w.2.2.2.2 mem a) (hN : gN mem' = gN mem) (hz : H'.size = H.size) (hq : ∀ q, q ≠ w.2.1 + a → H'[q]? = H[q]?) (hr : zRep w.1 w.2.1 w.2.2.1 w.2.2.2.1 w.2.2.2.2 mem' H') : zI w s m0 mem' H' (locs ++ [⟨w.2.1 + a, i⟩]) := by
  obtain ⟨h1, h2, h3, h4, h5⟩ := h
  refine ⟨hr, by rw [hN]; exact h2, by rw [hz, (zc_eq hN).1]; exact h3, fun q g1 g2 => ?_, fun q hq => ?_⟩
  · rw [hq q (fun e => g2 ⟨a, e, ?_⟩)]
    · exact h4 q g1 g2
    · rcases hok with ⟨k1, k2 | ⟨k2, k3⟩⟩
      · exact ⟨k1, Or.inl k2⟩
      · have := htop k2
        exact ⟨k1, Or.inr ⟨k2, by omega⟩⟩
  · rcases List.mem_append.mp hq with g | g
    · exact h5 q g
    · rw [List.mem_singleton.mp g]
      show w.2.1 < w.2.1 + a
      have := hok.1
      omega
section ZR
variable {α : Type} {enc : α → Option Value} {p : Program} {l : Launch} {e : Env} {R : Room} {s : State} {m : MethodId} {args : Array Value} {below : List Frame} {meth : Method} {c : Code} {w : zWd} {m0 : zM} {nL : Nat} {fin : α × zM} {pc : Nat} {L : List (Nat × Value)} {st : List Value} {mem : zM} {o : Option (α × zM)} {own : String} {cc : ByteArray} {ret : Option FieldType}
theorem z_get (hc : zCx p s m args meth c w m0 own cc nL ret) {a k ci idx n : Nat} {v : Value} (hci : ci < 11) (hk : k < zNf ci) (hly : ∀ k, k < zNf ci → u_lay (zRn ci) (zTb ci) k ∈ zT) (hlay : w.2.2.1 a = (10 + ci, n)) (hok : zok w.2.2.2.2 mem a) (hw : Cond.fieldLink own idx (zTb ci k).1 (zTb ci k).2.1 (zTb ci k).2.2.1 ∈ zT) (hd : decode cc pc = .ok (.getfield idx, 3)) (hv : zfv w.2.1 w.2.2.2.1 mem a (zty ci k) k = zv w.1 w.2.1 v)
    (kk : zJ enc p l e R s m args below meth c w m0 nL fin (pc + 3) L (v :: st) mem o) : zJ enc p l e R s m args below meth c w m0 nL fin pc L (.ref a :: st) mem o := by
  refine zJ.go (fun H locs ls cells slots Q hI hl kw => ?_) kk
  obtain ⟨cell, q1, q2, q3, q4⟩ := hI.1.2.2.2 a ci n hok hlay
  obtain ⟨hx, hb, hr, hml, hown, hts, hlk, hK, -⟩ := hc
  obtain ⟨hS, hfc, kC, hkC, hkind⟩ := hK.1.1 ci _ (zcl hci)
  obtain ⟨cf, kf, fi, f, hi, hsl⟩ := hS k hk
  refine W.getf hx hb hown (hts _ hw) hi (u_facts hfc hkC (u_lays hts (zlay_of hly) hk) hi).1 q1 (by rw [q3]; exact fun h => by cases h) (v := zv w.1 w.2.1 v) ?_ rfl rfl hd kw
  rw [hsl, q4 k hk]
  exact congrArg some hv
theorem z_put (hc : zCx p s m args meth c w m0 own cc nL ret) {a k ci idx n : Nat} {v : Value} {mem' : zM} (hci : ci < 11) (hk : k < zNf ci) (hly : ∀ k, k < zNf ci → u_lay (zRn ci) (zTb ci) k ∈ zT) (hlay : w.2.2.1 a = (10 + ci, n)) (hok : zok w.2.2.2.2 mem a) (hw : Cond.fieldLink own idx (zTb ci k).1 (zTb ci k).2.1 (zTb ci k).2.2.1 ∈ zT)
    (hfin : (zTb ci k).2.2.2 = false ∨ ((zTb ci k).2.2.2 = true ∧ meth.name = "<init>" ∧ (zTb ci k).1 = own)) (hn : narrow (zty ci k) (zv w.1 w.2.1 v) = zv w.1 w.2.1 v) (hfit : fits (zty ci k) (zv w.1 w.2.1 v) = true) (hN : gN mem' = gN mem)
    (hs : ∀ x, x ≠ a → (∀ k, gI mem' x k = gI mem x k) ∧ (∀ k, gL mem' x k = gL mem x k) ∧ ∀ k, w.2.2.2.1 mem'.2.2.1 x k = w.2.2.2.1 mem.2.2.1 x k)
    (hself : ∀ j, j < zNf ci → zfv w.2.1 w.2.2.2.1 mem' a (zty ci j) j = updV (fun j => zfv w.2.1 w.2.2.2.1 mem a (zty ci j) j) k (zv w.1 w.2.1 v) j)
    (hd : decode cc pc = .ok (.putfield idx, 3)) (kk : zJ enc p l e R s m args below meth c w m0 nL fin (pc + 3) L st mem' o) : zJ enc p l e R s m args below meth c w m0 nL fin pc L (v :: .ref a :: st) mem o := by
  intro ho
  obtain ⟨kk1, kk2⟩ := kk ho
  rw [hN] at kk1
  refine ⟨kk1, fun H locs ls hI hl => ?_⟩
  obtain ⟨cell, q1, q2, q3, q4⟩ := hI.1.2.2.2 a ci n hok hlay
  obtain ⟨hx, hb, hr, hml, hown, hts, hlk, hK, hst, htop⟩ := hc
  have hap := va_apart (own := own) hts (zlay_of hly) (zty ci) (zty_ok hci) (znm hci) hK.1 (zcl hci)
  obtain ⟨hS, hfc, kC, hkC, hkind⟩ := hK.1.1 ci _ (zcl hci)
  obtain ⟨cf, kf, fi, f, hi, hsl⟩ := hS k hk
  have hstc := (u_facts hfc hkC (u_lays hts (zlay_of hly) hk) hi).1
  have key : ∀ H' : Heap, H'[w.2.1 + a]? = some (cell.setSlot f.slot (zv w.1 w.2.1 v)) → H'.size = H.size → (∀ q, q ≠ w.2.1 + a → H'[q]? = H[q]?) → W p l e R s m args below meth c H' (locs ++ [⟨w.2.1 + a, f.slot⟩]) (zc w m0 mem) (zs w m0 mem) (MQ below (zPost w m0 (enc fin.1) fin.2) args s (zc w m0 fin.2) (zs w m0 fin.2) (fun q => w.2.1 < q)) (F0 m (pc + 3) ls (st.map (zv w.1 w.2.1))) := by
    intro H' e1 e2 e3
    rw [hsl] at e1
    have ho2 : t_OB (w.2.1 + a) (w.1.1 ci) (zNf ci) (w.1.2.1 ci) H' (fun k => zfv w.2.1 w.2.2.2.1 mem' a (zty ci k) k) := t_OB.to (V := updV (fun j => zfv w.2.1 w.2.2.2.1 mem a (zty ci j) j) k (zv w.1 w.2.1 v)) ⟨_, e1, q2, q3, t_set q4 hap hk (zv w.1 w.2.1 v)⟩ (fun j hj => (hself j hj).symm)
    have := kk2 H' (locs ++ [⟨w.2.1 + a, f.slot⟩]) ls (hI.put htop hok hN e2 e3 (hI.1.obj hlay hN hs ho2 e3)) hl
    rw [(zc_eq hN).1, (zc_eq hN).2] at this
    exact this
  have hlay2 := hts _ (hly k hk)
  unfold u_lay at hlay2
  rcases hfin with hfin | ⟨hfin, hin2, hdecl⟩
  · rw [if_neg (by rw [hfin]; decide)] at hlay2
    have h6 := u_store hfc hkC hkind hlay2 hi (zty_ok hci k hk) hn hfit
    exact W.putK hx hb (f := f) ⟨hown, hts _ hw, ⟨_, _, _, hi⟩, hstc⟩ (by rw [q2]; exact h6) q1 q3 (by rw [hsl]; exact k2_hasslot (q4 k hk)) rfl rfl hd key
  · rw [if_pos hfin] at hlay2
    have hcf : m.cls = cf := by
      obtain ⟨_, _, c', _, _, _, -, -, hf', -, -, -, hown2, -⟩ := Cond.laysFinal_spec hlay2
      have e1 : c' = cf := by have := hi.symm.trans hf'; simp at this; exact this.1.symm
      rw [hdecl] at hown2
      rw [← e1]; exact Option.some.inj (hown.symm.trans hown2)
    have h6 := u_fits hfc hkC hkind (Or.inr hlay2) hi (zty_ok hci k hk) hn hfit
    exact W.putFinK hx hb hown (hts _ hw) hi hstc hcf hin2 (by rw [q2]; exact h6) q1 q3 (by rw [hsl]; exact k2_hasslot (q4 k hk)) rfl rfl hd key
end ZR
