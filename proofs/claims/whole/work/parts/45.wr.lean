theorem set_updA {v : VS} (hn : ((vIt v).map iA).Nodup) {k : Nat} (hk : k < (vIt v).length) (x : VI) : (vIt v).set k x = updA (iA (vAt v k)) x (vIt v) := by
  unfold updA
  refine List.ext_getElem (by simp) (fun j h1 h2 => ?_)
  have hj : j < (vIt v).length := by simpa using h1
  rw [List.getElem_map, List.getElem_set]
  by_cases e : k = j
  · subst e; rw [if_pos rfl, if_pos (congrArg iA (vAt_get hk).symm)]
  · rw [if_neg e, if_neg]
    intro z
    have z := z.trans (congrArg iA (vAt_get hk))
    refine e (nd_inj hn (i := k) (j := j) (by simpa using hk) (by simpa using hj) ?_)
    rw [List.getElem_map, List.getElem_map]; exact z.symm
section RepU
variable {cI cZ cO : ClassId} {t : Nat} {L : List Nat} {f : Nat → va_E} {ad : Nat → Nat} {v : VS}
/-- the item i is x now, with the same address, kind, blocks' address and file -/
theorem Rep.setU (h : Rep cI cZ cO t L f ad v) {i x : VI} (hi : i ∈ vIt v) {f' : Nat → va_E} (hA : iA x = iA i) (hS : iIsS x = iIsS i) (hJ : iIsJ x = iIsJ i) (hB : iIsS x = true → iBa x = iBa i) (hF : iIsJ x = true → iFi x = iFi i)
    (hc : f' (iA x) = iCell x) (hb : iIsS x = true → f' (iBa x) = .inl (cI, 48, .inl (fun j => nI (iBl x j))) ∧ iLe x ≤ 48 ∧ ∀ j, iBl x j < 48) (hf : ∀ q ∈ L, q ≠ iA x → (iIsS x = true → q ≠ iBa x) → f' q = f q) : Rep cI cZ cO t L f' ad (vUpd v (iA i) x) := by
  obtain ⟨k, hk, rfl⟩ := mem_at hi
  have := h.setI hk hA hS hJ hB hF hc hb hf
  rw [set_updA h.nd hk] at this
  exact this
/-- only the item's own cell is another one -/
theorem Rep.cellU (h : Rep cI cZ cO t L f ad v) {i x : VI} (hi : i ∈ vIt v) (hA : iA x = iA i) (hS : iIsS x = iIsS i) (hJ : iIsJ x = iIsJ i) (hB : iIsS x = true → iBa x = iBa i ∧ iBl x = iBl i ∧ iLe x ≤ 48) (hF : iIsJ x = true → iFi x = iFi i) : Rep cI cZ cO t L (va_up f (iA i) (iCell x)) ad (vUpd v (iA i) x) := by
  have ho := h.it hi
  refine h.setU hi hA hS hJ (fun s => (hB s).1) hF (by rw [hA]; exact va_up_self _ _ _) (fun s => ?_) (fun q _ h1 _ => va_up_ne _ _ (by rw [← hA]; exact h1))
  obtain ⟨b1, b2, b3⟩ := hB s
  obtain ⟨o1, o2, o3, o4⟩ := ho.2.2 (by rw [← hS]; exact s)
  have hne : iBa i ≠ iA i := ne_k (f := f) (by rw [h.kB hi (by rw [← hS]; exact s)]; have := h.kI hi; omega)
  rw [b1, b2]
  exact ⟨by rw [va_up_ne _ _ hne]; exact o2, b3, o4⟩
end RepU

theorem pV_D_entries {p : Program} {l : Launch} {e : Env} {R : Room} {s : State} {m : MethodId} {args : Array Value} {below : List Frame} {meth : Method} {c : Code} {H : Heap} {locs : List Loc} {cells slots : Nat} {Q : State → Prop} {cc : ByteArray} {pc : Nat} {ls : Array Slot} {rest : List Value} {D : va_G} {cI cZ cO : ClassId} {L : List Nat} {f : Nat → va_E} {t : Nat} {ad : Nat → Nat} {v : VS} {A : Nat → Prop} {H0 : Heap} (hx : p.tables.exec = Jvm.exec) (hb : c.code = cc) (hU : ∀ w ∈ wU, w.before args s = true) (hown : s.vm.findClass R_V = some m.cls) (hK : KS D cI cZ cO s) (hP : va_P D cvC (va_pl L f) H) (hD : va_D A (va_pl L f)) (hS : va_S A H0 H locs) (hRep : Rep cI cZ cO t L f ad v) (i : VI) (hi : i ∈ vIt v) (hk : iIsD i = true) (x : Int32) (hdg : decode cc pc = .ok (.putfield 73, 3)) (kk : ∀ (f1 : Nat → va_E) (H1 : Heap) (locs1 : List Loc), Rep cI cZ cO t L f1 ad (vUpd v (iA i) (iSetE i x)) → (∀ y, y ≠ iA i → f1 y = f y) → va_P D cvC (va_pl L f1) H1 → va_D A (va_pl L f1) → va_S A H0 H1 locs1 → W p l e R s m args below meth c H1 locs1 cells slots Q (F0 m (pc + 3) ls rest)) : W p l e R s m args below meth c H locs cells slots Q (F0 m pc ls (.int x :: .ref (iA i) :: rest)) := by
  have ho := hRep.it hi
  refine p_put (C := R_D) (T := T_D) (N := 4) (v := .int x) (ty := .int) hx hb hU u_D t_D t_D_ok n_D hown hK hP hD hS ho.1 (ho.2.1.trans (iCellD hk)) rfl 3 (by decide) w_36 (fun _ h => h) rfl (by decide +kernel) rfl rfl (Nat.le_of_ble_eq_true rfl) hdg (fun H1 locs1 hP1 hD1 hS1 => ?_)
  exact kk _ H1 locs1 (hRep.cellU hi (x := iSetE i x) rfl ((iD_z hk).1.symm) ((iD_z hk).2.1.symm) (fun z => by cases z) (fun z => by cases z)) (fun y hy => va_up_ne _ _ hy) hP1 hD1 hS1

theorem pV_S_links {p : Program} {l : Launch} {e : Env} {R : Room} {s : State} {m : MethodId} {args : Array Value} {below : List Frame} {meth : Method} {c : Code} {H : Heap} {locs : List Loc} {cells slots : Nat} {Q : State → Prop} {cc : ByteArray} {pc : Nat} {ls : Array Slot} {rest : List Value} {D : va_G} {cI cZ cO : ClassId} {L : List Nat} {f : Nat → va_E} {t : Nat} {ad : Nat → Nat} {v : VS} {A : Nat → Prop} {H0 : Heap} (hx : p.tables.exec = Jvm.exec) (hb : c.code = cc) (hU : ∀ w ∈ wU, w.before args s = true) (hown : s.vm.findClass R_V = some m.cls) (hK : KS D cI cZ cO s) (hP : va_P D cvC (va_pl L f) H) (hD : va_D A (va_pl L f)) (hS : va_S A H0 H locs) (hRep : Rep cI cZ cO t L f ad v) (i : VI) (hi : i ∈ vIt v) (hk : iIsS i = true) (x : Int32) (hdg : decode cc pc = .ok (.putfield 245, 3)) (kk : ∀ (f1 : Nat → va_E) (H1 : Heap) (locs1 : List Loc), Rep cI cZ cO t L f1 ad (vUpd v (iA i) (iSetL i x)) → (∀ y, y ≠ iA i → f1 y = f y) → va_P D cvC (va_pl L f1) H1 → va_D A (va_pl L f1) → va_S A H0 H1 locs1 → W p l e R s m args below meth c H1 locs1 cells slots Q (F0 m (pc + 3) ls rest)) : W p l e R s m args below meth c H locs cells slots Q (F0 m pc ls (.int x :: .ref (iA i) :: rest)) := by
  have ho := hRep.it hi
  refine p_put (C := R_S) (T := T_S) (N := 6) (v := .int x) (ty := .int) hx hb hU u_S t_S t_S_ok n_S hown hK hP hD hS ho.1 (ho.2.1.trans (iCellS hk)) rfl 5 (by decide) w_199 (fun _ h => h) rfl (by decide +kernel) rfl rfl (Nat.le_of_ble_eq_true rfl) hdg (fun H1 locs1 hP1 hD1 hS1 => ?_)
  exact kk _ H1 locs1 (hRep.cellU hi (x := iSetL i x) rfl (hk.symm) ((iS_z hk).2.1.symm) (fun _ => ⟨rfl, rfl, (ho.2.2 hk).2.2.1⟩) (fun z => by cases z)) (fun y hy => va_up_ne _ _ hy) hP1 hD1 hS1

theorem pV_S_length {p : Program} {l : Launch} {e : Env} {R : Room} {s : State} {m : MethodId} {args : Array Value} {below : List Frame} {meth : Method} {c : Code} {H : Heap} {locs : List Loc} {cells slots : Nat} {Q : State → Prop} {cc : ByteArray} {pc : Nat} {ls : Array Slot} {rest : List Value} {D : va_G} {cI cZ cO : ClassId} {L : List Nat} {f : Nat → va_E} {t : Nat} {ad : Nat → Nat} {v : VS} {A : Nat → Prop} {H0 : Heap} (hx : p.tables.exec = Jvm.exec) (hb : c.code = cc) (hU : ∀ w ∈ wU, w.before args s = true) (hown : s.vm.findClass R_V = some m.cls) (hK : KS D cI cZ cO s) (hP : va_P D cvC (va_pl L f) H) (hD : va_D A (va_pl L f)) (hS : va_S A H0 H locs) (hRep : Rep cI cZ cO t L f ad v) (i : VI) (hi : i ∈ vIt v) (hk : iIsS i = true) (n : Nat) (hn : n ≤ 48) (hdg : decode cc pc = .ok (.putfield 146, 3)) (kk : ∀ (f1 : Nat → va_E) (H1 : Heap) (locs1 : List Loc), Rep cI cZ cO t L f1 ad (vUpd v (iA i) (iCut i n)) → (∀ y, y ≠ iA i → f1 y = f y) → va_P D cvC (va_pl L f1) H1 → va_D A (va_pl L f1) → va_S A H0 H1 locs1 → W p l e R s m args below meth c H1 locs1 cells slots Q (F0 m (pc + 3) ls rest)) : W p l e R s m args below meth c H locs cells slots Q (F0 m pc ls (.int (nI n) :: .ref (iA i) :: rest)) := by
  have ho := hRep.it hi
  refine p_put (C := R_S) (T := T_S) (N := 6) (v := .int (nI n)) (ty := .int) hx hb hU u_S t_S t_S_ok n_S hown hK hP hD hS ho.1 (ho.2.1.trans (iCellS hk)) rfl 4 (by decide) w_198 (fun _ h => h) rfl (by decide +kernel) rfl rfl (Nat.le_of_ble_eq_true rfl) hdg (fun H1 locs1 hP1 hD1 hS1 => ?_)
  exact kk _ H1 locs1 (hRep.cellU hi (x := iCut i n) rfl (hk.symm) ((iS_z hk).2.1.symm) (fun _ => ⟨rfl, rfl, hn⟩) (fun z => by cases z)) (fun y hy => va_up_ne _ _ hy) hP1 hD1 hS1

theorem pV_I_folderId {p : Program} {l : Launch} {e : Env} {R : Room} {s : State} {m : MethodId} {args : Array Value} {below : List Frame} {meth : Method} {c : Code} {H : Heap} {locs : List Loc} {cells slots : Nat} {Q : State → Prop} {cc : ByteArray} {pc : Nat} {ls : Array Slot} {rest : List Value} {D : va_G} {cI cZ cO : ClassId} {L : List Nat} {f : Nat → va_E} {t : Nat} {ad : Nat → Nat} {v : VS} {A : Nat → Prop} {H0 : Heap} (hx : p.tables.exec = Jvm.exec) (hb : c.code = cc) (hU : ∀ w ∈ wU, w.before args s = true) (hown : s.vm.findClass R_V = some m.cls) (hK : KS D cI cZ cO s) (hP : va_P D cvC (va_pl L f) H) (hD : va_D A (va_pl L f)) (hS : va_S A H0 H locs) (hRep : Rep cI cZ cO t L f ad v) (i : VI) (hi : i ∈ vIt v) (x : Int32) (hdg : decode cc pc = .ok (.putfield 224, 3)) (kk : ∀ (f1 : Nat → va_E) (H1 : Heap) (locs1 : List Loc), Rep cI cZ cO t L f1 ad (vUpd v (iA i) (iMv i x (iNa i))) → (∀ y, y ≠ iA i → f1 y = f y) → va_P D cvC (va_pl L f1) H1 → va_D A (va_pl L f1) → va_S A H0 H1 locs1 → W p l e R s m args below meth c H1 locs1 cells slots Q (F0 m (pc + 3) ls rest)) : W p l e R s m args below meth c H locs cells slots Q (F0 m pc ls (.int x :: .ref (iA i) :: rest)) := by
  have ho := hRep.it hi
  have hR := hRep.cellU hi (x := iMv i x (iNa i)) rfl rfl rfl (fun s => ⟨rfl, rfl, (ho.2.2 s).2.2.1⟩) (fun _ => rfl)
  rcases i3 i with ⟨h, -, -⟩ | ⟨-, h, -⟩ | ⟨-, -, h⟩
  · have e := iCellD (i := iMv i x (iNa i)) h
    rw [e] at hR
    refine p_put (C := R_D) (T := T_D) (N := 4) (v := .int x) (ty := .int) hx hb hU u_D t_D t_D_ok n_D hown hK hP hD hS ho.1 (ho.2.1.trans (iCellD h)) rfl 1 (by decide) w_48 (fun _ h => h) rfl (by decide +kernel) rfl rfl (Nat.le_of_ble_eq_true rfl) hdg (fun H1 locs1 hP1 hD1 hS1 => ?_)
    exact kk _ H1 locs1 hR (fun y hy => va_up_ne _ _ hy) hP1 hD1 hS1
  · have e := iCellS (i := iMv i x (iNa i)) h
    rw [e] at hR
    refine p_put (C := R_S) (T := T_S) (N := 6) (v := .int x) (ty := .int) hx hb hU u_S t_S t_S_ok n_S hown hK hP hD hS ho.1 (ho.2.1.trans (iCellS h)) rfl 1 (by decide) w_48 (fun _ h => h) rfl (by decide +kernel) rfl rfl (Nat.le_of_ble_eq_true rfl) hdg (fun H1 locs1 hP1 hD1 hS1 => ?_)
    exact kk _ H1 locs1 hR (fun y hy => va_up_ne _ _ hy) hP1 hD1 hS1
  · have e := iCellJ (i := iMv i x (iNa i)) h
    rw [e] at hR
    refine p_put (C := R_J) (T := T_J) (N := 4) (v := .int x) (ty := .int) hx hb hU u_J t_J t_J_ok n_J hown hK hP hD hS ho.1 (ho.2.1.trans (iCellJ h)) rfl 1 (by decide) w_48 (fun _ h => h) rfl (by decide +kernel) rfl rfl (Nat.le_of_ble_eq_true rfl) hdg (fun H1 locs1 hP1 hD1 hS1 => ?_)
    exact kk _ H1 locs1 hR (fun y hy => va_up_ne _ _ hy) hP1 hD1 hS1

theorem pV_I_name {p : Program} {l : Launch} {e : Env} {R : Room} {s : State} {m : MethodId} {args : Array Value} {below : List Frame} {meth : Method} {c : Code} {H : Heap} {locs : List Loc} {cells slots : Nat} {Q : State → Prop} {cc : ByteArray} {pc : Nat} {ls : Array Slot} {rest : List Value} {D : va_G} {cI cZ cO : ClassId} {L : List Nat} {f : Nat → va_E} {t : Nat} {ad : Nat → Nat} {v : VS} {A : Nat → Prop} {H0 : Heap} (hx : p.tables.exec = Jvm.exec) (hb : c.code = cc) (hU : ∀ w ∈ wU, w.before args s = true) (hown : s.vm.findClass R_V = some m.cls) (hK : KS D cI cZ cO s) (hP : va_P D cvC (va_pl L f) H) (hD : va_D A (va_pl L f)) (hS : va_S A H0 H locs) (hRep : Rep cI cZ cO t L f ad v) (i : VI) (hi : i ∈ vIt v) (x : Int32) (hdg : decode cc pc = .ok (.putfield 227, 3)) (kk : ∀ (f1 : Nat → va_E) (H1 : Heap) (locs1 : List Loc), Rep cI cZ cO t L f1 ad (vUpd v (iA i) (iMv i (iFo i) x)) → (∀ y, y ≠ iA i → f1 y = f y) → va_P D cvC (va_pl L f1) H1 → va_D A (va_pl L f1) → va_S A H0 H1 locs1 → W p l e R s m args below meth c H1 locs1 cells slots Q (F0 m (pc + 3) ls rest)) : W p l e R s m args below meth c H locs cells slots Q (F0 m pc ls (.int x :: .ref (iA i) :: rest)) := by
  have ho := hRep.it hi
  have hR := hRep.cellU hi (x := iMv i (iFo i) x) rfl rfl rfl (fun s => ⟨rfl, rfl, (ho.2.2 s).2.2.1⟩) (fun _ => rfl)
  rcases i3 i with ⟨h, -, -⟩ | ⟨-, h, -⟩ | ⟨-, -, h⟩
  · have e := iCellD (i := iMv i (iFo i) x) h
    rw [e] at hR
    refine p_put (C := R_D) (T := T_D) (N := 4) (v := .int x) (ty := .int) hx hb hU u_D t_D t_D_ok n_D hown hK hP hD hS ho.1 (ho.2.1.trans (iCellD h)) rfl 2 (by decide) w_55 (fun _ h => h) rfl (by decide +kernel) rfl rfl (Nat.le_of_ble_eq_true rfl) hdg (fun H1 locs1 hP1 hD1 hS1 => ?_)
    exact kk _ H1 locs1 hR (fun y hy => va_up_ne _ _ hy) hP1 hD1 hS1
  · have e := iCellS (i := iMv i (iFo i) x) h
    rw [e] at hR
    refine p_put (C := R_S) (T := T_S) (N := 6) (v := .int x) (ty := .int) hx hb hU u_S t_S t_S_ok n_S hown hK hP hD hS ho.1 (ho.2.1.trans (iCellS h)) rfl 2 (by decide) w_55 (fun _ h => h) rfl (by decide +kernel) rfl rfl (Nat.le_of_ble_eq_true rfl) hdg (fun H1 locs1 hP1 hD1 hS1 => ?_)
    exact kk _ H1 locs1 hR (fun y hy => va_up_ne _ _ hy) hP1 hD1 hS1
  · have e := iCellJ (i := iMv i (iFo i) x) h
    rw [e] at hR
    refine p_put (C := R_J) (T := T_J) (N := 4) (v := .int x) (ty := .int) hx hb hU u_J t_J t_J_ok n_J hown hK hP hD hS ho.1 (ho.2.1.trans (iCellJ h)) rfl 2 (by decide) w_55 (fun _ h => h) rfl (by decide +kernel) rfl rfl (Nat.le_of_ble_eq_true rfl) hdg (fun H1 locs1 hP1 hD1 hS1 => ?_)
    exact kk _ H1 locs1 hR (fun y hy => va_up_ne _ _ hy) hP1 hD1 hS1

theorem pV_R_entries {p : Program} {l : Launch} {e : Env} {R : Room} {s : State} {m : MethodId} {args : Array Value} {below : List Frame} {meth : Method} {c : Code} {H : Heap} {locs : List Loc} {cells slots : Nat} {Q : State → Prop} {cc : ByteArray} {pc : Nat} {ls : Array Slot} {rest : List Value} {D : va_G} {cI cZ cO : ClassId} {L : List Nat} {f : Nat → va_E} {t : Nat} {ad : Nat → Nat} {v : VS} {A : Nat → Prop} {H0 : Heap} (hx : p.tables.exec = Jvm.exec) (hb : c.code = cc) (hU : ∀ w ∈ wU, w.before args s = true) (hown : s.vm.findClass R_V = some m.cls) (hK : KS D cI cZ cO s) (hP : va_P D cvC (va_pl L f) H) (hD : va_D A (va_pl L f)) (hS : va_S A H0 H locs) (hRep : Rep cI cZ cO t L f ad v) (x : Int32) (hdg : decode cc pc = .ok (.putfield 73, 3)) (kk : ∀ (f1 : Nat → va_E) (H1 : Heap) (locs1 : List Loc), Rep cI cZ cO t L f1 ad (sRe' v x) → (∀ y, y ≠ ad 1 → f1 y = f y) → va_P D cvC (va_pl L f1) H1 → va_D A (va_pl L f1) → va_S A H0 H1 locs1 → W p l e R s m args below meth c H1 locs1 cells slots Q (F0 m (pc + 3) ls rest)) : W p l e R s m args below meth c H locs cells slots Q (F0 m pc ls (.int x :: .ref (ad 1) :: rest)) := by
  refine p_put (C := R_D) (T := T_D) (N := 4) (v := .int x) (ty := .int) hx hb hU u_D t_D t_D_ok n_D hown hK hP hD hS hRep.root.1 hRep.root.2 rfl 3 (by decide) w_36 (fun _ h => h) rfl (by decide +kernel) rfl rfl (Nat.le_of_ble_eq_true rfl) hdg (fun H1 locs1 hP1 hD1 hS1 => ?_)
  exact kk _ H1 locs1 (hRep.setRe x) (fun y hy => va_up_ne _ _ hy) hP1 hD1 hS1

theorem pV_mounted {p : Program} {l : Launch} {e : Env} {R : Room} {s : State} {m : MethodId} {args : Array Value} {below : List Frame} {meth : Method} {c : Code} {H : Heap} {locs : List Loc} {cells slots : Nat} {Q : State → Prop} {cc : ByteArray} {pc : Nat} {ls : Array Slot} {rest : List Value} {D : va_G} {cI cZ cO : ClassId} {L : List Nat} {f : Nat → va_E} {t : Nat} {ad : Nat → Nat} {v : VS} {A : Nat → Prop} {H0 : Heap} (hx : p.tables.exec = Jvm.exec) (hb : c.code = cc) (hU : ∀ w ∈ wU, w.before args s = true) (hown : s.vm.findClass R_V = some m.cls) (hK : KS D cI cZ cO s) (hP : va_P D cvC (va_pl L f) H) (hD : va_D A (va_pl L f)) (hS : va_S A H0 H locs) (hRep : Rep cI cZ cO t L f ad v) (b : Bool) (hdg : decode cc pc = .ok (.putfield 39, 3)) (kk : ∀ (f1 : Nat → va_E) (H1 : Heap) (locs1 : List Loc), Rep cI cZ cO t L f1 ad (sMo' v b) → (∀ y, y ≠ ad 0 → f1 y = f y) → va_P D cvC (va_pl L f1) H1 → va_D A (va_pl L f1) → va_S A H0 H1 locs1 → W p l e R s m args below meth c H1 locs1 cells slots Q (F0 m (pc + 3) ls rest)) : W p l e R s m args below meth c H locs cells slots Q (F0 m pc ls (.int (bI b) :: .ref (ad 0) :: rest)) := by
  refine p_put (C := R_V) (T := T_V) (N := 6) (v := .int (bI b)) (ty := .boolean) hx hb hU u_V t_V t_V_ok n_V hown hK hP hD hS hRep.obj.1 hRep.obj.2 rfl 4 (by decide) w_121 (fun _ h => h) rfl (by decide +kernel) (bI_nar _) (bI_fit _) (Nat.le_of_ble_eq_true rfl) hdg (fun H1 locs1 hP1 hD1 hS1 => ?_)
  exact kk _ H1 locs1 (hRep.setObj b (vNx v)) (fun y hy => va_up_ne _ _ hy) hP1 hD1 hS1

theorem eV_Up {p : Program} {l : Launch} {e : Env} {R : Room} {s : State} {m : MethodId} {args : Array Value} {below : List Frame} {meth : Method} {c : Code} {H : Heap} {locs : List Loc} {cells slots : Nat} {Q : State → Prop} {cc : ByteArray} {pc : Nat} {ls : Array Slot} {rest : List Value} {D : va_G} {cI cZ cO : ClassId} {L : List Nat} {f : Nat → va_E} {t : Nat} {ad : Nat → Nat} {v : VS} {A : Nat → Prop} {H0 : Heap} (hx : p.tables.exec = Jvm.exec) (hb : c.code = cc) (hU : ∀ w ∈ wU, w.before args s = true) (hown : s.vm.findClass R_V = some m.cls) (hK : KS D cI cZ cO s) (hP : va_P D cvC (va_pl L f) H) (hD : va_D A (va_pl L f)) (hS : va_S A H0 H locs) (hRep : Rep cI cZ cO t L f ad v) (o : Option Nat) (a : Nat) (ho : (o = none ∧ a = ad 1) ∨ ∃ i ∈ vIt v, o = some (iA i) ∧ a = iA i ∧ iIsD i = true) (d1 : decode cc pc = .ok (.dup, 1)) (d2 : decode cc (pc + 1) = .ok (.getfield 73, 3)) (d3 : decode cc (pc + 1 + 3) = .ok (.iconst 1, 1)) (d4 : decode cc (pc + 1 + 3 + 1) = .ok (.iadd, 1)) (d5 : decode cc (pc + 1 + 3 + 1 + 1) = .ok (.putfield 73, 3)) (kk : ∀ (f1 : Nat → va_E) (H1 : Heap) (locs1 : List Loc), Rep cI cZ cO t L f1 ad (vEnt v o 1) → (∀ y, y ≠ a → f1 y = f y) → va_P D cvC (va_pl L f1) H1 → va_D A (va_pl L f1) → va_S A H0 H1 locs1 → W p l e R s m args below meth c H1 locs1 cells slots Q (F0 m (pc + 1 + 3 + 1 + 1 + 3) ls rest)) : W p l e R s m args below meth c H locs cells slots Q (F0 m pc ls (.ref a :: rest)) := by
  rcases ho with ⟨e1, e2⟩ | ⟨i, hi, e1, e2, hd⟩
  · subst e1; subst e2
    refine lv_dup hx hb d1 rfl ?_
    refine gV_R_entries hx hb hU hown hK hP hRep d2 ?_
    refine lv_iconst (v := 1) hx hb d3 (by decide) ?_
    refine lv_iadd hx hb d4 ?_
    exact pV_R_entries hx hb hU hown hK hP hD hS hRep _ d5 (fun f1 H1 locs1 r1 r2 r3 r4 r5 => kk f1 H1 locs1 r1 r2 r3 r4 r5)
  · subst e1; subst e2
    refine lv_dup hx hb d1 rfl ?_
    refine gV_D_entries hx hb hU hown hK hP i (hRep.it hi) hd d2 ?_
    refine lv_iconst (v := 1) hx hb d3 (by decide) ?_
    refine lv_iadd hx hb d4 ?_
    refine pV_D_entries hx hb hU hown hK hP hD hS hRep i hi hd _ d5 (fun f1 H1 locs1 r1 r2 r3 r4 r5 => kk f1 H1 locs1 ?_ r2 r3 r4 r5)
    show Rep cI cZ cO t L f1 ad (vUpd v (iA i) (iSetE (vItA v (iA i)) (iEn (vItA v (iA i)) + 1)))
    rw [vItA_eq hRep.pr hi]
    exact r1

theorem lkV_Up {p : Program} {l : Launch} {e : Env} {R : Room} {s : State} {m : MethodId} {args : Array Value} {below : List Frame} {meth : Method} {c : Code} {H : Heap} {locs : List Loc} {cells slots : Nat} {Q : State → Prop} {cc : ByteArray} {pc : Nat} {ls : Array Slot} {rest : List Value} {D : va_G} {cI cZ cO : ClassId} {L : List Nat} {f : Nat → va_E} {t : Nat} {ad : Nat → Nat} {v : VS} {A : Nat → Prop} {H0 : Heap} (hx : p.tables.exec = Jvm.exec) (hb : c.code = cc) (hU : ∀ w ∈ wU, w.before args s = true) (hown : s.vm.findClass R_V = some m.cls) (hK : KS D cI cZ cO s) (hP : va_P D cvC (va_pl L f) H) (hD : va_D A (va_pl L f)) (hS : va_S A H0 H locs) (hRep : Rep cI cZ cO t L f ad v) (i : VI) (hi : i ∈ vIt v) (hk : iIsS i = true) (d1 : decode cc pc = .ok (.dup, 1)) (d2 : decode cc (pc + 1) = .ok (.getfield 245, 3)) (d3 : decode cc (pc + 1 + 3) = .ok (.iconst 1, 1)) (d4 : decode cc (pc + 1 + 3 + 1) = .ok (.iadd, 1)) (d5 : decode cc (pc + 1 + 3 + 1 + 1) = .ok (.putfield 245, 3)) (kk : ∀ (f1 : Nat → va_E) (H1 : Heap) (locs1 : List Loc), Rep cI cZ cO t L f1 ad (vLnk v (iA i) 1) → (∀ y, y ≠ iA i → f1 y = f y) → va_P D cvC (va_pl L f1) H1 → va_D A (va_pl L f1) → va_S A H0 H1 locs1 → W p l e R s m args below meth c H1 locs1 cells slots Q (F0 m (pc + 1 + 3 + 1 + 1 + 3) ls rest)) : W p l e R s m args below meth c H locs cells slots Q (F0 m pc ls (.ref (iA i) :: rest)) := by
  refine lv_dup hx hb d1 rfl ?_
  refine gV_S_links hx hb hU hown hK hP i (hRep.it hi) hk d2 ?_
  refine lv_iconst (v := 1) hx hb d3 (by decide) ?_
  refine lv_iadd hx hb d4 ?_
  refine pV_S_links hx hb hU hown hK hP hD hS hRep i hi hk _ d5 (fun f1 H1 locs1 r1 r2 r3 r4 r5 => kk f1 H1 locs1 ?_ r2 r3 r4 r5)
  show Rep cI cZ cO t L f1 ad (vUpd v (iA i) (iSetL (vItA v (iA i)) (iLk (vItA v (iA i)) + 1)))
  rw [vItA_eq hRep.pr hi]
  exact r1

theorem eV_Dn {p : Program} {l : Launch} {e : Env} {R : Room} {s : State} {m : MethodId} {args : Array Value} {below : List Frame} {meth : Method} {c : Code} {H : Heap} {locs : List Loc} {cells slots : Nat} {Q : State → Prop} {cc : ByteArray} {pc : Nat} {ls : Array Slot} {rest : List Value} {D : va_G} {cI cZ cO : ClassId} {L : List Nat} {f : Nat → va_E} {t : Nat} {ad : Nat → Nat} {v : VS} {A : Nat → Prop} {H0 : Heap} (hx : p.tables.exec = Jvm.exec) (hb : c.code = cc) (hU : ∀ w ∈ wU, w.before args s = true) (hown : s.vm.findClass R_V = some m.cls) (hK : KS D cI cZ cO s) (hP : va_P D cvC (va_pl L f) H) (hD : va_D A (va_pl L f)) (hS : va_S A H0 H locs) (hRep : Rep cI cZ cO t L f ad v) (o : Option Nat) (a : Nat) (ho : (o = none ∧ a = ad 1) ∨ ∃ i ∈ vIt v, o = some (iA i) ∧ a = iA i ∧ iIsD i = true) (d1 : decode cc pc = .ok (.dup, 1)) (d2 : decode cc (pc + 1) = .ok (.getfield 73, 3)) (d3 : decode cc (pc + 1 + 3) = .ok (.iconst 1, 1)) (d4 : decode cc (pc + 1 + 3 + 1) = .ok (.isub, 1)) (d5 : decode cc (pc + 1 + 3 + 1 + 1) = .ok (.putfield 73, 3)) (kk : ∀ (f1 : Nat → va_E) (H1 : Heap) (locs1 : List Loc), Rep cI cZ cO t L f1 ad (vEnt v o (-1)) → (∀ y, y ≠ a → f1 y = f y) → va_P D cvC (va_pl L f1) H1 → va_D A (va_pl L f1) → va_S A H0 H1 locs1 → W p l e R s m args below meth c H1 locs1 cells slots Q (F0 m (pc + 1 + 3 + 1 + 1 + 3) ls rest)) : W p l e R s m args below meth c H locs cells slots Q (F0 m pc ls (.ref a :: rest)) := by
  have hsub : ∀ x : Int32, x - 1 = x + (-1) := fun x => Int32.sub_eq_add_neg x 1
  rcases ho with ⟨e1, e2⟩ | ⟨i, hi, e1, e2, hd⟩
  · subst e1; subst e2
    refine lv_dup hx hb d1 rfl ?_
    refine gV_R_entries hx hb hU hown hK hP hRep d2 ?_
    refine lv_iconst (v := 1) hx hb d3 (by decide) ?_
    refine lv_isub hx hb d4 ?_
    rw [hsub]
    exact pV_R_entries hx hb hU hown hK hP hD hS hRep _ d5 (fun f1 H1 locs1 r1 r2 r3 r4 r5 => kk f1 H1 locs1 r1 r2 r3 r4 r5)
  · subst e1; subst e2
    refine lv_dup hx hb d1 rfl ?_
    refine gV_D_entries hx hb hU hown hK hP i (hRep.it hi) hd d2 ?_
    refine lv_iconst (v := 1) hx hb d3 (by decide) ?_
    refine lv_isub hx hb d4 ?_
    rw [hsub]
    refine pV_D_entries hx hb hU hown hK hP hD hS hRep i hi hd _ d5 (fun f1 H1 locs1 r1 r2 r3 r4 r5 => kk f1 H1 locs1 ?_ r2 r3 r4 r5)
    show Rep cI cZ cO t L f1 ad (vUpd v (iA i) (iSetE (vItA v (iA i)) (iEn (vItA v (iA i)) + (-1))))
    rw [vItA_eq hRep.pr hi]
    exact r1

theorem lkV_Dn {p : Program} {l : Launch} {e : Env} {R : Room} {s : State} {m : MethodId} {args : Array Value} {below : List Frame} {meth : Method} {c : Code} {H : Heap} {locs : List Loc} {cells slots : Nat} {Q : State → Prop} {cc : ByteArray} {pc : Nat} {ls : Array Slot} {rest : List Value} {D : va_G} {cI cZ cO : ClassId} {L : List Nat} {f : Nat → va_E} {t : Nat} {ad : Nat → Nat} {v : VS} {A : Nat → Prop} {H0 : Heap} (hx : p.tables.exec = Jvm.exec) (hb : c.code = cc) (hU : ∀ w ∈ wU, w.before args s = true) (hown : s.vm.findClass R_V = some m.cls) (hK : KS D cI cZ cO s) (hP : va_P D cvC (va_pl L f) H) (hD : va_D A (va_pl L f)) (hS : va_S A H0 H locs) (hRep : Rep cI cZ cO t L f ad v) (i : VI) (hi : i ∈ vIt v) (hk : iIsS i = true) (d1 : decode cc pc = .ok (.dup, 1)) (d2 : decode cc (pc + 1) = .ok (.getfield 245, 3)) (d3 : decode cc (pc + 1 + 3) = .ok (.iconst 1, 1)) (d4 : decode cc (pc + 1 + 3 + 1) = .ok (.isub, 1)) (d5 : decode cc (pc + 1 + 3 + 1 + 1) = .ok (.putfield 245, 3)) (kk : ∀ (f1 : Nat → va_E) (H1 : Heap) (locs1 : List Loc), Rep cI cZ cO t L f1 ad (vLnk v (iA i) (-1)) → (∀ y, y ≠ iA i → f1 y = f y) → va_P D cvC (va_pl L f1) H1 → va_D A (va_pl L f1) → va_S A H0 H1 locs1 → W p l e R s m args below meth c H1 locs1 cells slots Q (F0 m (pc + 1 + 3 + 1 + 1 + 3) ls rest)) : W p l e R s m args below meth c H locs cells slots Q (F0 m pc ls (.ref (iA i) :: rest)) := by
  have hsub : ∀ x : Int32, x - 1 = x + (-1) := fun x => Int32.sub_eq_add_neg x 1
  refine lv_dup hx hb d1 rfl ?_
  refine gV_S_links hx hb hU hown hK hP i (hRep.it hi) hk d2 ?_
  refine lv_iconst (v := 1) hx hb d3 (by decide) ?_
  refine lv_isub hx hb d4 ?_
  rw [hsub]
  refine pV_S_links hx hb hU hown hK hP hD hS hRep i hi hk _ d5 (fun f1 H1 locs1 r1 r2 r3 r4 r5 => kk f1 H1 locs1 ?_ r2 r3 r4 r5)
  show Rep cI cZ cO t L f1 ad (vUpd v (iA i) (iSetL (vItA v (iA i)) (iLk (vItA v (iA i)) + (-1))))
  rw [vItA_eq hRep.pr hi]
  exact r1

