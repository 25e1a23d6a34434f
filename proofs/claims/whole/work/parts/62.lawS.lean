theorem lw_words {b : Nat} {s : State} (hts : ∀ w ∈ lw_tbl, w.before #[Value.ref b] s = true) : ∀ w ∈ wU, w.before #[Value.ref b] s = true := fun w hw => hts w (List.mem_filter.mp hw).1
theorem lw_cI {s : State} {args : Array Value} (h : (Cond.arrayClass .int).before args s = true) : ∃ cI, ArrOfT s cI .int ∧ va_RA s cI .int := by
  obtain ⟨c, k, comp, h1, h2, h3⟩ := Cond.arrayClass_spec h
  exact ⟨c, fun N z => ⟨fun k h => (by cases h), k, h2, comp, h3⟩, h1⟩
theorem lw_cZ {s : State} {args : Array Value} (h : (Cond.arrayClass .boolean).before args s = true) : ∃ cI, ArrOfT s cI .boolean ∧ va_RA s cI .boolean := by
  obtain ⟨c, k, comp, h1, h2, h3⟩ := Cond.arrayClass_spec h
  exact ⟨c, fun N z => ⟨fun k h => (by cases h), k, h2, comp, h3⟩, h1⟩
theorem lw_cO {s : State} {args : Array Value} (h : (Cond.arrayOver (.object "java/lang/Object")).before args s = true) : ∃ cO, ArrOfT s cO (.object "java/lang/Object") ∧ va_RA s cO (.object "java/lang/Object") := by
  obtain ⟨comp, c, k, h1, -, h2, h3, h4⟩ := Cond.arrayOver_spec h
  exact ⟨c, fun N z => ⟨fun k h => (by cases h), k, h2, comp, h3⟩, k, comp, h2, h3, h1, h4⟩
theorem lw_kC : kC.all (fun q => decide (Cond.castable q.1 q.2 ∈ lw_tbl)) = true := by decide +kernel
theorem lw_kDl : kDl.all (fun y => decide (Cond.declares y ∈ lw_tbl)) = true := by decide +kernel
theorem lw_kNs : kNs.all (fun q => decide (Cond.methodLinkNest q.1 q.2.1 q.2.2.1 q.2.2.2 ∈ lw_tbl)) = true := by decide +kernel
theorem lw_kN : kN.all (fun q => decide (Cond.not (.castable q.1 q.2) ∈ flatC (Jvm.Cond.and given_1 narrow_1))) = true := by decide +kernel
theorem lw_KS {p : Program} {s : State} {m : MethodId} {meth : Method} {c : Code} {b L : Nat} {xs : Nat → Int32} (C0 : lw_At p s m meth c b L xs) : ∃ (D : va_G) (cI cZ cO : ClassId), KS D cI cZ cO s := by
  obtain ⟨-, -, -, -, -, hts, -, -, -, hgv⟩ := C0
  have hU := lw_words hts
  have hfl := flat_of_before _ hgv
  obtain ⟨c0, i0, k0⟩ := u_known (n := 6) hU u_V (hts (.instantiable R_V 6) (by decide +kernel))
  obtain ⟨c1, i1, k1⟩ := u_known (n := 1) hU u_B (hts (.instantiable R_B 1) (by decide +kernel))
  obtain ⟨c2, i2, k2⟩ := u_known (n := 1) hU u_K (hts (.instantiable R_K 1) (by decide +kernel))
  obtain ⟨c3, i3, k3⟩ := u_known (n := 4) hU u_D (hts (.instantiable R_D 4) (by decide +kernel))
  obtain ⟨c4, i4, k4⟩ := u_known (n := 6) hU u_S (hts (.instantiable R_S 6) (by decide +kernel))
  obtain ⟨c5, i5, k5⟩ := u_known (n := 4) hU u_J (hts (.instantiable R_J 4) (by decide +kernel))
  obtain ⟨c6, i6, k6⟩ := u_known (n := 2) hU u_N (hts (.instantiable R_N 2) (by decide +kernel))
  obtain ⟨c7, i7, k7⟩ := u_known (n := 3) hU u_A (hts (.instantiable R_A 3) (by decide +kernel))
  obtain ⟨c8, i8, k8⟩ := u_known (n := 13) hU u_M (hts (.instantiable R_M 13) (by decide +kernel))
  obtain ⟨cI, hI⟩ := lw_cI (hts _ (by decide +kernel))
  obtain ⟨cZ, hZ⟩ := lw_cZ (hts _ (by decide +kernel))
  obtain ⟨cO, hO⟩ := lw_cO (hts _ (by decide +kernel))
  refine ⟨(fun n => match n with | 0 => c0 | 1 => c1 | 2 => c2 | 3 => c3 | 4 => c4 | 5 => c5 | 6 => c6 | 7 => c7 | _ => c8, fun n => match n with | 0 => i0 | 1 => i1 | 2 => i2 | 3 => i3 | 4 => i4 | 5 => i5 | 6 => i6 | 7 => i7 | _ => i8), cI, cZ, cO, ⟨fun n q hq => ?_, fun n q hq => ?_⟩, fun q hq => ?_, fun q hq => ?_, fun y hy => ?_, fun q hq => ?_, va_AO.of (hts _ (by decide +kernel)), va_Dc.of (hts _ (by decide +kernel)), va_Mi.of (hfl _ (by decide +kernel))⟩
  · match n, hq with
    | 0, hq => cases hq; exact k0
    | 1, hq => cases hq; exact k1
    | 2, hq => cases hq; exact k2
    | 3, hq => cases hq; exact k3
    | 4, hq => cases hq; exact k4
    | 5, hq => cases hq; exact k5
    | 6, hq => cases hq; exact k6
    | 7, hq => cases hq; exact k7
    | 8, hq => cases hq; exact k8
    | n + 9, hq => cases hq
  · match n, hq with
    | 0, hq => cases hq; exact hI
    | 1, hq => cases hq; exact hZ
    | 2, hq => cases hq; exact hO
    | n + 3, hq => cases hq
  · exact va_Nw.of rfl (hts _ (of_decide_eq_true (List.all_eq_true.mp lw_kC q hq)))
  · exact va_Nc.of (hfl _ (of_decide_eq_true (List.all_eq_true.mp lw_kN q hq)))
  · exact va_Nw.of rfl (hts _ (of_decide_eq_true (List.all_eq_true.mp lw_kDl y hy)))
  · exact va_Nw.of rfl (hts _ (of_decide_eq_true (List.all_eq_true.mp lw_kNs q hq)))
theorem lw_ZT {p : Program} {s : State} {m : MethodId} {meth : Method} {c : Code} {b L : Nat} {xs : Nat → Int32} (C0 : lw_At p s m meth c b L xs) : ∃ t : Nat, ZT t (fun q => s.heap.size ≤ q) s s.heap := by
  obtain ⟨-, -, -, -, -, hts, -, -, -, hgv⟩ := C0
  have hfl := flat_of_before _ hgv
  have hA : ∀ a : Nat, a < s.heap.size → ¬ (fun q => s.heap.size ≤ q) a := fun a h z => absurd h (Nat.not_lt.mpr z)
  obtain ⟨t, h1, h2⟩ := va_Tof (args := #[Value.ref b]) (s := s) (tm := .static "java/util/ArrayList" "DEFAULTCAPACITY_EMPTY_ELEMENTDATA" "[Ljava/lang/Object;") (ty := .object "java/lang/Object") (N := 0) (f := fun _ => .null) (A := fun q => s.heap.size ≤ q) (by decide) (hfl _ (by decide +kernel)) (va_eqt (hfl (.eq (.length (.static "java/util/ArrayList" "DEFAULTCAPACITY_EMPTY_ELEMENTDATA" "[Ljava/lang/Object;")) (.int 0)) (by decide +kernel))) (fun j hj => absurd hj (Nat.not_lt_zero j)) hA
  exact ⟨t, va_Zref (hts _ (by decide +kernel)) (hts _ (by decide +kernel)) h1 hA, h2⟩
