theorem AL.of {cO : ClassId} {t : Nat} {L : List Nat} {f : Nat → va_E} {a ed : Nat} {mc : Int32} {n cap : Nat} {g : Nat → Option Nat} {u : PU} {q : Nat} {xs : List Nat} (h : AP cO L f a ed mc n cap g u q) (ha : a ∈ L) (hq : q ∈ u.1) (hn : xs.length = n) (hc : n ≤ cap) (h10 : 10 ≤ cap) (h200 : cap ≤ 200) (hg : ∀ i, i < n → g i = some (xs.getD i 0)) : AL cO t u.1 u.2 a q xs := by
  obtain ⟨h1, h2, h3, -⟩ := h
  subst hn
  exact ⟨(pool_mem h3).1 a ha, cap, mc, h1, hc, h200, Or.inr ⟨hq, h10, g, h2, hg⟩⟩
theorem AP.mem {cO : ClassId} {L : List Nat} {f : Nat → va_E} {a ed : Nat} {mc : Int32} {n cap : Nat} {g : Nat → Option Nat} {u : PU} {q : Nat} (h : AP cO L f a ed mc n cap g u q) (he : ed ∈ L) : q ∈ u.1 := by
  rcases h.2.2.1 with ⟨z1, z2⟩ | ⟨z1, z2⟩
  · rw [z1, z2]; exact he
  · rw [z2]; exact List.mem_append_right _ (List.mem_singleton.mpr rfl)
theorem getD_app {xs : List Nat} {x i : Nat} (h : i < xs.length + 1) : (xs ++ [x]).getD i 0 = if i < xs.length then xs.getD i 0 else x := by
  by_cases hi : i < xs.length
  · rw [if_pos hi, getD_lt (by simpa using h), getD_lt hi, List.getElem_append_left hi]
  · have e : i = xs.length := by omega
    subst e
    rw [if_neg hi, getD_lt (by simp)]
    simp
theorem ob_ne {f : Nat → va_E} {a y : Nat} (ho : isOb (f y)) (h : kd (f a) ≠ 13) (h2 : kd (f a) ≠ 14) (h3 : kd (f a) ≠ 15) (h4 : kd (f a) ≠ 16) : y ≠ a := fun z => by
  obtain ⟨ci, fs, e0, hci⟩ := ho
  rw [z] at e0
  have e1 := congrArg kd e0
  have e2 : kd (f a) = ci + 10 := e1
  omega

theorem lV_add {p : Program} {l : Launch} {e : Env} {R : Room} {s : State} {m : MethodId} {args : Array Value} {below : List Frame} {meth : Method} {c : Code} {H : Heap} {locs : List Loc} {cells slots : Nat} {Q : State → Prop} {cc : ByteArray} {pc nL : Nat} {ls : Array Slot} {rest : List Value} {D : va_G} {cI cZ cO : ClassId} {L : List Nat} {f : Nat → va_E} {t : Nat} {A : Nat → Prop} {H0 : Heap} {a ed : Nat} {xs : List Nat} (hx : p.tables.exec = Jvm.exec) (hb : c.code = cc) (hml : c.maxLocals = nL) (hown : s.vm.findClass R_V = some m.cls) (hU : ∀ w ∈ wU, w.before args s = true) (hK : KS D cI cZ cO s) (hP : va_P D cvC (va_pl L f) H) (hD : va_D A (va_pl L f)) (hS : va_S A H0 H locs) (hA : ∀ q, H0.size ≤ q → A q) (hZ : ZT t A s H) (htL : t ∉ L) (hAL : AL cO t L f a ed xs) (hlen : xs.length < 120) (hel : ∀ y ∈ xs, y ∈ L ∧ isOb (f y)) (x : Nat) (hxL : x ∈ L) (hxo : isOb (f x)) (hls : ls.size = nL) (hR : 6 + 1 ≤ R.frames ∧ 8 + (2 + 11) + 150 ≤ R.locals) (hst : (rest.map fun v => v.category).sum ≤ 8) (hcs : cells + 1 ≤ R.cells ∧ slots + 300 ≤ R.slots) (hdg : decode cc pc = .ok (.invokevirtual 232, 3)) (kk : ∀ (u : PU) (q : Nat) (r : Int32) (H1 : Heap) (locs1 : List Loc), AL cO t u.1 u.2 a q (xs ++ [x]) → ((u.1 = L ∧ q = ed) ∨ (q ∉ L ∧ u.1 = L ++ [q])) → (∀ y ∈ L, y ≠ a → y ≠ ed → u.2 y = f y) → va_P D cvC (va_pl u.1 u.2) H1 → va_D A (va_pl u.1 u.2) → va_S A H0 H1 locs1 → W p l e R s m args below meth c H1 locs1 (cells + 1) (slots + 300) Q (F0 m (pc + 3) ls (.int r :: rest))) : W p l e R s m args below meth c H locs cells slots Q (F0 m pc ls (.ref x :: .ref a :: rest)) := by
  obtain ⟨ha, cap, mc, hf, h1, h2, h3⟩ := hAL
  have ka : kd (f a) = 17 := by rw [hf]; rfl
  have nea : ∀ {y : Nat}, isOb (f y) → y ≠ a := fun {y} ho => ob_ne ho (by rw [ka]; decide) (by rw [ka]; decide) (by rw [ka]; decide) (by rw [ka]; decide)
  rcases h3 with ⟨e1, e2⟩ | ⟨he, h10, g, hfe, hg⟩
  · have hx0 : xs = [] := List.length_eq_zero_iff.mp (by omega)
    subst hx0
    subst e1
    refine kV_A_add1E hx hb hml hown hU hK hP hD hS hA hZ a mc ha hf htL x hxL hxo (nea hxo) hls hR hst hcs hdg (fun u r H1 locs1 hpost hP hD hS => ?_)
    obtain ⟨q, hq, hqn⟩ := hpost
    exact kk u q r H1 locs1 (AL.of hq ha (by rw [hqn]; exact List.mem_append_right _ (List.mem_singleton.mpr rfl)) rfl (by decide) (by decide) (by decide) (fun i hi => by
        have : i = 0 := by simpa using hi
        subst this
        rfl)) hq.2.2.1 hq.2.2.2 hP hD hS
  ·
    have hfe : f ed = .inl (cO, cap, rfs g) := hfe
    have ke : kd (f ed) = 2 := by rw [hfe]; rfl
    have nee : ∀ {y : Nat}, isOb (f y) → y ≠ ed := fun {y} ho => ob_ne ho (by rw [ke]; decide) (by rw [ke]; decide) (by rw [ke]; decide) (by rw [ke]; decide)
    have hae : a ≠ ed := ne_k (f := f) (by rw [ka, ke]; decide)
    have hel2 : ∀ i, i < xs.length → ∀ y, g i = some y → y ∈ L ∧ y ≠ a ∧ y ≠ ed ∧ isOb (f y) := fun i hi y hy => by
      have hm : y ∈ xs := by
        rw [hg i hi] at hy
        cases hy
        rw [getD_lt hi]
        exact List.getElem_mem hi
      exact ⟨(hel y hm).1, nea (hel y hm).2, nee (hel y hm).2, (hel y hm).2⟩
    by_cases hc : xs.length = cap
    · refine kV_A_add1F hx hb hml hown hU hK hP hD hS hA hZ a ed xs.length cap mc g ha hf he hfe hc h10 h2 hae hel2 x hxL hxo (nea hxo) (nee hxo) hls hR hst hcs hdg (fun u r H1 locs1 hpost hP hD hS => ?_)
      obtain ⟨q, hq⟩ := hpost
      exact kk u q r H1 locs1 (AL.of hq ha (hq.mem he) (by simp) (by omega) (by omega) (by omega) (fun i hi => by
        rw [getD_app hi]
        by_cases hi2 : i < xs.length
        · rw [if_pos hi2, va_up_ne _ _ (by omega), cpy_lt (by omega)]; exact hg i hi2
        · rw [if_neg hi2, show i = xs.length by omega, va_up_self])) hq.2.2.1 hq.2.2.2 hP hD hS
    · refine kV_A_add1R hx hb hml hown hU hK hP hD hS hA hZ a ed xs.length cap mc g ha hf he hfe (by omega) h2 hae x hxL hxo (nea hxo) (nee hxo) hls hR hst hcs hdg (fun u r H1 locs1 hpost hP hD hS => ?_)
      obtain ⟨q, hq⟩ := hpost
      exact kk u q r H1 locs1 (AL.of hq ha (hq.mem he) (by simp) (by omega) h10 h2 (fun i hi => by
        rw [getD_app hi]
        by_cases hi2 : i < xs.length
        · rw [if_pos hi2, va_up_ne _ _ (by omega)]; exact hg i hi2
        · rw [if_neg hi2, show i = xs.length by omega, va_up_self])) hq.2.2.1 hq.2.2.2 hP hD hS

theorem lV_remove {p : Program} {l : Launch} {e : Env} {R : Room} {s : State} {m : MethodId} {args : Array Value} {below : List Frame} {meth : Method} {c : Code} {H : Heap} {locs : List Loc} {cells slots : Nat} {Q : State → Prop} {cc : ByteArray} {pc nL : Nat} {ls : Array Slot} {rest : List Value} {D : va_G} {cI cZ cO : ClassId} {L : List Nat} {f : Nat → va_E} {t : Nat} {A : Nat → Prop} {H0 : Heap} {a ed : Nat} {xs : List Nat} (hx : p.tables.exec = Jvm.exec) (hb : c.code = cc) (hml : c.maxLocals = nL) (hown : s.vm.findClass R_V = some m.cls) (hU : ∀ w ∈ wU, w.before args s = true) (hK : KS D cI cZ cO s) (hP : va_P D cvC (va_pl L f) H) (hD : va_D A (va_pl L f)) (hS : va_S A H0 H locs) (hA : ∀ q, H0.size ≤ q → A q) (hAL : AL cO t L f a ed xs) (hel : ∀ y ∈ xs, y ∈ L ∧ isOb (f y)) (i0 : Nat) (hi0 : i0 < xs.length) (hls : ls.size = nL) (hR : 2 + 1 ≤ R.frames ∧ 8 + (4 + 11) + 93 ≤ R.locals) (hst : (rest.map fun v => v.category).sum ≤ 8) (hcs : cells + 0 ≤ R.cells ∧ slots + 0 ≤ R.slots) (hdg : decode cc pc = .ok (.invokevirtual 252, 3)) (kk : ∀ (u : PU) (q : Nat) (y0 : Nat) (H1 : Heap) (locs1 : List Loc), AL cO t u.1 u.2 a q (xs.eraseIdx i0) → ((u.1 = L ∧ q = ed) ∨ (q ∉ L ∧ u.1 = L ++ [q])) → (∀ y ∈ L, y ≠ a → y ≠ ed → u.2 y = f y) → va_P D cvC (va_pl u.1 u.2) H1 → va_D A (va_pl u.1 u.2) → va_S A H0 H1 locs1 → W p l e R s m args below meth c H1 locs1 (cells + 0) (slots + 0) Q (F0 m (pc + 3) ls (.ref y0 :: rest))) : W p l e R s m args below meth c H locs cells slots Q (F0 m pc ls (.int (nI i0) :: .ref a :: rest)) := by
  obtain ⟨ha, cap, mc, hf, h1, h2, h3⟩ := hAL
  have ka : kd (f a) = 17 := by rw [hf]; rfl
  have nea : ∀ {y : Nat}, isOb (f y) → y ≠ a := fun {y} ho => ob_ne ho (by rw [ka]; decide) (by rw [ka]; decide) (by rw [ka]; decide) (by rw [ka]; decide)
  rcases h3 with ⟨e1, e2⟩ | ⟨he, h10, g, hfe, hg⟩
  · omega
  ·
    have hfe : f ed = .inl (cO, cap, rfs g) := hfe
    have ke : kd (f ed) = 2 := by rw [hfe]; rfl
    have nee : ∀ {y : Nat}, isOb (f y) → y ≠ ed := fun {y} ho => ob_ne ho (by rw [ke]; decide) (by rw [ke]; decide) (by rw [ke]; decide) (by rw [ke]; decide)
    have hae : a ≠ ed := ne_k (f := f) (by rw [ka, ke]; decide)
    have hel2 : ∀ i, i < xs.length → ∀ y, g i = some y → y ∈ L ∧ y ≠ a ∧ y ≠ ed ∧ isOb (f y) := fun i hi y hy => by
      have hm : y ∈ xs := by
        rw [hg i hi] at hy
        cases hy
        rw [getD_lt hi]
        exact List.getElem_mem hi
      exact ⟨(hel y hm).1, nea (hel y hm).2, nee (hel y hm).2, (hel y hm).2⟩
    refine kV_A_remove hx hb hml hown hU hK hP hD hS hA a ed xs.length cap mc g ha hf he hfe h1 h2 hae hel2 i0 hi0 (xs.getD i0 0) (hg i0 hi0) hls hR hst hcs hdg (fun u ra H1 locs1 hpost hP hD hS => ?_)
    obtain ⟨g2, hg2, hq⟩ := hpost
    refine kk u ed ra H1 locs1 (AL.of hq ha (hq.mem he) (by rw [List.length_eraseIdx, if_pos hi0]) (by omega) h10 h2 (fun i hi => ?_)) hq.2.2.1 hq.2.2.2 hP hD hS
    have hl9 : i < (xs.eraseIdx i0).length := by rw [List.length_eraseIdx, if_pos hi0]; exact hi
    rw [hg2 i hi, getD_lt hl9, List.getElem_eraseIdx]
    by_cases hii : i < i0
    · rw [if_pos hii, dif_pos hii, hg i (by omega), getD_lt (by omega)]
    · rw [if_neg hii, dif_neg hii, hg (i + 1) (by omega), getD_lt (by omega)]

theorem lK_remove {p : Program} {l : Launch} {e : Env} {R : Room} {s : State} {m : MethodId} {args : Array Value} {below : List Frame} {meth : Method} {c : Code} {H : Heap} {locs : List Loc} {cells slots : Nat} {Q : State → Prop} {cc : ByteArray} {pc nL : Nat} {ls : Array Slot} {rest : List Value} {D : va_G} {cI cZ cO : ClassId} {L : List Nat} {f : Nat → va_E} {t : Nat} {A : Nat → Prop} {H0 : Heap} {a ed : Nat} {xs : List Nat} (hx : p.tables.exec = Jvm.exec) (hb : c.code = cc) (hml : c.maxLocals = nL) (hown : s.vm.findClass R_K = some m.cls) (hU : ∀ w ∈ wU, w.before args s = true) (hK : KS D cI cZ cO s) (hP : va_P D cvC (va_pl L f) H) (hD : va_D A (va_pl L f)) (hS : va_S A H0 H locs) (hA : ∀ q, H0.size ≤ q → A q) (hAL : AL cO t L f a ed xs) (hel : ∀ y ∈ xs, y ∈ L ∧ isOb (f y)) (i0 : Nat) (hi0 : i0 < xs.length) (hls : ls.size = nL) (hR : 2 + 1 ≤ R.frames ∧ 8 + (4 + 11) + 93 ≤ R.locals) (hst : (rest.map fun v => v.category).sum ≤ 8) (hcs : cells + 0 ≤ R.cells ∧ slots + 0 ≤ R.slots) (hdg : decode cc pc = .ok (.invokevirtual 48, 3)) (kk : ∀ (u : PU) (q : Nat) (y0 : Nat) (H1 : Heap) (locs1 : List Loc), AL cO t u.1 u.2 a q (xs.eraseIdx i0) → ((u.1 = L ∧ q = ed) ∨ (q ∉ L ∧ u.1 = L ++ [q])) → (∀ y ∈ L, y ≠ a → y ≠ ed → u.2 y = f y) → va_P D cvC (va_pl u.1 u.2) H1 → va_D A (va_pl u.1 u.2) → va_S A H0 H1 locs1 → W p l e R s m args below meth c H1 locs1 (cells + 0) (slots + 0) Q (F0 m (pc + 3) ls (.ref y0 :: rest))) : W p l e R s m args below meth c H locs cells slots Q (F0 m pc ls (.int (nI i0) :: .ref a :: rest)) := by
  obtain ⟨ha, cap, mc, hf, h1, h2, h3⟩ := hAL
  have ka : kd (f a) = 17 := by rw [hf]; rfl
  have nea : ∀ {y : Nat}, isOb (f y) → y ≠ a := fun {y} ho => ob_ne ho (by rw [ka]; decide) (by rw [ka]; decide) (by rw [ka]; decide) (by rw [ka]; decide)
  rcases h3 with ⟨e1, e2⟩ | ⟨he, h10, g, hfe, hg⟩
  · omega
  ·
    have hfe : f ed = .inl (cO, cap, rfs g) := hfe
    have ke : kd (f ed) = 2 := by rw [hfe]; rfl
    have nee : ∀ {y : Nat}, isOb (f y) → y ≠ ed := fun {y} ho => ob_ne ho (by rw [ke]; decide) (by rw [ke]; decide) (by rw [ke]; decide) (by rw [ke]; decide)
    have hae : a ≠ ed := ne_k (f := f) (by rw [ka, ke]; decide)
    have hel2 : ∀ i, i < xs.length → ∀ y, g i = some y → y ∈ L ∧ y ≠ a ∧ y ≠ ed ∧ isOb (f y) := fun i hi y hy => by
      have hm : y ∈ xs := by
        rw [hg i hi] at hy
        cases hy
        rw [getD_lt hi]
        exact List.getElem_mem hi
      exact ⟨(hel y hm).1, nea (hel y hm).2, nee (hel y hm).2, (hel y hm).2⟩
    refine kK_A_remove hx hb hml hown hU hK hP hD hS hA a ed xs.length cap mc g ha hf he hfe h1 h2 hae hel2 i0 hi0 (xs.getD i0 0) (hg i0 hi0) hls hR hst hcs hdg (fun u ra H1 locs1 hpost hP hD hS => ?_)
    obtain ⟨g2, hg2, hq⟩ := hpost
    refine kk u ed ra H1 locs1 (AL.of hq ha (hq.mem he) (by rw [List.length_eraseIdx, if_pos hi0]) (by omega) h10 h2 (fun i hi => ?_)) hq.2.2.1 hq.2.2.2 hP hD hS
    have hl9 : i < (xs.eraseIdx i0).length := by rw [List.length_eraseIdx, if_pos hi0]; exact hi
    rw [hg2 i hi, getD_lt hl9, List.getElem_eraseIdx]
    by_cases hii : i < i0
    · rw [if_pos hii, dif_pos hii, hg i (by omega), getD_lt (by omega)]
    · rw [if_neg hii, dif_neg hii, hg (i + 1) (by omega), getD_lt (by omega)]

