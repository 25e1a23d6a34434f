theorem ins_g {G : Nat → Option Nat} {n i0 i x : Nat} (h0 : i0 ≤ n) (hi : i < n + 1) : va_up (va_cpy G G i0 (i0 + 1) (n - i0)) i0 (some x) i = if i < i0 then G i else if i = i0 then some x else G (i - 1) := by
  by_cases h1 : i < i0
  · rw [if_pos h1, va_up_ne _ _ (by omega), pk_cpy_out (Or.inl (by omega))]
  · rw [if_neg h1]
    by_cases h2 : i = i0
    · rw [if_pos h2, h2, va_up_self]
    · rw [if_neg h2, va_up_ne _ _ h2, pk_cpy_in (by omega) (by omega), show i0 + (i - (i0 + 1)) = i - 1 by omega]
theorem ins_l {xs : List Nat} {i0 i x : Nat} (h0 : i0 ≤ xs.length) (hi : i < xs.length + 1) : (xs.insertIdx i0 x).getD i 0 = if i < i0 then xs.getD i 0 else if i = i0 then x else xs.getD (i - 1) 0 := by
  have hl : i < (xs.insertIdx i0 x).length := by rw [List.length_insertIdx_of_le_length h0]; exact hi
  rw [getD_lt hl, List.getElem_insertIdx]
  by_cases h1 : i < i0
  · rw [dif_pos h1, if_pos h1, getD_lt (by omega)]
  · rw [dif_neg h1, if_neg h1]
    by_cases h2 : i = i0
    · rw [dif_pos h2, if_pos h2]
    · rw [dif_neg h2, if_neg h2, getD_lt (by omega)]

theorem lK_insert {p : Program} {l : Launch} {e : Env} {R : Room} {s : State} {m : MethodId} {args : Array Value} {below : List Frame} {meth : Method} {c : Code} {H : Heap} {locs : List Loc} {cells slots : Nat} {Q : State → Prop} {cc : ByteArray} {pc nL : Nat} {ls : Array Slot} {rest : List Value} {D : va_G} {cI cZ cO : ClassId} {L : List Nat} {f : Nat → va_E} {t : Nat} {A : Nat → Prop} {H0 : Heap} {a ed : Nat} {xs : List Nat} (hx : p.tables.exec = Jvm.exec) (hb : c.code = cc) (hml : c.maxLocals = nL) (hown : s.vm.findClass R_K = some m.cls) (hU : ∀ w ∈ wU, w.before args s = true) (hK : KS D cI cZ cO s) (hP : va_P D cvC (va_pl L f) H) (hD : va_D A (va_pl L f)) (hS : va_S A H0 H locs) (hA : ∀ q, H0.size ≤ q → A q) (hZ : ZT t A s H) (htL : t ∉ L) (hAL : AL cO t L f a ed xs) (hlen : xs.length < 120) (hel : ∀ y ∈ xs, y ∈ L ∧ isOb (f y)) (x : Nat) (hxL : x ∈ L) (hxo : isOb (f x)) (i0 : Nat) (hi0 : i0 ≤ xs.length) (hls : ls.size = nL) (hR : 5 + 1 ≤ R.frames ∧ 8 + (5 + 11) + 127 ≤ R.locals) (hst : (rest.map fun v => v.category).sum ≤ 8) (hcs : cells + 1 ≤ R.cells ∧ slots + 300 ≤ R.slots) (hdg : decode cc pc = .ok (.invokevirtual 32, 3)) (kk : ∀ (u : PU) (q : Nat) (H1 : Heap) (locs1 : List Loc), AL cO t u.1 u.2 a q (xs.insertIdx i0 x) → ((u.1 = L ∧ q = ed) ∨ (q ∉ L ∧ u.1 = L ++ [q])) → (∀ y ∈ L, y ≠ a → y ≠ ed → u.2 y = f y) → va_P D cvC (va_pl u.1 u.2) H1 → va_D A (va_pl u.1 u.2) → va_S A H0 H1 locs1 → W p l e R s m args below meth c H1 locs1 (cells + 1) (slots + 300) Q (F0 m (pc + 3) ls (rest))) : W p l e R s m args below meth c H locs cells slots Q (F0 m pc ls (.ref x :: .int (nI i0) :: .ref a :: rest)) := by
  obtain ⟨ha, cap, mc, hf, h1, h2, h3⟩ := hAL
  have ka : kd (f a) = 17 := by rw [hf]; rfl
  have nea : ∀ {y : Nat}, isOb (f y) → y ≠ a := fun {y} ho => ob_ne ho (by rw [ka]; decide) (by rw [ka]; decide) (by rw [ka]; decide) (by rw [ka]; decide)
  have hil : (xs.insertIdx i0 x).length = xs.length + 1 := List.length_insertIdx_of_le_length hi0 x
  rcases h3 with ⟨e1, e2⟩ | ⟨he, h10, g, hfe, hg⟩
  · have hx0 : xs = [] := List.length_eq_zero_iff.mp (by omega)
    subst hx0
    subst e1
    refine kK_A_add0E hx hb hml hown hU hK hP hD hS hA hZ a mc ha hf htL x hxL hxo (nea hxo) i0 hi0 hls hR hst hcs hdg (fun u H1 locs1 hpost hP hD hS => ?_)
    obtain ⟨q, hq, hqn⟩ := hpost
    have hi00 : i0 = 0 := by simpa using hi0
    exact kk u q H1 locs1 (AL.of hq ha (by rw [hqn]; exact List.mem_append_right _ (List.mem_singleton.mpr rfl)) hil (by decide) (by decide) (by decide) (fun i hi => by
        have h0 : i = 0 := by simpa using hi
        subst h0
        subst hi00
        rfl)) hq.2.2.1 hq.2.2.2 hP hD hS
  ·
    have hfe : f ed = .inl (cO, cap, rfs g) := hfe
    have ke : kd (f ed) = 2 := by rw [hfe]; rfl
    have nee : ∀ {y : Nat}, isOb (f y) → y ≠ ed := fun {y} ho => ob_ne ho (by rw [ke]; decide) (by rw [ke]; decide) (by rw [ke]; decide) (by rw [ke]; decide)
    have hae : a ≠ ed := ne_k (f := f) (by rw [ka, ke]; decide)
    have hel2 : ∀ i, i < xs.length → ∀ y, g i = some y → y ∈ L ∧ y ≠ a ∧ y ≠ ed ∧ isOb (f y) := fun i hi y hy => by
      have hm : y ∈ xs := by
        rw [hg i hi] at hy
        cases hy
        rw [getD_lt hi]
        exact List.getElem_mem hi
      exact ⟨(hel y hm).1, nea (hel y hm).2, nee (hel y hm).2, (hel y hm).2⟩
    by_cases hc : xs.length = cap
    · refine kK_A_add0F hx hb hml hown hU hK hP hD hS hA hZ a ed xs.length cap mc g ha hf he hfe hc h10 h2 hae hel2 x hxL hxo (nea hxo) (nee hxo) i0 hi0 hls hR hst hcs hdg (fun u H1 locs1 hpost hP hD hS => ?_)
      obtain ⟨q, hq⟩ := hpost
      exact kk u q H1 locs1 (AL.of hq ha (hq.mem he) hil (by omega) (by omega) (by omega) (fun i hi => by
        rw [ins_g (by omega) hi, ins_l hi0 hi]
        by_cases h5 : i < i0
        · rw [if_pos h5, if_pos h5]; rw [cpy_lt (by omega)]; exact hg i (by omega)
        · rw [if_neg h5, if_neg h5]
          by_cases h6 : i = i0
          · rw [if_pos h6, if_pos h6]
          · rw [if_neg h6, if_neg h6]; rw [cpy_lt (by omega)]; exact hg (i - 1) (by omega))) hq.2.2.1 hq.2.2.2 hP hD hS
    · refine kK_A_add0R hx hb hml hown hU hK hP hD hS hA hZ a ed xs.length cap mc g ha hf he hfe (by omega) h2 hae hel2 x hxL hxo (nea hxo) (nee hxo) i0 hi0 hls hR hst hcs hdg (fun u H1 locs1 hpost hP hD hS => ?_)
      obtain ⟨q, hq⟩ := hpost
      exact kk u q H1 locs1 (AL.of hq ha (hq.mem he) hil (by omega) h10 h2 (fun i hi => by
        rw [ins_g (by omega) hi, ins_l hi0 hi]
        by_cases h5 : i < i0
        · rw [if_pos h5, if_pos h5]; exact hg i (by omega)
        · rw [if_neg h5, if_neg h5]
          by_cases h6 : i = i0
          · rw [if_pos h6, if_pos h6]
          · rw [if_neg h6, if_neg h6]; exact hg (i - 1) (by omega))) hq.2.2.1 hq.2.2.2 hP hD hS

