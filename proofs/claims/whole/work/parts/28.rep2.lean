-- an item is another one at the same place
theorem set_map {α β : Type} (g : α → β) : ∀ (l : List α) (k : Nat) (x : α) (h : k < l.length), g x = g l[k] → (l.set k x).map g = l.map g := by
  intro l
  induction l with
  | nil => intro k x h; exact absurd h (Nat.not_lt_zero _)
  | cons a l ih =>
    intro k x h hg
    cases k with
    | zero => simp only [List.set_cons_zero, List.map_cons]; rw [show g x = g a from hg]
    | succ k => simp only [List.set_cons_succ, List.map_cons]; rw [ih k x (by simpa using h) (by simpa using hg)]
theorem set_fmap {α β : Type} (p : α → Bool) (g : α → β) : ∀ (l : List α) (k : Nat) (x : α) (h : k < l.length), p x = p l[k] → (p x = true → g x = g l[k]) → ((l.set k x).filter p).map g = (l.filter p).map g := by
  intro l
  induction l with
  | nil => intro k x h; exact absurd h (Nat.not_lt_zero _)
  | cons a l ih =>
    intro k x h hp hg
    cases k with
    | zero =>
      have hp : p x = p a := hp
      have hg : p x = true → g x = g a := hg
      rw [List.set_cons_zero, List.filter_cons, List.filter_cons, hp]
      by_cases ha : p a = true
      · rw [if_pos ha, if_pos ha, List.map_cons, List.map_cons, hg (hp.trans ha)]
      · rw [if_neg ha, if_neg ha]
    | succ k =>
      rw [List.set_cons_succ, List.filter_cons, List.filter_cons]
      have h1 := ih k x (by simpa using h) (by simpa using hp) (by simpa using hg)
      by_cases ha : p a = true
      · rw [if_pos ha, if_pos ha, List.map_cons, List.map_cons, h1]
      · rw [if_neg ha, if_neg ha, h1]
theorem mem_set {α : Type} {l : List α} {k : Nat} {x y : α} (hk : k < l.length) (h : y ∈ l.set k x) : y = x ∨ ∃ j, ∃ hj : j < l.length, j ≠ k ∧ y = l[j] := by
  obtain ⟨j, hj, he⟩ := List.mem_iff_getElem.mp h
  have hj' : j < l.length := by simpa using hj
  by_cases hjk : j = k
  · subst hjk
    rw [List.getElem_set_self] at he
    exact Or.inl he.symm
  · rw [List.getElem_set_ne (Ne.symm hjk)] at he
    exact Or.inr ⟨j, hj', hjk, he.symm⟩
theorem vAt_get {v : VS} {k : Nat} (h : k < (vIt v).length) : vAt v k = (vIt v)[k] := by unfold vAt; exact getD_lt h
section RepI
variable {cI cZ cO : ClassId} {t : Nat} {L : List Nat} {f : Nat → va_E} {ad : Nat → Nat} {v : VS}
theorem Rep.ndB2 (h : Rep cI cZ cO t L f ad v) {i j : VI} (hi : i ∈ vIt v) (hj : j ∈ vIt v) (si : iIsS i = true) (sj : iIsS j = true) (e : iBa i = iBa j) : i = j := by
  have hi' : i ∈ (vIt v).filter iIsS := List.mem_filter.mpr ⟨hi, si⟩
  have hj' : j ∈ (vIt v).filter iIsS := List.mem_filter.mpr ⟨hj, sj⟩
  obtain ⟨a, ha, ea⟩ := List.mem_iff_getElem.mp hi'
  obtain ⟨b, hb, eb⟩ := List.mem_iff_getElem.mp hj'
  have hab : a = b := by
    refine nd_inj h.ndB (by simpa using ha) (by simpa using hb) ?_
    rw [List.getElem_map, List.getElem_map, ea, eb]
    exact e
  subst hab
  rw [← ea, ← eb]
/-- the item at place k is another one now, with the same address, kind, blocks' address and file -/
theorem Rep.setI (h : Rep cI cZ cO t L f ad v) {k : Nat} (hk : k < (vIt v).length) {x : VI} {f' : Nat → va_E} (hA : iA x = iA (vAt v k)) (hS : iIsS x = iIsS (vAt v k)) (hJ : iIsJ x = iIsJ (vAt v k)) (hB : iIsS x = true → iBa x = iBa (vAt v k)) (hF : iIsJ x = true → iFi x = iFi (vAt v k))
    (hc : f' (iA x) = iCell x) (hb : iIsS x = true → f' (iBa x) = .inl (cI, 48, .inl (fun j => nI (iBl x j))) ∧ iLe x ≤ 48 ∧ ∀ j, iBl x j < 48) (hf : ∀ q ∈ L, q ≠ iA x → (iIsS x = true → q ≠ iBa x) → f' q = f q) : Rep cI cZ cO t L f' ad (sIt v ((vIt v).set k x)) := by
  have hi := vAt_mem hk
  have hget := vAt_get hk
  have kI := h.kI hi
  have kx : kd (f (iA x)) = 13 ∨ kd (f (iA x)) = 14 ∨ kd (f (iA x)) = 15 := by rw [hA]; exact kI
  have kb : iIsS x = true → kd (f (iBa x)) = 1 := fun s => by rw [hB s]; exact h.kB hi (hS ▸ s)
  have n : ∀ {y : Nat}, y ∈ L → kd (f y) ≠ 13 → kd (f y) ≠ 14 → kd (f y) ≠ 15 → kd (f y) ≠ 1 → f' y = f y := fun {y} hy a b c d => hf y hy (ne_k (f := f) (by omega)) (fun s => ne_k (f := f) (by rw [kb s]; exact d))
  have hm : ((vIt v).set k x).map iA = (vIt v).map iA := set_map iA _ _ _ hk (by rw [hA, hget])
  have hmem : ∀ {y : VI}, y ∈ vIt v → y ≠ vAt v k → okI cI L f' y := fun {y} hy hne => by
    refine (h.it hy).keep (fun _ z => z) (hf _ (h.it hy).1 (fun z => hne (iA_inj h.nd hy hi (z.trans hA))) (fun s => ne_k (f := f) (by rw [kb s]; have := h.kI hy; omega))) (fun s => ?_)
    refine hf _ ((h.it hy).2.2 s).1 (ne_k (f := f) (by rw [h.kB hy s]; omega)) (fun sx z => hne (h.ndB2 hy hi s (hS ▸ sx) (z.trans (hB sx))))
  have hin : ∀ {y : VI}, y ∈ (vIt v).set k x → y = x ∨ (y ∈ vIt v ∧ y ≠ vAt v k) := fun {y} hy => by
    rcases mem_set hk hy with z | ⟨j, hj, hjk, z⟩
    · exact Or.inl z
    · refine Or.inr ⟨z ▸ List.getElem_mem hj, fun e => hjk ?_⟩
      refine nd_inj h.nd (i := j) (j := k) (by simpa using hj) (by simpa using hk) ?_
      rw [List.getElem_map, List.getElem_map, ← z, e, hget]
  have hto : ∀ {y : VI}, y ∈ vIt v → ∃ z ∈ (vIt v).set k x, iA z = iA y ∧ iIsS z = iIsS y := fun {y} hy => by
    by_cases e : y = vAt v k
    · exact ⟨x, List.mem_set hk x, by rw [hA, e], by rw [hS, e]⟩
    · obtain ⟨j, hj, he⟩ := List.mem_iff_getElem.mp hy
      have hjk : k ≠ j := fun z => e (by rw [hget, ← he]; subst z; rfl)
      exact ⟨y, by rw [List.mem_iff_getElem]; exact ⟨j, by simpa using hj, by rw [List.getElem_set_ne hjk]; exact he⟩, rfl, rfl⟩
  exact ⟨⟨h.obj.1, (n h.obj.1 (by rw [h.k0]; decide) (by rw [h.k0]; decide) (by rw [h.k0]; decide) (by rw [h.k0]; decide)).trans h.obj.2⟩,
    ⟨h.root.1, (hf _ h.root.1 (fun z => h.r1 (List.mem_map.mpr ⟨_, hi, (z.trans hA).symm⟩)) (fun s => ne_k (f := f) (by rw [kb s, h.k1]; decide))).trans h.root.2⟩,
    ⟨h.cat.1, (n h.cat.1 (by rw [h.k3]; decide) (by rw [h.k3]; decide) (by rw [h.k3]; decide) (by rw [h.k3]; decide)).trans h.cat.2⟩,
    ⟨h.map.1, (n h.map.1 (by rw [h.k4]; decide) (by rw [h.k4]; decide) (by rw [h.k4]; decide) (by rw [h.k4]; decide)).trans h.map.2⟩,
    ⟨h.used.1, (hf _ h.used.1 (ne_k (f := f) (by rw [h.k6]; omega)) (fun s z => h.b6 hi (hS ▸ s) (by rw [← hB s]; exact z.symm))).trans h.used.2⟩,
    by show AL cO t L f' (ad 2) (ad 7) (((vIt v).set k x).map iA)
       rw [hm]
       exact h.items.keep (fun _ z => z) (n h.items.1 (by rw [h.k2]; decide) (by rw [h.k2]; decide) (by rw [h.k2]; decide) (by rw [h.k2]; decide)) (fun z => n z (by rw [h.k7 z]; decide) (by rw [h.k7 z]; decide) (by rw [h.k7 z]; decide) (by rw [h.k7 z]; decide)),
    h.lines.keep (fun _ z => z) (n h.lines.1 (by rw [h.k5]; decide) (by rw [h.k5]; decide) (by rw [h.k5]; decide) (by rw [h.k5]; decide)) (fun z => n z (by rw [h.k8 z]; decide) (by rw [h.k8 z]; decide) (by rw [h.k8 z]; decide) (by rw [h.k8 z]; decide)),
    fun y hy => by
      rcases hin hy with rfl | ⟨z1, z2⟩
      · exact ⟨hA ▸ (h.it hi).1, hc, fun s => ⟨(hB s) ▸ ((h.it hi).2.2 (hS ▸ s)).1, hb s⟩⟩
      · exact hmem z1 z2,
    fun m hm => ⟨(h.ln hm).keep (fun _ z => z) (n (h.ln hm).1 (by rw [h.kN hm]; decide) (by rw [h.kN hm]; decide) (by rw [h.kN hm]; decide) (by rw [h.kN hm]; decide)), by
      obtain ⟨y, g1, g2⟩ := h.lnI hm
      obtain ⟨z, g3, g4, -⟩ := hto g1
      exact ⟨z, g3, g4.trans g2⟩⟩,
    fun y hy hj => by
      have key : ∀ {w : VI}, w ∈ vIt v → iIsJ w = true → ∃ j ∈ (vIt v).set k x, iIsS j = true ∧ iA j = iFi w := fun {w} hw hj => by
        obtain ⟨j, g1, g2, g3⟩ := h.lk hw hj
        obtain ⟨z, g4, g5, g6⟩ := hto g1
        exact ⟨z, g4, g6.trans g2, g5.trans g3⟩
      rcases hin hy with rfl | ⟨z1, -⟩
      · rw [hF hj]
        exact key hi (hJ ▸ hj)
      · exact key z1 hj,
    by show ((vIt v).set k x).length ≤ 60
       rw [List.length_set]; exact h.len,
    h.lenN, by show ad 1 ∉ ((vIt v).set k x).map iA
               rw [hm]; exact h.r1,
    h.r25, h.r78, by show (((vIt v).set k x).map iA).Nodup
                     rw [hm]; exact h.nd,
    by show ((((vIt v).set k x).filter iIsS).map iBa).Nodup
       rw [set_fmap iIsS iBa _ _ _ hk (by rw [hS, hget]) (fun s => by rw [hB s, hget])]
       exact h.ndB,
    h.ndN, h.tL, fun y hy s => by
      rcases hin hy with rfl | ⟨z1, -⟩
      · rw [hB s]; exact h.b6 hi (hS ▸ s)
      · exact h.b6 z1 s⟩
end RepI
