section RepAdd
variable {cI cZ cO : ClassId} {t : Nat} {L : List Nat} {f : Nat → va_E} {ad : Nat → Nat} {v : VS}
theorem iOb {i : VI} (h : okI cI L f i) : isOb (f (iA i)) := by
  rw [h.2.1]
  unfold iCell
  split
  · exact ⟨3, _, rfl, by simp⟩
  · exact ⟨4, _, rfl, by simp⟩
  · exact ⟨5, _, rfl, by simp⟩
theorem Rep.itOb (h : Rep cI cZ cO t L f ad v) : ∀ y ∈ (vIt v).map iA, y ∈ L ∧ isOb (f y) := fun y hy => by
  obtain ⟨i, hi, rfl⟩ := List.mem_map.mp hy
  exact ⟨(h.it hi).1, iOb (h.it hi)⟩
theorem AL.edIn {a ed : Nat} {xs : List Nat} (h : AL cO t L f a ed xs) : ed = t ∨ ed ∈ L := by
  obtain ⟨-, cap, mc, -, -, -, h3⟩ := h
  rcases h3 with ⟨e, -⟩ | ⟨e, -⟩
  · exact Or.inl e
  · exact Or.inr e
/-- a new cell, made by its constructor, leaves what is held -/
theorem Rep.made (h : Rep cI cZ cO t L f ad v) {q : Nat} {e X : va_E} {u : PU} (hq : q ∉ L) (hu : NW (L ++ [q]) (va_up f q e) q X u) (ht : t ∉ u.1) : Rep cI cZ cO t u.1 u.2 ad v := by
  obtain ⟨h1, -, h3⟩ := hu
  have hqt : q ≠ t := fun z => ht (by rw [h1, ← z]; exact List.mem_append_right _ (List.mem_singleton.mpr rfl))
  have back : ∀ {x : Nat}, (x = t ∨ x ∈ L) → x ∈ u.1 → x ∈ L := fun {x} hx hm => by
    rcases hx with e | e
    · exact absurd (e ▸ hm) ht
    · exact e
  refine h.same (fun y hy => by rw [h1]; exact List.mem_append_left _ hy) ht (fun y hy => ?_) (back (AL.edIn h.items)) (back (AL.edIn h.lines))
  have hyq : y ≠ q := fun z => hq (z ▸ hy)
  rw [h3 y (List.mem_append_left _ hy) hyq, va_up_ne _ _ hyq]
/-- an item more, behind the last -/
theorem Rep.addI (h : Rep cI cZ cO t L f ad v) {u : PU} {q : Nat} {i : VI} (ht : t ∉ u.1) (hi : okI cI L f i) (hnew : iA i ∉ (vIt v).map iA) (hr1 : iA i ≠ ad 1) (hnb : iIsS i = true → iBa i ∉ ((vIt v).filter iIsS).map iBa ∧ iBa i ≠ ad 6) (hJ : iIsJ i = true → ∃ j ∈ vIt v, iIsS j = true ∧ iA j = iFi i) (hl60 : (vIt v).length < 60) (hAL : AL cO t u.1 u.2 (ad 2) q ((vIt v).map iA ++ [iA i])) (hu : (u.1 = L ∧ q = ad 7) ∨ (q ∉ L ∧ u.1 = L ++ [q])) (hfr : ∀ y ∈ L, y ≠ ad 2 → y ≠ ad 7 → u.2 y = f y) : Rep cI cZ cO t u.1 u.2 (va_up ad 7 q) (sIt v (vIt v ++ [i])) := by
  have hqt : q ≠ t := by
    obtain ⟨-, cap, mc, -, hle, -, h3⟩ := hAL
    rcases h3 with ⟨-, e3⟩ | ⟨he, -⟩
    · rw [List.length_append] at hle
      simp only [List.length_singleton] at hle
      omega
    · exact fun z => ht (z ▸ he)
  have mem : ∀ {j : VI}, j ∈ vIt v ++ [i] → j ∈ vIt v ∨ j = i := fun {j} hj => by simpa using hj
  refine h.items' hu hqt hfr (by rw [List.map_append]; exact hAL) (fun j hj => ?_) (fun n hn => ?_) (fun j hj hjJ => ?_) (by rw [List.length_append, List.length_singleton]; omega) ?_ ?_ ?_ (fun j hj hjS => ?_)
  · rcases mem hj with e | e
    · exact h.it e
    · rw [e]; exact hi
  · obtain ⟨j, hj, e⟩ := h.lnI hn
    exact ⟨j, List.mem_append_left _ hj, e⟩
  · have hx : ∃ j2 ∈ vIt v, iIsS j2 = true ∧ iA j2 = iFi j := by
      rcases mem hj with e | e
      · exact h.2.2.2.2.2.2.2.2.2.1 j e hjJ
      · rw [e] at hjJ ⊢; exact hJ hjJ
    obtain ⟨j2, hj2, e2⟩ := hx
    exact ⟨j2, List.mem_append_left _ hj2, e2⟩
  · rw [List.map_append]
    intro z
    rcases List.mem_append.mp z with z | z
    · exact h.2.2.2.2.2.2.2.2.2.2.2.2.1 z
    · exact hr1 (List.mem_singleton.mp z).symm
  · rw [List.map_append, List.nodup_append]
    exact ⟨h.nd, by simp, fun a ha b hb z => hnew (by rw [← List.mem_singleton.mp hb, ← z]; exact ha)⟩
  · rw [List.filter_append, List.map_append, List.nodup_append]
    refine ⟨h.ndB, ?_, fun a ha b hb z => ?_⟩
    · by_cases hs : iIsS i = true <;> simp [List.filter, hs]
    · by_cases hs : iIsS i = true
      · simp only [List.filter, hs, List.map_cons, List.map_nil, List.mem_singleton] at hb
        exact (hnb hs).1 (by rw [← hb, ← z]; exact ha)
      · simp [List.filter, hs] at hb
  · rcases mem hj with e | e
    · exact h.b6 e hjS
    · rw [e] at hjS ⊢; exact (hnb hjS).2
end RepAdd
