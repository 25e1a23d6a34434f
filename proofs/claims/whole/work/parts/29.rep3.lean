-- the list of items, or of lines, is another one
section RepL
variable {cI cZ cO : ClassId} {t : Nat} {L : List Nat} {f : Nat → va_E} {ad : Nat → Nat} {v : VS}
theorem AL.ed {cO : ClassId} {t : Nat} {L : List Nat} {f : Nat → va_E} {a ed : Nat} {xs : List Nat} (h : AL cO t L f a ed xs) : ed = t ∨ ed ∈ L := by
  obtain ⟨-, cap, mc, -, -, -, h4⟩ := h
  rcases h4 with ⟨h4, -⟩ | ⟨h4, -⟩
  · exact Or.inl h4
  · exact Or.inr h4
theorem pool_mem {u : PU} {q ed : Nat} (hu : (u.1 = L ∧ q = ed) ∨ (q ∉ L ∧ u.1 = L ++ [q])) : (∀ y ∈ L, y ∈ u.1) ∧ ∀ y ∈ u.1, y ∈ L ∨ (y = q ∧ q ∉ L) := by
  rcases hu with ⟨h1, -⟩ | ⟨h1, h2⟩
  · rw [h1]
    exact ⟨fun _ z => z, fun _ z => Or.inl z⟩
  · rw [h2]
    refine ⟨fun y z => List.mem_append_left _ z, fun y z => ?_⟩
    rcases List.mem_append.mp z with z | z
    · exact Or.inl z
    · exact Or.inr ⟨List.mem_singleton.mp z, h1⟩
theorem Rep.items' (h : Rep cI cZ cO t L f ad v) {u : PU} {q : Nat} {l : List VI} (hu : (u.1 = L ∧ q = ad 7) ∨ (q ∉ L ∧ u.1 = L ++ [q])) (hqt : q ≠ t) (hfr : ∀ y ∈ L, y ≠ ad 2 → y ≠ ad 7 → u.2 y = f y) (hAL : AL cO t u.1 u.2 (ad 2) q (l.map iA))
    (hit : ∀ i ∈ l, okI cI L f i) (hln : ∀ n ∈ vLn v, ∃ i ∈ l, iA i = lI n) (hlk : ∀ i ∈ l, iIsJ i = true → ∃ j ∈ l, iIsS j = true ∧ iA j = iFi i) (hlen : l.length ≤ 60) (h1 : ad 1 ∉ l.map iA) (hnd : (l.map iA).Nodup) (hndB : ((l.filter iIsS).map iBa).Nodup) (hb6 : ∀ i ∈ l, iIsS i = true → iBa i ≠ ad 6) : Rep cI cZ cO t u.1 u.2 (va_up ad 7 q) (sIt v l) := by
  obtain ⟨hL, hL2⟩ := pool_mem hu
  have n : ∀ {y : Nat}, y ∈ L → kd (f y) ≠ 17 → kd (f y) ≠ 2 → u.2 y = f y := fun {y} hy a b => hfr y hy (ne_k (f := f) (by rw [h.k2]; exact a)) (fun z => b (by rw [z]; exact h.k7 (z ▸ hy)))
  have h8 : ad 8 ∈ u.1 → ad 8 ∈ L := fun z => by
    rcases hL2 _ z with z | ⟨z1, z2⟩
    · exact z
    · rcases h.lines.ed with e | e
      · exact absurd (z1.symm.trans e) hqt
      · exact e
  exact ⟨⟨hL _ h.obj.1, (n h.obj.1 (by rw [h.k0]; decide) (by rw [h.k0]; decide)).trans h.obj.2⟩, ⟨hL _ h.root.1, (n h.root.1 (by rw [h.k1]; decide) (by rw [h.k1]; decide)).trans h.root.2⟩, ⟨hL _ h.cat.1, (n h.cat.1 (by rw [h.k3]; decide) (by rw [h.k3]; decide)).trans h.cat.2⟩, ⟨hL _ h.map.1, (n h.map.1 (by rw [h.k4]; decide) (by rw [h.k4]; decide)).trans h.map.2⟩, ⟨hL _ h.used.1, (n h.used.1 (by rw [h.k6]; decide) (by rw [h.k6]; decide)).trans h.used.2⟩,
    hAL, h.lines.keep hL (hfr _ h.lines.1 (Ne.symm h.r25) (fun z => by
      have k5 := h.k5
      rw [z] at k5
      have k7 := h.k7 (z ▸ h.lines.1)
      omega)) (fun z => hfr _ z (fun e => by
        have k8 := h.k8 z
        rw [e, h.k2] at k8
        omega) (fun e => h.r78 (e ▸ z) z e.symm)),
    fun i hi => (hit i hi).keep hL (n (hit i hi).1 (by rw [(hit i hi).2.1]; have := kd_it i; omega) (by rw [(hit i hi).2.1]; have := kd_it i; omega)) (fun s => n ((hit i hi).2.2 s).1 (by rw [((hit i hi).2.2 s).2.1]; show (1 : Nat) ≠ 17; decide) (by rw [((hit i hi).2.2 s).2.1]; show (1 : Nat) ≠ 2; decide)),
    fun m hm => ⟨(h.ln hm).keep hL (n (h.ln hm).1 (by rw [h.kN hm]; decide) (by rw [h.kN hm]; decide)), hln m hm⟩,
    hlk, hlen, h.lenN, h1, h.r25, fun a b => by
      show q ≠ ad 8
      rcases hu with ⟨-, z⟩ | ⟨z, -⟩
      · have b' : ad 8 ∈ L := h8 b
        by_cases e : ad 7 ∈ L
        · rw [z]; exact h.r78 e b'
        · exact fun w => e (by rw [← z, w]; exact b')
      · exact fun w => z (by rw [w]; exact h8 b),
    hnd, hndB, h.ndN, fun z => by
      rcases hL2 _ z with z | ⟨z, -⟩
      · exact h.tL z
      · exact hqt z.symm, hb6⟩
theorem Rep.lines' (h : Rep cI cZ cO t L f ad v) {u : PU} {q : Nat} {l : List VLn} (hu : (u.1 = L ∧ q = ad 8) ∨ (q ∉ L ∧ u.1 = L ++ [q])) (hqt : q ≠ t) (hfr : ∀ y ∈ L, y ≠ ad 5 → y ≠ ad 8 → u.2 y = f y) (hAL : AL cO t u.1 u.2 (ad 5) q (l.map lA))
    (hln : ∀ n ∈ l, okN L f n ∧ ∃ i ∈ vIt v, iA i = lI n) (hlen : l.length ≤ 120) (hnd : (l.map lA).Nodup) : Rep cI cZ cO t u.1 u.2 (va_up ad 8 q) (sLn v l) := by
  obtain ⟨hL, hL2⟩ := pool_mem hu
  have n : ∀ {y : Nat}, y ∈ L → kd (f y) ≠ 17 → kd (f y) ≠ 2 → u.2 y = f y := fun {y} hy a b => hfr y hy (ne_k (f := f) (by rw [h.k5]; exact a)) (fun z => b (by rw [z]; exact h.k8 (z ▸ hy)))
  have h7 : ad 7 ∈ u.1 → ad 7 ∈ L := fun z => by
    rcases hL2 _ z with z | ⟨z1, z2⟩
    · exact z
    · rcases h.items.ed with e | e
      · exact absurd (z1.symm.trans e) hqt
      · exact e
  exact ⟨⟨hL _ h.obj.1, (n h.obj.1 (by rw [h.k0]; decide) (by rw [h.k0]; decide)).trans h.obj.2⟩, ⟨hL _ h.root.1, (n h.root.1 (by rw [h.k1]; decide) (by rw [h.k1]; decide)).trans h.root.2⟩, ⟨hL _ h.cat.1, (n h.cat.1 (by rw [h.k3]; decide) (by rw [h.k3]; decide)).trans h.cat.2⟩, ⟨hL _ h.map.1, (n h.map.1 (by rw [h.k4]; decide) (by rw [h.k4]; decide)).trans h.map.2⟩, ⟨hL _ h.used.1, (n h.used.1 (by rw [h.k6]; decide) (by rw [h.k6]; decide)).trans h.used.2⟩,
    h.items.keep hL (hfr _ h.items.1 h.r25 (fun z => by
      have k2 := h.k2
      rw [z] at k2
      have k8 := h.k8 (z ▸ h.items.1)
      omega)) (fun z => hfr _ z (fun e => by
        have k7 := h.k7 z
        rw [e, h.k5] at k7
        omega) (fun e => h.r78 z (e ▸ z) e)), hAL,
    fun i hi => (h.it hi).keep hL (n (h.it hi).1 (by have := h.kI hi; omega) (by have := h.kI hi; omega)) (fun s => n ((h.it hi).2.2 s).1 (by rw [h.kB hi s]; decide) (by rw [h.kB hi s]; decide)),
    fun m hm => ⟨(hln m hm).1.keep hL (n (hln m hm).1.1 (by rw [(hln m hm).1.2]; show (6 + 10 : Nat) ≠ 17; decide) (by rw [(hln m hm).1.2]; show (6 + 10 : Nat) ≠ 2; decide)), (hln m hm).2⟩,
    fun i hi hj => h.lk hi hj, h.len, hlen, h.r1, h.r25, fun a b => by
      show ad 7 ≠ q
      rcases hu with ⟨-, z⟩ | ⟨z, -⟩
      · have a' : ad 7 ∈ L := h7 a
        by_cases e : ad 8 ∈ L
        · rw [z]; exact h.r78 a' e
        · exact fun w => e (by rw [← z, ← w]; exact a')
      · exact fun w => z (by rw [← w]; exact h7 a),
    h.nd, h.ndB, hnd, fun z => by
      rcases hL2 _ z with z | ⟨z, -⟩
      · exact h.tL z
      · exact hqt z.symm, fun i hi hs => h.b6 hi hs⟩
end RepL
