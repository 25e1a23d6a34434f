section CALLS
variable {σ : MS} {v : VS} {sl : Nat → Nat} {c : Nat} {dE : Int32 → Int32} {dL : Nat → Int32}
/-- the folder of an id, by its address (the root: none) -/
def foAd (v : VS) (o : Option Nat) : Option Nat := o.map (fun k => iA (vAt v k))
theorem vFo_sp {d : Int32} {o : Option Nat} (h : vFo v d = some o) : (foAd v o = none ∧ d = 2) ∨ ∃ i ∈ vIt v, foAd v o = some (iA i) ∧ iIsD i = true ∧ d = iId i := by
  unfold vFo at h
  by_cases e : d = 2
  · rw [if_pos e] at h; cases h; exact Or.inl ⟨rfl, e⟩
  · rw [if_neg e] at h
    match e2 : vIx v d with
    | none => rw [e2] at h; cases h
    | some k =>
      rw [e2] at h
      have h : (if iIsD (vAt v k) = true then some (some k) else none) = some o := h
      obtain ⟨a1, a2, a3⟩ := vIx_some e2
      by_cases hD : iIsD (vAt v k) = true
      · rw [if_pos hD] at h; cases h
        exact Or.inr ⟨vAt v k, a2, rfl, hD, a3.symm⟩
      · rw [if_neg hD] at h; cases h
theorem vFo_n3 (g : VG v c) (hc : c ≤ 600) {d : Int32} {o : Option Nat} (h : vFo v d = some o) : ¬ d = 3 := fun e => by
  rcases vFo_sp h with ⟨-, z⟩ | ⟨i, hi, -, -, z⟩
  · rw [z] at e; revert e; decide
  · exact g.idne hi hc (k := 3) (by omega) (z.symm.trans e)
theorem fo_of {d : Int32} {o : Option Nat} (h : vFo v d = some o) : d = 2 ∨ ∃ j ∈ vIt v, iIsD j = true ∧ iId j = d := by
  rcases vFo_sp h with ⟨-, z⟩ | ⟨i, hi, -, h1, z⟩
  · exact Or.inl z
  · exact Or.inr ⟨i, hi, h1, z.symm⟩
theorem name0 {n : Int32} (h : vIsName n = true) : ¬ n < 0 := (of_decide_eq_true h).1
theorem key_free {fo na : Int32} (h3 : ¬ fo = 3) (h : vEn v fo na = none) : ∀ j ∈ vIt v, ¬ (iFo j = fo ∧ iNa j = na) := fun j hj z => by
  have : iHid j = false := by unfold iHid; simp [z.1, h3]
  exact vEn_none h j hj this z.1 z.2
theorem full_iff (h : RL σ v sl) (g : VG v c) : (mEntries σ = 20 ↔ (20 : Int32) ≤ vEntries v) ∧ (¬ (20 : Int32) ≤ vEntries v → (vIt v).countP (fun i => !iHid i) < 20) := by
  have h1 := g.n20
  have e : vEntries v = nI ((vIt v).countP (fun i => !iHid i)) := cnV v (fun i => !iHid i)
  rw [h.entries g, e]
  generalize (vIt v).countP (fun i => !iHid i) = n at *
  have a1 : nI n = (20 : Int32) ↔ n = 20 := nI_eq (b := 20) (by omega) (by omega)
  have a2 : (20 : Int32) ≤ nI n ↔ 20 ≤ n := nI_leI (a := 20) (by omega) (by omega)
  rw [a1, a2]
  omega
/-- one item is added: the slot, the class's state, the owed counts -/
theorem add_step (h : RL σ v sl) (hp : PR v) (g : VG v c) (x : Option Nat) (hh : VH v x) (k : KD σ v sl c dE dL) (hc : c ≤ 600) {c2 nx : Nat} (hnx : vNx v = nI nx) (hnx0 : nx < 3000) (hnx2 : nx + 1 ≤ 16 + 2 * c2) {i : VI} {a1 a2 : Nat} {t : Int32} (ha : iA i ∉ (vIt v).map iA) (hid : iId i = vNx v) (h20 : (vIt v).countP (fun i => !iHid i) < 20) (hS : iIsS i = true → iLe i = 0 ∧ (∀ j, iBl i j < 48) ∧ iLk i = 0 ∧ dL (iA i) = 0) (hD : iIsD i = true → iEn i = 0 ∧ dE (iId i) = 0)
    (hJ : iIsJ i = true → ∃ j ∈ vIt v, iIsS j = true ∧ iA j = iFi i ∧ t = iId j ∧ iHid j = true) (hkey : ∀ j ∈ vIt v, ¬ (iFo j = iFo i ∧ iNa j = iNa i)) (hna : ¬ iNa i < 0) (h3 : ¬ iFo i = 3) (hfo : iFo i = 2 ∨ ∃ j ∈ vIt v, iIsD j = true ∧ iId j = iFo i) (hx : x = none ∨ (iIsJ i = true ∧ x = some (iFi i))) :
    ∃ sl', RL (mEnter σ (kdI i) (iFo i) (iNa i) t) (vAdd (sNx' v (vNx v + 1)) i a1 a2) sl' ∧ PR (vAdd (sNx' v (vNx v + 1)) i a1 a2) ∧ VG (vAdd (sNx' v (vNx v + 1)) i a1 a2) c2 ∧ VH (vAdd (sNx' v (vNx v + 1)) i a1 a2) none ∧ KD (mEnter σ (kdI i) (iFo i) (iNa i) t) (vAdd (sNx' v (vNx v + 1)) i a1 a2) sl' c (fun y => dE y - (if iFo i = y then 1 else 0)) (fun q => dL q - (if iIsJ i = true ∧ iFi i = q then 1 else 0)) := by
  have hl : (vIt v).length < 40 := by have := hh.len hp g; omega
  have hhid : iHid i = false := by unfold iHid; simp [h3]
  obtain ⟨nx1, e1, e2, e3, e4⟩ := g.nx
  have hxx : nx1 = nx := (nI_eq (by omega) (by omega)).mp (e1.symm.trans hnx)
  subst hxx
  have hnew : ∀ j ∈ vIt v, ¬ iId j = iId i := fun j hj z => by
    obtain ⟨d, d1, d2, d3⟩ := e4 j hj
    rw [d1, hid, e1] at z
    have := (nI_eq (by omega) (by omega)).mp z
    omega
  have h16 : ¬ iId i = 2 ∧ ¬ iId i = 3 := by
    rw [hid, e1]
    exact ⟨fun z => by have := (nI_eq (b := 2) (by omega) (by omega)).mp z; omega, fun z => by have := (nI_eq (b := 3) (by omega) (by omega)).mp z; omega⟩
  have hfo2 : ¬ iFo i = iId i := fun z => by
    rcases hfo with w | ⟨j, w1, w2, w3⟩
    · exact h16.1 (z.symm.trans w)
    · exact hnew j w1 (w3.trans z)
  obtain ⟨r1, r2⟩ := h.add hp g (a1 := a1) (a2 := a2) (t := t) ha hid hnew hl (fun z => ⟨(hS z).1, (hS z).2.1⟩) (fun z => by obtain ⟨j, j1, j2, j3, j4, j5⟩ := hJ z; exact ⟨j, j1, j2, j3, j4⟩) hkey hna
  obtain ⟨hp40, hk0⟩ := h.freeS hl
  have hoff : ∀ j ∈ vIt v, sOf sl j ≠ mFree σ := fun j hj z => kdI_ne j (by rw [← (h.mt hj).kd, z]; exact hk0)
  refine ⟨va_up sl (iA i) (mFree σ), r1, r2, ?_, ?_, ?_⟩
  · exact g.add (by omega) hp r2 rfl hnx hnx0 (by show vNx v + 1 = _; rw [hnx, nI_1]) hnx2 hid hna ⟨hhid, hfo⟩ hkey (fun z => (hS z).1) (fun z => by obtain ⟨j, j1, j2, j3, j4, j5⟩ := hJ z; exact ⟨j, j1, j3, j5⟩) h20
  · exact hh.add rfl (by rw [hhid]; decide) hx
  · refine k.add hp g rfl rfl (fun j hj => ⟨?_, ?_⟩) ?_ rfl ha hnew h16 hfo2 hD (fun z => (hS z).2.2)
    · show va_up sl (iA i) (mFree σ) (iA j) = _
      exact va_up_ne _ _ (fun z => ha (by rw [← z]; exact List.mem_map.mpr ⟨j, hj, rfl⟩))
    · show va_up (sEx σ) (mFree σ) 0 (sOf sl j) = _
      exact va_up_ne _ _ (hoff j hj)
    · show va_up (sEx σ) (mFree σ) 0 (va_up sl (iA i) (mFree σ) (iA i)) = 0
      rw [va_up_self, va_up_self]
-- make
def vMakeR (v : VS) (par nm : Int32) : Int32 := if vMo v = true then (if vIsName nm = true then (match vFo v par with
  | none => -3
  | some _ => match vEn v par nm with
    | some _ => -4
    | none => if 20 ≤ vEntries v then -5 else vNx v) else -2) else -1
def iNew (a : Nat) (id par nm : Int32) (fl : Bool) (ba : Nat) : VI := (a, id, par, nm, if fl = true then .inl 0 else .inr (.inl (ba, fun _ => 0, 0, 0)))
theorem make_step (h : INV σ v sl c) (hc : c < 590) (par nm : Int32) (fl : Bool) : (mMake σ par nm (bI fl)).1 = vMakeR v par nm ∧
    ((vMo v = true ∧ vIsName nm = true ∧ vEn v par nm = none ∧ ¬ 20 ≤ vEntries v ∧ ∃ o, vFo v par = some o ∧ ∀ a ba a1 a2, a ∉ (vIt v).map iA → ∃ sl', INV (mMake σ par nm (bI fl)).2 (vEnt (vAdd (sNx' v (vNx v + 1)) (iNew a (vNx v) par nm fl ba) a1 a2) (foAd v o) 1) sl' (c + 1)) ∨
     (¬ (vMo v = true ∧ vIsName nm = true ∧ vEn v par nm = none ∧ ¬ 20 ≤ vEntries v ∧ ¬ vFo v par = none) ∧ (mMake σ par nm (bI fl)).2 = σ)) := by
  obtain ⟨hR, hP, g, hH, hK⟩ := h
  obtain ⟨f1, f2⟩ := full_iff hR g
  unfold mMake vMakeR
  rw [hR.mo, noName_eq, hR.isFo g, hR.entry g]
  by_cases hm : vMo v = true
  · rw [if_pos hm, if_pos hm]
    by_cases hn : vIsName nm = true
    · rw [hn, if_neg (by decide), if_pos rfl]
      match ef : vFo v par with
      | none =>
        rw [if_neg (by simp)]
        exact ⟨rfl, Or.inr ⟨fun z => z.2.2.2.2 rfl, rfl⟩⟩
      | some o =>
        rw [if_pos (by simp)]
        match ee : vEn v par nm with
        | some k => exact ⟨rfl, Or.inr ⟨fun z => (by cases z.2.2.1), rfl⟩⟩
        | none =>
          show ((if mEntries σ = 20 then ((-5 : Int32), σ) else _).1 = _) ∧ _
          by_cases h20 : 20 ≤ vEntries v
          · rw [if_pos h20]
            refine ⟨?_, Or.inr ⟨fun z => z.2.2.2.1 h20, ?_⟩⟩
            · rw [if_pos (f1.mpr h20)]
            · show (if mEntries σ = 20 then ((-5 : Int32), σ) else _).2 = σ
              rw [if_pos (f1.mpr h20)]
          · rw [if_neg h20]
            refine ⟨?_, Or.inl ⟨hm, rfl, rfl, h20, o, rfl, fun a ba a1 a2 ha => ?_⟩⟩
            · rw [if_neg (fun z => h20 (f1.mp z))]; exact hR.nx
            · show ∃ sl', INV (if mEntries σ = 20 then ((-5 : Int32), σ) else _).2 _ sl' (c + 1)
              rw [if_neg (fun z => h20 (f1.mp z))]
              have h3 := vFo_n3 g (by omega) ef
              obtain ⟨nx, e1, e2, e3, e4⟩ := g.nx
              have hkd : (if bI fl = 0 then (2 : Int32) else 1) = kdI (iNew a (vNx v) par nm fl ba) := by
                cases fl with
                | true => rfl
                | false =>
                  show (2 : Int32) = (if iHid (iNew a (vNx v) par nm false ba) = true then (4 : Int32) else 2)
                  rw [if_neg (by unfold iHid; simp [iNew, iFo, h3])]
              obtain ⟨sl', s1, s2, s3, s4, s5⟩ := add_step hR hP g none hH hK.kd (by omega) (c2 := c + 1) e1 (by omega) (by omega) (i := iNew a (vNx v) par nm fl ba) (a1 := a1) (a2 := a2) (t := 0) ha rfl (f2 h20) (fun z => by
                cases fl with
                | true => cases z
                | false => exact ⟨rfl, fun _ => Nat.zero_lt_succ 47, rfl, rfl⟩) (fun z => by
                cases fl with
                | true => exact ⟨rfl, rfl⟩
                | false => cases z) (fun z => by cases fl <;> cases z) (key_free h3 ee) (name0 hn) h3 (fo_of ef) (Or.inl rfl)
              have ho : (foAd v o = none ∧ par = 2) ∨ ∃ i ∈ vIt (vAdd (sNx' v (vNx v + 1)) (iNew a (vNx v) par nm fl ba) a1 a2), foAd v o = some (iA i) ∧ iIsD i = true ∧ par = iId i := by
                rcases vFo_sp ef with z | ⟨i, hi, z⟩
                · exact Or.inl z
                · exact Or.inr ⟨i, List.mem_append_left _ hi, z⟩
              obtain ⟨t1, t2, t3, t4, t5⟩ := ent_step s1 s2 s3 none s4 (s5.mono (by omega)) (by omega) (foAd v o) 1 par ho
              refine ⟨sl', ?_, t2, t3, t4, ?_⟩
              · show RL (mEnter σ (if bI fl = 0 then 2 else 1) par nm 0) _ sl'
                rw [hkd]; exact t1
              · show KC (mEnter σ (if bI fl = 0 then 2 else 1) par nm 0) _ sl' (c + 1)
                rw [hkd]
                refine t5.kc (Nat.le_refl _) (fun y => ?_) (fun q => ?_)
                · show (0 : Int32) - (if par = y then 1 else 0) + (if par = y then 1 else 0) = 0
                  rw [Int32.sub_add_cancel]
                · show (0 : Int32) - (if iIsJ (iNew a (vNx v) par nm fl ba) = true ∧ _ then 1 else 0) = 0
                  rw [if_neg (fun z => by have := z.1; cases fl <;> cases this)]; rfl
    · have hn : vIsName nm = false := by simpa using hn
      rw [hn]
      exact ⟨rfl, Or.inr ⟨fun z => (by cases z.2.1), rfl⟩⟩
  · rw [if_neg hm, if_neg hm]
    exact ⟨rfl, Or.inr ⟨fun z => hm z.1, rfl⟩⟩
end CALLS
section WITHIN
variable {σ : MS} {v : VS} {sl : Nat → Nat} {c : Nat}
theorem lwF_none (v : VS) (x : Int32) : ∀ n, lwF v x n none = false
  | 0 => rfl
  | _ + 1 => rfl
theorem lwF_mono (v : VS) (x : Int32) : ∀ (n : Nat) (o : Option (Option Nat)), lwF v x n o = true → lwF v x (n + 1) o = true := by
  intro n
  induction n with
  | zero => intro o h; cases h
  | succ n ih =>
    intro o h
    rcases o with _ | _ | k
    · cases h
    · have h : (if (2 : Int32) = x then true else lwF v x n none) = true := h
      show (if (2 : Int32) = x then true else lwF v x (n + 1) none) = true
      rw [lwF_none] at h ⊢
      exact h
    · have h : (if iId (vAt v k) = x then true else if iId (vAt v k) = 2 then lwF v x n none else lwF v x n (vFo v (iFo (vAt v k)))) = true := h
      show (if iId (vAt v k) = x then true else if iId (vAt v k) = 2 then lwF v x (n + 1) none else lwF v x (n + 1) (vFo v (iFo (vAt v k)))) = true
      by_cases e : iId (vAt v k) = x
      · rw [if_pos e]
      · rw [if_neg e] at h ⊢
        by_cases e2 : iId (vAt v k) = 2
        · rw [if_pos e2, lwF_none] at h; cases h
        · rw [if_neg e2] at h ⊢; exact ih _ h
theorem lwF_mono' (v : VS) (x : Int32) {n m : Nat} (hnm : n ≤ m) {o : Option (Option Nat)} (h : lwF v x n o = true) : lwF v x m o = true := by
  induction hnm with
  | refl => exact h
  | step _ ih => exact lwF_mono v x _ _ ih
/-- x lies just n steps above -/
def lwP (v : VS) (x : Int32) (n : Nat) (o : Option (Option Nat)) : Prop := lwF v x (n + 1) o = true ∧ lwF v x n o = false
theorem lwP_step {x : Int32} {n : Nat} {o : Option (Option Nat)} (h : lwP v x (n + 1) o) : ∃ k, o = some (some k) ∧ lwP v x n (vFo v (iFo (vAt v k))) := by
  obtain ⟨h1, h2⟩ := h
  rcases o with _ | _ | k
  · cases h1
  · have h1 : (if (2 : Int32) = x then true else lwF v x (n + 1) none) = true := h1
    have h2 : (if (2 : Int32) = x then true else lwF v x n none) = false := h2
    rw [lwF_none] at h1 h2
    rw [h1] at h2; cases h2
  · refine ⟨k, rfl, ?_⟩
    have h1 : (if iId (vAt v k) = x then true else if iId (vAt v k) = 2 then lwF v x (n + 1) none else lwF v x (n + 1) (vFo v (iFo (vAt v k)))) = true := h1
    have h2 : (if iId (vAt v k) = x then true else if iId (vAt v k) = 2 then lwF v x n none else lwF v x n (vFo v (iFo (vAt v k)))) = false := h2
    by_cases e : iId (vAt v k) = x
    · rw [if_pos e] at h2; cases h2
    · rw [if_neg e] at h1 h2
      by_cases e2 : iId (vAt v k) = 2
      · rw [if_pos e2, lwF_none] at h1; cases h1
      · rw [if_neg e2] at h1 h2; exact ⟨h1, h2⟩
theorem lwP_uni {x : Int32} {n m : Nat} {o : Option (Option Nat)} (h : lwP v x n o) (h2 : lwP v x m o) : n = m := by
  rcases Nat.lt_trichotomy n m with z | z | z
  · have := lwF_mono' v x (show n + 1 ≤ m by omega) h.1
    rw [h2.2] at this; cases this
  · exact z
  · have := lwF_mono' v x (show m + 1 ≤ n by omega) h2.1
    rw [h.2] at this; cases this
theorem lwP_list {x : Int32} : ∀ (n : Nat) (o : Option (Option Nat)), (∀ k, o = some (some k) → k < (vIt v).length ∧ iIsD (vAt v k) = true) → lwP v x n o → ∃ l : List Nat, l.Nodup ∧ l.length = n ∧ ∀ k ∈ l, k < (vIt v).length ∧ iIsD (vAt v k) = true ∧ ∃ m, 1 ≤ m ∧ m ≤ n ∧ lwP v x m (some (some k)) := by
  intro n
  induction n with
  | zero => intro o _ _; exact ⟨[], List.nodup_nil, rfl, fun k hk => by cases hk⟩
  | succ n ih =>
    intro o ho h
    obtain ⟨k, rfl, h1⟩ := lwP_step h
    obtain ⟨l, l1, l2, l3⟩ := ih _ (fun j hj => vFo_some hj) h1
    refine ⟨k :: l, List.nodup_cons.mpr ⟨fun hk => ?_, l1⟩, by rw [List.length_cons, l2], fun j hj => ?_⟩
    · obtain ⟨-, -, m, m1, m2, m3⟩ := l3 k hk
      have := lwP_uni h m3
      omega
    · rcases List.mem_cons.mp hj with e | e
      · rw [e]; exact ⟨(ho k rfl).1, (ho k rfl).2, n + 1, by omega, Nat.le_refl _, h⟩
      · obtain ⟨a1, a2, m, m1, m2, m3⟩ := l3 j e
        exact ⟨a1, a2, m, m1, by omega, m3⟩
theorem lwP_20 (g : VG v c) {x : Int32} {n : Nat} {o : Option (Option Nat)} (ho : ∀ k, o = some (some k) → k < (vIt v).length ∧ iIsD (vAt v k) = true) (h : lwP v x n o) : n ≤ 20 := by
  obtain ⟨l, l1, l2, l3⟩ := lwP_list n o ho h
  have h1 := sub_len l ((List.range (vIt v).length).filter (fun k => !iHid (vAt v k))) l1 (fun k hk => by
    obtain ⟨a1, a2, -⟩ := l3 k hk
    refine List.mem_filter.mpr ⟨List.mem_range.mpr a1, ?_⟩
    rcases g.fo (vAt_mem a1) with w | w
    · rcases i3 (vAt v k) with ⟨q1, q2, q3⟩ | ⟨q1, q2, q3⟩ | ⟨q1, q2, q3⟩
      · rw [q2] at w; cases w.1
      · rw [q1] at a2; cases a2
      · rw [q1] at a2; cases a2
    · simp [w.1])
  rw [← List.countP_eq_length_filter] at h1
  have h2 : (List.range (vIt v).length).countP (fun k => !iHid (vAt v k)) = (vIt v).countP (fun i => !iHid i) := by
    conv => rhs; rw [← map_at (vIt v) vI0, List.countP_map]
    rfl
  have := g.n20
  omega
theorem lw_23 (g : VG v c) {x : Int32} {o : Option Nat} (ho : ∀ k, o = some k → k < (vIt v).length ∧ iIsD (vAt v k) = true) : lwF v x 23 (some o) = lwF v x 21 (some o) := by
  have ho2 : ∀ k, some o = some (some k) → k < (vIt v).length ∧ iIsD (vAt v k) = true := fun k hk => ho k (Option.some.inj hk)
  have s : ∀ n, 20 < n → lwF v x (n + 1) (some o) = lwF v x n (some o) := fun n hn => by
    match e : lwF v x n (some o) with
    | true => exact lwF_mono v x n _ e
    | false =>
      match e2 : lwF v x (n + 1) (some o) with
      | false => rfl
      | true => have := lwP_20 g ho2 ⟨e2, e⟩; omega
  rw [s 22 (by omega), s 21 (by omega)]
theorem RL.wF (h : RL σ v sl) (g : VG v c) (hc : c ≤ 600) (x : Int32) : ∀ (n : Nat) (a : Int32) (o : Option Nat), vFo v a = some o → mWithinF σ x n a = lwF v x (n + 1) (some o) := by
  have root : ∀ {a : Int32} {o : Option Nat}, vFo v a = some o → a = 2 → o = none := fun {a o} hf e => by
    unfold vFo at hf; rw [if_pos e] at hf; cases hf; rfl
  have item : ∀ {a : Int32} {o : Option Nat}, vFo v a = some o → ¬ a = 2 → ∃ k, o = some k ∧ k < (vIt v).length ∧ iIsD (vAt v k) = true ∧ iId (vAt v k) = a := fun {a o} hf e => by
    unfold vFo at hf
    rw [if_neg e] at hf
    match e2 : vIx v a with
    | none => rw [e2] at hf; cases hf
    | some k =>
      rw [e2] at hf
      have hf : (if iIsD (vAt v k) = true then some (some k) else none) = some o := hf
      obtain ⟨a1, a2, a3⟩ := vIx_some e2
      by_cases hD : iIsD (vAt v k) = true
      · rw [if_pos hD] at hf; cases hf; exact ⟨k, rfl, a1, hD, a3⟩
      · rw [if_neg hD] at hf; cases hf
  intro n
  induction n with
  | zero =>
    intro a o hf
    show decide (a = x) = _
    by_cases e : a = 2
    · rw [root hf e, e]
      show _ = (if (2 : Int32) = x then true else lwF v x 0 none)
      by_cases e2 : (2 : Int32) = x
      · simp [e2]
      · simp [e2, lwF]
    · obtain ⟨k, rfl, k1, k2, k3⟩ := item hf e
      show _ = (if iId (vAt v k) = x then true else if iId (vAt v k) = 2 then lwF v x 0 none else lwF v x 0 (vFo v (iFo (vAt v k))))
      rw [k3, if_neg e]
      by_cases e2 : a = x
      · simp [e2]
      · simp [e2, lwF]
  | succ n ih =>
    intro a o hf
    rw [mWithinF]
    by_cases e : a = 2
    · rw [root hf e, if_pos e, e]
      show _ = (if (2 : Int32) = x then true else lwF v x (n + 1) none)
      rw [lwF_none]
      by_cases e2 : (2 : Int32) = x
      · simp [e2]
      · simp [e2]
    · obtain ⟨k, rfl, k1, k2, k3⟩ := item hf e
      show _ = (if iId (vAt v k) = x then true else if iId (vAt v k) = 2 then lwF v x (n + 1) none else lwF v x (n + 1) (vFo v (iFo (vAt v k))))
      rw [if_neg e, k3, if_neg e]
      by_cases e2 : a = x
      · rw [if_pos e2, if_pos e2]
      · rw [if_neg e2, if_neg e2]
        have hi := vAt_mem k1
        rw [← k3, h.place g hi]
        show mWithinF σ x n (sFo σ (sOf sl (vAt v k))) = _
        rw [(h.mt hi).fo]
        have hh : iHid (vAt v k) = false := by
          rcases g.fo hi with w | w
          · rcases i3 (vAt v k) with ⟨q1, q2, q3⟩ | ⟨q1, q2, q3⟩ | ⟨q1, q2, q3⟩
            · rw [q2] at w; cases w.1
            · rw [q1] at k2; cases k2
            · rw [q1] at k2; cases k2
          · exact w.1
        have hs := g.foF hi hh
        match e3 : vFo v (iFo (vAt v k)) with
        | none => rw [e3] at hs; cases hs
        | some o2 => exact ih _ o2 e3
theorem RL.within (h : RL σ v sl) (g : VG v c) (hc : c ≤ 600) {a : Int32} {o : Option Nat} (hf : vFo v a = some o) (x : Int32) : mWithin σ a x = vWithin v o x := by
  unfold mWithin vWithin
  rw [h.wF g hc x 22 a o hf]
  exact lw_23 g (fun k hk => by rw [hk] at hf; exact vFo_some hf)
end WITHIN
section MOVE
variable {σ : MS} {v : VS} {sl : Nat → Nat} {c : Nat} {dE : Int32 → Int32} {dL : Nat → Int32}
/-- how many items are not hidden -/
def nh (v : VS) : Nat := (vIt v).countP (fun i => !iHid i)
theorem rel_It (v : VS) (q : Nat) (i : VI) (fo na : Int32) (a : Nat) : vIt (vRel v q i fo na a) = updA q (iMv i fo na) (vIt v) := by
  show updA q (iMv i fo na) (vIt (vDel v q false)) = _
  rw [del_It]
theorem rel_Re (v : VS) (q : Nat) (i : VI) (fo na : Int32) (a : Nat) : vRe (vRel v q i fo na a) = vRe v ∧ vNx (vRel v q i fo na a) = vNx v ∧ vMo (vRel v q i fo na a) = vMo v ∧ vUs (vRel v q i fo na a) = vUs v := by
  have := (del_it v q false).2
  refine ⟨?_, ?_, ?_, ?_⟩
  · show (vDel v q false).2.2.2.2.2 = _; rw [this]; rfl
  · show (vDel v q false).2.2.2.2.1 = _; rw [this]; rfl
  · show (vDel v q false).2.2.2.1 = _; rw [this]; rfl
  · show (vDel v q false).2.2.1 = _; rw [this]; rfl
theorem mv_step (h : RL σ v sl) (hp : PR v) (g : VG v c) (hh : VH v none) (k : KD σ v sl c dE dL) (hc : c ≤ 600) {i : VI} (hi : i ∈ vIt v) (hnh : iHid i = false) {fo na : Int32} (a : Nat) {σ' : MS} (hkey : ∀ j ∈ vIt v, j ≠ i → ¬ (iFo j = fo ∧ iNa j = na)) (hna : ¬ na < 0)
    (hfo : (iIsS i = true ∧ fo = 3 ∧ na = iId i) ∨ (¬ fo = 3 ∧ (fo = 2 ∨ ∃ j ∈ vIt v, iIsD j = true ∧ iId j = fo)))
    (f0 : sMo σ' = sMo σ ∧ sNx σ' = sNx σ ∧ sId σ' = sId σ ∧ sTa σ' = sTa σ ∧ sLo σ' = sLo σ ∧ sMa σ' = sMa σ ∧ sLi σ' = sLi σ ∧ sTu σ' = sTu σ ∧ sEx σ' = sEx σ ∧ sRe σ' = sRe σ) (fN : ∀ q, q ≠ sOf sl i → sKd σ' q = sKd σ q ∧ sFo σ' q = sFo σ q ∧ sNa σ' q = sNa σ q) (fX : sKd σ' (sOf sl i) = kdI (iMv i fo na) ∧ sFo σ' (sOf sl i) = fo ∧ sNa σ' (sOf sl i) = na) :
    RL σ' (vRel v (iA i) i fo na a) sl ∧ PR (vRel v (iA i) i fo na a) ∧ VG (vRel v (iA i) i fo na a) c ∧ VH (vRel v (iA i) i fo na a) (if fo = 3 then some (iA i) else none) ∧ KD σ' (vRel v (iA i) i fo na a) sl c (fun y => dE y + (if iFo i = y then 1 else 0) - (if fo = y then 1 else 0)) dL ∧ nh (vRel v (iA i) i fo na a) + (if fo = 3 then 1 else 0) = nh v := by
  obtain ⟨r1, r2⟩ := h.mv hp hi (a := a) hkey hna f0 fN fX
  obtain ⟨e1, e2, -, -⟩ := rel_Re v (iA i) i fo na a
  have eI := rel_It v (iA i) i fo na a
  have hid3 : iHid (iMv i fo na) = decide (fo = 3) := rfl
  refine ⟨r1, r2, ?_, ?_, ?_, ?_⟩
  · refine g.upd hp r2 hi eI e2 rfl rfl rfl rfl rfl hna ?_ hkey (fun z => by rw [hnh] at z; cases z) (fun _ => hnh) (fun s a b ha hb q => (g.bl hi hi s s ha hb q).2) (fun s j hj hn sj a b ha hb q => hn (g.bl hi hj s sj ha hb q).1.symm)
    rcases hfo with ⟨z1, z2, z3⟩ | ⟨z1, z2⟩
    · exact Or.inl ⟨z1, by rw [hid3]; exact decide_eq_true z2, z3⟩
    · exact Or.inr ⟨by rw [hid3]; exact decide_eq_false z1, z2⟩
  · refine (hh.weak (x := if fo = 3 then some (iA i) else none)).upd hp hi eI rfl rfl rfl (fun _ z => ?_)
    rw [hid3] at z
    rw [if_pos (of_decide_eq_true z)]
    exact Or.inr rfl
  · refine (k.upd (σ' := σ') hp g hi eI e1 (fun _ _ => by rw [f0.2.2.2.2.2.2.2.2.1]) f0.2.2.2.2.2.2.2.2.2 rfl rfl rfl rfl rfl rfl (fun _ => hnh) (show ¬ iId i = 2 from g.idne hi hc (k := 2) (by omega))).congr (fun y => ?_) (fun q => ?_)
    · show _ + (if iIsD i = true ∧ iId i = y then iEn i - iEn i else 0) = _
      rw [Int32.sub_self, ite_self, show iFo (iMv i fo na) = fo from rfl]; simp
    · show _ + (if iIsS i = true ∧ iA i = q then iLk i - iLk i else 0) = _
      rw [Int32.sub_self, ite_self]; simp
  · have := upd_cnt2 (i := i) (x := iMv i fo na) (fun i => !iHid i) (vIt v) hp.nd hi
    unfold nh
    rw [eI]
    rw [if_pos (by simp [hnh] : (!iHid i) = true), hid3] at this
    by_cases e : fo = 3
    · rw [if_pos e]
      rw [if_neg (by simp [e])] at this
      exact this
    · rw [if_neg e]
      rw [if_pos (by simp [e])] at this
      omega
/-- a folder stays one, where another folder's entries change -/
theorem ent_mem (hp : PR v) (o : Option Nat) (d : Int32) {f : Int32} (ho : (o = none ∧ f = 2) ∨ ∃ i ∈ vIt v, o = some (iA i) ∧ iIsD i = true ∧ f = iId i) {i : VI} (hi : i ∈ vIt v) (hd : iIsD i = true) : ∃ j ∈ vIt (vEnt v o d), iA j = iA i ∧ iIsD j = true ∧ iId j = iId i := by
  rcases ho with ⟨e, -⟩ | ⟨k, hk, e, hkd, -⟩
  · subst e; exact ⟨i, hi, rfl, hd, rfl⟩
  · subst e
    show ∃ j ∈ updA (iA k) (iSetE (vItA v (iA k)) _) (vIt v), _
    rw [vItA_eq hp hk]
    by_cases e : i = k
    · rw [e]; exact ⟨_, mem_updS hk, rfl, rfl, rfl⟩
    · exact ⟨i, upd_keep hp hk hi e, rfl, hd, rfl⟩
-- move
def vMoveR (v : VS) (par nm tp tn : Int32) : Int32 := if vMo v = true then (if vIsName nm = true ∧ vIsName tn = true then (match vFo v par, vFo v tp, vEn v par nm with
  | some _, some o2, some k => if iIsD (vAt v k) = true ∧ vWithin v o2 (iId (vAt v k)) = true then -7 else if par = tp ∧ nm = tn then iId (vAt v k) else match vEn v tp tn with
    | some _ => -4
    | none => iId (vAt v k)
  | _, _, _ => -3) else -2) else -1
theorem move_step (h : INV σ v sl c) (hc : c < 590) (par nm tp tn : Int32) : (mMove σ par nm tp tn).1 = vMoveR v par nm tp tn ∧
    ((vMo v = true ∧ vIsName nm = true ∧ vIsName tn = true ∧ vEn v tp tn = none ∧ ∃ o1 o2 k, vFo v par = some o1 ∧ vFo v tp = some o2 ∧ vEn v par nm = some k ∧ ¬ (iIsD (vAt v k) = true ∧ vWithin v o2 (iId (vAt v k)) = true) ∧ ¬ (par = tp ∧ nm = tn) ∧ ∀ a, INV (mMove σ par nm tp tn).2 (vEnt (vEnt (vRel v (iA (vAt v k)) (vAt v k) tp tn a) (foAd v o1) (-1)) (foAd v o2) 1) sl (c + 1)) ∨
     (¬ (vMo v = true ∧ vIsName nm = true ∧ vIsName tn = true ∧ vEn v tp tn = none ∧ ∃ o1 o2 k, vFo v par = some o1 ∧ vFo v tp = some o2 ∧ vEn v par nm = some k ∧ ¬ (iIsD (vAt v k) = true ∧ vWithin v o2 (iId (vAt v k)) = true) ∧ ¬ (par = tp ∧ nm = tn)) ∧ (mMove σ par nm tp tn).2 = σ)) := by
  obtain ⟨hR, hP, g, hH, hK⟩ := h
  unfold mMove vMoveR
  rw [hR.mo, noName_eq, noName_eq, hR.entry g par nm, hR.entry g tp tn, hR.isFo g, hR.isFo g]
  by_cases hm : vMo v = true
  · by_cases hn : vIsName nm = true
    · by_cases hn2 : vIsName tn = true
      · match ee : vEn v par nm with
        | none =>
          refine ⟨?_, Or.inr ⟨fun z => (by obtain ⟨-, -, -, -, o1, o2, k, -, -, z, -⟩ := z; cases z), by simp [hm, hn, hn2]⟩⟩
          cases vFo v par <;> cases vFo v tp <;> simp [hm, hn, hn2]
        | some k =>
          obtain ⟨k1, k2, k3, k4, k5⟩ := vEn_some ee
          have hfp : (vFo v par).isSome = true := by rw [← k4]; exact g.foF k2 k3
          match ef : vFo v par with
          | none => rw [ef] at hfp; cases hfp
          | some o1 =>
            match ef2 : vFo v tp with
            | none => exact ⟨by simp [hm, hn, hn2], Or.inr ⟨fun z => (by obtain ⟨-, -, -, -, o1, o2, k, -, z, -⟩ := z; cases z), by simp [hm, hn, hn2]⟩⟩
            | some o2 =>
              have hs := hR.mt k2
              have hkd : sKd σ (slK v sl k) = 1 ↔ iIsD (vAt v k) = true := by
                rw [show sKd σ (slK v sl k) = kdI (vAt v k) from hs.kd]
                rcases kd4 (vAt v k) with q | q | q | q
                · simp [q.1, q.2.2.2]
                · simp [q.2.1, q.2.2.2.2]
                · simp [q.2.1, q.2.2.2]
                · simp [q.2.1, q.2.2.2.2]
              have hid : sId σ (slK v sl k) = iId (vAt v k) := hs.id
              have hw : (sKd σ (slK v sl k) = 1 ∧ mWithin σ tp (sId σ (slK v sl k)) = true) ↔ (iIsD (vAt v k) = true ∧ vWithin v o2 (iId (vAt v k)) = true) := by
                rw [hkd, hid, hR.within g (by omega) ef2]
              by_cases hW : iIsD (vAt v k) = true ∧ vWithin v o2 (iId (vAt v k)) = true
              · have hW' := hw.mpr hW
                exact ⟨by simp [hm, hn, hn2, hW, hW'], Or.inr ⟨fun z => (by
                  obtain ⟨-, -, -, -, o1, o3, k', -, z2, z3, z4, -⟩ := z
                  cases z2; cases z3; exact z4 hW), by simp [hm, hn, hn2, hW']⟩⟩
              · have hW' : ¬ (sKd σ (slK v sl k) = 1 ∧ mWithin σ tp (sId σ (slK v sl k)) = true) := fun z => hW (hw.mp z)
                by_cases hS : par = tp ∧ nm = tn
                · refine ⟨?_, Or.inr ⟨fun z => (by
                    obtain ⟨-, -, -, -, o1, o3, k', -, z2, z3, -, z4⟩ := z
                    exact z4 hS), ?_⟩⟩
                  · simp only [hm, hn, hn2, if_true, Option.map_some, Option.isSome_some, and_self, Bool.not_true, Bool.false_eq_true, if_false]
                    rw [if_neg hW', if_neg hW, if_pos hS, if_pos hS]
                    exact hid
                  · simp only [hm, hn, hn2, if_true, Option.map_some, Option.isSome_some, and_self, Bool.not_true, Bool.false_eq_true, if_false]
                    rw [if_neg hW', if_pos hS]
                · match et : vEn v tp tn with
                  | some k9 =>
                    refine ⟨?_, Or.inr ⟨fun z => (by cases z.2.2.2.1), ?_⟩⟩
                    · simp only [hm, hn, hn2, if_true, Option.map_some, Option.isSome_some, and_self, Bool.not_true, Bool.false_eq_true, if_false]
                      rw [if_neg hW', if_neg hW, if_neg hS, if_neg hS]
                    · simp only [hm, hn, hn2, if_true, Option.map_some, Option.isSome_some, and_self, Bool.not_true, Bool.false_eq_true, if_false]
                      rw [if_neg hW', if_neg hS]
                  | none =>
                    refine ⟨?_, Or.inl ⟨hm, hn, hn2, rfl, o1, o2, k, rfl, rfl, rfl, hW, hS, fun a => ?_⟩⟩
                    · simp only [hm, hn, hn2, if_true, Option.map_some, Option.map_none, Option.isSome_some, and_self, Bool.not_true, Bool.false_eq_true, if_false]
                      rw [if_neg hW', if_neg hW, if_neg hS, if_neg hS]
                      exact hid
                    · simp only [hm, hn, hn2, if_true, Option.map_some, Option.map_none, Option.isSome_some, and_self, Bool.not_true, Bool.false_eq_true, if_false]
                      rw [if_neg hW', if_neg hS]
                      show INV (pNa (pFo σ (va_up (sFo σ) (slK v sl k) tp)) (va_up (sNa σ) (slK v sl k) tn)) _ sl (c + 1)
                      have h3 := vFo_n3 g (by omega) ef2
                      have kk : kdI (iMv (vAt v k) tp tn) = kdI (vAt v k) := by
                        unfold kdI
                        rw [show iHid (iMv (vAt v k) tp tn) = iHid (vAt v k) by rw [k3]; exact decide_eq_false h3]
                        rfl
                      obtain ⟨s1, s2, s3, s4, s5, -⟩ := mv_step hR hP g hH hK.kd (by omega) k2 k3 (fo := tp) (na := tn) a (σ' := pNa (pFo σ (va_up (sFo σ) (slK v sl k) tp)) (va_up (sNa σ) (slK v sl k) tn)) (fun j hj _ => key_free h3 et j hj) (name0 hn2) (Or.inr ⟨h3, fo_of ef2⟩) ⟨rfl, rfl, rfl, rfl, rfl, rfl, rfl, rfl, rfl, rfl⟩
                        (fun q hq => ⟨rfl, va_up_ne _ _ hq, va_up_ne _ _ hq⟩) ⟨by rw [kk]; exact hs.kd, va_up_self _ _ _, va_up_self _ _ _⟩
                      rw [if_neg h3] at s4
                      have mem : ∀ {i : VI}, i ∈ vIt v → iIsD i = true → ∃ i2 ∈ vIt (vRel v (iA (vAt v k)) (vAt v k) tp tn a), iA i2 = iA i ∧ iIsD i2 = true ∧ iId i2 = iId i := fun {i} hi hd => by
                        rw [rel_It]
                        by_cases e : i = vAt v k
                        · rw [e] at hd ⊢; exact ⟨_, mem_updS k2, rfl, hd, rfl⟩
                        · exact ⟨i, upd_keep hP k2 hi e, rfl, hd, rfl⟩
                      have ho1 : (foAd v o1 = none ∧ par = 2) ∨ ∃ i ∈ vIt (vRel v (iA (vAt v k)) (vAt v k) tp tn a), foAd v o1 = some (iA i) ∧ iIsD i = true ∧ par = iId i := by
                        rcases vFo_sp ef with z | ⟨i, hi, z1, z2, z3⟩
                        · exact Or.inl z
                        · obtain ⟨i2, w1, w2, w3, w4⟩ := mem hi z2
                          exact Or.inr ⟨i2, w1, by rw [w2]; exact z1, w3, by rw [w4]; exact z3⟩
                      obtain ⟨t1, t2, t3, t4, t5⟩ := ent_step s1 s2 s3 none s4 s5 (by omega) (foAd v o1) (-1) par ho1
                      have ho2 : (foAd v o2 = none ∧ tp = 2) ∨ ∃ i ∈ vIt (vEnt (vRel v (iA (vAt v k)) (vAt v k) tp tn a) (foAd v o1) (-1)), foAd v o2 = some (iA i) ∧ iIsD i = true ∧ tp = iId i := by
                        rcases vFo_sp ef2 with z | ⟨i, hi, z1, z2, z3⟩
                        · exact Or.inl z
                        · obtain ⟨i2, w1, w2, w3, w4⟩ := mem hi z2
                          obtain ⟨i3', w5, w6, w7, w8⟩ := ent_mem s2 (foAd v o1) (-1) ho1 w1 w3
                          exact Or.inr ⟨i3', w5, by rw [w6, w2]; exact z1, w7, by rw [w8, w4]; exact z3⟩
                      obtain ⟨u1, u2, u3, u4, u5⟩ := ent_step t1 t2 t3 none t4 t5 (by omega) (foAd v o2) 1 tp ho2
                      refine ⟨u1, u2, u3.mono (by omega), u4, u5.kc (by omega) (fun y => ?_) (fun _ => rfl)⟩
                      show (0 : Int32) + (if iFo (vAt v k) = y then 1 else 0) - (if tp = y then 1 else 0) + (if par = y then -1 else 0) + (if tp = y then 1 else 0) = 0
                      rw [k4]
                      by_cases e1 : par = y <;> by_cases e2 : tp = y <;> simp [e1, e2] <;> decide
      · have hn2 : vIsName tn = false := by simpa using hn2
        exact ⟨by simp [hm, hn, hn2], Or.inr ⟨fun z => (by rw [hn2] at z; cases z.2.2.1), by simp [hm, hn, hn2]⟩⟩
    · have hn : vIsName nm = false := by simpa using hn
      exact ⟨by simp [hm, hn], Or.inr ⟨fun z => (by rw [hn] at z; cases z.2.1), by simp [hm, hn]⟩⟩
  · exact ⟨by simp [hm], Or.inr ⟨fun z => hm z.1, by simp [hm]⟩⟩
end MOVE
section LINK
variable {σ : MS} {v : VS} {sl : Nat → Nat} {c : Nat} {dE : Int32 → Int32} {dL : Nat → Int32}
/-- no folder has the id 3 -/
theorem KD.congr3 {dE2 : Int32 → Int32} {dL2 : Nat → Int32} {c2 : Nat} (h : KD σ v sl c dE dL) (g : VG v c2) (hc : c2 ≤ 600) (hE : ∀ y, ¬ y = 3 → dE y = dE2 y) (hL : ∀ q, dL q = dL2 q) : KD σ v sl c dE2 dL2 := by
  refine ⟨fun i hi => ?_, ?_⟩
  · obtain ⟨e, h1, h2, h3, h4, h5⟩ := h.1 i hi
    exact ⟨e, h1, h2, fun z => by rw [h3 z, hE _ (show ¬ iId i = 3 from g.idne hi hc (k := 3) (by omega))], fun z => ⟨by rw [(h4 z).1, hL], (h4 z).2⟩, h5⟩
  · obtain ⟨e, h1, h2, h3⟩ := h.2
    exact ⟨e, h1, h2, by rw [h3, hE _ (by decide)]⟩
/-- a new link to the file at q -/
def vAL (v : VS) (q : Nat) (fo na : Int32) (aL a1 a2 : Nat) : VS := vLnk (vAdd (sNx' v (vNx v + 1)) (aL, vNx v, fo, na, .inr (.inr q)) a1 a2) q 1
theorem upd_nh (hp : PR v) {i y : VI} (hi : i ∈ vIt v) (h : iHid y = iHid i) : nh (vUpd v (iA i) y) = nh v := upd_cnt (fun i => !iHid i) hp hi (by rw [h])
theorem ent_nh (hp : PR v) (o : Option Nat) (d : Int32) {f : Int32} (ho : (o = none ∧ f = 2) ∨ ∃ i ∈ vIt v, o = some (iA i) ∧ iIsD i = true ∧ f = iId i) : nh (vEnt v o d) = nh v ∧ vNx (vEnt v o d) = vNx v := by
  rcases ho with ⟨e, -⟩ | ⟨k, hk, e, hkd, -⟩
  · subst e; exact ⟨rfl, rfl⟩
  · subst e
    refine ⟨?_, rfl⟩
    show nh (vUpd v (iA k) (iSetE (vItA v (iA k)) _)) = _
    rw [vItA_eq hp hk]
    exact upd_nh hp hk rfl
/-- a file stays one, where a folder's entries change -/
theorem ent_memS (hp : PR v) (o : Option Nat) (d : Int32) {f : Int32} (ho : (o = none ∧ f = 2) ∨ ∃ i ∈ vIt v, o = some (iA i) ∧ iIsD i = true ∧ f = iId i) {i : VI} (hi : i ∈ vIt v) (hs : iIsS i = true) : i ∈ vIt (vEnt v o d) := by
  rcases ho with ⟨e, -⟩ | ⟨k, hk, e, hkd, -⟩
  · subst e; exact hi
  · subst e
    show i ∈ updA (iA k) (iSetE (vItA v (iA k)) _) (vIt v)
    refine upd_keep hp hk hi (fun z => ?_)
    subst z
    rcases i3 i with ⟨q1, q2, q3⟩ | ⟨q1, q2, q3⟩ | ⟨q1, q2, q3⟩
    · rw [q2] at hs; cases hs
    · rw [q1] at hkd; cases hkd
    · rw [q1] at hkd; cases hkd
theorem al_step (h : RL σ v sl) (hp : PR v) (g : VG v c) {x : Option Nat} (hh : VH v x) (k : KD σ v sl c dE dL) (hc : c ≤ 600) {c2 nx : Nat} (hcc : c ≤ c2) (hc5 : c2 ≤ 600) (hnx : vNx v = nI nx) (hnx0 : nx < 3000) (hnx2 : nx + 1 ≤ 16 + 2 * c2) {f : VI} (hf : f ∈ vIt v) (hs : iIsS f = true) (hhid : iHid f = true) {fo na : Int32} (aL a1 a2 : Nat) (ha : aL ∉ (vIt v).map iA) (h20 : nh v < 20) (hkey : ∀ j ∈ vIt v, ¬ (iFo j = fo ∧ iNa j = na)) (hna : ¬ na < 0) (h3 : ¬ fo = 3) (hfo : fo = 2 ∨ ∃ j ∈ vIt v, iIsD j = true ∧ iId j = fo) (hx : x = none ∨ x = some (iA f)) :
    ∃ sl', RL (mEnter σ 3 fo na (iId f)) (vAL v (iA f) fo na aL a1 a2) sl' ∧ PR (vAL v (iA f) fo na aL a1 a2) ∧ VG (vAL v (iA f) fo na aL a1 a2) c2 ∧ VH (vAL v (iA f) fo na aL a1 a2) none ∧ KD (mEnter σ 3 fo na (iId f)) (vAL v (iA f) fo na aL a1 a2) sl' c2 (fun y => dE y - (if fo = y then 1 else 0)) dL ∧ nh (vAL v (iA f) fo na aL a1 a2) = nh v + 1 ∧ vNx (vAL v (iA f) fo na aL a1 a2) = nI (nx + 1) ∧ PR (vAdd (sNx' v (vNx v + 1)) (aL, vNx v, fo, na, .inr (.inr (iA f))) a1 a2) ∧ vIt (vAL v (iA f) fo na aL a1 a2) = updA (iA f) (iSetL f (iLk f + 1)) (vIt v ++ [(aL, vNx v, fo, na, .inr (.inr (iA f)))]) := by
  obtain ⟨sl', s1, s2, s3, s4, s5⟩ := add_step h hp g x hh k hc (c2 := c2) hnx hnx0 hnx2 (i := (aL, vNx v, fo, na, .inr (.inr (iA f)))) (a1 := a1) (a2 := a2) (t := iId f) ha rfl h20 (fun z => by cases z) (fun z => by cases z) (fun _ => ⟨f, hf, hs, rfl, rfl, hhid⟩) hkey hna h3 hfo (by
    rcases hx with z | z
    · exact Or.inl z
    · exact Or.inr ⟨rfl, z⟩)
  have hf2 : f ∈ vIt (vAdd (sNx' v (vNx v + 1)) (aL, vNx v, fo, na, .inr (.inr (iA f))) a1 a2) := List.mem_append_left _ hf
  obtain ⟨t1, t2, t3, t4, t5⟩ := lnk_step s1 s2 s3 none s4 (s5.mono hcc) (by omega) hf2 hs 1
  refine ⟨sl', t1, t2, t3, t4, t5.congr (fun _ => rfl) (fun q => ?_), ?_, ?_, s2, ?_⟩
  · show dL q - (if iIsJ ((aL, vNx v, fo, na, .inr (.inr (iA f))) : VI) = true ∧ iFi ((aL, vNx v, fo, na, .inr (.inr (iA f))) : VI) = q then 1 else 0) + (if iA f = q then 1 else 0) = dL q
    by_cases e : iA f = q
    · rw [if_pos ⟨rfl, e⟩, if_pos e, Int32.sub_add_cancel]
    · rw [if_neg (fun z => e z.2), if_neg e]; simp
  · show nh (vLnk _ (iA f) 1) = _
    unfold vLnk
    rw [vItA_eq s2 hf2, upd_nh s2 hf2 (y := iSetL f (iLk f + 1)) rfl]
    show (vIt v ++ [_]).countP _ = _
    rw [List.countP_append, List.countP_cons, List.countP_nil, if_pos (by unfold iHid iFo; simp [h3])]
    rfl
  · show vNx v + 1 = _
    rw [hnx, nI_1]
  · show updA (iA f) (iSetL (vItA _ (iA f)) (iLk (vItA _ (iA f)) + 1)) _ = _
    rw [vItA_eq s2 hf2]
    rfl
def vLinkR (v : VS) (par nm tp tn : Int32) : Int32 := if vMo v = true then (if vIsName nm = true ∧ vIsName tn = true then (match vFo v tp, (vEn v par nm).bind (vFb v) with
  | some _, some j => match vEn v tp tn with
    | some _ => -4
    | none => if 20 ≤ vEntries v then -5 else if iHid (vAt v j) = true then vNx v else vNx v + 1
  | _, _ => -3) else -2) else -1
/-- behind the hiding, where it is due -/
def vHide (v : VS) (f : VI) (b0 b1 b2 b3 : Nat) : VS := if iHid f = true then v else vAL (vRel v (iA f) f 3 (iId f) b0) (iA f) (iFo f) (iNa f) b1 b2 b3
def vLinkS (v : VS) (f : VI) (o : Option Nat) (tp tn : Int32) (b0 b1 b2 b3 c1 c2 c3 : Nat) : VS := vAL (vEnt (vHide v f b0 b1 b2 b3) o 1) (iA f) tp tn c1 c2 c3
/-- when link goes through: folder o, file j -/
def LkOk (v : VS) (par nm tp tn : Int32) (o : Option Nat) (j : Nat) : Prop := vMo v = true ∧ vIsName nm = true ∧ vIsName tn = true ∧ vFo v tp = some o ∧ (vEn v par nm).bind (vFb v) = some j ∧ vEn v tp tn = none ∧ ¬ 20 ≤ vEntries v
theorem link_run (h : INV σ v sl c) (hc : c < 590) {par nm tp tn : Int32} {o : Option Nat} {j : Nat} (hok : LkOk v par nm tp tn o j) (b0 b1 b2 b3 c1 c2 c3 : Nat) (hb : b1 ∉ (vIt v).map iA) (hcc : c1 ∉ (vIt v).map iA) (hbc : c1 ≠ b1) :
    (mLink σ par nm tp tn).1 = vLinkR v par nm tp tn ∧ vNx (vEnt (vHide v (vAt v j) b0 b1 b2 b3) (foAd v o) 1) = vLinkR v par nm tp tn ∧ ∃ sl', INV (mLink σ par nm tp tn).2 (vLinkS v (vAt v j) (foAd v o) tp tn b0 b1 b2 b3 c1 c2 c3) sl' (c + 1) := by
  obtain ⟨hR, hP, g, hH, hK⟩ := h
  obtain ⟨f1, f2⟩ := full_iff hR g
  obtain ⟨hm, hn, hn2, ef, ej, et, h20⟩ := hok
  match ee : vEn v par nm with
  | none => rw [ee] at ej; cases ej
  | some k =>
    rw [ee] at ej
    have ej : vFb v k = some j := ej
    obtain ⟨k1, k2, k3, k4, k5⟩ := vEn_some ee
    have hs := hR.mt k2
    have hfp : (vFo v par).isSome = true := by rw [← k4]; exact g.foF k2 k3
    -- the file
    have hfile : j < (vIt v).length ∧ iIsS (vAt v j) = true ∧ ¬ iIsD (vAt v k) = true ∧ mOf σ (slK v sl k) = iId (vAt v j) ∧ ((iIsJ (vAt v k) = true ∧ iHid (vAt v j) = true) ∨ (j = k ∧ iHid (vAt v j) = false ∧ iIsS (vAt v k) = true)) := by
      unfold vFb at ej
      have hsd : sId σ (slK v sl k) = iId (vAt v k) := hs.id
      have hsk : sKd σ (slK v sl k) = kdI (vAt v k) := hs.kd
      unfold mOf
      rw [hsk]
      rcases kd4 (vAt v k) with q | q | q | q
      · rw [if_neg (by rw [q.2.2.1]; decide), if_neg (by rw [q.2.1]; decide)] at ej; cases ej
      · rw [if_neg (by rw [q.2.2.1]; decide), if_pos q.1] at ej; cases ej
        exact ⟨k1, q.1, by rw [q.2.1]; decide, by rw [q.2.2.2.2, if_neg (by decide)]; exact hsd, Or.inr ⟨rfl, q.2.2.2.1, q.1⟩⟩
      · rw [if_pos q.1] at ej
        obtain ⟨m1, m2, m3⟩ := fIt_mem hP k2 q.1
        obtain ⟨j2, n1, n2, n3⟩ := vIxA_eq hP m1
        rw [← m3, n2] at ej; cases ej
        rw [n3, q.2.2.2, if_pos rfl]
        exact ⟨n1, m2, by rw [q.2.1]; decide, hs.ta q.1, Or.inl ⟨q.1, g.fh k2 q.1⟩⟩
      · rw [q.2.2.2.1] at k3; cases k3
    obtain ⟨j1, j2, j3, j4, j5⟩ := hfile
    have hkd1 : ¬ sKd σ (slK v sl k) = 1 := by
      rw [show sKd σ (slK v sl k) = kdI (vAt v k) from hs.kd]
      rcases kd4 (vAt v k) with q | q | q | q
      · exact absurd q.1 j3
      · rw [q.2.2.2.2]; decide
      · rw [q.2.2.2]; decide
      · rw [q.2.2.2.2]; decide
    have er : mLink σ par nm tp tn = (sNx (mHide σ (slK v sl k) par nm), mEnter (mHide σ (slK v sl k) par nm) 3 tp tn (iId (vAt v j))) := by
      unfold mLink
      rw [hR.mo, noName_eq, noName_eq, hR.entry g par nm, hR.entry g tp tn, hR.isFo g, hR.isFo g, ee, ef, et, hn, hn2, if_pos hm]
      match efp : vFo v par with
      | none => rw [efp] at hfp; cases hfp
      | some o1 =>
        show (if (Option.isSome (some o1)) = true ∧ ¬ sKd σ (slK v sl k) = 1 ∧ Option.isSome (some o) = true then (if mEntries σ = 20 then _ else _) else _) = _
        rw [if_pos ⟨rfl, hkd1, rfl⟩, if_neg (fun z => h20 (f1.mp z)), j4]
    have eR : vLinkR v par nm tp tn = if iHid (vAt v j) = true then vNx v else vNx v + 1 := by
      unfold vLinkR
      rw [if_pos hm, if_pos ⟨hn, hn2⟩, ef, ee]
      show (match some o, vFb v k with | some _, some j => _ | _, _ => _) = _
      rw [ej]
      show (match vEn v tp tn with | some _ => (-4 : Int32) | none => _) = _
      rw [et]
      show (if 20 ≤ vEntries v then _ else _) = _
      rw [if_neg h20]
    rw [er, eR]
    have h3 := vFo_n3 g (by omega) ef
    obtain ⟨nx, e1, e2, e3, e4⟩ := g.nx
    have hj := vAt_mem j1
    have hn19 : nh v < 20 := f2 h20
    have slf : ∀ q, q = j → slK v sl q = sOf sl (vAt v j) := fun q e => by rw [e]; rfl
    generalize hfe : vAt v j = f at *
    -- behind the hiding
    have key : ∃ sl1 nx1, RL (mHide σ (slK v sl k) par nm) (vHide v f b0 b1 b2 b3) sl1 ∧ PR (vHide v f b0 b1 b2 b3) ∧ VG (vHide v f b0 b1 b2 b3) (c + 1) ∧ VH (vHide v f b0 b1 b2 b3) none ∧ KD (mHide σ (slK v sl k) par nm) (vHide v f b0 b1 b2 b3) sl1 (c + 1) (fun _ => 0) (fun _ => 0) ∧ nh (vHide v f b0 b1 b2 b3) < 20 ∧ vNx (vHide v f b0 b1 b2 b3) = nI nx1 ∧ nx1 + 1 ≤ 16 + 2 * (c + 1) ∧ nI nx1 = (if iHid f = true then vNx v else vNx v + 1) ∧
        (∃ f2 ∈ vIt (vHide v f b0 b1 b2 b3), iA f2 = iA f ∧ iIsS f2 = true ∧ iHid f2 = true ∧ iId f2 = iId f) ∧ (∀ i ∈ vIt v, iIsD i = true → i ∈ vIt (vHide v f b0 b1 b2 b3)) ∧ (∀ i ∈ vIt (vHide v f b0 b1 b2 b3), ¬ (iFo i = tp ∧ iNa i = tn)) ∧ c1 ∉ (vIt (vHide v f b0 b1 b2 b3)).map iA := by
      unfold vHide
      rcases j5 with ⟨q1, q2⟩ | ⟨q1, q2, q3⟩
      · have eH : mHide σ (slK v sl k) par nm = σ := by
          unfold mHide
          rw [if_neg]
          rw [show sKd σ (slK v sl k) = kdI (vAt v k) from hs.kd, kdI_J q1]; decide
        rw [eH, if_pos q2, if_pos q2]
        exact ⟨sl, nx, hR, hP, g.mono (by omega), hH, hK.kd.mono (by omega), hn19, e1, by omega, e1.symm, ⟨f, hj, rfl, j2, q2, rfl⟩, fun i hi _ => hi, key_free h3 et, hcc⟩
      · subst q1
        have esl : slK v sl j = sOf sl f := slf j rfl
        rw [hfe] at hs k2 k3 k4 k5 j3
        subst k4; subst k5
        have hq2 : ¬ iHid f = true := by rw [q2]; decide
        have ekd : sKd σ (slK v sl j) = 2 := by rw [esl, hs.kd, kdI_SN j2 hq2]
        have eH : mHide σ (slK v sl j) (iFo f) (iNa f) = mEnter (pNa (pFo (pKd σ (va_up (sKd σ) (sOf sl f) 4)) (va_up (sFo σ) (sOf sl f) 3)) (va_up (sNa σ) (sOf sl f) (iId f))) 3 (iFo f) (iNa f) (iId f) := by
          unfold mHide
          rw [if_pos ekd, j4, esl]
        rw [eH, if_neg hq2, if_neg hq2]
        obtain ⟨d, d1, d2, d3⟩ := g.id16 hj (by omega)
        have hname : ∀ i ∈ vIt v, i ≠ f → ¬ (iFo i = 3 ∧ iNa i = iId f) := fun i hi hne z => by
          rcases g.fo hi with w | w
          · exact hne (id_inj g hi hj (w.2.2.symm.trans z.2))
          · exact iHid_ne w.1 z.1
        obtain ⟨s1, s2, s3, s4, s5, s6⟩ := mv_step hR hP g hH hK.kd (by omega) hj q2 (fo := 3) (na := iId f) b0 (σ' := pNa (pFo (pKd σ (va_up (sKd σ) (sOf sl f) 4)) (va_up (sFo σ) (sOf sl f) 3)) (va_up (sNa σ) (sOf sl f) (iId f))) hname (by rw [d1]; exact nI_pos (by omega)) (Or.inl ⟨j2, rfl, rfl⟩) ⟨rfl, rfl, rfl, rfl, rfl, rfl, rfl, rfl, rfl, rfl⟩
          (fun q hq => ⟨va_up_ne _ _ hq, va_up_ne _ _ hq, va_up_ne _ _ hq⟩) ⟨by show va_up (sKd σ) (sOf sl f) 4 (sOf sl f) = _; rw [va_up_self]; exact (kdI_SH (i := iMv f 3 (iId f)) j2 rfl).symm, va_up_self _ _ _, va_up_self _ _ _⟩
        rw [if_pos rfl] at s4 s6
        have eI := rel_It v (iA f) f 3 (iId f) b0
        have hf2 : iMv f 3 (iId f) ∈ vIt (vRel v (iA f) f 3 (iId f) b0) := by rw [eI]; exact mem_updS hj
        have hmap : (vIt (vRel v (iA f) f 3 (iId f) b0)).map iA = (vIt v).map iA := by rw [eI]; exact upd_map iA hP hj rfl
        have keyF : ∀ {fo na : Int32}, ¬ fo = 3 → (∀ i ∈ vIt v, i ≠ f → ¬ (iFo i = fo ∧ iNa i = na)) → ∀ i ∈ vIt (vRel v (iA f) f 3 (iId f) b0), ¬ (iFo i = fo ∧ iNa i = na) := fun {fo na} h3 hk i hi z => by
          rw [eI] at hi
          rcases upd_cases hP hj hi with w | ⟨w, w2⟩
          · rw [w] at z; exact h3 z.1.symm
          · exact hk i w w2 z
        have nof3 : ¬ iFo f = 3 := iHid_ne q2
        obtain ⟨sl1, t1, t2, t3, t4, t5, t6, t7, t8, t9⟩ := al_step s1 s2 s3 s4 s5 (by omega) (c2 := c + 1) (by omega) (by omega) ((rel_Re v (iA f) f 3 (iId f) b0).2.1.trans e1) (by omega) (by omega) hf2 j2 rfl (fo := iFo f) (na := iNa f) b1 b2 b3 (by rw [hmap]; exact hb) (by omega) (keyF nof3 (fun i hi hne z => hne (g.key hi hj z.1 z.2))) (g.na hj) nof3 (by
          rcases g.fo hj with w | ⟨-, w | ⟨i, w1, w2, w3⟩⟩
          · exact absurd w.2.1 hq2
          · exact Or.inl w
          · exact Or.inr ⟨i, by rw [eI]; exact upd_keep hP hj w1 (fun z => by rw [z] at w2; exact j3 w2), w2, w3⟩) (Or.inr rfl)
        rw [(rel_Re v (iA f) f 3 (iId f) b0).2.1] at t9
        have t9 : vIt (vAL (vRel v (iA f) f 3 (iId f) b0) (iA f) (iFo f) (iNa f) b1 b2 b3) = updA (iA f) (iSetL (iMv f 3 (iId f)) (iLk (iMv f 3 (iId f)) + 1)) (vIt (vRel v (iA f) f 3 (iId f) b0) ++ [(b1, vNx v, iFo f, iNa f, .inr (.inr (iA f)))]) := t9
        have hin : ∀ {i : VI}, i ∈ vIt (vRel v (iA f) f 3 (iId f) b0) ++ [(b1, vNx v, iFo f, iNa f, .inr (.inr (iA f)))] → ¬ iA i = iA f → i ∈ vIt (vAL (vRel v (iA f) f 3 (iId f) b0) (iA f) (iFo f) (iNa f) b1 b2 b3) := fun {i} hi hne => by
          rw [t9]; exact mem_updN hi hne
        have hin2 : ∀ {i : VI}, i ∈ vIt (vAL (vRel v (iA f) f 3 (iId f) b0) (iA f) (iFo f) (iNa f) b1 b2 b3) → i = iSetL (iMv f 3 (iId f)) (iLk (iMv f 3 (iId f)) + 1) ∨ i ∈ vIt (vRel v (iA f) f 3 (iId f) b0) ∨ i = (b1, vNx v, iFo f, iNa f, .inr (.inr (iA f))) := fun {i} hi => by
          rw [t9] at hi
          obtain ⟨i2, w1, w2⟩ := upd_mem hi
          by_cases e : iA i2 = iA f
          · rw [if_pos e] at w2; exact Or.inl w2
          · rw [if_neg e] at w2
            subst w2
            rcases List.mem_append.mp w1 with w1 | w1
            · exact Or.inr (Or.inl w1)
            · exact Or.inr (Or.inr (List.mem_singleton.mp w1))
        refine ⟨sl1, nx + 1, t1, t2, t3, t4, t5.congr3 t3 (by omega) (fun y hy3 => ?_) (fun _ => rfl), ?_, t7, by omega, ?_, ⟨iSetL (iMv f 3 (iId f)) (iLk (iMv f 3 (iId f)) + 1), ?_, rfl, rfl, rfl, rfl⟩, fun i hi hd => ?_, fun i hi z => ?_, ?_⟩
        · show (0 : Int32) + (if iFo f = y then 1 else 0) - (if (3 : Int32) = y then 1 else 0) - (if iFo f = y then 1 else 0) = 0
          rw [if_neg (show ¬ (3 : Int32) = y from fun z => hy3 z.symm)]
          by_cases e : iFo f = y <;> simp [e]
        · exact Nat.lt_of_le_of_lt (Nat.le_of_eq (t6.trans s6)) hn19
        · rw [e1, nI_1]
        · rw [t9]; exact mem_updS (i := iMv f 3 (iId f)) (List.mem_append_left _ hf2)
        · have hne : i ≠ f := fun z => j3 (by rw [← z]; exact hd)
          exact hin (List.mem_append_left _ (by rw [eI]; exact upd_keep hP hj hi hne)) (fun z => hne (iA_inj hP.nd hi hj z))
        · rcases hin2 hi with w | w | w
          · rw [w] at z; exact h3 z.1.symm
          · exact keyF h3 (fun i hi _ => key_free h3 et i hi) i w z
          · rw [w] at z
            have z1 : iFo f = tp := z.1
            have z2 : iNa f = tn := z.2
            rw [← z1, ← z2, ee] at et
            cases et
        · intro hmem
          obtain ⟨i, w1, w2⟩ := List.mem_map.mp hmem
          rcases hin2 w1 with w | w | w
          · rw [w] at w2
            exact hcc (List.mem_map.mpr ⟨f, hj, w2⟩)
          · exact hcc (by rw [← hmap]; exact List.mem_map.mpr ⟨i, w, w2⟩)
          · rw [w] at w2; exact hbc w2.symm
    obtain ⟨sl1, nx1, t1, t2, t3, t4, t5, t6, t7, t8, t9, ⟨f2', u1, u2, u3, u4, u5⟩, u6, u7, u8⟩ := key
    have ho : (foAd v o = none ∧ tp = 2) ∨ ∃ i ∈ vIt (vHide v f b0 b1 b2 b3), foAd v o = some (iA i) ∧ iIsD i = true ∧ tp = iId i := by
      rcases vFo_sp ef with z | ⟨i, hi, z1, z2, z3⟩
      · exact Or.inl z
      · exact Or.inr ⟨i, u6 i hi z2, z1, z2, z3⟩
    obtain ⟨w1, w2, w3, w4, w5⟩ := ent_step t1 t2 t3 none t4 t5 (by omega) (foAd v o) 1 tp ho
    obtain ⟨n1, n2⟩ := ent_nh t2 (foAd v o) 1 ho
    have fm := ent_memS t2 (foAd v o) 1 ho u1 u3
    have hmap2 : (vIt (vEnt (vHide v f b0 b1 b2 b3) (foAd v o) 1)).map iA = (vIt (vHide v f b0 b1 b2 b3)).map iA := by
      rcases ho with ⟨e, -⟩ | ⟨i, hi, e, -⟩
      · rw [e]; rfl
      · rw [e]
        show (updA (iA i) (iSetE (vItA _ (iA i)) _) _).map iA = _
        rw [vItA_eq t2 hi]
        exact upd_map iA t2 hi rfl
    have hkey2 : ∀ i ∈ vIt (vEnt (vHide v f b0 b1 b2 b3) (foAd v o) 1), ¬ (iFo i = tp ∧ iNa i = tn) := by
      rcases ho with ⟨e, -⟩ | ⟨i, hi, e, -⟩
      · rw [e]; exact u7
      · rw [e]
        intro i2 hi2 z
        have hi2 : i2 ∈ updA (iA i) (iSetE (vItA (vHide v f b0 b1 b2 b3) (iA i)) (iEn (vItA (vHide v f b0 b1 b2 b3) (iA i)) + 1)) (vIt (vHide v f b0 b1 b2 b3)) := hi2
        rw [vItA_eq t2 hi] at hi2
        rcases upd_cases t2 hi hi2 with y | ⟨y, -⟩
        · rw [y] at z; exact u7 i hi z
        · exact u7 i2 y z
    have hfoT : tp = 2 ∨ ∃ j ∈ vIt (vEnt (vHide v f b0 b1 b2 b3) (foAd v o) 1), iIsD j = true ∧ iId j = tp := by
      rcases vFo_sp ef with ⟨-, z⟩ | ⟨i, hi, z1, z2, z3⟩
      · exact Or.inl z
      · obtain ⟨i2, y1, y2, y3, y4⟩ := ent_mem t2 (foAd v o) 1 ho (u6 i hi z2) z2
        exact Or.inr ⟨i2, y1, y3, by rw [y4, z3]⟩
    obtain ⟨sl2, x1, x2, x3, x4, x5, -⟩ := al_step w1 w2 w3 w4 w5 (by omega) (c2 := c + 1) (by omega) (by omega) (n2.trans t7) (by omega) t8 fm u3 u4 (fo := tp) (na := tn) c1 c2 c3 (by rw [hmap2]; exact u8) (by rw [n1]; exact t6) hkey2 (name0 hn2) h3 hfoT (Or.inl rfl)
    rw [u2, u5] at x1 x5
    rw [u2] at x2 x3 x4
    refine ⟨?_, by rw [n2, t7, t9], sl2, x1, x2, x3, x4, x5.kc (Nat.le_refl _) (fun y => ?_) (fun _ => rfl)⟩
    · show sNx (mHide σ (slK v sl k) par nm) = _
      rw [t1.nx, t7, t9]
    · show (0 : Int32) + (if tp = y then 1 else 0) - (if tp = y then 1 else 0) = 0
      rw [Int32.add_sub_cancel]
end LINK
section LINKF
variable {σ : MS} {v : VS} {sl : Nat → Nat} {c : Nat} {dE : Int32 → Int32} {dL : Nat → Int32}
theorem link_fail (h : INV σ v sl c) (hc : c < 590) {par nm tp tn : Int32} (hno : ¬ ∃ o j, LkOk v par nm tp tn o j) : mLink σ par nm tp tn = (vLinkR v par nm tp tn, σ) := by
  obtain ⟨hR, hP, g, hH, hK⟩ := h
  obtain ⟨f1, f2⟩ := full_iff hR g
  unfold mLink vLinkR
  rw [hR.mo, noName_eq, noName_eq, hR.entry g par nm, hR.entry g tp tn, hR.isFo g, hR.isFo g]
  by_cases hm : vMo v = true
  · by_cases hn : vIsName nm = true
    · by_cases hn2 : vIsName tn = true
      · match ee : vEn v par nm with
        | none => cases vFo v tp <;> simp [hm, hn, hn2]
        | some k =>
          obtain ⟨k1, k2, k3, k4, k5⟩ := vEn_some ee
          have hs := hR.mt k2
          have hfp : (vFo v par).isSome = true := by rw [← k4]; exact g.foF k2 k3
          have hkd : sKd σ (slK v sl k) = 1 ↔ vFb v k = none := by
            rw [show sKd σ (slK v sl k) = kdI (vAt v k) from hs.kd]
            unfold vFb
            rcases kd4 (vAt v k) with q | q | q | q
            · simp [q.2.1, q.2.2.1, q.2.2.2]
            · simp [q.1, q.2.2.1, q.2.2.2.2]
            · obtain ⟨m1, m2, m3⟩ := fIt_mem hP k2 q.1
              obtain ⟨j2, n1, n2, n3⟩ := vIxA_eq hP m1
              rw [if_pos q.1, ← m3, n2, q.2.2.2]; simp
            · simp [q.1, q.2.2.1, q.2.2.2.2]
          match ef : vFo v par with
          | none => rw [ef] at hfp; cases hfp
          | some o1 =>
            match ej : vFb v k with
            | none =>
              have := hkd.mpr ej
              cases vFo v tp <;> simp [hm, hn, hn2, this, ej]
            | some j =>
              have h1 : ¬ sKd σ (slK v sl k) = 1 := fun z => by rw [hkd.mp z] at ej; cases ej
              match ef2 : vFo v tp with
              | none => simp [hm, hn, hn2, ej]
              | some o =>
                match et : vEn v tp tn with
                | some k9 => simp [hm, hn, hn2, ej, h1]
                | none =>
                  by_cases h20 : 20 ≤ vEntries v
                  · have := f1.mpr h20
                    simp [hm, hn, hn2, ej, h1, h20, this]
                  · exact absurd ⟨o, j, hm, hn, hn2, ef2, by rw [ee]; exact ej, et, h20⟩ hno
      · have hn2 : vIsName tn = false := by simpa using hn2
        simp [hm, hn, hn2]
    · have hn : vIsName nm = false := by simpa using hn
      simp [hm, hn]
  · simp [hm]
end LINKF
section REMOVE
variable {σ : MS} {v : VS} {sl : Nat → Nat} {c : Nat} {dE : Int32 → Int32} {dL : Nat → Int32}
theorem rem_It (v : VS) (q : Nat) : vIt (vRem v q) = (vIt v).filter (fun k => !decide (iA k = q)) := rfl
theorem rem_Re (v : VS) (q : Nat) : vRe (vRem v q) = vRe v ∧ vNx (vRem v q) = vNx v ∧ vMo (vRem v q) = vMo v ∧ vUs (vRem v q) = vUs v := by
  have h1 := (del_it v q false).2
  have h2 := (del_it (vDel v q false) q true).2
  refine ⟨?_, ?_, ?_, ?_⟩
  · show (vDel (vDel v q false) q true).2.2.2.2.2 = _; rw [h2, h1]; rfl
  · show (vDel (vDel v q false) q true).2.2.2.2.1 = _; rw [h2, h1]; rfl
  · show (vDel (vDel v q false) q true).2.2.2.1 = _; rw [h2, h1]; rfl
  · show (vDel (vDel v q false) q true).2.2.1 = _; rw [h2, h1]; rfl
/-- the item's blocks are used no more -/
def usD (i : VI) (u : Nat → Bool) : Nat → Bool := fun b => u b && !(iIsS i && sHas i b)
theorem rem_step (h : RL σ v sl) (hp : PR v) (g : VG v c) {x : Option Nat} (hh : VH v x) (k : KD σ v sl c dE dL) (hm : vMo v = true) {i : VI} (hi : i ∈ vIt v) (hnl : ∀ j ∈ vIt v, iIsJ j = true → ¬ iFi j = iA i) (hD : iIsD i = true → ∀ j ∈ vIt v, iHid j = false → ¬ iFo j = iId i) (hx : (x = none ∧ iIsJ i = true) ∨ (iIsJ i = false ∧ (x = none ∨ x = some (iA i)))) :
    RL (mDrop σ (sOf sl i)) (sUs (vRem v (iA i)) (usD i (vUs v))) sl ∧ PR (sUs (vRem v (iA i)) (usD i (vUs v))) ∧ VG (sUs (vRem v (iA i)) (usD i (vUs v))) c ∧ VH (sUs (vRem v (iA i)) (usD i (vUs v))) (if iIsJ i = true then some (iFi i) else none) ∧ KD (mDrop σ (sOf sl i)) (sUs (vRem v (iA i)) (usD i (vUs v))) sl c (fun y => dE y + (if iFo i = y then 1 else 0)) (fun q => dL q + (if iIsJ i = true ∧ iFi i = q then 1 else 0)) := by
  obtain ⟨r1, r2⟩ := h.rem hp hi (u := usD i (vUs v)) hnl (h.dropU g hi hm)
  obtain ⟨e1, e2, -, -⟩ := rem_Re v (iA i)
  refine ⟨r1, r2, g.rem hp r2 hi rfl e2 hD, ?_, k.rem hp hi rfl e1 (fun _ _ => rfl) rfl⟩
  rcases hx with ⟨z1, z2⟩ | ⟨z1, z2⟩
  · subst z1; exact hh.rem hp hi rfl
  · rw [z1]; exact hh.rem2 z2 z1 rfl hp hi
def vRemR (v : VS) (par nm : Int32) : Int32 := if vMo v = true then (if vIsName nm = true then (match vFo v par, vEn v par nm with
  | some _, some k => if iIsD (vAt v k) = true ∧ ¬ vEntriesIn v (iId (vAt v k)) ≤ 0 then -6 else iId (vAt v k)
  | _, _ => -3) else -2) else -1
/-- behind the entry's drop and its folder's count; then the file, or the link's file -/
def vRem1 (v : VS) (i : VI) (o : Option Nat) : VS := vEnt (vRem v (iA i)) o (-1)
def vRemS (v : VS) (i : VI) (o : Option Nat) : VS :=
  if iIsS i = true then sUs (vRem1 v i o) (usF i (iLe i) 0 (vUs (vRem1 v i o)))
  else if iIsJ i = true then (
    let w := vLnk (vRem1 v i o) (iFi i) (-1)
    let f := vItA w (iFi i)
    if iLk f ≤ 0 then sUs (vRem w (iA f)) (usF f (iLe f) 0 (vUs (vRem w (iA f)))) else w)
  else vRem1 v i o
def RmOk (v : VS) (par nm : Int32) (o : Option Nat) (k : Nat) : Prop := vMo v = true ∧ vIsName nm = true ∧ vFo v par = some o ∧ vEn v par nm = some k ∧ ¬ (iIsD (vAt v k) = true ∧ ¬ vEntriesIn v (iId (vAt v k)) ≤ 0)
theorem ent_us (v : VS) (o : Option Nat) (d : Int32) (u : Nat → Bool) : sUs (vEnt v o d) u = vEnt (sUs v u) o d := by cases o <;> rfl
theorem eIn_0 (v : VS) (fo : Int32) (hl : (vIt v).length ≤ 40) : vEntriesIn v fo ≤ 0 ↔ ∀ j ∈ vIt v, ¬ iFo j = fo := by
  have : (vIt v).countP (fun i => decide (iFo i = fo)) ≤ (vIt v).length := List.countP_le_length
  rw [eIn_n, nI_le0 (by omega), List.countP_eq_zero]
  simp
theorem remove_fail (h : INV σ v sl c) (hc : c < 590) {par nm : Int32} (hno : ¬ ∃ o k, RmOk v par nm o k) : mRemove σ par nm = (vRemR v par nm, σ) := by
  obtain ⟨hR, hP, g, hH, hK⟩ := h
  unfold mRemove vRemR
  rw [hR.mo, noName_eq, hR.entry g par nm, hR.isFo g]
  by_cases hm : vMo v = true
  · by_cases hn : vIsName nm = true
    · match ee : vEn v par nm with
      | none => cases vFo v par <;> simp [hm, hn]
      | some k =>
        obtain ⟨k1, k2, k3, k4, k5⟩ := vEn_some ee
        have hs := hR.mt k2
        have hkd : sKd σ (slK v sl k) = 1 ↔ iIsD (vAt v k) = true := by
          rw [show sKd σ (slK v sl k) = kdI (vAt v k) from hs.kd]
          rcases kd4 (vAt v k) with q | q | q | q
          · simp [q.1, q.2.2.2]
          · simp [q.2.1, q.2.2.2.2]
          · simp [q.2.1, q.2.2.2]
          · simp [q.2.1, q.2.2.2.2]
        match ef : vFo v par with
        | none => simp [hm, hn]
        | some o =>
          by_cases hD : iIsD (vAt v k) = true ∧ ¬ vEntriesIn v (iId (vAt v k)) ≤ 0
          · have h1 : sKd σ (slK v sl k) = 1 ∧ ¬ mEntriesIn σ (sId σ (slK v sl k)) ≤ 0 := ⟨hkd.mpr hD.1, by
              rw [show sId σ (slK v sl k) = iId (vAt v k) from hs.id, hR.entriesIn g (g.idne k2 (by omega) (k := 3) (by omega))]; exact hD.2⟩
            simp only [hm, hn, if_true, Option.map_some, Option.isSome_some, Bool.not_true, Bool.false_eq_true, if_false]
            rw [if_pos h1, if_pos hD]
          · exact absurd ⟨o, k, hm, hn, ef, ee, hD⟩ hno
    · have hn : vIsName nm = false := by simpa using hn
      simp [hm, hn]
  · simp [hm]
end REMOVE
section REMOVE2
variable {σ : MS} {v : VS} {sl : Nat → Nat} {c : Nat} {dE : Int32 → Int32} {dL : Nat → Int32}
theorem ent_keep (v : VS) (o : Option Nat) (d : Int32) : vUs (vEnt v o d) = vUs v ∧ vMo (vEnt v o d) = vMo v ∧ vNx (vEnt v o d) = vNx v := by cases o <;> exact ⟨rfl, rfl, rfl⟩
theorem lFor_0 (v : VS) (q : Nat) (hl : (vIt v).length ≤ 40) : (nI ((vIt v).countP (fun i => decide (iIsJ i = true ∧ iFi i = q))) ≤ 0 ↔ ∀ j ∈ vIt v, iIsJ j = true → ¬ iFi j = q) ∧ (vLinksFor v q = 0 ↔ ∀ j ∈ vIt v, iIsJ j = true → ¬ iFi j = q) := by
  have hle : (vIt v).countP (fun i => decide (iIsJ i = true ∧ iFi i = q)) ≤ (vIt v).length := List.countP_le_length
  have hz : (vIt v).countP (fun i => decide (iIsJ i = true ∧ iFi i = q)) = 0 ↔ ∀ j ∈ vIt v, iIsJ j = true → ¬ iFi j = q := by
    rw [List.countP_eq_zero]; simp
  refine ⟨by rw [nI_le0 (by omega), hz], ?_⟩
  rw [lFor_n, ← hz]
  exact nI_eq (b := 0) (by omega) (by omega)
theorem remove_run (h : INV σ v sl c) (hc : c < 590) {par nm : Int32} {o : Option Nat} {k : Nat} (hok : RmOk v par nm o k) :
    (mRemove σ par nm).1 = vRemR v par nm ∧ vRemR v par nm = iId (vAt v k) ∧ INV (mRemove σ par nm).2 (vRemS v (vAt v k) (foAd v o)) sl (c + 1) := by
  obtain ⟨hR, hP, g, hH, hK⟩ := h
  obtain ⟨hm, hn, ef, ee, hD⟩ := hok
  obtain ⟨k1, k2, k3, k4, k5⟩ := vEn_some ee
  have hs := hR.mt k2
  have hkd : sKd σ (slK v sl k) = kdI (vAt v k) := hs.kd
  have hkd1 : sKd σ (slK v sl k) = 1 ↔ iIsD (vAt v k) = true := by
    rw [hkd]
    rcases kd4 (vAt v k) with q | q | q | q
    · simp [q.1, q.2.2.2]
    · simp [q.2.1, q.2.2.2.2]
    · simp [q.2.1, q.2.2.2]
    · simp [q.2.1, q.2.2.2.2]
  have eR : vRemR v par nm = iId (vAt v k) := by
    unfold vRemR
    simp only [hm, hn, if_true, ef, ee]
    rw [if_neg hD]
  have er : mRemove σ par nm = (iId (vAt v k), mUnlink σ (slK v sl k)) := by
    unfold mRemove
    rw [hR.mo, noName_eq, hR.entry g par nm, hR.isFo g, ef, ee]
    simp only [hm, hn, if_true, Option.map_some, Option.isSome_some, Bool.not_true, Bool.false_eq_true, if_false]
    rw [if_neg (fun z => hD ⟨hkd1.mp z.1, by
      have z2 := z.2
      rw [show sId σ (slK v sl k) = iId (vAt v k) from hs.id, hR.entriesIn g (g.idne k2 (by omega) (k := 3) (by omega))] at z2
      exact z2⟩), show sId σ (slK v sl k) = iId (vAt v k) from hs.id]
  rw [er, eR]
  refine ⟨rfl, rfl, ?_⟩
  show INV (mUnlink σ (slK v sl k)) _ sl (c + 1)
  have esl : slK v sl k = sOf sl (vAt v k) := rfl
  rw [esl]
  rw [esl] at hkd
  generalize vAt v k = i at *
  have h40 := hR.len40
  have hDe : iIsD i = true → ∀ j ∈ vIt v, ¬ iFo j = iId i := fun hd => (eIn_0 v (iId i) h40).mp (Decidable.byContradiction (fun z => hD ⟨hd, z⟩))
  have hfo : ∀ {f : VI}, f ∈ vIt v → iIsD f = true → par = iId f → f ≠ i := fun {f} hf hd hpf z => hDe (by rw [← z]; exact hd) i k2 (by rw [k4, hpf, z])
  have mem : ∀ {w : VS}, vIt w = (vIt v).filter (fun k => !decide (iA k = iA i)) → ∀ {f : VI}, f ∈ vIt v → f ≠ i → f ∈ vIt w := fun {w} hw {f} hf hne => by
    rw [hw]
    refine List.mem_filter.mpr ⟨hf, ?_⟩
    simp only [Bool.not_eq_true', decide_eq_false_iff_not]
    exact fun z => hne (iA_inj hP.nd hf k2 z)
  have ho : ∀ {w : VS}, vIt w = (vIt v).filter (fun k => !decide (iA k = iA i)) → (foAd v o = none ∧ par = 2) ∨ ∃ f ∈ vIt w, foAd v o = some (iA f) ∧ iIsD f = true ∧ par = iId f := fun {w} hw => by
    rcases vFo_sp ef with z | ⟨f, hf, z1, z2, z3⟩
    · exact Or.inl z
    · exact Or.inr ⟨f, mem hw hf (hfo hf z2 z3), z1, z2, z3⟩
  have hu0 : iIsS i = false → sUs (vRem v (iA i)) (usD i (vUs v)) = vRem v (iA i) := fun hsf => by
    have e : usD i (vUs v) = vUs (vRem v (iA i)) := by rw [(rem_Re v (iA i)).2.2.2]; exact dropU_n i (vUs v) hsf
    rw [e]; rfl
  rcases kd4 i with q | q | q | q
  · -- a folder
    have hnl : ∀ j ∈ vIt v, iIsJ j = true → ¬ iFi j = iA i := fun j hj hJ z => by
      obtain ⟨m1, m2, m3⟩ := fIt_mem hP hj hJ
      rw [iA_inj hP.nd m1 k2 (m3.trans z), q.2.1] at m2; cases m2
    obtain ⟨s1, s2, s3, s4, s5⟩ := rem_step hR hP g hH hK.kd hm k2 hnl (fun hd j hj _ => hDe hd j hj) (Or.inr ⟨q.2.2.1, Or.inl rfl⟩)
    rw [hu0 q.2.1] at s1 s2 s3 s4 s5
    rw [q.2.2.1] at s4
    obtain ⟨t1, t2, t3, t4, t5⟩ := ent_step s1 s2 s3 none s4 s5 (by omega) (foAd v o) (-1) par (ho rfl)
    have ev : vRemS v i (foAd v o) = vEnt (vRem v (iA i)) (foAd v o) (-1) := by
      unfold vRemS; rw [if_neg (by rw [q.2.1]; decide), if_neg (by rw [q.2.2.1]; decide)]; rfl
    have em : mUnlink σ (sOf sl i) = mDrop σ (sOf sl i) := by
      unfold mUnlink; rw [if_neg]; rw [hkd, q.2.2.2]; exact fun z => absurd z.1 (by decide)
    rw [ev, em]
    refine ⟨t1, t2, t3.mono (by omega), t4, t5.kc (by omega) (fun y => ?_) (fun y => ?_)⟩
    · show (0 : Int32) + (if iFo i = y then 1 else 0) + (if par = y then -1 else 0) = 0
      rw [k4]; by_cases e : par = y <;> simp [e] <;> decide
    · show (0 : Int32) + (if iIsJ i = true ∧ iFi i = y then 1 else 0) = 0
      rw [if_neg (fun z => by rw [q.2.2.1] at z; cases z.1)]; rfl
  · -- a file that is not hidden
    have hnl : ∀ j ∈ vIt v, iIsJ j = true → ¬ iFi j = iA i := fun j hj hJ z => by
      obtain ⟨m1, m2, m3⟩ := fIt_mem hP hj hJ
      have := g.fh hj hJ
      rw [iA_inj hP.nd m1 k2 (m3.trans z), k3] at this; cases this
    obtain ⟨s1, s2, s3, s4, s5⟩ := rem_step hR hP g hH hK.kd hm k2 hnl (fun hd => by rw [q.2.1] at hd; cases hd) (Or.inr ⟨q.2.2.1, Or.inl rfl⟩)
    rw [q.2.2.1] at s4
    obtain ⟨t1, t2, t3, t4, t5⟩ := ent_step s1 s2 s3 none s4 s5 (by omega) (foAd v o) (-1) par (ho rfl)
    have ev : vRemS v i (foAd v o) = vEnt (sUs (vRem v (iA i)) (usD i (vUs v))) (foAd v o) (-1) := by
      unfold vRemS
      rw [if_pos q.1, ← ent_us]
      have e : usF i (iLe i) 0 (vUs (vRem1 v i (foAd v o))) = usD i (vUs v) := by
        rw [show vUs (vRem1 v i (foAd v o)) = vUs v from (ent_keep _ _ _).1.trans (rem_Re v (iA i)).2.2.2]
        exact (dropU_us i (vUs v) q.1).symm
      rw [e]; rfl
    have em : mUnlink σ (sOf sl i) = mDrop σ (sOf sl i) := by
      unfold mUnlink; rw [if_neg]; rw [hkd, q.2.2.2.2]; exact fun z => absurd z.1 (by decide)
    rw [ev, em]
    refine ⟨t1, t2, t3.mono (by omega), t4, t5.kc (by omega) (fun y => ?_) (fun y => ?_)⟩
    · show (0 : Int32) + (if iFo i = y then 1 else 0) + (if par = y then -1 else 0) = 0
      rw [k4]; by_cases e : par = y <;> simp [e] <;> decide
    · show (0 : Int32) + (if iIsJ i = true ∧ iFi i = y then 1 else 0) = 0
      rw [if_neg (fun z => by rw [q.2.2.1] at z; cases z.1)]; rfl
  · -- a link
    have hnl : ∀ j ∈ vIt v, iIsJ j = true → ¬ iFi j = iA i := fun j hj hJ z => by
      obtain ⟨m1, m2, m3⟩ := fIt_mem hP hj hJ
      rw [iA_inj hP.nd m1 k2 (m3.trans z), q.2.2.1] at m2; cases m2
    obtain ⟨s1, s2, s3, s4, s5⟩ := rem_step hR hP g hH hK.kd hm k2 hnl (fun hd => by rw [q.2.1] at hd; cases hd) (Or.inl ⟨rfl, q.1⟩)
    rw [hu0 q.2.2.1] at s1 s2 s3 s4 s5
    rw [if_pos q.1] at s4
    have hoR := ho (w := vRem v (iA i)) rfl
    obtain ⟨t1, t2, t3, t4, t5⟩ := ent_step s1 s2 s3 (some (iFi i)) s4 s5 (by omega) (foAd v o) (-1) par hoR
    obtain ⟨f1, f2, f3⟩ := fIt_mem hP k2 q.1
    have fhid := g.fh k2 q.1
    have fne : fIt v i ≠ i := fun z => by rw [z, q.2.2.1] at f2; cases f2
    have ta := hs.ta q.1
    generalize fIt v i = f at *
    have fm : f ∈ vIt (vRem1 v i (foAd v o)) := ent_memS s2 (foAd v o) (-1) hoR (mem rfl f1 fne) f2
    obtain ⟨u1, u2, u3, u4, u5⟩ := lnk_step (v := vRem1 v i (foAd v o)) t1 t2 t3 (some (iFi i)) t4 t5 (by omega) fm f2 (-1)
    rw [← f3] at u4
    have ew : vLnk (vRem1 v i (foAd v o)) (iA f) (-1) = vUpd (vRem1 v i (foAd v o)) (iA f) (iSetL f (iLk f + -1)) := by
      show vUpd _ (iA f) (iSetL (vItA _ (iA f)) (iLk (vItA _ (iA f)) + -1)) = _
      rw [vItA_eq (v := vRem1 v i (foAd v o)) t2 fm]
    have emo : vMo (vLnk (vRem1 v i (foAd v o)) (iA f) (-1)) = true := by
      show vMo (vRem1 v i (foAd v o)) = true
      rw [show vMo (vRem1 v i (foAd v o)) = vMo v from (ent_keep _ _ _).2.1.trans (rem_Re v (iA i)).2.2.1]; exact hm
    have fm2 : iSetL f (iLk f + -1) ∈ vIt (vLnk (vRem1 v i (foAd v o)) (iA f) (-1)) := by rw [ew]; exact mem_updS fm
    have eD : ∀ y, (fun y => (0 : Int32) + (if iFo i = y then 1 else 0) + (if par = y then -1 else 0)) y = 0 := fun y => by
      show (0 : Int32) + (if iFo i = y then 1 else 0) + (if par = y then -1 else 0) = 0
      rw [k4]; by_cases e : par = y <;> simp [e] <;> decide
    have eL : ∀ y, (fun y => (0 : Int32) + (if iIsJ i = true ∧ iFi i = y then 1 else 0) + (if iA f = y then -1 else 0)) y = 0 := fun y => by
      show (0 : Int32) + (if iIsJ i = true ∧ iFi i = y then 1 else 0) + (if iA f = y then -1 else 0) = 0
      rw [← f3]
      by_cases e : iA f = y
      · rw [if_pos ⟨q.1, e⟩, if_pos e]; decide
      · rw [if_neg (fun z => e z.2), if_neg e]; rfl
    have kc := u5.kc (Nat.le_refl c) eD eL
    obtain ⟨cl1, cl2, cl3⟩ := u1.cln emo
    generalize hf' : iSetL f (iLk f + -1) = f' at *
    have fA : iA f' = iA f := by rw [← hf']; rfl
    have fI : iId f' = iId f := by rw [← hf']; rfl
    have fS : iIsS f' = true := by rw [← hf']; rfl
    have fJ : iIsJ f' = false := by rw [← hf']; rfl
    have fDD : iIsD f' = false := by rw [← hf']; rfl
    have fFo : iFo f' = iFo f := by rw [← hf']; rfl
    have em : mUnlink σ (sOf sl i) = if vLinksFor (vLnk (vRem1 v i (foAd v o)) (iA f) (-1)) (iA f') = 0 then mDrop (mDrop σ (sOf sl i)) (sOf sl f') else mDrop σ (sOf sl i) := by
      unfold mUnlink
      rw [ta, ← fI, u1.links u3 u2 fm2, u1.place u3 fm2, hkd, q.2.2.2]
      by_cases e : vLinksFor (vLnk (vRem1 v i (foAd v o)) (iA f) (-1)) (iA f') = 0
      · rw [if_pos ⟨rfl, e⟩, if_pos e]; rfl
      · rw [if_neg (fun z => e z.2), if_neg e]
    have eV : vItA (vLnk (vRem1 v i (foAd v o)) (iA f) (-1)) (iA f) = f' := by have := vItA_eq u2 fm2; rw [fA] at this; exact this
    obtain ⟨e0, g1, g2, g3, g4, g5⟩ := kc.1 f' fm2
    have he0 : e0 = 0 := by
      have := (cl1 (sOf sl f') (u1.slt fm2) (by rw [(u1.mt fm2).kd]; exact kdI_ne _)).1
      rw [this] at g2
      exact ((nI_eq (a := e0) (b := 0) (by omega) (by omega)).mp g2.symm)
    have hlk : iLk f' = vLinksFor (vLnk (vRem1 v i (foAd v o)) (iA f) (-1)) (iA f') := by rw [(g4 fS).1, he0]; simp [nI_0]
    obtain ⟨l1, l2⟩ := lFor_0 (vLnk (vRem1 v i (foAd v o)) (iA f) (-1)) (iA f') u1.len40
    have hle : iLk f' ≤ 0 ↔ vLinksFor (vLnk (vRem1 v i (foAd v o)) (iA f) (-1)) (iA f') = 0 := by rw [hlk, l2, lFor_n, l1]
    have ev : vRemS v i (foAd v o) = if iLk f' ≤ 0 then sUs (vRem (vLnk (vRem1 v i (foAd v o)) (iA f) (-1)) (iA f')) (usF f' (iLe f') 0 (vUs (vRem (vLnk (vRem1 v i (foAd v o)) (iA f) (-1)) (iA f')))) else vLnk (vRem1 v i (foAd v o)) (iA f) (-1) := by
      unfold vRemS
      rw [if_neg (by rw [q.2.2.1]; decide), if_pos q.1, ← f3]
      show (if iLk (vItA (vLnk (vRem1 v i (foAd v o)) (iA f) (-1)) (iA f)) ≤ 0 then _ else _) = _
      rw [eV]
    rw [ev, em]
    by_cases hz : vLinksFor (vLnk (vRem1 v i (foAd v o)) (iA f) (-1)) (iA f') = 0
    · rw [if_pos (hle.mpr hz), if_pos hz]
      have hno := l2.mp hz
      obtain ⟨x1, x2, x3, x4, x5⟩ := rem_step u1 u2 u3 u4 kc.kd emo fm2 hno (fun hd => by rw [fDD] at hd; cases hd) (Or.inr ⟨fJ, Or.inr (by rw [fA])⟩)
      rw [fJ] at x4
      have eu : usF f' (iLe f') 0 (vUs (vRem (vLnk (vRem1 v i (foAd v o)) (iA f) (-1)) (iA f'))) = usD f' (vUs (vLnk (vRem1 v i (foAd v o)) (iA f) (-1))) := by
        rw [(rem_Re _ _).2.2.2]; exact (dropU_us f' _ fS).symm
      rw [eu]
      refine ⟨x1, x2, x3.mono (by omega), x4, (x5.congr3 x3 (by omega) (dE2 := fun _ => 0) (dL2 := fun _ => 0) (fun y hy => ?_) (fun y => ?_)).kc (by omega) (fun _ => rfl) (fun _ => rfl)⟩
      · show (0 : Int32) + (if iFo f' = y then 1 else 0) = 0
        rw [if_neg (fun z => hy ?_)]; rfl
        rw [← z, fFo]; exact of_decide_eq_true fhid
      · show (0 : Int32) + (if iIsJ f' = true ∧ iFi f' = y then 1 else 0) = 0
        rw [if_neg (fun z => by rw [fJ] at z; cases z.1)]; rfl
    · rw [if_neg (fun z => hz (hle.mp z)), if_neg hz]
      refine ⟨u1, u2, u3.mono (by omega), fun j hj hsj hhj _ => ?_, kc.mono (by omega)⟩
      by_cases e : iA j = iA f'
      · have hne : ¬ ∀ j ∈ vIt (vLnk (vRem1 v i (foAd v o)) (iA f) (-1)), iIsJ j = true → ¬ iFi j = iA f' := fun z => hz (l2.mpr z)
        rw [e]
        refine Classical.byContradiction (fun z => hne (fun j2 h1 h2 h3 => z ⟨j2, h1, h2, h3⟩))
      · exact u4 j hj hsj hhj (fun z => e (by rw [fA]; exact (Option.some.inj z).symm))
  · rw [q.2.2.2.1] at k3; cases k3
end REMOVE2
