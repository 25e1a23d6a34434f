theorem kd_isS (i : VI) : decide (kdI i = 2 ∨ kdI i = 4) = iIsS i := by
  rcases kd4 i with q | q | q | q
  · simp [q.2.1, q.2.2.2]
  · simp [q.1, q.2.2.2.2]
  · simp [q.2.2.1, q.2.2.2]
  · simp [q.1, q.2.2.2.2]
section UPD
variable {σ : MS} {v : VS} {sl : Nat → Nat} {c : Nat}
theorem upd_mem {l : List VI} {q : Nat} {x j : VI} (h : j ∈ updA q x l) : ∃ i ∈ l, j = if iA i = q then x else i := by
  obtain ⟨i, h1, h2⟩ := List.mem_map.mp h
  exact ⟨i, h1, h2.symm⟩
theorem mem_upd {l : List VI} {q : Nat} {x i : VI} (h : i ∈ l) : (if iA i = q then x else i) ∈ updA q x l := List.mem_map.mpr ⟨i, h, rfl⟩
theorem mem_updS {l : List VI} {i x : VI} (h : i ∈ l) : x ∈ updA (iA i) x l := by
  have := mem_upd (q := iA i) (x := x) h
  rwa [if_pos rfl] at this
theorem mem_updN {l : List VI} {q : Nat} {x i : VI} (h : i ∈ l) (hn : ¬ iA i = q) : i ∈ updA q x l := by
  have := mem_upd (q := q) (x := x) h
  rwa [if_neg hn] at this
/-- an element of the changed list: the new one, or another one of the old list -/
theorem upd_cases (_ : PR v) {i x j : VI} (_ : i ∈ vIt v) (h : j ∈ updA (iA i) x (vIt v)) : j = x ∨ (j ∈ vIt v ∧ j ≠ i) := by
  obtain ⟨k, h1, h2⟩ := upd_mem h
  by_cases e : iA k = iA i
  · rw [if_pos e] at h2; exact Or.inl h2
  · rw [if_neg e] at h2
    subst h2
    exact Or.inr ⟨h1, fun z => e (by rw [z])⟩
theorem upd_keep (hp : PR v) {i x j : VI} (hi : i ∈ vIt v) (hj : j ∈ vIt v) (hne : j ≠ i) : j ∈ updA (iA i) x (vIt v) := mem_updN hj (fun z => hne (iA_inj hp.nd hj hi z))
theorem upd_map {β : Type} (f : VI → β) {i x : VI} (hp : PR v) (hi : i ∈ vIt v) (hf : f x = f i) : (updA (iA i) x (vIt v)).map f = (vIt v).map f := by
  unfold updA
  rw [List.map_map]
  refine List.map_congr_left (fun j hj => ?_)
  show f (if iA j = iA i then x else j) = f j
  by_cases e : iA j = iA i
  · rw [if_pos e, hf, iA_inj hp.nd hj hi e]
  · rw [if_neg e]
theorem upd_cnt (P : VI → Bool) {i x : VI} (hp : PR v) (hi : i ∈ vIt v) (hf : P x = P i) : (updA (iA i) x (vIt v)).countP P = (vIt v).countP P := by
  have h := congrArg (fun l => l.countP (fun b : Bool => b)) (upd_map P hp hi hf)
  simp only [List.countP_map] at h
  exact h
theorem PR.upd (hp : PR v) {i x : VI} (hi : i ∈ vIt v) (hA : iA x = iA i) (hS : iIsS x = iIsS i) (hJ : iIsJ x = iIsJ i) (hF : iIsJ x = true → iFi x = iFi i) (hB : iIsS x = true → iLe x ≤ 48 ∧ ∀ j, iBl x j < 48) : PR (vUpd v (iA i) x) := by
  have to : ∀ {j : VI}, j ∈ vIt v → ∃ z ∈ updA (iA i) x (vIt v), iA z = iA j ∧ iIsS z = iIsS j := fun {j} hj => by
    by_cases e : j = i
    · exact ⟨x, by rw [← e]; exact mem_updS hj, by rw [hA, e], by rw [hS, e]⟩
    · exact ⟨j, upd_keep hp hi hj e, rfl, rfl⟩
  refine ⟨fun n hn => ?_, fun j hj hJ2 => ?_, ?_, fun j hj hs => ?_⟩
  · obtain ⟨j, h1, h2⟩ := hp.ln hn
    obtain ⟨z, g1, g2, -⟩ := to h1
    exact ⟨z, g1, g2.trans h2⟩
  · have key : ∀ {w : VI}, w ∈ vIt v → iIsJ w = true → ∃ j ∈ updA (iA i) x (vIt v), iIsS j = true ∧ iA j = iFi w := fun {w} hw hwj => by
      obtain ⟨k, h1, h2, h3⟩ := hp.lk hw hwj
      obtain ⟨z, g1, g2, g3⟩ := to h1
      exact ⟨z, g1, g3.trans h2, g2.trans h3⟩
    rcases upd_cases hp hi hj with e | ⟨e, -⟩
    · rw [e] at hJ2 ⊢
      rw [hF hJ2]
      exact key hi (hJ ▸ hJ2)
    · exact key e hJ2
  · show ((updA (iA i) x (vIt v)).map iA).Nodup
    rw [upd_map iA hp hi hA]; exact hp.nd
  · rcases upd_cases hp hi hj with e | ⟨e, -⟩
    · rw [e] at hs ⊢; exact hB hs
    · exact hp.bl e hs
/-- the id of a link's file stays -/
theorem upd_fit (hp : PR v) {i x j j2 : VI} (hi : i ∈ vIt v) (hA : iA x = iA i) (hI : iId x = iId i) (hp2 : PR (vUpd v (iA i) x)) (hj : j ∈ vIt v) (hJ : iIsJ j = true) (hF : iFi j2 = iFi j) : iId (fIt (vUpd v (iA i) x) j2) = iId (fIt v j) := by
  obtain ⟨m1, m2, m3⟩ := fIt_mem hp hj hJ
  by_cases e : fIt v j = i
  · rw [fIt_eq hp2 (j := x) (mem_updS hi) (by rw [hA, ← e, m3, hF]), hI, e]
  · rw [fIt_eq hp2 (j := fIt v j) (upd_keep hp hi m1 e) (by rw [m3, hF])]
/-- an item changes, but not its place, its key, its kind; the slot's blocks change with it -/
theorem RL.upd (h : RL σ v sl) (hp : PR v) {i x : VI} (hi : i ∈ vIt v) {σ' : MS} {u : Nat → Bool} (hA : iA x = iA i) (hI : iId x = iId i) (hFo : iFo x = iFo i) (hNa : iNa x = iNa i) (hD : iIsD x = iIsD i) (hS : iIsS x = iIsS i) (hJ : iIsJ x = iIsJ i) (hF : iIsJ x = true → iFi x = iFi i) (hB : iIsS x = true → iLe x ≤ 48 ∧ ∀ j, iBl x j < 48)
    (f0 : sMo σ' = sMo σ ∧ sNx σ' = sNx σ ∧ sKd σ' = sKd σ ∧ sId σ' = sId σ ∧ sFo σ' = sFo σ ∧ sNa σ' = sNa σ ∧ sTa σ' = sTa σ ∧ sLo σ' = sLo σ) (fM : ∀ q, q ≠ sOf sl i → sMa σ' q = sMa σ q ∧ ∀ j, j < 48 → sLi σ' (48 * q + j) = sLi σ (48 * q + j)) (fX : iIsS x = true → sMa σ' (sOf sl i) = iLe x ∧ ∀ j, j < iLe x → sLi σ' (48 * sOf sl i + j) = iBl x j)
    (fU : ∀ b, b < 48 → u b = mUsed σ' b) (fO : mOk σ') (fC : vMo v = true → (∀ p, p < 40 → ¬ sKd σ p = 0 → sEx σ' p = 0) ∧ sRe σ' = 0 ∧ ∀ b, b < 48 → sTu σ' b = false) : RL σ' (sUs (vUpd v (iA i) x) u) sl ∧ PR (sUs (vUpd v (iA i) x) u) := by
  have hp2 := hp.upd hi hA hS hJ hF hB
  refine ⟨?_, hp2⟩
  obtain ⟨fMo, fNx, fKd, fId, fFo, fNa, fTa, fLo⟩ := f0
  have sx : sOf sl x = sOf sl i := by unfold sOf; rw [hA]
  have hH : iHid x = iHid i := by unfold iHid; rw [hFo]
  have hK : kdI x = kdI i := by unfold kdI; rw [hD, hS, hH]
  have lg : LGm σ' (sUs (vUpd v (iA i) x) u) sl := by
    refine h.lg.cong (fun r => ?_) (fun r _ => ?_)
    · unfold mIsRecord; rw [fKd, fLo]
    · unfold mKey mKeyId mKeyName; rw [fFo, fNa, fId]
  refine ⟨⟨fMo.trans h.mo, fNx.trans h.nx⟩, ⟨?_, fun j hj => ?_, fun q hq hk => ?_⟩, fun j hj => ?_, fU, lg.back, fun hm => ?_, fO⟩
  · show ((updA (iA i) x (vIt v)).map (sOf sl)).Nodup
    rw [upd_map _ hp hi sx]; exact h.snd
  · rcases upd_cases hp hi hj with e | ⟨e, -⟩
    · rw [e, sx]; exact h.slt hi
    · exact h.slt e
  · rw [fKd] at hk
    obtain ⟨j, hj, e⟩ := h.sat hq hk
    by_cases ej : j = i
    · exact ⟨x, mem_updS hi, by rw [sx, ← ej]; exact e⟩
    · exact ⟨j, upd_keep hp hi hj ej, e⟩
  · rcases upd_cases hp hi hj with e | ⟨e, ne⟩
    · have m := h.mt hi
      rw [e, sx]
      refine ⟨⟨by rw [fId, hI]; exact m.id, by rw [fFo, hFo]; exact m.fo, by rw [fNa, hNa]; exact m.na, by rw [fKd, hK]; exact m.kd⟩, fun z => ?_, fX⟩
      rw [fTa, m.ta (hJ ▸ z)]
      exact (upd_fit hp hi hA hI hp2 hi (hJ ▸ z) (hF z)).symm
    · have m := h.mt e
      have hs : sOf sl j ≠ sOf sl i := fun z => ne (sOf_inj h e hi z)
      obtain ⟨g1, g2⟩ := fM _ hs
      refine ⟨⟨by rw [fId]; exact m.id, by rw [fFo]; exact m.fo, by rw [fNa]; exact m.na, by rw [fKd]; exact m.kd⟩, fun z => ?_, fun z => ?_⟩
      · rw [fTa, m.ta z]
        exact (upd_fit hp hi hA hI hp2 e z rfl).symm
      · have hl := (hp.bl e z).1
        rw [g1]
        exact ⟨(m.bl z).1, fun k hk => by rw [g2 k (by omega)]; exact (m.bl z).2 k hk⟩
  · obtain ⟨c1, c2, c3⟩ := fC hm
    refine ⟨fun p hp hk => ⟨c1 p hp (by rw [fKd] at hk; exact hk), ?_⟩, c2, c3⟩
    rw [fKd] at hk
    rw [fLo]
    exact ((h.cln hm).1 p hp hk).2
/-- an item gets another key (and the kind that goes with it) -/
theorem RL.mv (h : RL σ v sl) (hp : PR v) {i : VI} (hi : i ∈ vIt v) {fo na : Int32} {a : Nat} {σ' : MS} (hkey : ∀ j ∈ vIt v, j ≠ i → ¬ (iFo j = fo ∧ iNa j = na)) (hna : ¬ na < 0)
    (f0 : sMo σ' = sMo σ ∧ sNx σ' = sNx σ ∧ sId σ' = sId σ ∧ sTa σ' = sTa σ ∧ sLo σ' = sLo σ ∧ sMa σ' = sMa σ ∧ sLi σ' = sLi σ ∧ sTu σ' = sTu σ ∧ sEx σ' = sEx σ ∧ sRe σ' = sRe σ) (fN : ∀ q, q ≠ sOf sl i → sKd σ' q = sKd σ q ∧ sFo σ' q = sFo σ q ∧ sNa σ' q = sNa σ q) (fX : sKd σ' (sOf sl i) = kdI (iMv i fo na) ∧ sFo σ' (sOf sl i) = fo ∧ sNa σ' (sOf sl i) = na) :
    RL σ' (vRel v (iA i) i fo na a) sl ∧ PR (vRel v (iA i) i fo na a) := by
  obtain ⟨fMo, fNx, fId, fTa, fLo, fMa, fLi, fTu, fEx, fRe⟩ := f0
  generalize hx : iMv i fo na = x at fX
  have hA : iA x = iA i := by rw [← hx]; rfl
  have hI : iId x = iId i := by rw [← hx]; rfl
  have hS : iIsS x = iIsS i := by rw [← hx]; rfl
  have hJ : iIsJ x = iIsJ i := by rw [← hx]; rfl
  have hF : iFi x = iFi i := by rw [← hx]; rfl
  have hFx : iFo x = fo := by rw [← hx]; rfl
  have hNx : iNa x = na := by rw [← hx]; rfl
  have hLx : iLe x = iLe i := by rw [← hx]; rfl
  have hBx : iBl x = iBl i := by rw [← hx]; rfl
  have ed : vIt (vDel v (iA i) false) = vIt v := del_It _ _ _
  have hpd := hp.del (iA i) false
  have hid : i ∈ vIt (vDel v (iA i) false) := by rw [ed]; exact hi
  have hp2 : PR (vUpd (vDel v (iA i) false) (iA i) x) := hpd.upd hid hA hS hJ (fun _ => hF) (fun z => by rw [hLx, hBx]; exact hp.bl hi (hS ▸ z))
  have hxm : x ∈ updA (iA i) x (vIt v) := mem_updS hi
  have hp3 : PR (vRel v (iA i) i fo na a) := by
    unfold vRel
    rw [hx]
    exact hp2.put (n2 := (a, iA i, false)) ⟨x, by show x ∈ updA (iA i) x (vIt (vDel v (iA i) false)); rw [ed]; exact hxm, hA⟩
  refine ⟨?_, hp3⟩
  have sx : sOf sl x = sOf sl i := by unfold sOf; rw [hA]
  have eIt : vIt (vRel v (iA i) i fo na a) = updA (iA i) x (vIt v) := by
    unfold vRel
    rw [hx]
    show updA (iA i) x (vIt (vDel v (iA i) false)) = _
    rw [ed]
  have p0 : sl (iA i) = sOf sl i := rfl
  have ks : Ks (vUpd (vDel v (iA i) false) (iA i) x) sl (mKey σ') := fun j hj => by
    have hj : j ∈ updA (iA i) x (vIt v) := by rw [← ed]; exact hj
    unfold mKey mKeyId mKeyName
    rw [show 2 * sl (iA j) % 2 = 0 by omega, show 2 * sl (iA j) / 2 = sOf sl j by unfold sOf; omega, show (2 * sl (iA j) + 1) % 2 = 1 by omega, show (2 * sl (iA j) + 1) / 2 = sOf sl j by unfold sOf; omega, fId]
    rcases upd_cases hp hi hj with e | ⟨e, ne⟩
    · rw [e, sx, fX.2.1, fX.2.2, (h.mt hi).id, hFx, hNx, hI]; exact ⟨rfl, rfl⟩
    · obtain ⟨-, g2, g3⟩ := fN (sOf sl j) (fun z => ne (sOf_inj h e hi z))
      rw [g2, g3, (h.mt e).fo, (h.mt e).na, (h.mt e).id]; exact ⟨rfl, rfl⟩
  have hinj : ∀ n ∈ vLn v, sl (lI n) = sl (iA i) → lI n = iA i := fun n hn z => by
    obtain ⟨j, hj, e⟩ := hp.ln hn
    rw [← e] at z ⊢
    rw [sOf_inj h hj hi z]
  have lg0 := h.lg.dele (iA i) false hinj
  have r0 : rOf sl (0, iA i, false) = 2 * sOf sl i := rfl
  rw [r0] at lg0
  have lg1 : LG (fun r => (r < 80 ∧ mIsRecord σ r = true) ∧ r ≠ 2 * sOf sl i) (mKey σ') ((vLn (vDel v (iA i) false)).map (rOf sl)) := by
    refine lg0.cong (fun _ => Iff.rfl) (fun r hr => ?_)
    unfold mKey mKeyId mKeyName
    rw [fId]
    by_cases e : r % 2 = 0
    · obtain ⟨-, g2, g3⟩ := fN (r / 2) (fun z => hr.2 (by omega))
      rw [if_pos e, if_pos e, if_pos e, if_pos e, g2, g3]
    · rw [if_neg e, if_neg e, if_neg e, if_neg e]
  have r1 : rOf sl (a, iA i, false) = 2 * sOf sl i := rfl
  have k1 : mKey σ' (2 * sOf sl i) = (fo, na) := by
    unfold mKey mKeyId mKeyName
    rw [if_pos (by omega), if_pos (by omega), show 2 * sOf sl i / 2 = sOf sl i by omega, fX.2.1, fX.2.2]
  have lg2 := LG.put (v := vUpd (vDel v (iA i) false) (iA i) x) lg1 (a, iA i, false) x (by rw [r1]; exact fun z => z.2 rfl) (fun r hr z => by
    rw [r1, k1] at z
    obtain ⟨n, hn, en⟩ := List.mem_map.mp ((lg1.2.1 r).mpr hr)
    obtain ⟨j, hj, ej⟩ := hp2.ln (n := n) hn
    rw [← en, ks.ln hj ej] at z
    unfold lKey lKid lKna at z
    by_cases ht : lT n = true
    · rw [if_pos ht, if_pos ht] at z
      exact neg1 hna ((Prod.mk.inj z).2).symm
    · rw [if_neg ht, if_neg ht] at z
      have hj : j ∈ updA (iA i) x (vIt v) := by rw [← ed]; exact hj
      rcases upd_cases hp hi hj with e | ⟨e, ne⟩
      · refine hr.2 ?_
        rw [← en]
        unfold rOf
        rw [if_neg ht, ← ej, e, hA]
        rfl
      · exact hkey j e ne ⟨(Prod.mk.inj z).1, (Prod.mk.inj z).2⟩) (ks.all hp2) (by rw [r1, k1]; show _ = (iFo x, iNa x); rw [hFx, hNx])
  rw [r1] at lg2
  have hrec : mIsRecord σ (2 * sOf sl i) = true := by
    unfold mIsRecord
    rw [decide_eq_true_iff, show 2 * sOf sl i / 2 = sOf sl i by omega, (h.mt hi).kd]
    exact ⟨kdI_ne i, Or.inl (by omega)⟩
  have hkd : ∀ q, sKd σ' q = 0 ↔ sKd σ q = 0 := fun q => by
    by_cases e : q = sOf sl i
    · rw [e, fX.1, (h.mt hi).kd]
      exact ⟨fun z => absurd z (kdI_ne _), fun z => absurd z (kdI_ne _)⟩
    · rw [(fN q e).1]
  have lg3 : LGm σ' (vRel v (iA i) i fo na a) sl := by
    unfold vRel
    rw [hx]
    refine lg2.cong (fun r => ?_) (fun _ _ => rfl)
    have rq : mIsRecord σ' r = mIsRecord σ r := by
      unfold mIsRecord
      rw [Bool.eq_iff_iff, decide_eq_true_iff, decide_eq_true_iff, hkd, fLo]
    rw [rq]
    constructor
    · rintro (z | z)
      · exact z.1
      · rw [z]; exact ⟨by have := h.slt hi; omega, hrec⟩
    · intro z
      by_cases e : r = 2 * sOf sl i
      · exact Or.inr e
      · exact Or.inl ⟨z, e⟩
  have hF2 : ∀ q, mIsF σ' q = mIsF σ q := fun q => by
    unfold mIsF
    by_cases e : q = sOf sl i
    · rw [e, fX.1, (h.mt hi).kd, kd_isS, kd_isS, hS]
    · rw [(fN q e).1]
  have hlist : ∀ b, mListed σ' b = mListed σ b := fun b => by
    unfold mListed
    refine anF_cong _ _ (fun q _ _ => ?_)
    rw [hF2]
    unfold mHas
    rw [fMa, fLi]
  unfold RL
  rw [eIt]
  have hdi := del_it v (iA i) false
  refine ⟨⟨fMo.trans (h.mo.trans ?_), fNx.trans (h.nx.trans ?_)⟩, ⟨?_, fun j hj => ?_, fun q hq hk => ?_⟩, fun j hj => ?_, fun b hb => ?_, lg3.back, fun hm => ?_, ?_⟩
  · show _ = (vDel v (iA i) false).2.2.2.1; rw [hdi.2]; rfl
  · show _ = (vDel v (iA i) false).2.2.2.2.1; rw [hdi.2]; rfl
  · rw [upd_map _ hp hi sx]; exact h.snd
  · rcases upd_cases hp hi hj with e | ⟨e, -⟩
    · rw [e, sx]; exact h.slt hi
    · exact h.slt e
  · rw [hkd] at hk
    obtain ⟨j, hj, e⟩ := h.sat hq hk
    by_cases ej : j = i
    · exact ⟨x, hxm, by rw [sx, ← ej]; exact e⟩
    · exact ⟨j, upd_keep hp hi hj ej, e⟩
  · have fit : ∀ {j j2 : VI}, j ∈ vIt v → iIsJ j = true → iFi j2 = iFi j → iId (fIt (vRel v (iA i) i fo na a) j2) = iId (fIt v j) := fun {j j2} hj hJ hF => by
      obtain ⟨m1, m2, m3⟩ := fIt_mem hp hj hJ
      by_cases e : fIt v j = i
      · rw [fIt_eq hp3 (j := x) (by rw [eIt]; exact hxm) (by rw [hA, ← e, m3, hF]), hI, e]
      · rw [fIt_eq hp3 (j := fIt v j) (by rw [eIt]; exact upd_keep hp hi m1 e) (by rw [m3, hF])]
    rcases upd_cases hp hi hj with e | ⟨e, ne⟩
    · have m := h.mt hi
      rw [e, sx]
      refine ⟨⟨by rw [fId, hI]; exact m.id, by rw [fX.2.1, hFx], by rw [fX.2.2, hNx], fX.1⟩, fun z => ?_, fun z => ?_⟩
      · rw [fTa, m.ta (hJ ▸ z)]
        exact (fit hi (hJ ▸ z) hF).symm
      · rw [fMa, fLi, hLx, hBx]; exact m.bl (hS ▸ z)
    · have m := h.mt e
      obtain ⟨g1, g2, g3⟩ := fN _ (fun z => ne (sOf_inj h e hi z))
      refine ⟨⟨by rw [fId]; exact m.id, by rw [g2]; exact m.fo, by rw [g3]; exact m.na, by rw [g1]; exact m.kd⟩, fun z => ?_, fun z => ?_⟩
      · rw [fTa, m.ta z]
        exact (fit e z rfl).symm
      · rw [fMa, fLi]; exact m.bl z
  · rw [mUsed_cong (hlist b) (by rw [fTu])]
    show (vDel v (iA i) false).2.2.1 b = _
    rw [hdi.2]
    exact h.us hb
  · have hm : vMo v = true := by
      have : (vDel v (iA i) false).2.2.2.1 = true := hm
      rw [hdi.2] at this
      exact this
    obtain ⟨c1, c2, c3⟩ := h.cln hm
    refine ⟨fun q hq hk => ?_, by rw [fRe]; exact c2, fun b hb => by rw [fTu]; exact c3 b hb⟩
    rw [hkd] at hk
    rw [fEx, fLo]; exact c1 q hq hk
  · exact ⟨fun q => by rw [fMa]; exact h.ok.1 q, fun j => by rw [fLi]; exact h.ok.2 j⟩
end UPD
/-- the blocks of the file i from place k on (m of them) are used no more -/
def usF (i : VI) : Nat → Nat → (Nat → Bool) → (Nat → Bool)
  | 0, _, u => u
  | m + 1, k, u => usF i m (k + 1) (va_up u (iBl i k) false)
theorem usF_val (i : VI) (b : Nat) : ∀ (m k : Nat) (u : Nat → Bool), usF i m k u b = (u b && !anF (fun j => decide (iBl i j = b)) m k) := by
  intro m
  induction m with
  | zero => intro k u; rw [usF, anF]; simp
  | succ m ih =>
    intro k u
    rw [usF, ih, anF]
    by_cases e : iBl i k = b
    · rw [if_pos (decide_eq_true e), ← e, va_up_self]; simp
    · rw [if_neg (by simpa using e), va_up_ne _ _ (Ne.symm e)]
section REM
variable {σ : MS} {v : VS} {sl : Nat → Nat} {c : Nat}
theorem PR.rem (hp : PR v) {i : VI} (hln : ∀ n ∈ vLn (vDel (vDel v (iA i) false) (iA i) true), ¬ lI n = iA i) (hnl : ∀ j ∈ vIt v, iIsJ j = true → ¬ iFi j = iA i) : PR (vRem v (iA i)) := by
  have mem : ∀ {j : VI}, j ∈ (vIt v).filter (fun k => !decide (iA k = iA i)) ↔ j ∈ vIt v ∧ ¬ iA j = iA i := fun {j} => by rw [List.mem_filter]; simp
  refine ⟨fun n hn => ?_, fun j hj hJ => ?_, ?_, fun j hj hs => hp.bl (mem.mp hj).1 hs⟩
  · obtain ⟨j, h1, h2⟩ := hp.ln (del_mem (del_mem hn))
    exact ⟨j, mem.mpr ⟨h1, fun z => hln n hn (by rw [← h2, z])⟩, h2⟩
  · obtain ⟨k, h1, h2, h3⟩ := hp.lk (mem.mp hj).1 hJ
    exact ⟨k, mem.mpr ⟨h1, fun z => hnl j (mem.mp hj).1 hJ (by rw [← h3, z])⟩, h2, h3⟩
  · exact hp.nd.sublist (List.filter_sublist.map _)
/-- the reference drops what the class drops -/
theorem RL.rem (h : RL σ v sl) (hp : PR v) {i : VI} (hi : i ∈ vIt v) {u : Nat → Bool} (hnl : ∀ j ∈ vIt v, iIsJ j = true → ¬ iFi j = iA i) (fU : ∀ b, b < 48 → u b = mUsed (mDrop σ (sOf sl i)) b) :
    RL (mDrop σ (sOf sl i)) (sUs (vRem v (iA i)) u) sl ∧ PR (sUs (vRem v (iA i)) u) := by
  have mem : ∀ {j : VI}, j ∈ (vIt v).filter (fun k => !decide (iA k = iA i)) ↔ j ∈ vIt v ∧ j ≠ i := fun {j} => by
    rw [List.mem_filter]
    constructor
    · rintro ⟨z1, z2⟩
      exact ⟨z1, fun z => by rw [z] at z2; simp at z2⟩
    · rintro ⟨z1, z2⟩
      exact ⟨z1, by simp only [Bool.not_eq_true', decide_eq_false_iff_not]; exact fun z => z2 (iA_inj hp.nd z1 hi z)⟩
  have hinj : ∀ n ∈ vLn v, sl (lI n) = sl (iA i) → lI n = iA i := fun n hn z => by
    obtain ⟨j, hj, e⟩ := hp.ln hn
    rw [← e] at z ⊢
    rw [sOf_inj h hj hi z]
  have lg0 := h.lg.dele (iA i) false hinj
  have lg1 := LG.dele (v := vDel v (iA i) false) lg0 (iA i) true (fun n hn => hinj n (del_mem hn))
  rw [show rOf sl (0, iA i, false) = 2 * sOf sl i from rfl, show rOf sl (0, iA i, true) = 2 * sOf sl i + 1 from rfl] at lg1
  have hln : ∀ n ∈ vLn (vDel (vDel v (iA i) false) (iA i) true), ¬ lI n = iA i := fun n hn z => by
    have := (lg1.2.1 (rOf sl n)).mp (List.mem_map.mpr ⟨n, hn, rfl⟩)
    have e : rOf sl n / 2 = sOf sl i := by rw [rOf_div, z]; rfl
    have h1 := this.1.2
    have h2 := this.2
    omega
  have hp3 : PR (sUs (vRem v (iA i)) u) := hp.rem hln hnl
  refine ⟨?_, hp3⟩
  have fKd : sKd (mDrop σ (sOf sl i)) = va_up (sKd σ) (sOf sl i) 0 := rfl
  generalize hσ : mDrop σ (sOf sl i) = σ' at fKd fU
  have fId : sId σ' = sId σ := by rw [← hσ]; rfl
  have fFo : sFo σ' = sFo σ := by rw [← hσ]; rfl
  have fNa : sNa σ' = sNa σ := by rw [← hσ]; rfl
  have fTa : sTa σ' = sTa σ := by rw [← hσ]; rfl
  have fEx : sEx σ' = sEx σ := by rw [← hσ]; rfl
  have fLo : sLo σ' = sLo σ := by rw [← hσ]; rfl
  have fMa : sMa σ' = sMa σ := by rw [← hσ]; rfl
  have fLi : sLi σ' = sLi σ := by rw [← hσ]; rfl
  have fTu : sTu σ' = sTu σ := by rw [← hσ]; rfl
  have fRe : sRe σ' = sRe σ := by rw [← hσ]; rfl
  have fMo : sMo σ' = sMo σ := by rw [← hσ]; rfl
  have fNx : sNx σ' = sNx σ := by rw [← hσ]; rfl
  have hdi := del_it v (iA i) false
  have hdi2 := del_it (vDel v (iA i) false) (iA i) true
  have lg3 : LGm σ' (sUs (vRem v (iA i)) u) sl := by
    refine lg1.cong (fun r => ?_) (fun r _ => ?_)
    · unfold mIsRecord
      rw [decide_eq_true_iff, decide_eq_true_iff, fKd, fLo]
      by_cases e : r / 2 = sOf sl i
      · rw [e, va_up_self]
        constructor
        · rintro ⟨⟨_, z1⟩, z2⟩; omega
        · rintro ⟨_, z, _⟩; exact absurd rfl z
      · rw [va_up_ne _ _ e]
        exact ⟨fun z => z.1.1, fun z => ⟨⟨z, by omega⟩, by omega⟩⟩
    · unfold mKey mKeyId mKeyName; rw [fFo, fNa, fId]
  refine ⟨⟨fMo.trans (h.mo.trans ?_), fNx.trans (h.nx.trans ?_)⟩, ⟨?_, fun j hj => h.slt (mem.mp hj).1, fun q hq hk => ?_⟩, fun j hj => ?_, fU, lg3.back, fun hm => ?_, ?_⟩
  · show _ = (vDel (vDel v (iA i) false) (iA i) true).2.2.2.1; rw [hdi2.2, hdi.2]; rfl
  · show _ = (vDel (vDel v (iA i) false) (iA i) true).2.2.2.2.1; rw [hdi2.2, hdi.2]; rfl
  · exact h.snd.sublist (List.filter_sublist.map _)
  · rw [fKd] at hk
    by_cases e : q = sOf sl i
    · rw [e, va_up_self] at hk; exact absurd rfl hk
    · rw [va_up_ne _ _ e] at hk
      obtain ⟨j, hj, ej⟩ := h.sat hq hk
      exact ⟨j, mem.mpr ⟨hj, fun z => e (by rw [← ej, z])⟩, ej⟩
  · obtain ⟨h1, h2⟩ := mem.mp hj
    have m := h.mt h1
    refine ⟨⟨by rw [fId]; exact m.id, by rw [fFo]; exact m.fo, by rw [fNa]; exact m.na, by rw [fKd, va_up_ne _ _ (fun z => h2 (sOf_inj h h1 hi z))]; exact m.kd⟩, fun z => ?_, fun z => ?_⟩
    · obtain ⟨q1, q2, q3⟩ := fIt_mem hp h1 z
      rw [fTa, m.ta z, fIt_eq hp3 (j := fIt v j) (mem.mpr ⟨q1, fun w => hnl j h1 z (by rw [← q3, w])⟩) q3]
    · rw [fMa, fLi]; exact m.bl z
  · have hm : vMo v = true := by
      have : (vDel (vDel v (iA i) false) (iA i) true).2.2.2.1 = true := hm
      rw [hdi2.2, hdi.2] at this
      exact this
    obtain ⟨c1, c2, c3⟩ := h.cln hm
    refine ⟨fun q hq hk => ?_, by rw [fRe]; exact c2, fun b hb => by rw [fTu]; exact c3 b hb⟩
    rw [fEx, fLo]
    refine c1 q hq (fun z => hk ?_)
    rw [fKd]
    by_cases e : q = sOf sl i
    · rw [e, va_up_self]
    · rw [va_up_ne _ _ e]; exact z
  · exact ⟨fun q => by rw [fMa]; exact h.ok.1 q, fun j => by rw [fLi]; exact h.ok.2 j⟩
-- which blocks are listed
theorem sHas_iff {i : VI} {b : Nat} : sHas i b = true ↔ ∃ a, a < iLe i ∧ iBl i a = b := by
  unfold sHas
  rw [anF_iff]
  exact ⟨fun ⟨a, _, h2, h3⟩ => ⟨a, by omega, of_decide_eq_true h3⟩, fun ⟨a, h1, h2⟩ => ⟨a, by omega, by omega, decide_eq_true h2⟩⟩
theorem mListed_iff {b : Nat} : mListed σ b = true ↔ ∃ p, p < 40 ∧ mIsF σ p = true ∧ mHas σ b p = true := by
  unfold mListed
  rw [anF_iff]
  exact ⟨fun ⟨a, _, h2, h3⟩ => ⟨a, by omega, by simpa using h3⟩, fun ⟨a, h1, h2⟩ => ⟨a, by omega, by omega, by simpa using h2⟩⟩
theorem mUsed_cl {b : Nat} (h : sTu σ b = false) : mUsed σ b = mListed σ b := by
  unfold mUsed; rw [h]; cases mListed σ b <;> decide
/-- blocks of the dropped file -/
theorem RL.dropU (h : RL σ v sl) (g : VG v c) {i : VI} (hi : i ∈ vIt v) (hm : vMo v = true) : ∀ b, b < 48 → (vUs v b && !(iIsS i && sHas i b)) = mUsed (mDrop σ (sOf sl i)) b := fun b hb => by
  have ht := (h.cln hm).2.2 b hb
  rw [h.us hb, mUsed_cl ht, mUsed_cl (σ := mDrop σ (sOf sl i)) ht, Bool.eq_iff_iff, h.listed, Bool.and_eq_true, vListed_iff, mListed_iff]
  have fKd : ∀ q, q ≠ sOf sl i → mIsF (mDrop σ (sOf sl i)) q = mIsF σ q := fun q hq => by
    have e : sKd (mDrop σ (sOf sl i)) q = sKd σ q := va_up_ne _ _ hq
    unfold mIsF
    rw [e]
  constructor
  · rintro ⟨⟨j, hj, h1, h2⟩, h3⟩
    have ne : j ≠ i := fun z => by rw [← z, h1, h2] at h3; cases h3
    have hs : sOf sl j ≠ sOf sl i := fun z => ne (sOf_inj h hj hi z)
    exact ⟨sOf sl j, h.slt hj, by rw [fKd _ hs, h.isF hj]; exact h1, by show mHas σ b (sOf sl j) = true; rw [h.has hj h1]; exact h2⟩
  · rintro ⟨p, hp, h1, h2⟩
    have ne : p ≠ sOf sl i := fun z => by
      refine isF0 h1 ?_
      show va_up (sKd σ) (sOf sl i) 0 p = 0
      rw [z, va_up_self]
    rw [fKd _ ne] at h1
    obtain ⟨j, hj, ej⟩ := h.sat hp (isF0 h1)
    subst ej
    rw [h.isF hj] at h1
    have h2 : mHas σ b (sOf sl j) = true := h2
    rw [h.has hj h1] at h2
    refine ⟨⟨j, hj, h1, h2⟩, ?_⟩
    by_cases hs : iIsS i = true
    · by_cases h4 : sHas i b = true
      · obtain ⟨a1, b1, b2⟩ := sHas_iff.mp h2
        obtain ⟨a3, b3, b4⟩ := sHas_iff.mp h4
        exact absurd (by rw [(g.bl hj hi h1 hs b1 b3 (b2.trans b4.symm)).1]) ne
      · simp [h4]
    · simp [hs]
theorem dropU_us (i : VI) (u : Nat → Bool) (hs : iIsS i = true) : (fun b => u b && !(iIsS i && sHas i b)) = usF i (iLe i) 0 u := by
  funext b
  rw [usF_val, hs]
  rfl
theorem dropU_n (i : VI) (u : Nat → Bool) (hs : iIsS i = false) : (fun b => u b && !(iIsS i && sHas i b)) = u := by
  funext b
  rw [hs]; simp
end REM
section CNT
theorem rem_cnt (P : VI → Bool) {i : VI} : ∀ l : List VI, (l.map iA).Nodup → i ∈ l → (l.filter (fun k => !decide (iA k = iA i))).countP P + (if P i = true then 1 else 0) = l.countP P := by
  intro l
  induction l with
  | nil => intro _ h; cases h
  | cons a l ih =>
    intro hn hi
    rw [List.map_cons, List.nodup_cons] at hn
    by_cases e : iA a = iA i
    · have hia : a = i := by
        rcases List.mem_cons.mp hi with z | z
        · exact z.symm
        · exact absurd (by rw [e]; exact List.mem_map.mpr ⟨i, z, rfl⟩) hn.1
      have hf : l.filter (fun k => !decide (iA k = iA i)) = l := List.filter_eq_self.mpr (fun k hk => by
        simp only [Bool.not_eq_true', decide_eq_false_iff_not]
        exact fun z => hn.1 (by rw [e, ← z]; exact List.mem_map.mpr ⟨k, hk, rfl⟩))
      rw [List.filter_cons_of_neg (by simp [e]), hf, List.countP_cons, hia]
    · have hi' : i ∈ l := by
        rcases List.mem_cons.mp hi with z | z
        · exact absurd (by rw [z]) e
        · exact z
      rw [List.filter_cons_of_pos (by simp [e]), List.countP_cons, List.countP_cons, ← ih hn.2 hi']
      omega
theorem upd_cnt2 (P : VI → Bool) {i x : VI} : ∀ l : List VI, (l.map iA).Nodup → i ∈ l → (updA (iA i) x l).countP P + (if P i = true then 1 else 0) = l.countP P + (if P x = true then 1 else 0) := by
  intro l
  induction l with
  | nil => intro _ h; cases h
  | cons a l ih =>
    intro hn hi
    rw [List.map_cons, List.nodup_cons] at hn
    have hc : updA (iA i) x (a :: l) = (if iA a = iA i then x else a) :: updA (iA i) x l := rfl
    rw [hc, List.countP_cons, List.countP_cons]
    by_cases e : iA a = iA i
    · have hia : a = i := by
        rcases List.mem_cons.mp hi with z | z
        · exact z.symm
        · exact absurd (by rw [e]; exact List.mem_map.mpr ⟨i, z, rfl⟩) hn.1
      have hf : updA (iA i) x l = l := by
        unfold updA
        refine (List.map_congr_left (g := id) (fun k hk => ?_)).trans (List.map_id l)
        exact if_neg (fun z => hn.1 (by rw [e, ← z]; exact List.mem_map.mpr ⟨k, hk, rfl⟩))
      rw [if_pos e, hf, hia]
      omega
    · have hi' : i ∈ l := by
        rcases List.mem_cons.mp hi with z | z
        · exact absurd (by rw [z]) e
        · exact z
      rw [if_neg e]
      have := ih hn.2 hi'
      omega
end CNT
theorem eIn_n (v : VS) (fo : Int32) : vEntriesIn v fo = nI ((vIt v).countP (fun i => decide (iFo i = fo))) := cnV v (fun i => decide (iFo i = fo))
theorem lFor_n (v : VS) (q : Nat) : vLinksFor v q = nI ((vIt v).countP (fun i => decide (iIsJ i = true ∧ iFi i = q))) := cnV v (fun i => decide (iIsJ i = true ∧ iFi i = q))
theorem nI_sub1 {a b : Nat} {P : Prop} [Decidable P] (h : a + (if P then 1 else 0) = b) : nI a = nI b - (if P then 1 else 0) := by
  by_cases hp : P
  · rw [if_pos hp] at h ⊢
    rw [← h, ← nI_1, Int32.add_sub_cancel]
  · rw [if_neg hp] at h ⊢
    rw [← h]; simp
/-- the kept counts, with what is still owed -/
def KD (σ : MS) (v : VS) (sl : Nat → Nat) (c : Nat) (dE : Int32 → Int32) (dL : Nat → Int32) : Prop :=
  (∀ i ∈ vIt v, ∃ e, e ≤ c ∧ sEx σ (sOf sl i) = nI e ∧ (iIsD i = true → iEn i = vEntriesIn v (iId i) + nI e + dE (iId i)) ∧ (iIsS i = true → iLk i = vLinksFor v (iA i) + nI e + dL (iA i) ∧ (iHid i = false → e = 0)) ∧ (iIsJ i = true → e = 0)) ∧
  (∃ e, e ≤ c ∧ sRe σ = nI e ∧ vRe v = vEntriesIn v 2 + nI e + dE 2)
section KDS
variable {σ : MS} {v : VS} {sl : Nat → Nat} {c : Nat} {dE : Int32 → Int32} {dL : Nat → Int32}
theorem KC.kd (h : KC σ v sl c) : KD σ v sl c (fun _ => 0) (fun _ => 0) := by
  refine ⟨fun i hi => ?_, ?_⟩
  · obtain ⟨e, h1, h2, h3, h4, h5⟩ := h.1 i hi
    exact ⟨e, h1, h2, fun z => by rw [h3 z]; simp, fun z => ⟨by rw [(h4 z).1]; simp, (h4 z).2⟩, h5⟩
  · obtain ⟨e, h1, h2, h3⟩ := h.2
    exact ⟨e, h1, h2, by rw [h3]; simp⟩
theorem KD.kc {c2 : Nat} (h : KD σ v sl c dE dL) (hc : c ≤ c2) (hE : ∀ x, dE x = 0) (hL : ∀ q, dL q = 0) : KC σ v sl c2 := by
  refine ⟨fun i hi => ?_, ?_⟩
  · obtain ⟨e, h1, h2, h3, h4, h5⟩ := h.1 i hi
    exact ⟨e, by omega, h2, fun z => by rw [h3 z, hE]; simp, fun z => ⟨by rw [(h4 z).1, hL]; simp, (h4 z).2⟩, h5⟩
  · obtain ⟨e, h1, h2, h3⟩ := h.2
    exact ⟨e, by omega, h2, by rw [h3, hE]; simp⟩
/-- another reference's state with the same extras, another class's state with the same items, counts and root -/
theorem KD.same {σ' : MS} {v' : VS} (h : KD σ v sl c dE dL) (hI : vIt v' = vIt v) (hR : vRe v' = vRe v) (hx : ∀ i ∈ vIt v, sEx σ' (sOf sl i) = sEx σ (sOf sl i)) (hr : sRe σ' = sRe σ) : KD σ' v' sl c dE dL := by
  refine ⟨fun i hi => ?_, ?_⟩
  · rw [hI] at hi
    obtain ⟨e, h1, h2, h3, h4, h5⟩ := h.1 i hi
    refine ⟨e, h1, (hx i hi).trans h2, fun z => ?_, fun z => ?_, h5⟩
    · rw [eIn_n, hI, ← eIn_n]; exact h3 z
    · rw [lFor_n, hI, ← lFor_n]; exact h4 z
  · obtain ⟨e, h1, h2, h3⟩ := h.2
    exact ⟨e, h1, hr.trans h2, by rw [eIn_n, hI, ← eIn_n, hR]; exact h3⟩
theorem KD.add {σ' : MS} {v' : VS} {sl' : Nat → Nat} {i : VI} (h : KD σ v sl c dE dL) (hp : PR v) (g : VG v c) (hI : vIt v' = vIt v ++ [i]) (hR : vRe v' = vRe v) (hs : ∀ j ∈ vIt v, sOf sl' j = sOf sl j ∧ sEx σ' (sOf sl j) = sEx σ (sOf sl j)) (hsi : sEx σ' (sOf sl' i) = 0) (hr : sRe σ' = sRe σ)
    (ha : iA i ∉ (vIt v).map iA) (hnew : ∀ j ∈ vIt v, ¬ iId j = iId i) (h16 : ¬ iId i = 2 ∧ ¬ iId i = 3) (hfo : ¬ iFo i = iId i) (hE0 : iIsD i = true → iEn i = 0 ∧ dE (iId i) = 0) (hL0 : iIsS i = true → iLk i = 0 ∧ dL (iA i) = 0) :
    KD σ' v' sl' c (fun x => dE x - (if iFo i = x then 1 else 0)) (fun q => dL q - (if iIsJ i = true ∧ iFi i = q then 1 else 0)) := by
  have eE : ∀ x, vEntriesIn v' x = vEntriesIn v x + (if iFo i = x then 1 else 0) := fun x => by
    rw [eIn_n, eIn_n, hI, List.countP_append, ← nI_add, List.countP_cons, List.countP_nil, Nat.zero_add]
    by_cases e : iFo i = x
    · rw [if_pos e, if_pos (by simpa using e)]; rfl
    · rw [if_neg e, if_neg (by simpa using e)]; rfl
  have eL : ∀ q, vLinksFor v' q = vLinksFor v q + (if iIsJ i = true ∧ iFi i = q then 1 else 0) := fun q => by
    rw [lFor_n, lFor_n, hI, List.countP_append, ← nI_add, List.countP_cons, List.countP_nil, Nat.zero_add]
    by_cases e : iIsJ i = true ∧ iFi i = q
    · rw [if_pos e, if_pos (by simpa using e)]; rfl
    · rw [if_neg e, if_neg (by simpa using e)]; rfl
  have ar : ∀ a b d k : Int32, a + b + d = a + k + b + (d - k) := fun a b d k => by
    rw [Int32.add_assoc a k b, Int32.add_comm k b, ← Int32.add_assoc, Int32.add_assoc (a + b) k, Int32.add_comm k, Int32.sub_add_cancel]
  refine ⟨fun j hj => ?_, ?_⟩
  · rw [hI] at hj
    rcases List.mem_append.mp hj with hj | hj
    · obtain ⟨e, h1, h2, h3, h4, h5⟩ := h.1 j hj
      refine ⟨e, h1, by rw [(hs j hj).1, (hs j hj).2]; exact h2, fun z => ?_, fun z => ⟨?_, (h4 z).2⟩, h5⟩
      · rw [eE, h3 z]; exact ar _ _ _ _
      · rw [eL, (h4 z).1]; exact ar _ _ _ _
    · have hj := List.mem_singleton.mp hj
      subst hj
      refine ⟨0, Nat.zero_le _, by rw [hsi]; rfl, fun z => ?_, fun z => ⟨?_, fun _ => rfl⟩, fun _ => rfl⟩
      · have : vEntriesIn v (iId j) = 0 := by
          rw [eIn_n, List.countP_eq_zero.mpr]
          · rfl
          · intro k hk hq
            have hq := of_decide_eq_true hq
            rcases g.fo hk with w | ⟨-, w | ⟨k2, w1, w2, w3⟩⟩
            · have : iFo k = 3 := of_decide_eq_true w.2.1
              exact h16.2 (by rw [← hq, this])
            · exact h16.1 (by rw [← hq, w])
            · exact hnew k2 w1 (by rw [w3, hq])
        show iEn j = vEntriesIn v' (iId j) + nI 0 + (dE (iId j) - (if iFo j = iId j then 1 else 0))
        rw [eE, this, if_neg hfo, (hE0 z).1, (hE0 z).2]
        decide
      · have : vLinksFor v (iA j) = 0 := by
          rw [lFor_n, List.countP_eq_zero.mpr]
          · rfl
          · intro k hk hq
            have hq := of_decide_eq_true hq
            obtain ⟨k2, w1, w2, w3⟩ := hp.lk hk hq.1
            exact ha (List.mem_map.mpr ⟨k2, w1, by rw [w3, hq.2]⟩)
        have nj : ¬ (iIsJ j = true ∧ iFi j = iA j) := fun w => by
          rcases i3 j with ⟨q1, q2, q3⟩ | ⟨q1, q2, q3⟩ | ⟨q1, q2, q3⟩
          · rw [q2] at z; cases z
          · rw [q3] at w; cases w.1
          · rw [q2] at z; cases z
        show iLk j = vLinksFor v' (iA j) + nI 0 + (dL (iA j) - (if iIsJ j = true ∧ iFi j = iA j then 1 else 0))
        rw [eL, this, if_neg nj, (hL0 z).1, (hL0 z).2]
        decide
  · obtain ⟨e, h1, h2, h3⟩ := h.2
    exact ⟨e, h1, hr.trans h2, by rw [eE, hR, h3]; exact ar _ _ _ _⟩
theorem KD.rem {σ' : MS} {v' : VS} {i : VI} (h : KD σ v sl c dE dL) (hp : PR v) (hi : i ∈ vIt v) (hI : vIt v' = (vIt v).filter (fun k => !decide (iA k = iA i))) (hR : vRe v' = vRe v) (hx : ∀ j ∈ vIt v, sEx σ' (sOf sl j) = sEx σ (sOf sl j)) (hr : sRe σ' = sRe σ) :
    KD σ' v' sl c (fun x => dE x + (if iFo i = x then 1 else 0)) (fun q => dL q + (if iIsJ i = true ∧ iFi i = q then 1 else 0)) := by
  have eE : ∀ x, vEntriesIn v' x = vEntriesIn v x - (if iFo i = x then 1 else 0) := fun x => by
    rw [eIn_n, eIn_n, hI]
    refine nI_sub1 ?_
    have := rem_cnt (fun k => decide (iFo k = x)) (vIt v) hp.nd hi
    simp only [decide_eq_true_iff] at this
    exact this
  have eL : ∀ q, vLinksFor v' q = vLinksFor v q - (if iIsJ i = true ∧ iFi i = q then 1 else 0) := fun q => by
    rw [lFor_n, lFor_n, hI]
    refine nI_sub1 ?_
    have := rem_cnt (fun k => decide (iIsJ k = true ∧ iFi k = q)) (vIt v) hp.nd hi
    simp only [decide_eq_true_iff] at this
    exact this
  have ar : ∀ a b d k : Int32, a + b + d = a - k + b + (d + k) := fun a b d k => by
    simp only [Int32.sub_eq_add_neg]
    rw [show a + -k + b + (d + k) = (a + b + d) + (k + -k) by ac_rfl, ← Int32.sub_eq_add_neg, Int32.sub_self]
    simp
  refine ⟨fun j hj => ?_, ?_⟩
  · rw [hI] at hj
    have hj := (List.mem_filter.mp hj).1
    obtain ⟨e, h1, h2, h3, h4, h5⟩ := h.1 j hj
    refine ⟨e, h1, (hx j hj).trans h2, fun z => ?_, fun z => ⟨?_, (h4 z).2⟩, h5⟩
    · rw [eE, h3 z]; exact ar _ _ _ _
    · rw [eL, (h4 z).1]; exact ar _ _ _ _
  · obtain ⟨e, h1, h2, h3⟩ := h.2
    exact ⟨e, h1, hr.trans h2, by rw [eE, hR, h3]; exact ar _ _ _ _⟩
/-- an item is another one: key, entries, links may differ -/
theorem KD.upd {σ' : MS} {v' : VS} {i x : VI} (h : KD σ v sl c dE dL) (hp : PR v) (g : VG v c) (hi : i ∈ vIt v) (hI : vIt v' = updA (iA i) x (vIt v)) (hR : vRe v' = vRe v) (hx : ∀ j ∈ vIt v, sEx σ' (sOf sl j) = sEx σ (sOf sl j)) (hr : sRe σ' = sRe σ)
    (hA : iA x = iA i) (hId : iId x = iId i) (hD : iIsD x = iIsD i) (hS : iIsS x = iIsS i) (hJ : iIsJ x = iIsJ i) (hF : iFi x = iFi i) (hH : iHid x = false → iHid i = false) (h2 : ¬ iId i = 2) :
    KD σ' v' sl c (fun y => dE y + (if iFo i = y then 1 else 0) - (if iFo x = y then 1 else 0) + (if iIsD i = true ∧ iId i = y then iEn x - iEn i else 0)) (fun q => dL q + (if iIsS i = true ∧ iA i = q then iLk x - iLk i else 0)) := by
  have eE : ∀ y, vEntriesIn v' y = vEntriesIn v y - (if iFo i = y then 1 else 0) + (if iFo x = y then 1 else 0) := fun y => by
    rw [eIn_n, eIn_n, hI]
    have := upd_cnt2 (x := x) (fun k => decide (iFo k = y)) (vIt v) hp.nd hi
    simp only [decide_eq_true_iff] at this
    have h3 := congrArg nI this
    rw [← nI_add, ← nI_add] at h3
    have e : ∀ (P : Prop) [Decidable P], nI (if P then 1 else 0) = if P then (1 : Int32) else 0 := fun P _ => by split <;> rfl
    rw [e, e] at h3
    rw [← Int32.add_sub_cancel (nI _) (if iFo i = y then 1 else 0), h3, Int32.sub_eq_add_neg, Int32.sub_eq_add_neg, Int32.add_assoc, Int32.add_assoc, Int32.add_comm (if iFo x = y then 1 else 0)]
  have eL : ∀ q, vLinksFor v' q = vLinksFor v q := fun q => by
    rw [lFor_n, lFor_n, hI, upd_cnt _ hp hi (by rw [hJ, hF])]
  have ar : ∀ a b d k m : Int32, a + b + d = a - k + m + b + (d + k - m) := fun a b d k m => by
    simp only [Int32.sub_eq_add_neg]
    rw [show a + -k + m + b + (d + k + -m) = (a + b + d) + (k + -k) + (m + -m) by ac_rfl, ← Int32.sub_eq_add_neg, ← Int32.sub_eq_add_neg, Int32.sub_self, Int32.sub_self]
    simp
  refine ⟨fun j hj => ?_, ?_⟩
  · rw [hI] at hj
    rcases upd_cases hp hi hj with e | ⟨e, ne⟩
    · subst e
      obtain ⟨e, h1, h2, h3, h4, h5⟩ := h.1 i hi
      refine ⟨e, h1, by unfold sOf; rw [hA]; exact (hx i hi).trans h2, fun z => ?_, fun z => ⟨?_, fun w => (h4 (hS ▸ z)).2 (hH w)⟩, fun z => h5 (hJ ▸ z)⟩
      · dsimp only
        rw [eE, hId, if_pos (show iIsD i = true ∧ iId i = iId i from ⟨hD ▸ z, rfl⟩), ← Int32.add_assoc, ← ar, ← h3 (hD ▸ z), Int32.add_comm, Int32.sub_add_cancel]
      · dsimp only
        rw [eL, hA, if_pos (show iIsS i = true ∧ iA i = iA i from ⟨hS ▸ z, rfl⟩), ← Int32.add_assoc, ← (h4 (hS ▸ z)).1, Int32.add_comm, Int32.sub_add_cancel]
    · obtain ⟨e1, h1, h2, h3, h4, h5⟩ := h.1 j e
      refine ⟨e1, h1, (hx j e).trans h2, fun z => ?_, fun z => ⟨?_, (h4 z).2⟩, h5⟩
      · have nd : ¬ (iIsD i = true ∧ iId i = iId j) := fun w => ne (id_inj g e hi w.2.symm)
        dsimp only
        rw [eE, if_neg nd, h3 z, show ∀ y : Int32, y + 0 = y by simp, ← ar]
      · have nd : ¬ (iIsS i = true ∧ iA i = iA j) := fun w => ne (iA_inj hp.nd e hi w.2.symm)
        dsimp only
        rw [eL, if_neg nd, (h4 z).1]; simp
  · obtain ⟨e, h1, h3, h4⟩ := h.2
    have nd : ¬ (iIsD i = true ∧ iId i = 2) := fun w => h2 w.2
    exact ⟨e, h1, hr.trans h3, by dsimp only; rw [eE, hR, if_neg nd, h4, show ∀ y : Int32, y + 0 = y by simp, ← ar]⟩
/-- the root's entries change -/
theorem KD.root {v' : VS} (h : KD σ v sl c dE dL) (g : VG v c) (hc : c ≤ 600) (hI : vIt v' = vIt v) (d : Int32) (hR : vRe v' = vRe v + d) : KD σ v' sl c (fun x => dE x + (if x = 2 then d else 0)) dL := by
  refine ⟨fun i hi => ?_, ?_⟩
  · rw [hI] at hi
    obtain ⟨e, h1, h2, h3, h4, h5⟩ := h.1 i hi
    refine ⟨e, h1, h2, fun z => ?_, fun z => ?_, h5⟩
    · dsimp only
      rw [eIn_n, hI, ← eIn_n, if_neg (show ¬ iId i = 2 from g.idne hi hc (k := 2) (by omega)), h3 z]; simp
    · rw [lFor_n, hI, ← lFor_n]; exact h4 z
  · obtain ⟨e, h1, h2, h3⟩ := h.2
    exact ⟨e, h1, h2, by dsimp only; rw [eIn_n, hI, ← eIn_n, hR, h3, if_pos rfl, Int32.add_assoc]⟩
end KDS
section VGS
variable {σ : MS} {v : VS} {sl : Nat → Nat} {c : Nat}
theorem VG.add {v' : VS} {i : VI} {c2 nx : Nat} (g : VG v c) (hc : c ≤ 600) (hp : PR v) (hp2 : PR v') (hI : vIt v' = vIt v ++ [i]) (hnx : vNx v = nI nx) (hnx2 : nx < 3000) (hN : vNx v' = nI (nx + 1)) (hc2 : nx + 1 ≤ 16 + 2 * c2) (hid : iId i = vNx v) (hna : ¬ iNa i < 0) (hfo : iHid i = false ∧ (iFo i = 2 ∨ ∃ j ∈ vIt v, iIsD j = true ∧ iId j = iFo i))
    (hkey : ∀ j ∈ vIt v, ¬ (iFo j = iFo i ∧ iNa j = iNa i)) (hS : iIsS i = true → iLe i = 0) (hJ : iIsJ i = true → ∃ j ∈ vIt v, iA j = iFi i ∧ iHid j = true) (h20 : (vIt v).countP (fun i => !iHid i) < 20) : VG v' c2 := by
  obtain ⟨nx1, e1, e2, e3, e4⟩ := g.nx
  have : nx1 = nx := (nI_eq (by omega) (by omega)).mp (e1.symm.trans hnx)
  subst this
  have mem : ∀ {j : VI}, j ∈ vIt v' → j ∈ vIt v ∨ j = i := fun {j} hj => by rw [hI] at hj; simpa using hj
  have inl : ∀ {j : VI}, j ∈ vIt v → j ∈ vIt v' := fun {j} hj => by rw [hI]; exact List.mem_append_left _ hj
  refine ⟨?_, ⟨nx1 + 1, hN, by omega, hc2, fun j hj => ?_⟩, fun j hj => ?_, fun j hj => ?_, fun j hj k hk q1 q2 => ?_, fun j hj k hk sj sk a b ha hb q => ?_, fun j hj hJ2 => ?_, ?_⟩
  · rw [hI, List.pairwise_append]
    refine ⟨g.asc, by simp, fun a ha b hb => ?_⟩
    rw [List.mem_singleton.mp hb, hid, e1]
    obtain ⟨d, d1, d2, d3⟩ := e4 a ha
    rw [d1]
    exact nI_lt d3 (by omega)
  · rcases mem hj with z | z
    · obtain ⟨d, d1, d2, d3⟩ := e4 j z
      exact ⟨d, d1, d2, by omega⟩
    · exact ⟨nx1, by rw [z, hid, e1], e2, by omega⟩
  · rcases mem hj with z | z
    · exact g.na z
    · rw [z]; exact hna
  · rcases mem hj with z | z
    · rcases g.fo z with w | ⟨w1, w2 | ⟨k, w3, w4⟩⟩
      · exact Or.inl w
      · exact Or.inr ⟨w1, Or.inl w2⟩
      · exact Or.inr ⟨w1, Or.inr ⟨k, inl w3, w4⟩⟩
    · rw [z]
      rcases hfo with ⟨w1, w2 | ⟨k, w3, w4⟩⟩
      · exact Or.inr ⟨w1, Or.inl w2⟩
      · exact Or.inr ⟨w1, Or.inr ⟨k, inl w3, w4⟩⟩
  · rcases mem hj with z | z <;> rcases mem hk with w | w
    · exact g.key z w q1 q2
    · rw [w] at q1 q2; exact absurd ⟨q1, q2⟩ (hkey j z)
    · rw [z] at q1 q2; exact absurd ⟨q1.symm, q2.symm⟩ (hkey k w)
    · rw [z, w]
  · rcases mem hj with z | z <;> rcases mem hk with w | w
    · exact g.bl z w sj sk ha hb q
    · rw [w] at sk hb; rw [hS sk] at hb; omega
    · rw [z] at sj ha; rw [hS sj] at ha; omega
    · rw [z] at sj ha; rw [hS sj] at ha; omega
  · rcases mem hj with z | z
    · obtain ⟨m1, m2, m3⟩ := fIt_mem hp z hJ2
      rw [fIt_eq hp2 (inl m1) m3]
      exact g.fh z hJ2
    · rw [z] at hJ2 ⊢
      obtain ⟨k, k1, k2, k3⟩ := hJ hJ2
      rw [fIt_eq hp2 (inl k1) k2]
      exact k3
  · rw [hI, List.countP_append, List.countP_cons, List.countP_nil]
    split <;> omega
theorem VG.rem {v' : VS} {i : VI} (g : VG v c) (hp : PR v) (hp2 : PR v') (hi : i ∈ vIt v) (hI : vIt v' = (vIt v).filter (fun k => !decide (iA k = iA i))) (hN : vNx v' = vNx v) (hD : iIsD i = true → ∀ j ∈ vIt v, iHid j = false → ¬ iFo j = iId i) : VG v' c := by
  have mem : ∀ {j : VI}, j ∈ vIt v' ↔ j ∈ vIt v ∧ j ≠ i := fun {j} => by
    rw [hI, List.mem_filter]
    constructor
    · rintro ⟨z1, z2⟩
      exact ⟨z1, fun z => by rw [z] at z2; simp at z2⟩
    · rintro ⟨z1, z2⟩
      exact ⟨z1, by simp only [Bool.not_eq_true', decide_eq_false_iff_not]; exact fun z => z2 (iA_inj hp.nd z1 hi z)⟩
  obtain ⟨nx1, e1, e2, e3, e4⟩ := g.nx
  refine ⟨?_, ⟨nx1, hN.trans e1, e2, e3, fun j hj => e4 j (mem.mp hj).1⟩, fun j hj => g.na (mem.mp hj).1, fun j hj => ?_, fun j hj k hk q1 q2 => g.key (mem.mp hj).1 (mem.mp hk).1 q1 q2, fun j hj k hk sj sk a b ha hb q => g.bl (mem.mp hj).1 (mem.mp hk).1 sj sk ha hb q, fun j hj hJ2 => ?_, ?_⟩
  · rw [hI]; exact g.asc.sublist List.filter_sublist
  · rcases g.fo (mem.mp hj).1 with w | ⟨w1, w2 | ⟨k, w3, w4, w5⟩⟩
    · exact Or.inl w
    · exact Or.inr ⟨w1, Or.inl w2⟩
    · refine Or.inr ⟨w1, Or.inr ⟨k, mem.mpr ⟨w3, fun z => ?_⟩, w4, w5⟩⟩
      rw [z] at w4 w5
      exact hD w4 j (mem.mp hj).1 w1 w5.symm
  · obtain ⟨m1, m2, m3⟩ := fIt_mem hp (mem.mp hj).1 hJ2
    obtain ⟨n1, n2, n3⟩ := fIt_mem hp2 hj hJ2
    have : fIt v' j = fIt v j := iA_inj hp.nd (mem.mp n1).1 m1 (n3.trans m3.symm)
    rw [this]
    exact g.fh (mem.mp hj).1 hJ2
  · rw [hI]
    have := List.filter_sublist (p := fun k => !decide (iA k = iA i)) (l := vIt v)
    exact Nat.le_trans (this.countP_le) g.n20
theorem VG.upd {v' : VS} {i x : VI} (g : VG v c) (hp : PR v) (hp2 : PR v') (hi : i ∈ vIt v) (hI : vIt v' = updA (iA i) x (vIt v)) (hN : vNx v' = vNx v) (hA : iA x = iA i) (hId : iId x = iId i) (hD : iIsD x = iIsD i) (hJ : iIsJ x = iIsJ i) (hF : iFi x = iFi i) (hna : ¬ iNa x < 0)
    (hfo : (iIsS x = true ∧ iHid x = true ∧ iNa x = iId x) ∨ (iHid x = false ∧ (iFo x = 2 ∨ ∃ j ∈ vIt v, iIsD j = true ∧ iId j = iFo x))) (hkey : ∀ j ∈ vIt v, j ≠ i → ¬ (iFo j = iFo x ∧ iNa j = iNa x)) (hH : iHid i = true → iHid x = true) (hc : iHid x = false → iHid i = false)
    (hb1 : iIsS x = true → ∀ a b, a < iLe x → b < iLe x → iBl x a = iBl x b → a = b) (hb2 : iIsS x = true → ∀ j ∈ vIt v, j ≠ i → iIsS j = true → ∀ a b, a < iLe x → b < iLe j → ¬ iBl x a = iBl j b) : VG v' c := by
  have cs : ∀ {j : VI}, j ∈ vIt v' → j = x ∨ (j ∈ vIt v ∧ j ≠ i) := fun {j} hj => upd_cases hp hi (by rw [← hI]; exact hj)
  have kp : ∀ {j : VI}, j ∈ vIt v → j ≠ i → j ∈ vIt v' := fun {j} hj hn => by rw [hI]; exact upd_keep hp hi hj hn
  have xm : x ∈ vIt v' := by rw [hI]; exact mem_updS hi
  have toD : ∀ {f : Int32}, (∃ j ∈ vIt v, iIsD j = true ∧ iId j = f) → ∃ j ∈ vIt v', iIsD j = true ∧ iId j = f := fun {f} ⟨j, h1, h2, h3⟩ => by
    by_cases e : j = i
    · rw [e] at h2 h3; exact ⟨x, xm, by rw [hD]; exact h2, by rw [hId]; exact h3⟩
    · exact ⟨j, kp h1 e, h2, h3⟩
  obtain ⟨nx1, e1, e2, e3, e4⟩ := g.nx
  refine ⟨?_, ⟨nx1, hN.trans e1, e2, e3, fun j hj => ?_⟩, fun j hj => ?_, fun j hj => ?_, fun j hj k hk q1 q2 => ?_, fun j hj k hk sj sk a b ha hb q => ?_, fun j hj hJ2 => ?_, ?_⟩
  · have h1 : ((updA (iA i) x (vIt v)).map iId).Pairwise (fun a b => a < b) := by
      rw [upd_map iId hp hi hId, List.pairwise_map]; exact g.asc
    rw [hI]
    exact List.pairwise_map.mp h1
  · rcases cs hj with z | ⟨z, -⟩
    · rw [z, hId]; exact e4 i hi
    · exact e4 j z
  · rcases cs hj with z | ⟨z, -⟩
    · rw [z]; exact hna
    · exact g.na z
  · rcases cs hj with z | ⟨z, -⟩
    · rw [z]
      rcases hfo with w | ⟨w1, w2 | w3⟩
      · exact Or.inl w
      · exact Or.inr ⟨w1, Or.inl w2⟩
      · exact Or.inr ⟨w1, Or.inr (toD w3)⟩
    · rcases g.fo z with w | ⟨w1, w2 | w3⟩
      · exact Or.inl w
      · exact Or.inr ⟨w1, Or.inl w2⟩
      · exact Or.inr ⟨w1, Or.inr (toD w3)⟩
  · rcases cs hj with z | ⟨z, z2⟩ <;> rcases cs hk with w | ⟨w, w2⟩
    · rw [z, w]
    · rw [z] at q1 q2; exact absurd ⟨q1.symm, q2.symm⟩ (hkey k w w2)
    · rw [w] at q1 q2; exact absurd ⟨q1, q2⟩ (hkey j z z2)
    · exact g.key z w q1 q2
  · rcases cs hj with z | ⟨z, z2⟩ <;> rcases cs hk with w | ⟨w, w2⟩
    · rw [z] at sj ha q; rw [w] at hb q; exact ⟨by rw [z, w], hb1 sj a b ha hb q⟩
    · rw [z] at sj ha q; exact absurd q (hb2 sj k w w2 sk a b ha hb)
    · rw [w] at sk hb q; exact absurd q.symm (hb2 sk j z z2 sj b a hb ha)
    · exact g.bl z w sj sk ha hb q
  · have key : ∀ {k : VI}, k ∈ vIt v → iIsJ k = true → iFi j = iFi k → iHid (fIt v' j) = true := fun {k} hk hkj e => by
      obtain ⟨m1, m2, m3⟩ := fIt_mem hp hk hkj
      have hh := g.fh hk hkj
      by_cases e2 : fIt v k = i
      · rw [fIt_eq hp2 xm (by rw [hA, ← e2, m3, e])]
        rw [e2] at hh
        exact hH hh
      · rw [fIt_eq hp2 (kp m1 e2) (by rw [m3, e])]
        exact hh
    rcases cs hj with z | ⟨z, -⟩
    · exact key hi (by rw [← hJ, ← z]; exact hJ2) (by rw [z]; exact hF)
    · exact key z hJ2 rfl
  · rw [hI]
    have h1 := upd_cnt2 (i := i) (x := x) (fun k => !iHid k) (vIt v) hp.nd hi
    have h2 := g.n20
    by_cases e : iHid x = true
    · rw [if_neg (by simp [e] : ¬ (!iHid x) = true)] at h1; omega
    · have e : iHid x = false := by simpa using e
      have e2 := hc e
      rw [if_pos (by simp [e] : (!iHid x) = true), if_pos (by simp [e2] : (!iHid i) = true)] at h1
      omega
-- hidden files and their links
theorem VH.len {x : Option Nat} (h : VH v x) (hp : PR v) (g : VG v c) : (vIt v).length ≤ 2 * (vIt v).countP (fun i => !iHid i) + 1 := by
  have e1 : (vIt v).length = (vIt v).countP (fun i => !iHid i) + (vIt v).countP (fun i => iHid i) := by
    rw [List.length_eq_countP_add_countP (fun i => !iHid i)]
    congr 2
    funext i
    simp
  have h2 := sub_len (((vIt v).filter (fun i => iHid i)).map iA) ((x.getD 0) :: (((vIt v).filter (fun i => !iHid i)).map iFi)) (hp.nd.sublist (List.filter_sublist.map _)) (fun a ha => by
    obtain ⟨i, hi, e⟩ := List.mem_map.mp ha
    obtain ⟨hi, hh⟩ := List.mem_filter.mp hi
    have hs : iIsS i = true := by
      rcases g.fo hi with w | w
      · exact w.1
      · rw [w.1] at hh; cases hh
    by_cases ex : x = some (iA i)
    · rw [ex, ← e]; exact List.mem_cons_self
    · obtain ⟨j, hj, j1, j2⟩ := h i hi hs hh ex
      refine List.mem_cons_of_mem _ (List.mem_map.mpr ⟨j, List.mem_filter.mpr ⟨hj, ?_⟩, by rw [j2]; exact e⟩)
      rcases g.fo hj with w | w
      · rcases i3 j with ⟨q1, q2, q3⟩ | ⟨q1, q2, q3⟩ | ⟨q1, q2, q3⟩
        · rw [q2] at w; cases w.1
        · rw [q3] at j1; cases j1
        · rw [q2] at w; cases w.1
      · simp [w.1])
  rw [List.length_map, List.length_cons, List.length_map, ← List.countP_eq_length_filter, ← List.countP_eq_length_filter] at h2
  omega
end VGS
/-- the item at an address -/
def vItA (v : VS) (q : Nat) : VI := vAt v ((vIxA v q).getD 0)
theorem vItA_eq {v : VS} (hp : PR v) {j : VI} (hj : j ∈ vIt v) : vItA v (iA j) = j := by
  obtain ⟨k, h1, h2, h3⟩ := vIxA_eq hp hj
  unfold vItA
  rw [h2]
  exact h3
/-- a folder's entries (the root's: none), a file's links, change by d -/
def vEnt (v : VS) (o : Option Nat) (d : Int32) : VS := match o with
  | none => sRe' v (vRe v + d)
  | some q => vUpd v q (iSetE (vItA v q) (iEn (vItA v q) + d))
def vLnk (v : VS) (q : Nat) (d : Int32) : VS := vUpd v q (iSetL (vItA v q) (iLk (vItA v q) + d))
section VHS
variable {σ : MS} {v : VS} {sl : Nat → Nat} {c : Nat} {x : Option Nat}
theorem VH.add {v' : VS} {i : VI} (h : VH v x) (hI : vIt v' = vIt v ++ [i]) (hS : ¬ iHid i = true) (hx : x = none ∨ (iIsJ i = true ∧ x = some (iFi i))) : VH v' none := fun j hj hs hh _ => by
  rw [hI] at hj
  rcases List.mem_append.mp hj with hj | hj
  · by_cases e : x = some (iA j)
    · rcases hx with z | ⟨z1, z2⟩
      · rw [z] at e; cases e
      · exact ⟨i, by rw [hI]; exact List.mem_append_right _ (List.mem_singleton.mpr rfl), z1, Option.some.inj (z2.symm.trans e)⟩
    · obtain ⟨k, h1, h2⟩ := h j hj hs hh e
      exact ⟨k, by rw [hI]; exact List.mem_append_left _ h1, h2⟩
  · rw [List.mem_singleton.mp hj] at hh
    exact absurd hh hS
/-- a link is dropped: its file may be without one -/
theorem VH.rem {v' : VS} {i : VI} (h : VH v none) (hp : PR v) (hi : i ∈ vIt v) (hI : vIt v' = (vIt v).filter (fun k => !decide (iA k = iA i))) : VH v' (if iIsJ i = true then some (iFi i) else none) := fun j hj hs hh hx => by
  rw [hI] at hj
  obtain ⟨hj, hj2⟩ := List.mem_filter.mp hj
  obtain ⟨k, h1, h2, h3⟩ := h j hj hs hh (by simp)
  refine ⟨k, ?_, h2, h3⟩
  rw [hI]
  refine List.mem_filter.mpr ⟨h1, ?_⟩
  simp only [Bool.not_eq_true', decide_eq_false_iff_not]
  intro z
  rw [iA_inj hp.nd h1 hi z] at h2 h3
  rw [if_pos h2, h3] at hx
  exact hx rfl
/-- the file without a link is dropped -/
theorem VH.rem2 {v' : VS} {i : VI} (h : VH v x) (hx : x = none ∨ x = some (iA i)) (hJ : iIsJ i = false) (hI : vIt v' = (vIt v).filter (fun k => !decide (iA k = iA i))) (hp : PR v) (hi : i ∈ vIt v) : VH v' none := fun j hj hs hh _ => by
  rw [hI] at hj
  obtain ⟨hj, hj2⟩ := List.mem_filter.mp hj
  have hne : ¬ iA j = iA i := by simpa using hj2
  obtain ⟨k, h1, h2, h3⟩ := h j hj hs hh (fun z => by
    rcases hx with w | w
    · rw [w] at z; cases z
    · exact hne (Option.some.inj (z.symm.trans w)))
  refine ⟨k, ?_, h2, h3⟩
  rw [hI]
  refine List.mem_filter.mpr ⟨h1, ?_⟩
  simp only [Bool.not_eq_true', decide_eq_false_iff_not]
  intro z
  rw [iA_inj hp.nd h1 hi z, hJ] at h2
  cases h2
theorem VH.upd {v' : VS} {i y : VI} (h : VH v x) (hp : PR v) (hi : i ∈ vIt v) (hI : vIt v' = updA (iA i) y (vIt v)) (hA : iA y = iA i) (hJ : iIsJ y = iIsJ i) (hF : iFi y = iFi i) (hS : iIsS y = true → iHid y = true → (iIsS i = true ∧ iHid i = true) ∨ x = some (iA i)) : VH v' x := fun j hj hs hh hx => by
  have main : ∀ {k : VI}, k ∈ vIt v → iIsJ k = true → ∃ z ∈ vIt v', iIsJ z = true ∧ iFi z = iFi k := fun {k} hk hkj => by
    by_cases e : k = i
    · rw [e] at hkj ⊢; exact ⟨y, by rw [hI]; exact mem_updS hi, by rw [hJ]; exact hkj, hF⟩
    · exact ⟨k, by rw [hI]; exact upd_keep hp hi hk e, hkj, rfl⟩
  rw [hI] at hj
  rcases upd_cases hp hi hj with e | ⟨e, -⟩
  · rw [e] at hs hh hx ⊢
    rw [hA] at hx ⊢
    rcases hS hs hh with ⟨z1, z2⟩ | z
    · obtain ⟨k, h1, h2, h3⟩ := h i hi z1 z2 hx
      obtain ⟨z, g1, g2, g3⟩ := main h1 h2
      exact ⟨z, g1, g2, g3.trans h3⟩
    · exact absurd z hx
  · obtain ⟨k, h1, h2, h3⟩ := h j e hs hh hx
    obtain ⟨z, g1, g2, g3⟩ := main h1 h2
    exact ⟨z, g1, g2, g3.trans h3⟩
theorem VH.weak (h : VH v none) : VH v x := fun j hj hs hh _ => h j hj hs hh (by simp)
end VHS
/-- all that holds between the two after at most c calls -/
def INV (σ : MS) (v : VS) (sl : Nat → Nat) (c : Nat) : Prop := RL σ v sl ∧ PR v ∧ VG v c ∧ VH v none ∧ KC σ v sl c
section STEP
variable {σ : MS} {v : VS} {sl : Nat → Nat} {c : Nat} {dE : Int32 → Int32} {dL : Nat → Int32}
theorem VG.mono {c2 : Nat} (g : VG v c) (h : c ≤ c2) : VG v c2 := by
  obtain ⟨nx, h1, h2, h3, h4⟩ := g.nx
  exact ⟨g.1, ⟨nx, h1, h2, by omega, h4⟩, g.2.2⟩
theorem KC.mono {c2 : Nat} (k : KC σ v sl c) (h : c ≤ c2) : KC σ v sl c2 := k.kd.kc h (fun _ => rfl) (fun _ => rfl)
theorem INV.mono {c2 : Nat} (h : INV σ v sl c) (hc : c ≤ c2) : INV σ v sl c2 := ⟨h.1, h.2.1, h.2.2.1.mono hc, h.2.2.2.1, h.2.2.2.2.mono hc⟩
theorem KD.congr {dE2 : Int32 → Int32} {dL2 : Nat → Int32} (h : KD σ v sl c dE dL) (hE : ∀ y, dE y = dE2 y) (hL : ∀ q, dL q = dL2 q) : KD σ v sl c dE2 dL2 := by
  rw [← show dE = dE2 from funext hE, ← show dL = dL2 from funext hL]; exact h
theorem KD.mono {c2 : Nat} (h : KD σ v sl c dE dL) (hc : c ≤ c2) : KD σ v sl c2 dE dL := by
  refine ⟨fun i hi => ?_, ?_⟩
  · obtain ⟨e, h1, h2⟩ := h.1 i hi
    exact ⟨e, by omega, h2⟩
  · obtain ⟨e, h1, h2⟩ := h.2
    exact ⟨e, by omega, h2⟩
/-- an item changes in its entries or its links alone: only the kept counts see it -/
theorem cnt_step (h : RL σ v sl) (hp : PR v) (g : VG v c) (x : Option Nat) (hh : VH v x) (k : KD σ v sl c dE dL) (hc : c ≤ 600) {i y : VI} (hi : i ∈ vIt v) (hA : iA y = iA i) (hI : iId y = iId i) (hFo : iFo y = iFo i) (hNa : iNa y = iNa i) (hD : iIsD y = iIsD i) (hS : iIsS y = iIsS i) (hJ : iIsJ y = iIsJ i) (hF : iFi y = iFi i) (hLe : iLe y = iLe i) (hBl : iBl y = iBl i) :
    RL σ (vUpd v (iA i) y) sl ∧ PR (vUpd v (iA i) y) ∧ VG (vUpd v (iA i) y) c ∧ VH (vUpd v (iA i) y) x ∧ KD σ (vUpd v (iA i) y) sl c (fun z => dE z + (if iIsD i = true ∧ iId i = z then iEn y - iEn i else 0)) (fun q => dL q + (if iIsS i = true ∧ iA i = q then iLk y - iLk i else 0)) := by
  have hH : iHid y = iHid i := by unfold iHid; rw [hFo]
  obtain ⟨r1, r2⟩ := h.upd hp hi (x := y) (σ' := σ) (u := vUs v) hA hI hFo hNa hD hS hJ (fun _ => hF) (fun z => by rw [hLe, hBl]; exact hp.bl hi (hS ▸ z)) ⟨rfl, rfl, rfl, rfl, rfl, rfl, rfl, rfl⟩ (fun q _ => ⟨rfl, fun _ _ => rfl⟩) (fun z => by rw [hLe, hBl]; exact (h.mt hi).bl (hS ▸ z)) (fun b hb => h.us hb) h.ok (fun hm => ⟨fun p hp hk => ((h.cln hm).1 p hp hk).1, (h.cln hm).2⟩)
  refine ⟨r1, r2, ?_, ?_, ?_⟩
  · refine g.upd hp r2 hi rfl rfl hA hI hD hJ hF (by rw [hNa]; exact g.na hi) ?_ (fun j hj hn z => hn ?_) (fun z => by rw [hH]; exact z) (fun z => by rw [← hH]; exact z) ?_ ?_
    · rw [hS, hH, hNa, hI, hFo]; exact g.fo hi
    · rw [hFo, hNa] at z; exact g.key hj hi z.1 z.2
    · rw [hS, hLe, hBl]; exact fun s a b ha hb q => (g.bl hi hi s s ha hb q).2
    · rw [hS, hLe, hBl]; exact fun s j hj hn sj a b ha hb q => hn (g.bl hi hj s sj ha hb q).1.symm
  · exact hh.upd hp hi rfl hA hJ hF (fun z1 z2 => Or.inl ⟨by rw [← hS]; exact z1, by rw [← hH]; exact z2⟩)
  · refine (k.upd (σ' := σ) (v' := vUpd v (iA i) y) hp g hi rfl rfl (fun _ _ => rfl) rfl hA hI hD hS hJ hF (fun z => by rw [← hH]; exact z) (show ¬ iId i = 2 from g.idne hi hc (k := 2) (by omega))).congr (fun z => ?_) (fun _ => rfl)
    rw [hFo, Int32.add_sub_cancel]
theorem ent_step (h : RL σ v sl) (hp : PR v) (g : VG v c) (x : Option Nat) (hh : VH v x) (k : KD σ v sl c dE dL) (hc : c ≤ 600) (o : Option Nat) (d f : Int32) (ho : (o = none ∧ f = 2) ∨ ∃ i ∈ vIt v, o = some (iA i) ∧ iIsD i = true ∧ f = iId i) :
    RL σ (vEnt v o d) sl ∧ PR (vEnt v o d) ∧ VG (vEnt v o d) c ∧ VH (vEnt v o d) x ∧ KD σ (vEnt v o d) sl c (fun y => dE y + (if f = y then d else 0)) dL := by
  rcases ho with ⟨e, ef⟩ | ⟨i, hi, e, hd, ef⟩
  · subst e; subst ef
    refine ⟨h, hp, g, hh, (k.root (v' := vEnt v none d) g hc rfl d rfl).congr (fun y => ?_) (fun _ => rfl)⟩
    by_cases e : y = 2
    · rw [if_pos e, if_pos e.symm]
    · rw [if_neg e, if_neg (fun z => e z.symm)]
  · subst e; subst ef
    have ev : vEnt v (some (iA i)) d = vUpd v (iA i) (iSetE i (iEn i + d)) := by
      show vUpd v (iA i) (iSetE (vItA v (iA i)) (iEn (vItA v (iA i)) + d)) = _
      rw [vItA_eq hp hi]
    rw [ev]
    rcases i3 i with ⟨q1, q2, q3⟩ | ⟨q1, q2, q3⟩ | ⟨q1, q2, q3⟩
    · have lz : iLe i = 0 ∧ iBl i = (fun _ => 0) ∧ iFi i = 0 := by
        unfold iLe iBl iFi iIsD at *
        revert q1
        split <;> intro q1
        · rename_i z; rw [z]; exact ⟨rfl, rfl, rfl⟩
        · cases q1
      obtain ⟨s1, s2, s3, s4, s5⟩ := cnt_step h hp g x hh k hc hi (y := iSetE i (iEn i + d)) rfl rfl rfl rfl q1.symm q2.symm q3.symm lz.2.2.symm lz.1.symm lz.2.1.symm
      refine ⟨s1, s2, s3, s4, s5.congr (fun y => ?_) (fun q => ?_)⟩
      · by_cases e : iId i = y
        · rw [if_pos ⟨q1, e⟩, if_pos e]
          show _ + (iEn i + d - iEn i) = _
          rw [Int32.add_comm (iEn i), Int32.add_sub_cancel]
        · rw [if_neg (fun z => e z.2), if_neg e]
      · rw [if_neg (fun z => by rw [q2] at z; cases z.1)]; simp
    · rw [q1] at hd; cases hd
    · rw [q1] at hd; cases hd
theorem lnk_step (h : RL σ v sl) (hp : PR v) (g : VG v c) (x : Option Nat) (hh : VH v x) (k : KD σ v sl c dE dL) (hc : c ≤ 600) {i : VI} (hi : i ∈ vIt v) (hs : iIsS i = true) (d : Int32) :
    RL σ (vLnk v (iA i) d) sl ∧ PR (vLnk v (iA i) d) ∧ VG (vLnk v (iA i) d) c ∧ VH (vLnk v (iA i) d) x ∧ KD σ (vLnk v (iA i) d) sl c dE (fun q => dL q + (if iA i = q then d else 0)) := by
  have ev : vLnk v (iA i) d = vUpd v (iA i) (iSetL i (iLk i + d)) := by
    show vUpd v (iA i) (iSetL (vItA v (iA i)) (iLk (vItA v (iA i)) + d)) = _
    rw [vItA_eq hp hi]
  rw [ev]
  rcases i3 i with ⟨q1, q2, q3⟩ | ⟨q1, q2, q3⟩ | ⟨q1, q2, q3⟩
  · rw [q2] at hs; cases hs
  · have lz : iFi i = 0 := by
      unfold iFi iIsJ at *
      revert q3
      split <;> intro q3
      · cases q3
      · rfl
    obtain ⟨s1, s2, s3, s4, s5⟩ := cnt_step h hp g x hh k hc hi (y := iSetL i (iLk i + d)) rfl rfl rfl rfl q1.symm q2.symm q3.symm lz.symm rfl rfl
    refine ⟨s1, s2, s3, s4, s5.congr (fun y => ?_) (fun q => ?_)⟩
    · rw [if_neg (fun z => by rw [q1] at z; cases z.1)]; simp
    · by_cases e : iA i = q
      · rw [if_pos ⟨q2, e⟩, if_pos e]
        show _ + (iLk i + d - iLk i) = _
        rw [Int32.add_comm (iLk i), Int32.add_sub_cancel]
      · rw [if_neg (fun z => e z.2), if_neg e]
  · rw [q2] at hs; cases hs
end STEP
