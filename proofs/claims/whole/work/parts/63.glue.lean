section GLUE
variable {σ : MS} {v : VS} {sl : Nat → Nat} {c : Nat} {dE : Int32 → Int32} {dL : Nat → Int32}
theorem drp (h : RL σ v sl) (hp : PR v) (g : VG v c) {x : Option Nat} (hh : VH v x) (k : KD σ v sl c dE dL) (hm : vMo v = true) {i : VI} (hi : i ∈ vIt v) (hnl : ∀ j ∈ vIt v, iIsJ j = true → ¬ iFi j = iA i) (hD : iIsD i = true → ∀ j ∈ vIt v, iHid j = false → ¬ iFo j = iId i) (hx : (x = none ∧ iIsJ i = true) ∨ (iIsJ i = false ∧ (x = none ∨ x = some (iA i)))) : DrPre v (iA i) := by
  obtain ⟨s1, s2, -, -, -⟩ := rem_step h hp g hh k hm hi hnl hD hx
  refine ⟨fun n hn z => ?_, hnl⟩
  obtain ⟨j, hj, e⟩ := s2.1 n hn
  have := (List.mem_filter.mp hj).2
  simp [e, z] at this
theorem grpre : ∀ (n : Nat) {σ : MS} {v : VS} {f : VI}, INV σ v sl c → c ≤ 600 → vMo v = true → f ∈ vIt v → iIsS f = true → n ≤ nfr v → GrPre (iA f) (iLe f + n) n v := by
  intro n
  induction n with
  | zero =>
    intro σ v f h hc hm hf hs hn
    exact ⟨f, hf, rfl, hs, rfl⟩
  | succ n ih =>
    intro σ v f h hc hm hf hs hn
    obtain ⟨g1, g2, g3, b, g4, g5, g6, g7, g8⟩ := grow_one h hc hm hf hs (by omega)
    have hf2 : iApp f b ∈ vIt (gStep v (iA f)) := by rw [g8]; exact gStep_it hf b _
    have r := ih g1 hc g2 hf2 rfl (by omega)
    have e2 : iA (iApp f b) = iA f := rfl
    have e3 : iLe (iApp f b) = iLe f + 1 := rfl
    rw [e2, e3, show iLe f + 1 + n = iLe f + (n + 1) by omega] at r
    exact ⟨⟨f, hf, rfl, hs, g6, b, g4, g5⟩, r⟩
theorem grow_preV (h : INV σ v sl c) (hc : c < 590) (id nn : Int32) : ∀ j, GrOk v id nn j → GrPre (iA (vAt v j)) (iLe (vAt v j) + nn.toNatClampNeg) nn.toNatClampNeg v := fun j hok => by
  have hI := h
  obtain ⟨hR, hP, g, hH, hK⟩ := h
  obtain ⟨hm, h1, h2, ef, h3⟩ := hok
  obtain ⟨j1, j2, j3⟩ := vFi_some hP ef
  exact grpre nn.toNatClampNeg hI (by omega) hm j2 j3 (grow_n h1 h3)
theorem rem_preV (h : INV σ v sl c) (hc : c < 590) (par nm : Int32) : ∀ o k, RmOk v par nm o k → RmPre v (vAt v k) (foAd v o) := fun o k hok => by
  obtain ⟨hR, hP, g, hH, hK⟩ := h
  obtain ⟨hm, hn, ef, ee, hD⟩ := hok
  obtain ⟨k1, k2, k3, k4, k5⟩ := vEn_some ee
  generalize vAt v k = i at *
  have h40 := hR.len40
  have hDe : iIsD i = true → ∀ j ∈ vIt v, ¬ iFo j = iId i := fun hd => (eIn_0 v (iId i) h40).mp (Decidable.byContradiction (fun z => hD ⟨hd, z⟩))
  have hfo : ∀ {f : VI}, f ∈ vIt v → iIsD f = true → par = iId f → f ≠ i := fun {f} hf hd hpf z => hDe (by rw [← z]; exact hd) i k2 (by rw [k4, hpf, z])
  have mem : ∀ {w : VS}, vIt w = (vIt v).filter (fun k => !decide (iA k = iA i)) → ∀ {f : VI}, f ∈ vIt v → f ≠ i → f ∈ vIt w := fun {w} hw {f} hf hne => by
    rw [hw]
    refine List.mem_filter.mpr ⟨hf, ?_⟩
    simp only [Bool.not_eq_true', decide_eq_false_iff_not]
    exact fun z => hne (iA_inj hP.nd hf k2 z)
  have ho : ∀ {w : VS}, vIt w = (vIt v).filter (fun k => !decide (iA k = iA i)) → (foAd v o = none ∧ par = 2) ∨ ∃ f ∈ vIt w, foAd v o = some (iA f) ∧ iIsD f = true ∧ par = iId f := fun {w} hw => by
    rcases vFo_sp ef with z | ⟨f, hf, z1, z2, z3⟩
    · exact Or.inl z
    · exact Or.inr ⟨f, mem hw hf (hfo hf z2 z3), z1, z2, z3⟩
  have hoA : ∀ q, foAd v o = some q → q ≠ iA i := fun q hq z => by
    rcases vFo_sp ef with ⟨z1, z2⟩ | ⟨f, hf, z1, z2, z3⟩
    · rw [z1] at hq; cases hq
    · rw [z1] at hq
      cases hq
      exact hfo hf z2 z3 (iA_inj hP.nd hf k2 z)
  have hu0 : iIsS i = false → sUs (vRem v (iA i)) (usD i (vUs v)) = vRem v (iA i) := fun hsf => by
    have e : usD i (vUs v) = vUs (vRem v (iA i)) := by rw [(rem_Re v (iA i)).2.2.2]; exact dropU_n i (vUs v) hsf
    rw [e]; rfl
  rcases kd4 i with q | q | q | q
  · -- a folder
    have hnl : ∀ j ∈ vIt v, iIsJ j = true → ¬ iFi j = iA i := fun j hj hJ z => by
      obtain ⟨m1, m2, m3⟩ := fIt_mem hP hj hJ
      rw [iA_inj hP.nd m1 k2 (m3.trans z), q.2.1] at m2; cases m2
    exact ⟨drp hR hP g hH hK.kd hm k2 hnl (fun hd j hj _ => hDe hd j hj) (Or.inr ⟨q.2.2.1, Or.inl rfl⟩), hoA, fun z => by rw [q.2.2.1] at z; cases z⟩
  · -- a file that is not hidden
    have hnl : ∀ j ∈ vIt v, iIsJ j = true → ¬ iFi j = iA i := fun j hj hJ z => by
      obtain ⟨m1, m2, m3⟩ := fIt_mem hP hj hJ
      have := g.fh hj hJ
      rw [iA_inj hP.nd m1 k2 (m3.trans z), k3] at this; cases this
    exact ⟨drp hR hP g hH hK.kd hm k2 hnl (fun hd => by rw [q.2.1] at hd; cases hd) (Or.inr ⟨q.2.2.1, Or.inl rfl⟩), hoA, fun z => by rw [q.2.2.1] at z; cases z⟩
  · -- a link
    have hnl : ∀ j ∈ vIt v, iIsJ j = true → ¬ iFi j = iA i := fun j hj hJ z => by
      obtain ⟨m1, m2, m3⟩ := fIt_mem hP hj hJ
      rw [iA_inj hP.nd m1 k2 (m3.trans z), q.2.2.1] at m2; cases m2
    refine ⟨drp hR hP g hH hK.kd hm k2 hnl (fun hd => by rw [q.2.1] at hd; cases hd) (Or.inl ⟨rfl, q.1⟩), hoA, fun _ => ?_⟩
    obtain ⟨s1, s2, s3, s4, s5⟩ := rem_step hR hP g hH hK.kd hm k2 hnl (fun hd => by rw [q.2.1] at hd; cases hd) (Or.inl ⟨rfl, q.1⟩)
    rw [hu0 q.2.2.1] at s1 s2 s3 s4 s5
    rw [if_pos q.1] at s4
    have hoR := ho (w := vRem v (iA i)) rfl
    obtain ⟨t1, t2, t3, t4, t5⟩ := ent_step s1 s2 s3 (some (iFi i)) s4 s5 (by omega) (foAd v o) (-1) par hoR
    obtain ⟨f1, f2, f3⟩ := fIt_mem hP k2 q.1
    have fne : fIt v i ≠ i := fun z => by rw [z, q.2.2.1] at f2; cases f2
    generalize fIt v i = f at *
    have fm : f ∈ vIt (vRem1 v i (foAd v o)) := ent_memS s2 (foAd v o) (-1) hoR (mem rfl f1 fne) f2
    refine ⟨⟨f, fm, f3, f2⟩, ?_⟩
    obtain ⟨u1, u2, u3, u4, u5⟩ := lnk_step (v := vRem1 v i (foAd v o)) t1 t2 t3 (some (iFi i)) t4 t5 (by omega) fm f2 (-1)
    rw [← f3] at u4
    have ew : vLnk (vRem1 v i (foAd v o)) (iA f) (-1) = vUpd (vRem1 v i (foAd v o)) (iA f) (iSetL f (iLk f + -1)) := by
      show vUpd _ (iA f) (iSetL (vItA _ (iA f)) (iLk (vItA _ (iA f)) + -1)) = _
      rw [vItA_eq (v := vRem1 v i (foAd v o)) t2 fm]
    have emo : vMo (vLnk (vRem1 v i (foAd v o)) (iA f) (-1)) = true := by
      show vMo (vRem1 v i (foAd v o)) = true
      rw [show vMo (vRem1 v i (foAd v o)) = vMo v from (ent_keep _ _ _).2.1.trans (rem_Re v (iA i)).2.2.1]; exact hm
    have fm2 : iSetL f (iLk f + -1) ∈ vIt (vLnk (vRem1 v i (foAd v o)) (iA f) (-1)) := by rw [ew]; exact mem_updS fm
    have eD : ∀ y, (fun y => (0 : Int32) + (if iFo i = y then 1 else 0) + (if par = y then -1 else 0)) y = 0 := fun y => by
      show (0 : Int32) + (if iFo i = y then 1 else 0) + (if par = y then -1 else 0) = 0
      rw [k4]; by_cases e : par = y <;> simp [e] <;> decide
    have eL : ∀ y, (fun y => (0 : Int32) + (if iIsJ i = true ∧ iFi i = y then 1 else 0) + (if iA f = y then -1 else 0)) y = 0 := fun y => by
      show (0 : Int32) + (if iIsJ i = true ∧ iFi i = y then 1 else 0) + (if iA f = y then -1 else 0) = 0
      rw [← f3]
      by_cases e : iA f = y
      · rw [if_pos ⟨q.1, e⟩, if_pos e]; decide
      · rw [if_neg (fun z => e z.2), if_neg e]; rfl
    have kc := u5.kc (Nat.le_refl c) eD eL
    obtain ⟨cl1, cl2, cl3⟩ := u1.cln emo
    generalize hf' : iSetL f (iLk f + -1) = f' at *
    have fA : iA f' = iA f := by rw [← hf']; rfl
    have fS : iIsS f' = true := by rw [← hf']; rfl
    have fJ : iIsJ f' = false := by rw [← hf']; rfl
    have fDD : iIsD f' = false := by rw [← hf']; rfl
    have eV : vItA (vLnk (vRem1 v i (foAd v o)) (iA f) (-1)) (iA f) = f' := by have := vItA_eq u2 fm2; rw [fA] at this; exact this
    obtain ⟨e0, g1, g2, g3, g4, g5⟩ := kc.1 f' fm2
    have he0 : e0 = 0 := by
      have := (cl1 (sOf sl f') (u1.slt fm2) (by rw [(u1.mt fm2).kd]; exact kdI_ne _)).1
      rw [this] at g2
      exact ((nI_eq (a := e0) (b := 0) (by omega) (by omega)).mp g2.symm)
    have hlk : iLk f' = vLinksFor (vLnk (vRem1 v i (foAd v o)) (iA f) (-1)) (iA f') := by rw [(g4 fS).1, he0]; simp [nI_0]
    obtain ⟨l1, l2⟩ := lFor_0 (vLnk (vRem1 v i (foAd v o)) (iA f) (-1)) (iA f') u1.len40
    have hle : iLk f' ≤ 0 ↔ vLinksFor (vLnk (vRem1 v i (foAd v o)) (iA f) (-1)) (iA f') = 0 := by rw [hlk, l2, lFor_n, l1]
    rw [← f3, eV]
    intro hz
    have hno := l2.mp (hle.mp hz)
    have := drp u1 u2 u3 u4 kc.kd emo fm2 hno (fun hd => by rw [fDD] at hd; cases hd) (Or.inr ⟨fJ, Or.inr (by rw [fA])⟩)
    rw [fA] at this
    exact this
  · rw [q.2.2.2.1] at k3; cases k3
/-! one call: the answers are alike, and the states are alike behind it -/
theorem mk_go (h : INV σ v sl c) (hc : c < 590) (par nm : Int32) (fl : Bool) : (mMake σ par nm (bI fl)).1 = vMakeR v par nm ∧ ∀ v1, MkS v par nm fl v1 → ∃ sl', INV (mMake σ par nm (bI fl)).2 v1 sl' (c + 1) := by
  obtain ⟨e, hs⟩ := make_step h hc par nm fl
  refine ⟨e, fun v1 h1 => ?_⟩
  rcases hs with ⟨a1, a2, a3, a4, o, a5, hs⟩ | ⟨a1, a2⟩
  · rcases h1 with ⟨h1, -⟩ | ⟨-, o2, a, ba, x1, x2, b1, b2, b3⟩
    · exact absurd ⟨a1, a2, a3, a4, by rw [a5]; exact fun z => by cases z⟩ h1
    · rw [a5] at b1
      cases b1
      rw [b3]
      exact hs a ba x1 x2 b2
  · rcases h1 with ⟨-, h1⟩ | ⟨h1, -⟩
    · rw [a2, h1]; exact ⟨sl, h.mono (by omega)⟩
    · exact absurd h1 a1
theorem mv_go (h : INV σ v sl c) (hc : c < 590) (par nm tp tn : Int32) : (mMove σ par nm tp tn).1 = vMoveR v par nm tp tn ∧ ∀ v1, MvS v par nm tp tn v1 → ∃ sl', INV (mMove σ par nm tp tn).2 v1 sl' (c + 1) := by
  obtain ⟨e, hs⟩ := move_step h hc par nm tp tn
  refine ⟨e, fun v1 h1 => ?_⟩
  rcases hs with ⟨a1, a2, a3, a4, o1, o2, k, b1, b2, b3, b4, b5, hs⟩ | ⟨a1, a2⟩
  · rcases h1 with ⟨h1, -⟩ | ⟨p1, p2, k2, a, ⟨-, -, -, -, c1, c2, c3, -, -⟩, h1⟩
    · exact absurd ⟨o1, o2, k, a1, a2, a3, a4, b1, b2, b3, b4, b5⟩ h1
    · rw [b1] at c1; rw [b2] at c2; rw [b3] at c3
      cases c1; cases c2; cases c3
      rw [h1]; exact ⟨sl, hs a⟩
  · rcases h1 with ⟨-, h1⟩ | ⟨p1, p2, k2, a, ⟨c1, c2, c3, c4, c5, c6, c7, c8, c9⟩, -⟩
    · rw [a2, h1]; exact ⟨sl, h.mono (by omega)⟩
    · exact absurd ⟨c1, c2, c3, c4, p1, p2, k2, c5, c6, c7, c8, c9⟩ a1
theorem lk_go (h : INV σ v sl c) (hc : c < 590) (par nm tp tn : Int32) : ∀ v1, LkS v par nm tp tn v1 → (mLink σ par nm tp tn).1 = vLinkR v par nm tp tn ∧ ∃ sl', INV (mLink σ par nm tp tn).2 v1 sl' (c + 1) := fun v1 h1 => by
  rcases h1 with ⟨h1, e⟩ | ⟨o, j, b0, b1, b2, b3, c1, c2, c3, h1, h2, h3, h4, e⟩
  · rw [link_fail h hc h1, e]; exact ⟨rfl, sl, h.mono (by omega)⟩
  · obtain ⟨r1, -, r3⟩ := link_run h hc h1 b0 b1 b2 b3 c1 c2 c3 h2 h3 h4
    rw [e]; exact ⟨r1, r3⟩
theorem rm_go (h : INV σ v sl c) (hc : c < 590) (par nm : Int32) : ∀ v1, RmS v par nm v1 → (mRemove σ par nm).1 = vRemR v par nm ∧ ∃ sl', INV (mRemove σ par nm).2 v1 sl' (c + 1) := fun v1 h1 => by
  rcases h1 with ⟨h1, e⟩ | ⟨o, k, h1, e⟩
  · rw [remove_fail h hc h1, e]; exact ⟨rfl, sl, h.mono (by omega)⟩
  · obtain ⟨r1, -, r3⟩ := remove_run h hc h1
    rw [e]; exact ⟨r1, sl, r3⟩
theorem gr_go (h : INV σ v sl c) (hc : c < 590) (id nn : Int32) : ∀ v1, GrS v id nn v1 → (mGrow σ id nn).1 = vGrR v id nn ∧ ∃ sl', INV (mGrow σ id nn).2 v1 sl' (c + 1) := fun v1 h1 => by
  rcases h1 with ⟨h1, e⟩ | ⟨j, h1, e⟩
  · rw [grow_fail h h1, e]; exact ⟨rfl, sl, h.mono (by omega)⟩
  · obtain ⟨r1, -, r3⟩ := grow_run h hc h1
    rw [e]; exact ⟨r1, sl, r3⟩
theorem sh_go (h : INV σ v sl c) (hc : c < 590) (id nn : Int32) : ∀ v1, ShS v id nn v1 → (mShrink σ id nn).1 = vShR v id nn ∧ ∃ sl', INV (mShrink σ id nn).2 v1 sl' (c + 1) := fun v1 h1 => by
  rcases h1 with ⟨h1, e⟩ | ⟨j, h1, e⟩
  · rw [shrink_fail h h1, e]; exact ⟨rfl, sl, h.mono (by omega)⟩
  · obtain ⟨r1, -, r3⟩ := shrink_run h hc h1
    rw [e]; exact ⟨r1, sl, r3⟩
theorem mt_go (h : INV σ v sl c) (hc : c < 590) : ∀ r v1, MtS v r v1 → r = bI (mMount σ).1 ∧ ∃ sl', INV (mMount σ).2 v1 sl' (c + 1) := fun r v1 h1 => by
  rcases mount_step h (by omega) with ⟨a1, a2⟩ | ⟨a1, a2, a3, a4⟩
  · rcases h1 with ⟨-, h1, e⟩ | ⟨h1, h2, -⟩
    · rw [a2, e]; exact ⟨h1, sl, h.mono (by omega)⟩
    · rcases a1 with a1 | a1
      · rw [h1] at a1; cases a1
      · exact absurd h2 a1
  · rcases h1 with ⟨h1, -, -⟩ | ⟨-, -, h1, e⟩
    · rcases h1 with h1 | h1
      · rw [a1] at h1; cases h1
      · exact absurd a2 h1
    · rw [a3, e]; exact ⟨h1, sl, a4.mono (by omega)⟩
theorem um_go (h : INV σ v sl c) : bI (vMo v) = bI (mUnmount σ).1 ∧ ∃ sl', INV (mUnmount σ).2 (sMo' v false) sl' (c + 1) := by
  obtain ⟨a1, a2⟩ := unmount_step h
  exact ⟨by rw [a1], sl, a2.mono (by omega)⟩
theorem md_go (h : INV σ v sl c) (hc : c < 590) : ∀ r v1, MdS v r v1 → r = (mMend σ).1 ∧ ∃ sl', INV (mMend σ).2 v1 sl' (c + 1) := fun r v1 h1 => by
  rcases h1 with ⟨h1, h2, e⟩ | ⟨h1, as, h2, e⟩
  · rw [mend_mo σ (h.1.mo.trans h1), e]; exact ⟨h2, sl, h.mono (by omega)⟩
  · obtain ⟨a1, a2⟩ := mend_step h (by omega) h1 as
    rw [a1, e]; exact ⟨h2, sl, a2.mono (by omega)⟩
theorem harm_mo (σ : MS) (w a : Int32) (h : sMo σ = true) : mHarm σ w a = (false, σ) := by unfold mHarm; rw [if_pos h]
theorem hm_go (h : INV σ v sl c) (hc : c < 590) (w a : Int32) : ∀ r v1, HmS v w a r v1 → r = bI (mHarm σ w a).1 ∧ ∃ sl', INV (mHarm σ w a).2 v1 sl' (c + 1) := fun r v1 h1 => by
  rcases h1 with ⟨h1, h2, e⟩ | ⟨hm, ⟨ew, h1⟩ | ⟨ew, h1, h2⟩ | ⟨ew, h1⟩ | ⟨ew, h1⟩ | ⟨⟨w0, w1, w2, w3⟩, h1, h2⟩⟩
  · rw [harm_mo σ w a (h.1.mo.trans h1), e]; exact ⟨h2, sl, h.mono (by omega)⟩
  · subst ew
    rcases harmV h hc hm a with ⟨a1, a2⟩ | ⟨o, a1, a2, a3⟩
    · rcases h1 with ⟨-, h1, e⟩ | ⟨o, h1, -, -⟩
      · rw [a2, e]; exact ⟨h1, sl, h.mono (by omega)⟩
      · rw [a1] at h1; cases h1
    · rcases h1 with ⟨h1, -, -⟩ | ⟨o2, h1, h2, e⟩
      · rw [a1] at h1; cases h1
      · rw [a1] at h1; cases h1
        rw [a2, e]; exact ⟨h2, sl, a3⟩
  · subst ew
    obtain ⟨a1, a2⟩ := harmB h hc hm a
    rw [a1, h2]; exact ⟨h1, sl, a2⟩
  · subst ew
    rcases harmT h hc hm a with ⟨a1, a2⟩ | ⟨k, j, a0, a1, a2, a3⟩
    · rcases h1 with ⟨-, h1, e⟩ | ⟨k, j, h1, h2, -, -⟩
      · rw [a2, e]; exact ⟨h1, sl, h.mono (by omega)⟩
      · have := a1 k h1; rw [h2] at this; cases this
    · rcases h1 with ⟨h1, -, -⟩ | ⟨k2, j2, h1, h2, h3, e⟩
      · have := h1 k a0; rw [a1] at this; cases this
      · rw [a0] at h1; cases h1
        rw [a2, e]; exact ⟨h3, sl, a3⟩
  · subst ew
    rcases harmL h hc hm a with ⟨a1, a2⟩ | ⟨k, a0, a1, a4, a2, a3⟩
    · rcases h1 with ⟨-, h1, e⟩ | ⟨k, h1, h2, h3, -, -⟩
      · rw [a2, e]; exact ⟨h1, sl, h.mono (by omega)⟩
      · exact absurd ⟨h2, h3⟩ (a1 k h1)
    · rcases h1 with ⟨h1, -, -⟩ | ⟨k2, h1, h2, h4, h3, e⟩
      · exact absurd ⟨a1, a4⟩ (h1 k a0)
      · rw [a0] at h1; cases h1
        rw [a2, e]; exact ⟨h3, sl, a3⟩
  · rw [harm_out σ a w0 w1 w2 w3, h2]; exact ⟨h1, sl, h.mono (by omega)⟩
end GLUE
