section RLV
variable {σ : MS} {v : VS} {sl : Nat → Nat} {c : Nat}
theorem RL.beg (h : RL σ v sl) {i : VI} (hi : i ∈ vIt v) (hs : iIsS i = true) {j : Nat} (hj : j < iLe i) : mBegins σ (sOf sl i) j = sBeg i j := by
  obtain ⟨m1, m2⟩ := (h.mt hi).bl hs
  unfold mBegins sBeg
  rw [Bool.eq_iff_iff, decide_eq_true_iff, decide_eq_true_iff, m2 j hj]
  by_cases e : j = 0
  · simp [e]
  · rw [show 48 * sOf sl i + j - 1 = 48 * sOf sl i + (j - 1) by omega, m2 (j - 1) (by omega)]
/-- how many extents begin from place a on -/
def nB (i : VI) (n a : Nat) : Nat := (List.range' a n).countP (fun j => sBeg i j)
theorem nB_succ (i : VI) (n a : Nat) : nB i (n + 1) a = (if sBeg i a = true then 1 else 0) + nB i n (a + 1) := by
  unfold nB
  rw [List.range'_succ, List.countP_cons, Nat.add_comm]
theorem nB_le (i : VI) (n a : Nat) : nB i n a ≤ n := by
  unfold nB
  exact Nat.le_trans List.countP_le_length (by simp)
theorem RL.ovIe (h : RL σ v sl) {i : VI} (hi : i ∈ vIt v) (hs : iIsS i = true) (hl : iLe i ≤ 48) (w : Int32) : ∀ (n a s L : Nat), a + n = iLe i → s ≤ a → L < 2 ^ 30 →
    ovI σ (sOf sl i) w n a (nI s) (nI L) = if s + nB i n a ≤ max s 2 + L then .inr (nI (max s 2 + L - max 2 (s + nB i n a))) else .inl (mTold σ (sOf sl i) (epF i (nI (max s 2 + L)) n a (nI s)) w) := by
  intro n
  induction n with
  | zero =>
    intro a s L _ _ _
    rw [ovI, show nB i 0 a = 0 from rfl, if_pos (by omega), show max s 2 + L - max 2 (s + 0) = L by omega]
  | succ n ih =>
    intro a s L ha hsa hL
    rw [ovI, nB_succ, epF, h.beg hi hs (by omega)]
    by_cases hb : sBeg i a = true
    · rw [if_pos hb, if_pos hb, if_pos hb]
      have e1 : (nI s + 1 ≤ (2 : Int32)) ↔ s + 1 ≤ 2 := by rw [nI_1]; exact nI_leI (b := 2) (by omega) (by omega)
      have e2 : nI s = nI (max s 2 + L) ↔ s = max s 2 + L := nI_eq (by omega) (by omega)
      by_cases h2 : s + 1 ≤ 2
      · rw [if_pos (e1.mpr h2), nI_1, ih (a + 1) (s + 1) L (by omega) (by omega) hL, if_neg (show ¬ nI s = nI (max s 2 + L) from fun z => by have := e2.mp z; omega), show max (s + 1) 2 = 2 by omega, show max s 2 = 2 by omega, show s + 1 + nB i n (a + 1) = s + (1 + nB i n (a + 1)) by omega]
      · rw [if_neg (fun z => h2 (e1.mp z))]
        by_cases h0 : L = 0
        · subst h0
          rw [if_pos (show nI 0 = 0 from rfl), if_pos (e2.mpr (by omega)), if_neg (by omega)]
        · rw [if_neg (show ¬ nI L = 0 from nI_ne0 (by omega) (by omega)), if_neg (show ¬ nI s = nI (max s 2 + L) from fun z => h0 (by have := e2.mp z; omega)), nI_1, show nI L - 1 = nI (L - 1) from pk_sub (b := 1) (by omega), ih (a + 1) (s + 1) (L - 1) (by omega) (by omega) (by omega), show max (s + 1) 2 + (L - 1) = max s 2 + L by omega, show s + 1 + nB i n (a + 1) = s + (1 + nB i n (a + 1)) by omega]
    · rw [if_neg hb, if_neg hb, if_neg hb, ih (a + 1) s L (by omega) (by omega) hL, show s + (0 + nB i n (a + 1)) = s + nB i n (a + 1) by omega]
theorem sExt_nB (i : VI) : sExt i = nI (nB i (iLe i) 0) := by
  unfold sExt nB
  rw [cnM, List.range_eq_range']
/-- where the first extent from a on begins -/
theorem epF_wh (i : VI) (y : Int32) : ∀ (n a : Nat), a + n = iLe i → epF i y n a y = whF (fun j => !sBeg i j) n a := by
  intro n
  induction n with
  | zero => intro a ha; show iLe i = a; omega
  | succ n ih =>
    intro a ha
    rw [epF, whF]
    by_cases hb : sBeg i a = true
    · rw [if_pos hb, if_pos rfl, if_neg (by simp [hb])]
    · rw [if_neg hb, if_pos (by simp [hb]), ih (a + 1) (by omega)]
theorem epF_next (i : VI) (x : Nat) (hx : x < 2 ^ 30) : ∀ (n a s : Nat), a + n = iLe i → s ≤ x → x < s + nB i n a → epF i (nI x) n a (nI s) < iLe i ∧ a ≤ epF i (nI x) n a (nI s) ∧ epF i (nI (x + 1)) n a (nI s) = whF (fun j => !sBeg i j) (iLe i - epF i (nI x) n a (nI s) - 1) (epF i (nI x) n a (nI s) + 1) := by
  intro n
  induction n with
  | zero => intro a s _ h1 h2; rw [show nB i 0 a = 0 from rfl] at h2; omega
  | succ n ih =>
    intro a s ha h1 h2
    rw [nB_succ] at h2
    rw [epF, epF]
    by_cases hb : sBeg i a = true
    · rw [if_pos hb] at h2
      rw [if_pos hb, if_pos hb]
      have e1 : nI s = nI x ↔ s = x := nI_eq (by omega) (by omega)
      have e2 : ¬ nI s = nI (x + 1) := fun z => by have := (nI_eq (by omega) (by omega)).mp z; omega
      rw [if_neg e2]
      by_cases e : s = x
      · rw [if_pos (e1.mpr e)]
        subst e
        refine ⟨by omega, Nat.le_refl _, ?_⟩
        rw [nI_1, epF_wh i _ n (a + 1) (by omega), show iLe i - a - 1 = n by omega]
      · rw [if_neg (fun z => e (e1.mp z)), nI_1]
        obtain ⟨q1, q2, q3⟩ := ih (a + 1) (s + 1) (by omega) (by omega) (by omega)
        exact ⟨q1, by omega, q3⟩
    · rw [if_neg hb] at h2
      rw [if_neg hb, if_neg hb]
      obtain ⟨q1, q2, q3⟩ := ih (a + 1) s (by omega) h1 (by omega)
      exact ⟨q1, by omega, q3⟩
theorem whF_shift (P : Nat → Bool) (a : Nat) : ∀ (n k : Nat), a + whF (fun j => P (a + j)) n k = whF P n (a + k) := by
  intro n
  induction n with
  | zero => intro k; rfl
  | succ n ih =>
    intro k
    rw [whF, whF]
    by_cases hp : P (a + k) = true
    · rw [if_pos hp, if_pos hp, ih (k + 1)]; rfl
    · rw [if_neg hp, if_neg hp]
theorem whF_cong {P Q : Nat → Bool} : ∀ (n k : Nat), (∀ j, k ≤ j → j < k + n → P j = Q j) → whF P n k = whF Q n k := by
  intro n
  induction n with
  | zero => intro k _; rfl
  | succ n ih =>
    intro k h
    rw [whF, whF, h k (by omega) (by omega), ih (k + 1) (fun j h1 h2 => h j (by omega) (by omega))]
theorem le3 {w : Int32} (h0 : ¬ w < 0) (h4 : w ≤ 3) : w = 0 ∨ w = 1 ∨ w = 2 ∨ w = 3 := by
  obtain ⟨j, hj, rfl⟩ := nI_of h0
  have := (nI_leI hj (by omega)).mp (show nI j ≤ nI 3 from h4)
  have : j = 0 ∨ j = 1 ∨ j = 2 ∨ j = 3 := by omega
  rcases this with e | e | e | e <;> subst e <;> decide
theorem RL.told (h : RL σ v sl) {i : VI} (hi : i ∈ vIt v) (hs : iIsS i = true) (hl : iLe i ≤ 48) {w : Int32} (hw : ¬ w < 0) (hw3 : w ≤ 3) {x : Nat} (hx : x < nB i (iLe i) 0) : mTold σ (sOf sl i) (epF i (nI x) (iLe i) 0 0) w = iOf i (nI x) w := by
  obtain ⟨m1, m2⟩ := (h.mt hi).bl hs
  have hnb := nB_le i (iLe i) 0
  obtain ⟨q1, q2, q3⟩ := epF_next i x (by omega) (iLe i) 0 0 (by omega) (by omega) (by omega)
  rw [show nI 0 = (0 : Int32) from rfl] at q1 q2 q3
  have e : sPlace i (nI x) = epF i (nI x) (iLe i) 0 0 := rfl
  have e2 : sPlace i (nI x + 1) = epF i (nI (x + 1)) (iLe i) 0 0 := by rw [nI_1]; rfl
  unfold mTold iOf
  rw [e, e2, if_pos q1, (h.mt hi).id]
  generalize epF i (nI x) (iLe i) 0 0 = a at q1 q2 q3 ⊢
  have hlen : nI (mLen σ (sOf sl i) a) = nI (epF i (nI (x + 1)) (iLe i) 0 0) - nI a := by
    have hw2 := whF_le (fun j => !mBegins σ (sOf sl i) (a + j)) (iLe i - a - 1) 1
    have e3 : a + mLen σ (sOf sl i) a = epF i (nI (x + 1)) (iLe i) 0 0 := by
      unfold mLen
      rw [m1, whF_shift (fun j => !mBegins σ (sOf sl i) j) a, q3]
      exact whF_cong _ _ (fun j h1 h2 => by rw [h.beg hi hs (by omega)])
    rw [← e3, pk_sub (by omega)]
    exact congrArg nI (by omega)
  rcases le3 hw hw3 with z | z | z | z <;> subst z
  · simp
  · simp
  · simp [m2 a q1]
  · simp [hlen]
-- the files in the order of their ids
def cnd (σ : MS) (ab : Int32) (p : Nat) : Prop := mIsF σ p = true ∧ ¬ sId σ p ≤ ab
theorem fbF_min (σ : MS) (ab : Int32) : ∀ (n k : Nat) (b : Option Nat),
    (fbF σ ab n k b = none → b = none ∧ ∀ j, k ≤ j → j < k + n → ¬ cnd σ ab j) ∧
    (∀ q, fbF σ ab n k b = some q → (b = some q ∨ (k ≤ q ∧ q < k + n ∧ cnd σ ab q)) ∧ (∀ q2, b = some q2 → sId σ q ≤ sId σ q2) ∧ ∀ j, k ≤ j → j < k + n → cnd σ ab j → sId σ q ≤ sId σ j) := by
  intro n
  induction n with
  | zero =>
    intro k b
    refine ⟨fun h => ⟨h, fun j h1 h2 => by omega⟩, fun q h => ⟨Or.inl h, fun q2 h2 => ?_, fun j h1 h2 => by omega⟩⟩
    have h : b = some q := h
    rw [h] at h2; cases h2; exact Int32.le_refl _
  | succ n ih =>
    intro k b
    rw [fbF]
    by_cases hk : mIsF σ k = true ∧ ¬ sId σ k ≤ ab ∧ mBetter σ k b = true
    · rw [if_pos hk]
      obtain ⟨i1, i2⟩ := ih (k + 1) (some k)
      refine ⟨fun h => (by have := (i1 h).1; cases this), fun q h => ?_⟩
      obtain ⟨a1, a2, a3⟩ := i2 q h
      have a2 := a2 k rfl
      refine ⟨?_, fun q2 h2 => ?_, fun j h1 h2 h3 => ?_⟩
      · rcases a1 with a1 | a1
        · cases a1; exact Or.inr ⟨Nat.le_refl _, by omega, hk.1, hk.2.1⟩
        · exact Or.inr ⟨by omega, by omega, a1.2.2⟩
      · subst h2
        have := of_decide_eq_true hk.2.2
        rw [Int32.le_iff_toInt_le] at this a2 ⊢
        omega
      · by_cases e : j = k
        · rw [e]; exact a2
        · exact a3 j (by omega) (by omega) h3
    · rw [if_neg hk]
      obtain ⟨i1, i2⟩ := ih (k + 1) b
      refine ⟨fun h => ⟨(i1 h).1, fun j h1 h2 h3 => ?_⟩, fun q h => ?_⟩
      · by_cases e : j = k
        · rw [e] at h3
          exact hk ⟨h3.1, h3.2, by rw [(i1 h).1]; rfl⟩
        · exact (i1 h).2 j (by omega) (by omega) h3
      · obtain ⟨a1, a2, a3⟩ := i2 q h
        refine ⟨?_, a2, fun j h1 h2 h3 => ?_⟩
        · rcases a1 with a1 | a1
          · exact Or.inl a1
          · exact Or.inr ⟨by omega, by omega, a1.2.2⟩
        · by_cases e : j = k
          · rw [e] at h3 ⊢
            match hb : b with
            | none => exact absurd ⟨h3.1, h3.2, rfl⟩ hk
            | some q2 =>
              have h4 := a2 q2 rfl
              have h5 : ¬ mBetter σ k (some q2) = true := fun z => hk ⟨h3.1, h3.2, z⟩
              have h5 : ¬ ¬ sId σ q2 ≤ sId σ k := fun z => h5 (decide_eq_true z)
              rw [Int32.le_iff_toInt_le] at h4 h5 ⊢
              omega
          · exact a3 j (by omega) (by omega) h3
theorem asc_lt (g : VG v c) {a b : Nat} (hab : a < b) (hb : b < (vIt v).length) : iId (vAt v a) < iId (vAt v b) := by
  rw [vAt_get (by omega), vAt_get hb]
  exact List.pairwise_iff_getElem.mp g.asc a b (by omega) hb hab
theorem RL.after (h : RL σ v sl) (g : VG v c) {ab : Int32} {m k : Nat} (hm : k + m = (vIt v).length) (hlo : ∀ j, j < k → iId (vAt v j) ≤ ab) (hhi : ∀ j, k ≤ j → j < (vIt v).length → ¬ iId (vAt v j) ≤ ab) : mFileAfter σ ab = (fdF (fun j => iIsS (vAt v j)) m k).map (slK v sl) := by
  obtain ⟨f1, f2⟩ := fbF_min σ ab 40 0 none
  have hc : ∀ j, j < (vIt v).length → iIsS (vAt v j) = true → k ≤ j → cnd σ ab (slK v sl j) := fun j hj hs hk => by
    have hi := vAt_mem hj
    exact ⟨(h.isF hi).trans hs, by rw [show sId σ (slK v sl j) = iId (vAt v j) from (h.mt hi).id]; exact hhi j hk hj⟩
  match e : fdF (fun j => iIsS (vAt v j)) m k with
  | none =>
    match e2 : mFileAfter σ ab with
    | none => rfl
    | some q =>
      obtain ⟨a1, a2, a3⟩ := f2 q e2
      rcases a1 with a1 | ⟨-, a4, a5⟩
      · cases a1
      · obtain ⟨i, hi, ei⟩ := h.sat (by omega) (isF0 a5.1)
        obtain ⟨j, hj, ej⟩ := mem_at hi
        subst ei
        by_cases hjk : k ≤ j
        · refine absurd ?_ ((fdF_none _ _ _).mp e j hjk (by omega))
          rw [ej, ← h.isF hi]; exact a5.1
        · have := hlo j (by omega)
          rw [ej] at this
          exact absurd (by rw [(h.mt hi).id]; exact this) a5.2
  | some j0 =>
    have b := fdF_lt _ _ _ _ e
    have b1 := fdF_first _ _ _ _ e
    have c0 := hc j0 (by omega) b.2.2 b.1
    have m0 := vAt_mem (v := v) (k := j0) (by omega)
    match e2 : mFileAfter σ ab with
    | none => exact absurd c0 ((f1 e2).2 _ (by omega) (by have := h.slt m0; unfold slK; omega))
    | some q =>
      obtain ⟨a1, a2, a3⟩ := f2 q e2
      rcases a1 with a1 | ⟨-, a4, a5⟩
      · cases a1
      · obtain ⟨i, hi, ei⟩ := h.sat (by omega) (isF0 a5.1)
        obtain ⟨j, hj, ej⟩ := mem_at hi
        subst ei
        have hmin := a3 (slK v sl j0) (by omega) (by have := h.slt m0; unfold slK; omega) c0
        rw [show sId σ (slK v sl j0) = iId (vAt v j0) from (h.mt m0).id, (h.mt hi).id] at hmin
        have hs : iIsS (vAt v j) = true := by rw [ej, ← h.isF hi]; exact a5.1
        have hjk : k ≤ j := Decidable.byContradiction (fun z => by
          have := hlo j (by omega)
          rw [ej] at this
          exact a5.2 (by rw [(h.mt hi).id]; exact this))
        have : j = j0 := by
          rcases Nat.lt_trichotomy j j0 with z | z | z
          · exact absurd hs (b1 j hjk z)
          · exact z
          · have := asc_lt g z hj
            rw [ej] at this
            rw [Int32.lt_iff_toInt_lt] at this
            rw [Int32.le_iff_toInt_le] at hmin
            omega
        subst this
        show some _ = some (sOf sl (vAt v j))
        rw [ej]
theorem iOv_N {i : VI} (hs : iIsS i = true) (hl : iLe i ≤ 48) : iOv i = nI (nB i (iLe i) 0 - 2) := by
  have := nB_le i (iLe i) 0
  unfold iOv
  rw [if_pos hs, sExt_nB, ← ov_eq (by omega)]
  generalize nB i (iLe i) 0 = n at *
  by_cases h2 : n ≤ 2
  · rw [if_pos (show nI n ≤ (2 : Int32) from (nI_leI (b := 2) (by omega) (by omega)).mpr h2), show n - 2 = 0 by omega]; rfl
  · rw [if_neg (show ¬ nI n ≤ (2 : Int32) from fun z => h2 ((nI_leI (b := 2) (by omega) (by omega)).mp z))]
    exact pk_sub (b := 2) (by omega)
theorem RL.ovOe (h : RL σ v sl) (g : VG v c) (hp : PR v) {w : Int32} (hw : ¬ w < 0) (hw3 : w ≤ 3) : ∀ (m k n L : Nat), k + m = (vIt v).length → m ≤ n → L < 2 ^ 30 → ovO σ w n ((fdF (fun j => iIsS (vAt v j)) m k).map (slK v sl)) (nI L) = voF v w m k (nI L) := by
  intro m
  induction m with
  | zero => intro k n L _ _ _; cases n <;> rfl
  | succ m ih =>
    intro k n L hm hn hL
    have hi := vAt_mem (v := v) (k := k) (by omega)
    rw [fdF, voF]
    by_cases hs : iIsS (vAt v k) = true
    · rw [if_pos hs]
      have hl := (hp.bl hi hs).1
      have hnb := nB_le (vAt v k) (iLe (vAt v k)) 0
      obtain ⟨n', rfl⟩ : ∃ n', n = n' + 1 := ⟨n - 1, by omega⟩
      show (match ovI σ (sOf sl (vAt v k)) w (sMa σ (sOf sl (vAt v k))) 0 0 (nI L) with
        | .inl r => r
        | .inr lf' => ovO σ w n' (mFileAfter σ (sId σ (sOf sl (vAt v k)))) lf') = _
      have ho := h.ovIe hi hs hl w (iLe (vAt v k)) 0 0 L (by omega) (by omega) hL
      rw [show nI 0 = (0 : Int32) from rfl] at ho
      rw [((h.mt hi).bl hs).1, ho, iOv_N hs hl]
      have e1 : (nI (nB (vAt v k) (iLe (vAt v k)) 0 - 2) ≤ nI L) ↔ nB (vAt v k) (iLe (vAt v k)) 0 - 2 ≤ L := nI_leI (by omega) (by omega)
      by_cases h2 : nB (vAt v k) (iLe (vAt v k)) 0 - 2 ≤ L
      · rw [if_pos (by omega), if_pos (e1.mpr h2)]
        show ovO σ w n' (mFileAfter σ (sId σ (sOf sl (vAt v k)))) _ = _
        rw [(h.mt hi).id, h.after g (m := m) (k := k + 1) (by omega) (fun j hj => ?_) (fun j hj hj2 => ?_), show max 0 2 + L - max 2 (0 + nB (vAt v k) (iLe (vAt v k)) 0) = L - (nB (vAt v k) (iLe (vAt v k)) 0 - 2) by omega, pk_sub h2]
        · exact ih (k + 1) n' _ (by omega) (by omega) (by omega)
        · by_cases e : j = k
          · rw [e]; exact Int32.le_refl _
          · have := asc_lt g (show j < k by omega) (by omega)
            rw [Int32.lt_iff_toInt_lt] at this
            rw [Int32.le_iff_toInt_le]
            omega
        · have := asc_lt g (show k < j by omega) hj2
          rw [Int32.lt_iff_toInt_lt] at this
          rw [Int32.le_iff_toInt_le]
          omega
      · rw [if_neg (by omega), if_neg (fun z => h2 (e1.mp z)), if_pos hs]
        show mTold σ _ (epF _ (nI (2 + L)) _ 0 0) w = iOf _ (nI 2 + nI L) w
        rw [nI_add]
        exact h.told hi hs hl hw hw3 (by omega)
    · rw [if_neg hs, show iOv (vAt v k) = 0 by unfold iOv; rw [if_neg hs], if_pos (show (0 : Int32) ≤ nI L from nI_pos' (by omega)), show nI L - 0 = nI L by simp]
      exact ih (k + 1) n L (by omega) (by omega) hL
end RLV
section RLW
variable {σ : MS} {v : VS} {sl : Nat → Nat} {c : Nat}
theorem nodup_len {l : List Nat} {n : Nat} (hnd : l.Nodup) (hlt : ∀ p ∈ l, p < n) : l.length ≤ n := by
  have h2 := cnt_perm (P := fun r => decide (r ∈ l)) hnd hlt (fun p hp hq => of_decide_eq_true hq)
  rw [(List.countP_eq_length (l := l)).mpr (fun r hr => decide_eq_true hr)] at h2
  rw [← h2]
  exact Nat.le_trans List.countP_le_length (by simp)
theorem RL.len40 (h : RL σ v sl) : (vIt v).length ≤ 40 := by
  have := nodup_len h.snd (n := 40) (fun p hp => by
    obtain ⟨i, hi, e⟩ := List.mem_map.mp hp
    rw [← e]; exact h.slt hi)
  simpa using this
theorem RL.ovBig (h : RL σ v sl) {i : VI} (hi : i ∈ vIt v) (hs : iIsS i = true) (hl : iLe i ≤ 48) (w : Int32) : ∀ (n a s L : Nat), a + n = iLe i → s ≤ a → L < 2 ^ 31 → n < L →
    ovI σ (sOf sl i) w n a (nI s) (nI L) = .inr (nI (L - (max 2 (s + nB i n a) - max 2 s))) := by
  intro n
  induction n with
  | zero =>
    intro a s L _ _ _ _
    rw [ovI, show nB i 0 a = 0 from rfl, show L - (max 2 (s + 0) - max 2 s) = L by omega]
  | succ n ih =>
    intro a s L ha hsa hL hn
    rw [ovI, nB_succ, h.beg hi hs (by omega)]
    have hnb := nB_le i n (a + 1)
    by_cases hb : sBeg i a = true
    · rw [if_pos hb, if_pos hb]
      have e1 : (nI s + 1 ≤ (2 : Int32)) ↔ s + 1 ≤ 2 := by rw [nI_1]; exact nI_leI (b := 2) (by omega) (by omega)
      by_cases h2 : s + 1 ≤ 2
      · rw [if_pos (e1.mpr h2), nI_1, ih (a + 1) (s + 1) L (by omega) (by omega) hL (by omega)]
        exact congrArg (fun z => Sum.inr (nI z)) (by omega)
      · rw [if_neg (fun z => h2 (e1.mp z)), if_neg (show ¬ nI L = 0 from nI_ne0 (by omega) (by omega)), nI_1, show nI L - 1 = nI (L - 1) from pk_sub (b := 1) (by omega), ih (a + 1) (s + 1) (L - 1) (by omega) (by omega) (by omega) (by omega)]
        exact congrArg (fun z => Sum.inr (nI z)) (by omega)
    · rw [if_neg hb, if_neg hb, ih (a + 1) s L (by omega) (by omega) hL (by omega)]
      exact congrArg (fun z => Sum.inr (nI z)) (by omega)
theorem RL.ovBigO (h : RL σ v sl) (g : VG v c) (hp : PR v) (w : Int32) : ∀ (m k n L : Nat), k + m = (vIt v).length → m ≤ n → L < 2 ^ 31 → 50 * m + 50 < L → ovO σ w n ((fdF (fun j => iIsS (vAt v j)) m k).map (slK v sl)) (nI L) = -2 ∧ voF v w m k (nI L) = -2 := by
  intro m
  induction m with
  | zero => intro k n L _ _ _ _; cases n <;> exact ⟨rfl, rfl⟩
  | succ m ih =>
    intro k n L hm hn hL hbig
    have hi := vAt_mem (v := v) (k := k) (by omega)
    rw [fdF, voF]
    by_cases hs : iIsS (vAt v k) = true
    · rw [if_pos hs]
      have hl := (hp.bl hi hs).1
      have hnb := nB_le (vAt v k) (iLe (vAt v k)) 0
      obtain ⟨n', rfl⟩ : ∃ n', n = n' + 1 := ⟨n - 1, by omega⟩
      have ho := h.ovBig hi hs hl w (iLe (vAt v k)) 0 0 L (by omega) (by omega) hL (by omega)
      rw [show nI 0 = (0 : Int32) from rfl] at ho
      have e1 : (nI (nB (vAt v k) (iLe (vAt v k)) 0 - 2) ≤ nI L) := (nI_leI (by omega) (by omega)).mpr (by omega)
      have hI := ih (k + 1) n' (L - (nB (vAt v k) (iLe (vAt v k)) 0 - 2)) (by omega) (by omega) (by omega) (by omega)
      constructor
      · show (match ovI σ (sOf sl (vAt v k)) w (sMa σ (sOf sl (vAt v k))) 0 0 (nI L) with
          | .inl r => r
          | .inr lf' => ovO σ w n' (mFileAfter σ (sId σ (sOf sl (vAt v k)))) lf') = _
        rw [((h.mt hi).bl hs).1, ho]
        show ovO σ w n' (mFileAfter σ (sId σ (sOf sl (vAt v k)))) _ = _
        rw [(h.mt hi).id, h.after g (m := m) (k := k + 1) (by omega) (fun j hj => ?_) (fun j hj hj2 => ?_), show L - (max 2 (0 + nB (vAt v k) (iLe (vAt v k)) 0) - max 2 0) = L - (nB (vAt v k) (iLe (vAt v k)) 0 - 2) by omega]
        · exact hI.1
        · by_cases e : j = k
          · rw [e]; exact Int32.le_refl _
          · have := asc_lt g (show j < k by omega) (by omega)
            rw [Int32.lt_iff_toInt_lt] at this
            rw [Int32.le_iff_toInt_le]
            omega
        · have := asc_lt g (show k < j by omega) hj2
          rw [Int32.lt_iff_toInt_lt] at this
          rw [Int32.le_iff_toInt_le]
          omega
      · rw [iOv_N hs hl, if_pos e1, pk_sub (by omega)]
        exact hI.2
    · rw [if_neg hs, show iOv (vAt v k) = 0 by unfold iOv; rw [if_neg hs], if_pos (show (0 : Int32) ≤ nI L from nI_pos' (by omega)), show nI L - 0 = nI L by simp]
      exact ih (k + 1) n L (by omega) (by omega) hL (by omega)
theorem voF_bad (v : VS) {w : Int32} (n0 : ¬ w = 0) (n1 : ¬ w = 1) (n2 : ¬ w = 2) (n3 : ¬ w = 3) : ∀ (m k : Nat) (lf : Int32), voF v w m k lf = -2 := by
  intro m
  induction m with
  | zero => intro k lf; rfl
  | succ m ih =>
    intro k lf
    rw [voF, ih]
    try rw [ih]
    unfold iOf
    simp [n0, n1, n2, n3]
theorem RL.overflow (h : RL σ v sl) (g : VG v c) (hp : PR v) (hc : c ≤ 600) (x w : Int32) : mOverflow σ x w = vOverflow v x w := by
  have h40 := h.len40
  unfold mOverflow vOverflow
  by_cases hx : x < 0
  · rw [if_pos hx, if_neg (by rw [Int32.le_iff_toInt_le]; rw [Int32.lt_iff_toInt_lt] at hx; omega)]
  · rw [if_neg hx, if_pos (show 0 ≤ x by rw [Int32.le_iff_toInt_le]; rw [Int32.lt_iff_toInt_lt] at hx; omega)]
    obtain ⟨L, hL, rfl⟩ := nI_of hx
    by_cases hw : w < 0
    · rw [if_pos hw, voF_bad v (fun z => by rw [z] at hw; exact absurd hw (by decide)) (fun z => by rw [z] at hw; exact absurd hw (by decide)) (fun z => by rw [z] at hw; exact absurd hw (by decide)) (fun z => by rw [z] at hw; exact absurd hw (by decide))]
    · rw [if_neg hw]
      by_cases hw3 : w ≤ 3
      · rw [if_pos hw3, h.after g (m := (vIt v).length) (k := 0) (by omega) (fun j hj => by omega) (fun j hj hj2 => ?_)]
        · by_cases hb : L < 2 ^ 30
          · exact h.ovOe g hp hw hw3 _ 0 40 L (by omega) h40 hb
          · have := h.ovBigO g hp w (vIt v).length 0 40 L (by omega) h40 hL (by omega)
            rw [this.1, this.2]
        · obtain ⟨d, h1, h2, h3⟩ := g.id16 (vAt_mem hj2) hc
          rw [h1]
          exact nI_nle (by omega) (by omega)
      · rw [if_neg hw3, voF_bad v (fun z => hw3 (by rw [z]; decide)) (fun z => hw3 (by rw [z]; decide)) (fun z => hw3 (by rw [z]; decide)) (fun z => hw3 (by rw [z]; decide))]
end RLW
-- the lines in order, under a change
def kLt (a b : Int32 × Int32) : Prop := a.1 < b.1 ∨ (a.1 = b.1 ∧ ¬ b.2 ≤ a.2)
theorem kLt_tr {a b d : Int32 × Int32} (h1 : kLt a b) (h2 : kLt b d) : kLt a d := by
  unfold kLt at *
  rw [Int32.lt_iff_toInt_lt, Int32.le_iff_toInt_le, ← Int32.toInt_inj] at *
  omega
theorem kLt_tot {a b : Int32 × Int32} (h1 : ¬ kLt a b) (h2 : a ≠ b) : kLt b a := by
  have h2 : ¬ (a.1 = b.1 ∧ a.2 = b.2) := fun z => h2 (Prod.ext z.1 z.2)
  unfold kLt at *
  rw [Int32.lt_iff_toInt_lt, Int32.le_iff_toInt_le, ← Int32.toInt_inj] at *
  rw [← Int32.toInt_inj] at h2
  omega
def LG (R : Nat → Prop) (K : Nat → Int32 × Int32) (rs : List Nat) : Prop := rs.Nodup ∧ (∀ r, r ∈ rs ↔ R r) ∧ rs.Pairwise (fun r q => kLt (K r) (K q))
theorem LG.cong {R R2 : Nat → Prop} {K K2 : Nat → Int32 × Int32} {rs : List Nat} (h : LG R K rs) (hR : ∀ r, R r ↔ R2 r) (hK : ∀ r, R r → K r = K2 r) : LG R2 K2 rs := by
  refine ⟨h.1, fun r => (h.2.1 r).trans (hR r), h.2.2.imp_of_mem (fun {a b} ha hb hab => ?_)⟩
  rw [← hK a ((h.2.1 a).mp ha), ← hK b ((h.2.1 b).mp hb)]
  exact hab
theorem LG.del {R : Nat → Prop} {K : Nat → Int32 × Int32} {rs : List Nat} (h : LG R K rs) {k : Nat} (hk : k < rs.length) : LG (fun r => R r ∧ r ≠ rs[k]) K (rs.eraseIdx k) := by
  have hs := List.eraseIdx_sublist rs k
  refine ⟨h.1.sublist hs, fun r => ?_, h.2.2.sublist hs⟩
  show _ ↔ R r ∧ r ≠ rs[k]
  rw [List.mem_eraseIdx_iff_getElem, ← h.2.1 r]
  constructor
  · rintro ⟨i, hi, hne, e⟩
    exact ⟨e ▸ List.getElem_mem hi, fun z => hne (nd_inj h.1 hi hk (e.trans z))⟩
  · rintro ⟨hm, hne⟩
    obtain ⟨i, hi, e⟩ := List.mem_iff_getElem.mp hm
    exact ⟨i, hi, fun z => hne (by subst z; exact e.symm), e⟩
theorem insF_pr (P : Nat → Bool) : ∀ (n k : Nat), k ≤ insF P n k ∧ insF P n k ≤ k + n ∧ (∀ j, k ≤ j → j < insF P n k → P j = true) ∧ (insF P n k < k + n → ¬ P (insF P n k) = true) := by
  intro n
  induction n with
  | zero => intro k; exact ⟨Nat.le_refl _, Nat.le_refl _, fun j h1 h2 => by rw [insF] at h2; omega, fun h => by rw [insF] at h; omega⟩
  | succ n ih =>
    intro k
    rw [insF]
    by_cases hp : P k = true
    · rw [if_pos hp]
      obtain ⟨a1, a2, a3, a4⟩ := ih (k + 1)
      refine ⟨by omega, by omega, fun j h1 h2 => ?_, fun h => a4 (by omega)⟩
      by_cases e : j = k
      · rw [e]; exact hp
      · exact a3 j (by omega) h2
    · rw [if_neg hp]
      exact ⟨Nat.le_refl _, by omega, fun j h1 h2 => by omega, fun _ => hp⟩
theorem insF_cong {P Q : Nat → Bool} : ∀ (n k : Nat), (∀ j, k ≤ j → j < k + n → P j = Q j) → insF P n k = insF Q n k := by
  intro n
  induction n with
  | zero => intro k _; rfl
  | succ n ih =>
    intro k h
    rw [insF, insF, h k (by omega) (by omega), ih (k + 1) (fun j h1 h2 => h j (by omega) (by omega))]
theorem ins_td {α : Type} (x : α) : ∀ (l : List α) (k : Nat), k ≤ l.length → l.insertIdx k x = l.take k ++ x :: l.drop k := by
  intro l
  induction l with
  | nil =>
    intro k hk
    have : k = 0 := by simpa using hk
    subst this; rfl
  | cons a l ih =>
    intro k hk
    cases k with
    | zero => rfl
    | succ k =>
      rw [List.insertIdx_succ_cons, ih k (by simpa using hk)]
      rfl
theorem LG.ins {R : Nat → Prop} {K : Nat → Int32 × Int32} {rs : List Nat} (h : LG R K rs) {r2 : Nat} (hn : ¬ R r2) (hK : ∀ r, R r → K r ≠ K r2) {P : Nat → Bool} (hP : ∀ j (hj : j < rs.length), P j = true ↔ kLt (K rs[j]) (K r2)) : LG (fun r => R r ∨ r = r2) K (rs.insertIdx (insF P rs.length 0) r2) := by
  obtain ⟨-, a2, a3, a4⟩ := insF_pr P rs.length 0
  generalize insF P rs.length 0 = k at a2 a3 a4
  have hk : k ≤ rs.length := by omega
  have hlo : ∀ r ∈ rs.take k, kLt (K r) (K r2) := fun r hr => by
    obtain ⟨i, hi, e⟩ := List.mem_iff_getElem.mp hr
    have hi' : i < k := by simp at hi; omega
    rw [List.getElem_take] at e
    rw [← e]
    exact (hP i (by omega)).mp (a3 i (by omega) hi')
  have hhi : ∀ r ∈ rs.drop k, kLt (K r2) (K r) := fun r hr => by
    obtain ⟨i, hi, e⟩ := List.mem_iff_getElem.mp hr
    have hi' : k + i < rs.length := by simp at hi; omega
    rw [List.getElem_drop] at e
    have h0 : kLt (K r2) (K rs[k]) := by
      have hkl : k < rs.length := by omega
      refine kLt_tot (fun z => ?_) (hK _ ((h.2.1 _).mp (List.getElem_mem hkl)))
      exact a4 (by omega) ((hP k hkl).mpr z)
    rw [← e]
    by_cases hi0 : i = 0
    · subst hi0; exact h0
    · exact kLt_tr h0 (List.pairwise_iff_getElem.mp h.2.2 k (k + i) (by omega) hi' (by omega))
  have hperm : (rs.insertIdx k r2).Perm (r2 :: rs) := List.perm_insertIdx r2 rs hk
  refine ⟨hperm.nodup_iff.mpr (List.nodup_cons.mpr ⟨fun z => hn ((h.2.1 _).mp z), h.1⟩), fun r => ?_, ?_⟩
  · rw [hperm.mem_iff, List.mem_cons, h.2.1 r, or_comm]
  · rw [ins_td r2 rs k hk, List.pairwise_append, List.pairwise_cons]
    have hp := h.2.2
    rw [← List.take_append_drop k rs, List.pairwise_append] at hp
    refine ⟨hp.1, ⟨hhi, hp.2.1⟩, fun a ha b hb => ?_⟩
    rcases List.mem_cons.mp hb with e | e
    · rw [e]; exact hlo a ha
    · exact hp.2.2 a ha b e
-- of the class's lines
def lKey (n : VLn) (i : VI) : Int32 × Int32 := (lKid n i, lKna n i)
theorem lBef_k (n : VLn) (i : VI) (n2 : VLn) (i2 : VI) : lBef n i n2 i2 = true ↔ kLt (lKey n i) (lKey n2 i2) := by
  unfold lBef kLt lKey
  by_cases z : lKid n i = lKid n2 i2
  · rw [if_pos z, decide_eq_true_iff, z]
    exact ⟨fun q => Or.inr ⟨rfl, q⟩, fun q => q.elim (fun q => absurd q (fun z => Int32.lt_irrefl z)) (fun q => q.2)⟩
  · rw [if_neg z, decide_eq_true_iff, ← ltI]
    exact ⟨Or.inl, fun q => q.elim id (fun q => absurd q.1 z)⟩
section LGV
variable {v : VS} {sl : Nat → Nat} {R : Nat → Prop} {K : Nat → Int32 × Int32}
theorem LG.put (h : LG R K ((vLn v).map (rOf sl))) (n2 : VLn) (i2 : VI) (hn : ¬ R (rOf sl n2)) (hK : ∀ r, R r → K r ≠ K (rOf sl n2)) (hl : ∀ n ∈ vLn v, K (rOf sl n) = lKey n (lIt v n)) (h2 : K (rOf sl n2) = lKey n2 i2) : LG (fun r => R r ∨ r = rOf sl n2) K ((vLn (vPut v n2 i2)).map (rOf sl)) := by
  have := h.ins hn hK (P := fun k => lBef (vLt v k) (lIt v (vLt v k)) n2 i2) (fun j hj => by
    have hj' : j < (vLn v).length := by simpa using hj
    rw [lBef_k, List.getElem_map, h2, hl _ (List.getElem_mem hj')]
    unfold vLt
    rw [getD_lt hj'])
  rw [List.length_map, map_ins] at this
  exact this
theorem LG.dele (h : LG R K ((vLn v).map (rOf sl))) (q : Nat) (th : Bool) (hinj : ∀ n ∈ vLn v, sl (lI n) = sl q → lI n = q) : LG (fun r => R r ∧ r ≠ rOf sl (0, q, th)) K ((vLn (vDel v q th)).map (rOf sl)) := by
  unfold vDel
  match e : vPos v q th with
  | none =>
    refine h.cong (fun r => ⟨fun hr => ⟨hr, fun z => ?_⟩, fun hr => hr.1⟩) (fun _ _ => rfl)
    obtain ⟨n, hn, en⟩ := List.mem_map.mp ((h.2.1 r).mpr hr)
    obtain ⟨k, hk, ek⟩ := vLt_of hn
    rw [z] at en
    have h1 : lT n = th := by
      have := congrArg (· % 2) en
      simp only [rOf_mod] at this
      revert this
      show (if lT n = true then 1 else 0) = (if th = true then 1 else 0) → _
      cases lT n <;> cases th <;> simp
    have h2 : sl (lI n) = sl q := by
      have := congrArg (· / 2) en
      simp only [rOf_div] at this
      exact this
    refine (fdF_none _ _ _).mp e k (by omega) (by omega) ?_
    rw [ek]
    exact decide_eq_true ⟨hinj n hn h2, h1⟩
  | some k =>
    have b := fdF_lt _ _ _ _ e
    have b2 := of_decide_eq_true b.2.2
    have hk : k < ((vLn v).map (rOf sl)).length := by simpa using b.2.1
    have hd := h.del hk
    rw [map_er] at hd
    have e2 : ((vLn v).map (rOf sl))[k] = rOf sl (0, q, th) := by
      rw [List.getElem_map]
      have : (vLn v)[k]'(by simpa using hk) = vLt v k := by unfold vLt; rw [getD_lt]
      rw [this]
      unfold rOf
      rw [b2.1, b2.2]
      rfl
    rw [e2] at hd
    exact hd
end LGV
def mKey (σ : MS) (r : Nat) : Int32 × Int32 := (mKeyId σ r, mKeyName σ r)
theorem mBef_k {σ : MS} {r q : Nat} : mBefore σ r q = true ↔ kLt (mKey σ r) (mKey σ q) := by
  unfold mBefore kLt mKey
  rw [decide_eq_true_iff]
def LGm (σ : MS) (v : VS) (sl : Nat → Nat) : Prop := LG (fun r => r < 80 ∧ mIsRecord σ r = true) (mKey σ) ((vLn v).map (rOf sl))
theorem RL.lg {σ : MS} {v : VS} {sl : Nat → Nat} (h : RL σ v sl) : LGm σ v sl := ⟨h.lnd, fun r => h.rec r, h.srt.imp (fun hab => mBef_k.mp hab)⟩
theorem LGm.back {σ : MS} {v : VS} {sl : Nat → Nat} (h : LGm σ v sl) : ((vLn v).map (rOf sl)).Nodup ∧ (∀ r, r ∈ (vLn v).map (rOf sl) ↔ r < 80 ∧ mIsRecord σ r = true) ∧ ((vLn v).map (rOf sl)).Pairwise (fun r q => mBefore σ r q = true) := ⟨h.1, h.2.1, h.2.2.imp (fun hab => mBef_k.mpr hab)⟩
-- what the class's writers do to its state
def iSetE (i : VI) (x : Int32) : VI := (iA i, iId i, iFo i, iNa i, .inl x)
def iSetL (i : VI) (x : Int32) : VI := (iA i, iId i, iFo i, iNa i, .inr (.inl (iBa i, iBl i, iLe i, x)))
def iCut (i : VI) (n : Nat) : VI := (iA i, iId i, iFo i, iNa i, .inr (.inl (iBa i, iBl i, n, iLk i)))
def iMv (i : VI) (fo na : Int32) : VI := (iA i, iId i, fo, na, iK i)
def updA (q : Nat) (x : VI) (l : List VI) : List VI := l.map (fun i => if iA i = q then x else i)
/-- the item at the address q is x now -/
def vUpd (v : VS) (q : Nat) (x : VI) : VS := sIt v (updA q x (vIt v))
def vAdd (v : VS) (i : VI) (a1 a2 : Nat) : VS := vPut (vPut (sIt v (vIt v ++ [i])) (a1, iA i, false) i) (a2, iA i, true) i
def vRem (v : VS) (q : Nat) : VS := sIt (vDel (vDel v q false) q true) ((vIt v).filter (fun i => !decide (iA i = q)))
def vRel (v : VS) (q : Nat) (i : VI) (fo na : Int32) (a : Nat) : VS := vPut (vUpd (vDel v q false) q (iMv i fo na)) (a, q, false) (iMv i fo na)
section ADD
variable {σ : MS} {v : VS} {sl : Nat → Nat} {c : Nat}
theorem anF_cong {P Q : Nat → Bool} : ∀ (n k : Nat), (∀ j, k ≤ j → j < k + n → P j = Q j) → anF P n k = anF Q n k := by
  intro n
  induction n with
  | zero => intro k _; rfl
  | succ n ih =>
    intro k h
    rw [anF, anF, h k (by omega) (by omega), ih (k + 1) (fun j h1 h2 => h j (by omega) (by omega))]
theorem whF_pr (P : Nat → Bool) : ∀ (n k : Nat), (∀ j, k ≤ j → j < whF P n k → P j = true) ∧ (whF P n k < k + n → ¬ P (whF P n k) = true) := by
  intro n
  induction n with
  | zero => intro k; exact ⟨fun j h1 h2 => by rw [whF] at h2; omega, fun h => by rw [whF] at h; omega⟩
  | succ n ih =>
    intro k
    rw [whF]
    by_cases hp : P k = true
    · rw [if_pos hp]
      obtain ⟨a3, a4⟩ := ih (k + 1)
      refine ⟨fun j h1 h2 => ?_, fun h => a4 (by omega)⟩
      by_cases e : j = k
      · rw [e]; exact hp
      · exact a3 j (by omega) h2
    · rw [if_neg hp]
      exact ⟨fun j h1 h2 => by omega, fun _ => hp⟩
theorem sub_len : ∀ (l m : List Nat), l.Nodup → (∀ x ∈ l, x ∈ m) → l.length ≤ m.length := by
  intro l
  induction l with
  | nil => intro m _ _; exact Nat.zero_le _
  | cons a l ih =>
    intro m hn hs
    rw [List.nodup_cons] at hn
    have ha : a ∈ m := hs a List.mem_cons_self
    have := ih (m.erase a) hn.2 (fun x hx => (List.mem_erase_of_ne (fun (z : x = a) => hn.1 (z ▸ hx))).mpr (hs x (List.mem_cons_of_mem _ hx)))
    rw [List.length_erase_of_mem ha] at this
    have hpos : 0 < m.length := List.length_pos_of_mem ha
    rw [List.length_cons]
    omega
/-- a slot is free if there are not forty items -/
theorem RL.freeS (h : RL σ v sl) (hl : (vIt v).length < 40) : mFree σ < 40 ∧ sKd σ (mFree σ) = 0 := by
  have hw := whF_le (fun p => decide (¬ sKd σ p = 0)) 39 0
  obtain ⟨a3, a4⟩ := whF_pr (fun p => decide (¬ sKd σ p = 0)) 39 0
  have hm : mFree σ = whF (fun p => decide (¬ sKd σ p = 0)) 39 0 := rfl
  rw [← hm] at hw a3 a4
  refine ⟨by omega, Decidable.byContradiction (fun z => ?_)⟩
  have h39 : mFree σ = 39 := Decidable.byContradiction (fun e => a4 (by omega) (by simpa using z))
  have := sub_len (List.range 40) ((vIt v).map (sOf sl)) List.nodup_range (fun p hp => by
    have hp := List.mem_range.mp hp
    have hk : ¬ sKd σ p = 0 := by
      by_cases e : p = 39
      · rw [e, ← h39]; exact z
      · exact of_decide_eq_true (a3 p (by omega) (by omega))
    obtain ⟨i, hi, e⟩ := h.sat hp hk
    exact List.mem_map.mpr ⟨i, hi, e⟩)
  rw [List.length_range, List.length_map] at this
  omega
theorem PR.app (hp : PR v) {i : VI} (ha : iA i ∉ (vIt v).map iA) (hJ : iIsJ i = true → ∃ j ∈ vIt v, iIsS j = true ∧ iA j = iFi i) (hB : iIsS i = true → iLe i ≤ 48 ∧ ∀ j, iBl i j < 48) : PR (sIt v (vIt v ++ [i])) := by
  have mem : ∀ {j : VI}, j ∈ vIt v ++ [i] → j ∈ vIt v ∨ j = i := fun {j} hj => by simpa using hj
  refine ⟨fun n hn => ?_, fun j hj hJ2 => ?_, ?_, fun j hj hs => ?_⟩
  · obtain ⟨j, h1, h2⟩ := hp.ln hn
    exact ⟨j, List.mem_append_left _ h1, h2⟩
  · rcases mem hj with e | e
    · obtain ⟨k, h1, h2⟩ := hp.lk e hJ2
      exact ⟨k, List.mem_append_left _ h1, h2⟩
    · rw [e] at hJ2 ⊢
      obtain ⟨k, h1, h2⟩ := hJ hJ2
      exact ⟨k, List.mem_append_left _ h1, h2⟩
  · show ((vIt v ++ [i]).map iA).Nodup
    rw [List.map_append, List.nodup_append]
    exact ⟨hp.nd, by simp, fun a h1 b h2 z => ha (by rw [← List.mem_singleton.mp h2, ← z]; exact h1)⟩
  · rcases mem hj with e | e
    · exact hp.bl e hs
    · rw [e] at hs ⊢; exact hB hs
theorem put_mem {n n2 : VLn} {i2 : VI} (h : n ∈ vLn (vPut v n2 i2)) : n ∈ vLn v ∨ n = n2 := by
  have h : n ∈ (vLn v).insertIdx (vIns v n2 i2) n2 := h
  have hk : vIns v n2 i2 ≤ (vLn v).length := by
    have := (insF_pr (fun k => lBef (vLt v k) (lIt v (vLt v k)) n2 i2) (vLn v).length 0).2.1
    unfold vIns; omega
  have := (List.perm_insertIdx n2 (vLn v) hk).mem_iff.mp h
  rcases List.mem_cons.mp this with e | e
  · exact Or.inr e
  · exact Or.inl e
theorem PR.put (hp : PR v) {n2 : VLn} {i2 : VI} (hn : ∃ j ∈ vIt v, iA j = lI n2) : PR (vPut v n2 i2) := by
  refine ⟨fun n h => ?_, hp.2⟩
  rcases put_mem h with e | e
  · exact hp.ln e
  · rw [e]; exact hn
theorem del_mem {n : VLn} {q : Nat} {th : Bool} (h : n ∈ vLn (vDel v q th)) : n ∈ vLn v := by
  unfold vDel at h
  split at h
  · exact h
  · exact List.mem_of_mem_eraseIdx h
theorem del_it (v : VS) (q : Nat) (th : Bool) : (vDel v q th).1 = v.1 ∧ (vDel v q th).2.2 = v.2.2 := by
  unfold vDel
  split <;> exact ⟨rfl, rfl⟩
theorem del_It (v : VS) (q : Nat) (th : Bool) : vIt (vDel v q th) = vIt v := (del_it v q th).1
theorem PR.del (hp : PR v) (q : Nat) (th : Bool) : PR (vDel v q th) := by
  unfold PR
  rw [del_It]
  exact ⟨fun n h => hp.ln (del_mem h), hp.2⟩
/-- keys of the lines of a state whose items have their slots -/
def Ks (v : VS) (sl : Nat → Nat) (K : Nat → Int32 × Int32) : Prop := ∀ i ∈ vIt v, K (2 * sl (iA i)) = (iFo i, iNa i) ∧ K (2 * sl (iA i) + 1) = (iId i, -1)
theorem Ks.ln {K : Nat → Int32 × Int32} (h : Ks v sl K) {n : VLn} {i : VI} (hi : i ∈ vIt v) (e : iA i = lI n) : K (rOf sl n) = lKey n i := by
  unfold rOf lKey lKid lKna
  rw [← e]
  by_cases ht : lT n = true
  · rw [if_pos ht, if_pos ht, if_pos ht]; exact (h i hi).2
  · rw [if_neg ht, if_neg ht, if_neg ht]; exact (h i hi).1
theorem Ks.all {K : Nat → Int32 × Int32} (h : Ks v sl K) (hp : PR v) : ∀ n ∈ vLn v, K (rOf sl n) = lKey n (lIt v n) := fun n hn => by
  obtain ⟨i, hi, e⟩ := hp.ln hn
  rw [lIt_eq hp hi e]
  exact h.ln hi e
theorem RL.ks (h : RL σ v sl) : Ks v sl (mKey σ) := fun i hi => by
  have m := h.mt hi
  unfold mKey mKeyId mKeyName
  rw [show 2 * sl (iA i) % 2 = 0 by omega, show 2 * sl (iA i) / 2 = sOf sl i by unfold sOf; omega, show (2 * sl (iA i) + 1) % 2 = 1 by omega, show (2 * sl (iA i) + 1) / 2 = sOf sl i by unfold sOf; omega, m.fo, m.na, m.id]
  exact ⟨rfl, rfl⟩
theorem neg1 {x : Int32} (h : ¬ x < 0) : ¬ x = -1 := fun z => h (by rw [z]; decide)
end ADD
section ADD2
variable {σ : MS} {v : VS} {sl : Nat → Nat} {c : Nat}
theorem list_off {σ' : MS} {p : Nat} {b : Nat} (hsame : ∀ q, q ≠ p → sKd σ' q = sKd σ q ∧ sMa σ' q = sMa σ q ∧ ∀ j, j < 48 → sLi σ' (48 * q + j) = sLi σ (48 * q + j)) (hm : ∀ q, sMa σ q ≤ 48) (h0 : sKd σ p = 0) (h1 : sMa σ' p = 0 ∨ ¬ mIsF σ' p = true) : mListed σ' b = mListed σ b := by
  unfold mListed
  refine anF_cong _ _ (fun q _ _ => ?_)
  by_cases e : q = p
  · subst e
    have e1 : mIsF σ q = false := by
      refine Bool.eq_false_iff.mpr (fun z => isF0 z h0)
    rw [e1]
    rcases h1 with h1 | h1
    · unfold mHas; rw [h1]; simp [anF]
    · rw [Bool.eq_false_iff.mpr h1]; rfl
  · obtain ⟨s1, s2, s3⟩ := hsame q e
    unfold mIsF mHas
    rw [s1, s2]
    congr 1
    refine anF_cong _ _ (fun j _ hj => ?_)
    rw [s3 j (by have := hm q; omega)]
theorem mUsed_cong {σ' : MS} {b : Nat} (h : mListed σ' b = mListed σ b) (ht : sTu σ' b = sTu σ b) : mUsed σ' b = mUsed σ b := by unfold mUsed; rw [h, ht]
theorem iHid_ne {i : VI} (h : iHid i = false) : ¬ iFo i = 3 := by unfold iHid at h; exact of_decide_eq_false h
/-- the reference enters what the class adds -/
theorem RL.add (h : RL σ v sl) (hp : PR v) (g : VG v c) {i : VI} {a1 a2 : Nat} {t : Int32} (ha : iA i ∉ (vIt v).map iA) (hid : iId i = vNx v) (hnew : ∀ j ∈ vIt v, ¬ iId j = iId i) (hl : (vIt v).length < 40) (hS : iIsS i = true → iLe i = 0 ∧ ∀ j, iBl i j < 48)
    (hJ : iIsJ i = true → ∃ j ∈ vIt v, iIsS j = true ∧ iA j = iFi i ∧ t = iId j) (hkey : ∀ j ∈ vIt v, ¬ (iFo j = iFo i ∧ iNa j = iNa i)) (hna : ¬ iNa i < 0) :
    RL (mEnter σ (kdI i) (iFo i) (iNa i) t) (vAdd (sNx' v (vNx v + 1)) i a1 a2) (va_up sl (iA i) (mFree σ)) ∧ PR (vAdd (sNx' v (vNx v + 1)) i a1 a2) := by
  obtain ⟨hp40, hk0⟩ := h.freeS hl
  have hok := h.ok
  generalize hpe : mFree σ = p at hp40 hk0
  obtain ⟨σ', hσ⟩ : ∃ σ', σ' = mEnter σ (kdI i) (iFo i) (iNa i) t := ⟨_, rfl⟩
  have fKd : sKd σ' = va_up (sKd σ) p (kdI i) := by rw [hσ, ← hpe]; rfl
  have fId : sId σ' = va_up (sId σ) p (sNx σ) := by rw [hσ, ← hpe]; rfl
  have fFo : sFo σ' = va_up (sFo σ) p (iFo i) := by rw [hσ, ← hpe]; rfl
  have fNa : sNa σ' = va_up (sNa σ) p (iNa i) := by rw [hσ, ← hpe]; rfl
  have fTa : sTa σ' = va_up (sTa σ) p t := by rw [hσ, ← hpe]; rfl
  have fEx : sEx σ' = va_up (sEx σ) p 0 := by rw [hσ, ← hpe]; rfl
  have fLo : sLo σ' = va_up (sLo σ) p false := by rw [hσ, ← hpe]; rfl
  have fMa : sMa σ' = va_up (sMa σ) p 0 := by rw [hσ, ← hpe]; rfl
  have fLi : sLi σ' = sLi σ := by rw [hσ]; rfl
  have fTu : sTu σ' = sTu σ := by rw [hσ]; rfl
  have fRe : sRe σ' = sRe σ := by rw [hσ]; rfl
  have fMo : sMo σ' = sMo σ := by rw [hσ]; rfl
  have fNx : sNx σ' = sNx σ + 1 := by rw [hσ]; rfl
  rw [← hσ]
  clear hσ
  obtain ⟨sl', hsl⟩ : ∃ sl', sl' = va_up sl (iA i) p := ⟨_, rfl⟩
  rw [← hsl]
  have hslN : sl' (iA i) = p := by rw [hsl]; exact va_up_self _ _ _
  have hslO : ∀ j ∈ vIt v, sl' (iA j) = sl (iA j) := fun j hj => by
    rw [hsl]; exact va_up_ne _ _ (fun z => ha (by rw [← z]; exact List.mem_map.mpr ⟨j, hj, rfl⟩))
  have hoff : ∀ j ∈ vIt v, sOf sl j ≠ p := fun j hj z => kdI_ne j (by rw [← (h.mt hj).kd, z]; exact hk0)
  have mem : ∀ {j : VI}, j ∈ vIt v ++ [i] → j ∈ vIt v ∨ j = i := fun {j} hj => by simpa using hj
  have hp1 : PR (sIt (sNx' v (vNx v + 1)) (vIt v ++ [i])) := PR.app (v := sNx' v (vNx v + 1)) hp ha (fun z => by obtain ⟨j, h1, h2, h3, h4⟩ := hJ z; exact ⟨j, h1, h2, h3⟩) (fun z => ⟨by rw [(hS z).1]; omega, (hS z).2⟩)
  have hi1 : i ∈ vIt v ++ [i] := List.mem_append_right _ (List.mem_singleton.mpr rfl)
  have hp2 : PR (vPut (sIt (sNx' v (vNx v + 1)) (vIt v ++ [i])) (a1, iA i, false) i) := hp1.put ⟨i, hi1, rfl⟩
  have hp3 : PR (vAdd (sNx' v (vNx v + 1)) i a1 a2) := hp2.put (n2 := (a2, iA i, true)) ⟨i, hi1, rfl⟩
  refine ⟨?_, hp3⟩
  -- the keys
  have ks : Ks (sIt (sNx' v (vNx v + 1)) (vIt v ++ [i])) sl' (mKey σ') := fun j hj => by
    unfold mKey mKeyId mKeyName
    rw [show 2 * sl' (iA j) % 2 = 0 by omega, show 2 * sl' (iA j) / 2 = sl' (iA j) by omega, show (2 * sl' (iA j) + 1) % 2 = 1 by omega, show (2 * sl' (iA j) + 1) / 2 = sl' (iA j) by omega]
    rcases mem hj with e | e
    · have m := h.mt e
      have := hoff j e
      rw [hslO j e, show sl (iA j) = sOf sl j from rfl, fFo, fNa, fId, va_up_ne _ _ this, va_up_ne _ _ this, va_up_ne _ _ this, m.fo, m.na, m.id]
      exact ⟨rfl, rfl⟩
    · rw [e, hslN, fFo, fNa, fId, va_up_self, va_up_self, va_up_self, h.nx, ← hid]
      exact ⟨rfl, rfl⟩
  have hmap : (vLn v).map (rOf sl') = (vLn v).map (rOf sl) := List.map_congr_left (fun n hn => by
    obtain ⟨j, hj, e⟩ := hp.ln hn
    unfold rOf
    rw [← e, hslO j hj])
  have hdv : ∀ {r : Nat}, mIsRecord σ r = true → r / 2 ≠ p := fun {r} hr z => (of_decide_eq_true hr).1 (by rw [z]; exact hk0)
  have lg0 : LG (fun r => r < 80 ∧ mIsRecord σ r = true) (mKey σ') ((vLn v).map (rOf sl')) := by
    rw [hmap]
    refine h.lg.cong (fun _ => Iff.rfl) (fun r hr => ?_)
    have := hdv hr.2
    unfold mKey mKeyId mKeyName
    rw [fFo, fNa, fId, va_up_ne _ _ this, va_up_ne _ _ this, va_up_ne _ _ this]
  have key : ∀ r, (r < 80 ∧ mIsRecord σ r = true) → ∃ j ∈ vIt v, ∃ n, lI n = iA j ∧ mKey σ' r = lKey n j ∧ r = rOf sl' n := fun r hr => by
    obtain ⟨n, hn, e⟩ := List.mem_map.mp ((lg0.2.1 r).mpr hr)
    obtain ⟨j, hj, ej⟩ := hp.ln hn
    exact ⟨j, hj, n, ej.symm, by rw [← e]; exact ks.ln (List.mem_append_left _ hj) ej, e.symm⟩
  have r1 : rOf sl' (a1, iA i, false) = 2 * p := by show 2 * sl' (iA i) + 0 = _; rw [hslN]; rfl
  have r2 : rOf sl' (a2, iA i, true) = 2 * p + 1 := by show 2 * sl' (iA i) + 1 = _; rw [hslN]
  have k1 : mKey σ' (2 * p) = (iFo i, iNa i) := by have := (ks i hi1).1; rw [hslN] at this; exact this
  have k2 : mKey σ' (2 * p + 1) = (iId i, -1) := by have := (ks i hi1).2; rw [hslN] at this; exact this
  have lg1 := LG.put (v := sIt (sNx' v (vNx v + 1)) (vIt v ++ [i])) lg0 (a1, iA i, false) i (by rw [r1]; exact fun z => hdv z.2 (by omega)) (fun r hr z => by
    rw [r1, k1] at z
    obtain ⟨j, hj, n, en, ek, -⟩ := key r hr
    rw [ek] at z
    unfold lKey lKid lKna at z
    by_cases ht : lT n = true
    · rw [if_pos ht, if_pos ht] at z
      exact neg1 hna ((Prod.mk.inj z).2).symm
    · rw [if_neg ht, if_neg ht] at z
      exact hkey j hj ⟨(Prod.mk.inj z).1, (Prod.mk.inj z).2⟩) (ks.all hp1) (by rw [r1, k1]; rfl)
  have lg2 := LG.put (v := vPut (sIt (sNx' v (vNx v + 1)) (vIt v ++ [i])) (a1, iA i, false) i) lg1 (a2, iA i, true) i (by
    rw [r1, r2]
    exact fun z => z.elim (fun z => hdv z.2 (by omega)) (fun z => by omega)) (fun r hr z => by
    rw [r2, k2] at z
    rcases hr with hr | hr
    · obtain ⟨j, hj, n, en, ek, -⟩ := key r hr
      rw [ek] at z
      unfold lKey lKid lKna at z
      by_cases ht : lT n = true
      · rw [if_pos ht, if_pos ht] at z
        exact hnew j hj ((Prod.mk.inj z).1)
      · rw [if_neg ht, if_neg ht] at z
        exact neg1 (g.na hj) ((Prod.mk.inj z).2)
    · rw [hr, r1, k1] at z
      exact neg1 hna ((Prod.mk.inj z).2)) (Ks.all (v := vPut (sIt (sNx' v (vNx v + 1)) (vIt v ++ [i])) (a1, iA i, false) i) ks hp2) (by rw [r2, k2]; rfl)
  have lg3 : LGm σ' (vAdd (sNx' v (vNx v + 1)) i a1 a2) sl' := by
    refine lg2.cong (fun r => ?_) (fun _ _ => rfl)
    rw [r1, r2]
    have rq : mIsRecord σ' r = true ↔ r / 2 = p ∨ mIsRecord σ r = true := by
      unfold mIsRecord
      rw [decide_eq_true_iff, decide_eq_true_iff, fKd, fLo]
      by_cases e : r / 2 = p
      · rw [e, va_up_self, va_up_self]
        exact ⟨fun _ => Or.inl rfl, fun _ => ⟨kdI_ne i, Or.inr (by decide)⟩⟩
      · rw [va_up_ne _ _ e, va_up_ne _ _ e]
        exact ⟨Or.inr, fun z => z.elim (fun z => absurd z e) id⟩
    rw [rq]
    constructor
    · rintro ((⟨z1, z2⟩ | z) | z)
      · exact ⟨z1, Or.inr z2⟩
      · exact ⟨by omega, Or.inl (by omega)⟩
      · exact ⟨by omega, Or.inl (by omega)⟩
    · rintro ⟨z1, z | z⟩
      · have : r = 2 * p ∨ r = 2 * p + 1 := by omega
        rcases this with z | z
        · exact Or.inl (Or.inr z)
        · exact Or.inr z
      · exact Or.inl (Or.inl ⟨z1, z⟩)
  have hlist : ∀ b, mListed σ' b = mListed σ b := fun b => list_off (p := p) (fun q hq => by
    rw [fKd, fMa, fLi, va_up_ne _ _ hq, va_up_ne _ _ hq]; exact ⟨rfl, rfl, fun _ _ => rfl⟩) hok.1 hk0 (Or.inl (by rw [fMa]; exact va_up_self _ _ _))
  refine ⟨⟨fMo.trans h.mo, by rw [fNx, h.nx]; rfl⟩, ⟨?_, fun j hj => ?_, fun q hq hk => ?_⟩, fun j hj => ?_, fun b hb => ?_, lg3.back, fun hm => ?_, ?_⟩
  · show ((vIt v ++ [i]).map (sOf sl')).Nodup
    rw [List.map_append, List.nodup_append]
    have e : (vIt v).map (sOf sl') = (vIt v).map (sOf sl) := List.map_congr_left (fun j hj => hslO j hj)
    rw [e]
    refine ⟨h.snd, by simp, fun a h1 b h2 z => ?_⟩
    obtain ⟨j, hj, ej⟩ := List.mem_map.mp h1
    have : b = p := by rw [List.map_singleton, List.mem_singleton] at h2; rw [h2]; exact hslN
    exact hoff j hj (by rw [ej, z, this])
  · rcases mem hj with e | e
    · show sl' (iA j) < 40
      rw [hslO j e]; exact h.slt e
    · rw [e]; show sl' (iA i) < 40
      rw [hslN]; exact hp40
  · by_cases e : q = p
    · exact ⟨i, hi1, by rw [e]; exact hslN⟩
    · rw [fKd, va_up_ne _ _ e] at hk
      obtain ⟨j, hj, ej⟩ := h.sat hq hk
      exact ⟨j, List.mem_append_left _ hj, by show sl' (iA j) = q; rw [hslO j hj]; exact ej⟩
  · rcases mem hj with e | e
    · have m := h.mt e
      have ne := hoff j e
      have es : sOf sl' j = sOf sl j := hslO j e
      rw [es]
      refine ⟨⟨by rw [fId, va_up_ne _ _ ne]; exact m.id, by rw [fFo, va_up_ne _ _ ne]; exact m.fo, by rw [fNa, va_up_ne _ _ ne]; exact m.na, by rw [fKd, va_up_ne _ _ ne]; exact m.kd⟩, fun z => ?_, fun z => ?_⟩
      · obtain ⟨q1, q2, q3⟩ := fIt_mem hp e z
        rw [fTa, va_up_ne _ _ ne, m.ta z, fIt_eq hp3 (List.mem_append_left _ q1) q3]
      · rw [fMa, fLi, va_up_ne _ _ ne]; exact m.bl z
    · rw [e]
      have es : sOf sl' i = p := hslN
      rw [es]
      refine ⟨⟨by rw [fId, va_up_self, h.nx, hid], by rw [fFo, va_up_self], by rw [fNa, va_up_self], by rw [fKd, va_up_self]⟩, fun z => ?_, fun z => ?_⟩
      · obtain ⟨q, q1, q2, q3, q4⟩ := hJ z
        rw [fTa, va_up_self, q4, fIt_eq hp3 (List.mem_append_left _ q1) q3]
      · rw [fMa, va_up_self, (hS z).1]
        exact ⟨rfl, fun j hj => by omega⟩
  · rw [mUsed_cong (hlist b) (by rw [fTu])]
    exact h.us hb
  · obtain ⟨c1, c2, c3⟩ := h.cln hm
    refine ⟨fun q hq hk => ?_, by rw [fRe]; exact c2, fun b hb => by rw [fTu]; exact c3 b hb⟩
    by_cases e : q = p
    · rw [e, fEx, fLo, va_up_self, va_up_self]; exact ⟨rfl, rfl⟩
    · rw [fKd, va_up_ne _ _ e] at hk
      rw [fEx, fLo, va_up_ne _ _ e, va_up_ne _ _ e]; exact c1 q hq hk
  · refine ⟨fun q => ?_, fun j => by rw [fLi]; exact hok.2 j⟩
    rw [fMa]
    by_cases e : q = p
    · rw [e, va_up_self]; omega
    · rw [va_up_ne _ _ e]; exact hok.1 q
end ADD2
