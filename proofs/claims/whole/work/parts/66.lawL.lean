theorem nI_sub5 {N k : Nat} (hN : N ≤ 2560) (hk : k ≤ 600) : nI N - 5 < nI (5 * k) ↔ N < 5 * k + 5 := by
  by_cases h5 : 5 ≤ N
  · obtain ⟨j, rfl⟩ : ∃ j, N = j + 5 := ⟨N - 5, by omega⟩
    have e : nI (j + 5) - 5 = nI j := by
      rw [show nI (j + 5) = nI j + 5 from (nI_add j 5).symm]
      exact Int32.add_sub_cancel _ _
    rw [e, nI_ltI (by omega) (by omega)]
    omega
  · have hz : ∀ M : Nat, M < 5 → nI M - 5 < 0 := by decide +kernel
    refine ⟨fun _ => by omega, fun _ => ?_⟩
    exact Int32.lt_of_lt_of_le (hz N (by omega)) (nI_pos' (by omega))
theorem LSt.step {D : va_G} {cI cZ cO : ClassId} {t : Nat} {am : Nat → Nat} {a0 : Nat} {s : State} {k : Nat} {H : Heap} {locs : List Loc} (h : LSt D cI cZ cO t am a0 s k H locs) : LSt D cI cZ cO t am a0 s (k + 1) H locs := by
  obtain ⟨L, f, ad, v, σ, sl, h1, h2, h3, h4⟩ := h
  exact ⟨L, f, ad, v, σ, sl, h1, h2, h3.mono (by omega), h4⟩
theorem lw_loop {p : Program} {l : Launch} {e : Env} {s : State} {m : MethodId} {below : List Frame} {meth : Method} {c : Code} {b N t : Nat} {xs : Nat → Int32} {D : va_G} {cI cZ cO : ClassId} {am : Nat → Nat} {a0 : Nat} (E : LE p s m c b N t xs D cI cZ cO) (hr : meth.sig.returnType = ret) (hlocks : meth.locks = false) : ∀ (n k : Nat) (H : Heap) (locs : List Loc) (cells slots : Nat) (ls : Array Slot), N ≤ 5 * k + 5 * n + 4 → 5 * k ≤ N → lv_has ls 4 [(0, .ref b), (1, .ref a0), (2, .ref (am 0)), (3, .int (nI (5 * k)))] → LSt D cI cZ cO t am a0 s k H locs → cells ≤ 100 + 80 * k → slots ≤ 3000 + 12080 * k → W p l e room_1 s m #[Value.ref b] below meth c H locs cells slots (lw_Z below #[Value.ref b] s) (F0 m 18 ls []) := by
  obtain ⟨⟨hx, hb, hml, hown, hU⟩, hK, hZ0, hX, hbl, hN⟩ := id E
  have hbA : ¬ lwA s b := fun z => absurd hbl (Nat.not_lt.mpr z)
  intro n
  induction n with
  | zero =>
    intro k H locs cells slots ls hn hkN hl h hc hs
    obtain ⟨L, f, ad, v, σ, sl, -, -, -, hS⟩ := id h
    refine lv_iload_n hx hb d_L_18 rfl (lv_at hl 3 rfl) ?_
    refine lv_aload_n hx hb d_L_19 rfl (lv_at hl 0 rfl) ?_
    refine va_slen hx hb hX hbl hbA hS d_L_20 ?_
    refine lv_iconst (v := 5) hx hb d_L_21 (by decide) ?_
    refine lv_isub hx hb d_L_22 ?_
    refine lv_icmp_gt (tgt := 710) hx hb d_L_23 rfl (fun _ => ?_) (fun h9 => absurd ((nI_sub5 hN (by omega)).mpr (by omega)) h9)
    refine lv_iconst (v := 1) hx hb d_L_710 (by decide) ?_
    refine va_forget hS.2.2 ?_
    exact W.widen (by omega) (by omega) (lw_ret hx hb hr hlocks d_L_711)
  | succ n ih =>
    intro k H locs cells slots ls hn hkN hl h hc hs
    obtain ⟨L, f, ad, v, σ, sl, -, -, -, hS⟩ := id h
    refine lv_iload_n hx hb d_L_18 rfl (lv_at hl 3 rfl) ?_
    refine lv_aload_n hx hb d_L_19 rfl (lv_at hl 0 rfl) ?_
    refine va_slen hx hb hX hbl hbA hS d_L_20 ?_
    refine lv_iconst (v := 5) hx hb d_L_21 (by decide) ?_
    refine lv_isub hx hb d_L_22 ?_
    refine lv_icmp_gt (tgt := 710) hx hb d_L_23 rfl (fun _ => ?_) (fun h9 => ?_)
    · refine lv_iconst (v := 1) hx hb d_L_710 (by decide) ?_
      refine va_forget hS.2.2 ?_
      exact W.widen (by omega) (by omega) (lw_ret hx hb hr hlocks d_L_711)
    have hk : 5 * k + 5 ≤ N := Nat.not_lt.mp (fun z => h9 ((nI_sub5 hN (by omega)).mpr z))
    refine lv_aload_n hx hb d_L_26 rfl (lv_at hl 0 rfl) ?_
    refine lv_iload_n hx hb d_L_27 rfl (lv_at hl 3 rfl) ?_
    refine va_sld hx hb hX hbl hbA hS (vp_in_nI (by omega) (by omega)) d_L_28 ?_
    refine lv_bipush (v := 31) hx hb d_L_29 (by decide) ?_
    refine lv_iand hx hb d_L_31 ?_
    generalize (xs (nI (5 * k)).toNatClampNeg &&& 31) = y
    have KK : ∀ (H1 : Heap) (locs1 : List Loc), LSt D cI cZ cO t am a0 s (k + 1) H1 locs1 → W p l e room_1 s m #[Value.ref b] below meth c H1 locs1 (cells + 80) (slots + 12080) (lw_Z below #[Value.ref b] s) (F0 m 704 ls []) := fun H1 locs1 h1 => by
      refine lv_iinc (k := 3) (v := nI (5 * (k + 1))) (lv' := [(3, .int (nI (5 * (k + 1)))), (0, .ref b), (1, .ref a0), (2, .ref (am 0))]) hx hb d_L_704 hl rfl (nI_add (5 * k) 5) (by decide) rfl (fun ls hl => ?_)
      refine lv_goto (tgt := 18) hx hb d_L_707 rfl ?_
      exact ih (k + 1) H1 locs1 _ _ ls (by omega) (by omega) (lv_sub hl [1, 2, 3, 0] rfl) h1 (by omega) (by omega)
    have hc8 : cells + 80 ≤ 600000 := by omega
    have hs8 : slots + 12080 ≤ 7302250 := by omega
    by_cases hy : y.toInt < 0 ∨ 19 < y.toInt
    · exact lv_tableOut (tgt := 704) hx hb d_L_32 hy rfl (W.widen (by omega) (by omega) (KK H locs h.step))
    have hy2 : y.toInt = 0 ∨ y.toInt = 1 ∨ y.toInt = 2 ∨ y.toInt = 3 ∨ y.toInt = 4 ∨ y.toInt = 5 ∨ y.toInt = 6 ∨ y.toInt = 7 ∨ y.toInt = 8 ∨ y.toInt = 9 ∨ y.toInt = 10 ∨ y.toInt = 11 ∨ y.toInt = 12 ∨ y.toInt = 13 ∨ y.toInt = 14 ∨ y.toInt = 15 ∨ y.toInt = 16 ∨ y.toInt = 17 ∨ y.toInt = 18 ∨ y.toInt = 19 := by omega
    rcases hy2 with hz | hz | hz | hz | hz | hz | hz | hz | hz | hz | hz | hz | hz | hz | hz | hz | hz | hz | hz | hz
    · exact lv_tableIn (off := 96) (tgt := 128) hx hb d_L_32 (by omega) (by omega) (by rw [hz]; rfl) rfl (lc_make E hk hl h hc8 hs8 KK)
    · exact lv_tableIn (off := 155) (tgt := 187) hx hb d_L_32 (by omega) (by omega) (by rw [hz]; rfl) rfl (lc_link E hk hl h hc8 hs8 KK)
    · exact lv_tableIn (off := 208) (tgt := 240) hx hb d_L_32 (by omega) (by omega) (by rw [hz]; rfl) rfl (lc_remove E hk hl h hc8 hs8 KK)
    · exact lv_tableIn (off := 241) (tgt := 273) hx hb d_L_32 (by omega) (by omega) (by rw [hz]; rfl) rfl (lc_move E hk hl h hc8 hs8 KK)
    · exact lv_tableIn (off := 294) (tgt := 326) hx hb d_L_32 (by omega) (by omega) (by rw [hz]; rfl) rfl (lc_find E hk hl h hc8 hs8 KK)
    · exact lv_tableIn (off := 327) (tgt := 359) hx hb d_L_32 (by omega) (by omega) (by rw [hz]; rfl) rfl (lc_grow E hk hl h hc8 hs8 KK)
    · exact lv_tableIn (off := 360) (tgt := 392) hx hb d_L_32 (by omega) (by omega) (by rw [hz]; rfl) rfl (lc_shrink E hk hl h hc8 hs8 KK)
    · exact lv_tableIn (off := 393) (tgt := 425) hx hb d_L_32 (by omega) (by omega) (by rw [hz]; rfl) rfl (lc_size E hk hl h hc8 hs8 KK)
    · exact lv_tableIn (off := 416) (tgt := 448) hx hb d_L_32 (by omega) (by omega) (by rw [hz]; rfl) rfl (lc_block E hk hl h hc8 hs8 KK)
    · exact lv_tableIn (off := 449) (tgt := 481) hx hb d_L_32 (by omega) (by omega) (by rw [hz]; rfl) rfl (lc_extents E hk hl h hc8 hs8 KK)
    · exact lv_tableIn (off := 472) (tgt := 504) hx hb d_L_32 (by omega) (by omega) (by rw [hz]; rfl) rfl (lc_valence E hk hl h hc8 hs8 KK)
    · exact lv_tableIn (off := 495) (tgt := 527) hx hb d_L_32 (by omega) (by omega) (by rw [hz]; rfl) rfl (lc_records E hk hl h hc8 hs8 KK)
    · exact lv_tableIn (off := 508) (tgt := 540) hx hb d_L_32 (by omega) (by omega) (by rw [hz]; rfl) rfl (lc_row E hk hl h hc8 hs8 KK)
    · exact lv_tableIn (off := 541) (tgt := 573) hx hb d_L_32 (by omega) (by omega) (by rw [hz]; rfl) rfl (lc_overflows E hk hl h hc8 hs8 KK)
    · exact lv_tableIn (off := 554) (tgt := 586) hx hb d_L_32 (by omega) (by omega) (by rw [hz]; rfl) rfl (lc_overflow E hk hl h hc8 hs8 KK)
    · exact lv_tableIn (off := 587) (tgt := 619) hx hb d_L_32 (by omega) (by omega) (by rw [hz]; rfl) rfl (lc_unmount E hk hl h hc8 hs8 KK)
    · exact lv_tableIn (off := 600) (tgt := 632) hx hb d_L_32 (by omega) (by omega) (by rw [hz]; rfl) rfl (lc_harm E hk hl h hc8 hs8 KK)
    · exact lv_tableIn (off := 633) (tgt := 665) hx hb d_L_32 (by omega) (by omega) (by rw [hz]; rfl) rfl (lc_check E hk hl h hc8 hs8 KK)
    · exact lv_tableIn (off := 646) (tgt := 678) hx hb d_L_32 (by omega) (by omega) (by rw [hz]; rfl) rfl (lc_mount E hk hl h hc8 hs8 KK)
    · exact lv_tableIn (off := 659) (tgt := 691) hx hb d_L_32 (by omega) (by omega) (by rw [hz]; rfl) rfl (lc_mend E hk hl h hc8 hs8 KK)
