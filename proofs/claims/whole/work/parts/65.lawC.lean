theorem lc_make {p : Program} {l : Launch} {e : Env} {s : State} {m : MethodId} {below : List Frame} {meth : Method} {c : Code} {b N t : Nat} {xs : Nat → Int32} {D : va_G} {cI cZ cO : ClassId} {am : Nat → Nat} {a0 k : Nat} {H : Heap} {locs : List Loc} {cells slots : Nat} {Q : State → Prop} {ls : Array Slot} (E : LE p s m c b N t xs D cI cZ cO) (hk : 5 * k + 5 ≤ N) (hl : lv_has ls 4 [(0, .ref b), (1, .ref a0), (2, .ref (am 0)), (3, .int (nI (5 * k)))]) (h : LSt D cI cZ cO t am a0 s k H locs) (hc : cells + 80 ≤ 600000) (hs : slots + 12080 ≤ 7302250) (kk : ∀ (H1 : Heap) (locs1 : List Loc), LSt D cI cZ cO t am a0 s (k + 1) H1 locs1 → W p l e room_1 s m #[Value.ref b] below meth c H1 locs1 (cells + 80) (slots + 12080) Q (F0 m 704 ls [])) : W p l e room_1 s m #[Value.ref b] below meth c H locs cells slots Q (F0 m 128 ls []) := by
  obtain ⟨L, f, ad, v, σ, sl, ha0, hLW, hI, hS⟩ := h
  subst ha0
  have E9 := E
  obtain ⟨⟨hx, hb, hml, hown, hU⟩, hK, hZ0, hX, hbl, hN⟩ := E9
  have hk5 : k < 590 := by omega
  have hA : ∀ q, s.heap.size ≤ q → lwA s q := fun q h => h
  have h40 := hI.1.len40
  have h80 := hI.1.len80
  refine lv_aload_n hx hb d_L_128 rfl (lv_at hl 1 rfl) ?_
  refine l_sc E hk hl hS 1 (by omega) (by decide) d_L_129 d_L_130 d_L_131 d_L_132 d_L_133 ?_
  refine l_sc E hk hl hS 2 (by omega) (by decide) d_L_134 d_L_135 d_L_136 d_L_137 d_L_138 ?_
  refine l_sc E hk hl hS 3 (by omega) (by decide) d_L_139 d_L_140 d_L_141 d_L_142 d_L_143 ?_
  refine l_bool hx hb d_L_144 d_L_147 d_L_148 d_L_151 ?_
  refine kLw_V_make hx hb hml hown hU hK hLW.1 hLW.2.1 hS hA (hZ0.kept hS.2.1) ad v hLW.2.2.1 (xs (5 * k + 1)) (xs (5 * k + 2)) (!decide (xs (5 * k + 3) = 0)) (by omega) (by omega) hl.1 ⟨Nat.le_of_ble_eq_true rfl, Nat.le_of_ble_eq_true rfl⟩ (Nat.le_of_ble_eq_true rfl) ⟨by show cells + 7 ≤ 600000; omega, by show slots + 958 ≤ 7302250; omega⟩ d_L_152 (fun u r H1 locs1 hpost hP1 hD1 hS1 hz1 hk1 hDA1 => ?_)
  obtain ⟨hr, v1, q7, q8, hst, hRep1⟩ := hpost
  have hLW1 := hLW.cls hP1 hD1 hDA1 hRep1 hz1 hk1
  refine lv_aload_n hx hb d_L_155 rfl (lv_at hl 2 rfl) ?_
  refine l_sc E hk hl hS1 1 (by omega) (by decide) d_L_156 d_L_157 d_L_158 d_L_159 d_L_160 ?_
  refine l_sc E hk hl hS1 2 (by omega) (by decide) d_L_161 d_L_162 d_L_163 d_L_164 d_L_165 ?_
  refine l_sc E hk hl hS1 3 (by omega) (by decide) d_L_166 d_L_167 d_L_168 d_L_169 d_L_170 ?_
  refine l_bool hx hb d_L_171 d_L_174 d_L_175 d_L_178 ?_
  refine kLw_M_make (hcs := ⟨by show cells + 7 ≤ 600000; omega, by show slots + 958 ≤ 7302250; omega⟩) hx hb hml hown hU hK.1 hLW1.2.2.2.1  (xs (5 * k + 1)) (xs (5 * k + 2)) (bI (!decide (xs (5 * k + 3) = 0))) hLW1.2.2.2.2.1 hS1 hA hl.1 ⟨Nat.le_of_ble_eq_true rfl, Nat.le_of_ble_eq_true rfl⟩ (Nat.le_of_ble_eq_true rfl) d_L_179 (fun H2 locs2 hP2 hD2 hS2 hz2 hk2 hDA2 => ?_)
  have hLW2 := hLW1.ref hP2 hD2 hDA2 hz2 hk2
  obtain ⟨e1, e2⟩ := mk_go hI hk5 (xs (5 * k + 1)) (xs (5 * k + 2)) (!decide (xs (5 * k + 3) = 0))
  obtain ⟨sl2, hI2⟩ := e2 v1 hst
  refine lv_icmp_eq (tgt := 704) hx hb d_L_182 rfl (fun _ => ?_) (fun h9 => absurd (hr.trans e1.symm) h9)
  exact W.widen (by omega) (by omega) (kk H2 locs2 ⟨_, _, aU ad q7 q8, _, _, sl2, rfl, hLW2, hI2, hS2⟩)
theorem lc_link {p : Program} {l : Launch} {e : Env} {s : State} {m : MethodId} {below : List Frame} {meth : Method} {c : Code} {b N t : Nat} {xs : Nat → Int32} {D : va_G} {cI cZ cO : ClassId} {am : Nat → Nat} {a0 k : Nat} {H : Heap} {locs : List Loc} {cells slots : Nat} {Q : State → Prop} {ls : Array Slot} (E : LE p s m c b N t xs D cI cZ cO) (hk : 5 * k + 5 ≤ N) (hl : lv_has ls 4 [(0, .ref b), (1, .ref a0), (2, .ref (am 0)), (3, .int (nI (5 * k)))]) (h : LSt D cI cZ cO t am a0 s k H locs) (hc : cells + 80 ≤ 600000) (hs : slots + 12080 ≤ 7302250) (kk : ∀ (H1 : Heap) (locs1 : List Loc), LSt D cI cZ cO t am a0 s (k + 1) H1 locs1 → W p l e room_1 s m #[Value.ref b] below meth c H1 locs1 (cells + 80) (slots + 12080) Q (F0 m 704 ls [])) : W p l e room_1 s m #[Value.ref b] below meth c H locs cells slots Q (F0 m 187 ls []) := by
  obtain ⟨L, f, ad, v, σ, sl, ha0, hLW, hI, hS⟩ := h
  subst ha0
  have E9 := E
  obtain ⟨⟨hx, hb, hml, hown, hU⟩, hK, hZ0, hX, hbl, hN⟩ := E9
  have hk5 : k < 590 := by omega
  have hA : ∀ q, s.heap.size ≤ q → lwA s q := fun q h => h
  have h40 := hI.1.len40
  have h80 := hI.1.len80
  refine lv_aload_n hx hb d_L_187 rfl (lv_at hl 1 rfl) ?_
  refine l_sc E hk hl hS 1 (by omega) (by decide) d_L_188 d_L_189 d_L_190 d_L_191 d_L_192 ?_
  refine l_sc E hk hl hS 2 (by omega) (by decide) d_L_193 d_L_194 d_L_195 d_L_196 d_L_197 ?_
  refine l_sc E hk hl hS 3 (by omega) (by decide) d_L_198 d_L_199 d_L_200 d_L_201 d_L_202 ?_
  refine l_sc E hk hl hS 4 (by omega) (by decide) d_L_203 d_L_204 d_L_205 d_L_206 d_L_207 ?_
  refine kLw_V_link hx hb hml hown hU hK hLW.1 hLW.2.1 hS hA (hZ0.kept hS.2.1) ad v hLW.2.2.1 (xs (5 * k + 1)) (xs (5 * k + 2)) (xs (5 * k + 3)) (xs (5 * k + 4)) (by omega) (by omega) hl.1 ⟨Nat.le_of_ble_eq_true rfl, Nat.le_of_ble_eq_true rfl⟩ (Nat.le_of_ble_eq_true rfl) ⟨by show cells + 14 ≤ 600000; omega, by show slots + 2118 ≤ 7302250; omega⟩ d_L_208 (fun u r H1 locs1 hpost hP1 hD1 hS1 hz1 hk1 hDA1 => ?_)
  obtain ⟨hr, v1, q7, q8, hst, hRep1⟩ := hpost
  have hLW1 := hLW.cls hP1 hD1 hDA1 hRep1 hz1 hk1
  refine lv_aload_n hx hb d_L_211 rfl (lv_at hl 2 rfl) ?_
  refine l_sc E hk hl hS1 1 (by omega) (by decide) d_L_212 d_L_213 d_L_214 d_L_215 d_L_216 ?_
  refine l_sc E hk hl hS1 2 (by omega) (by decide) d_L_217 d_L_218 d_L_219 d_L_220 d_L_221 ?_
  refine l_sc E hk hl hS1 3 (by omega) (by decide) d_L_222 d_L_223 d_L_224 d_L_225 d_L_226 ?_
  refine l_sc E hk hl hS1 4 (by omega) (by decide) d_L_227 d_L_228 d_L_229 d_L_230 d_L_231 ?_
  refine kLw_M_link (hcs := ⟨by show cells + 14 ≤ 600000; omega, by show slots + 2118 ≤ 7302250; omega⟩) hx hb hml hown hU hK.1 hLW1.2.2.2.1  (xs (5 * k + 1)) (xs (5 * k + 2)) (xs (5 * k + 3)) (xs (5 * k + 4)) hLW1.2.2.2.2.1 hS1 hA hl.1 ⟨Nat.le_of_ble_eq_true rfl, Nat.le_of_ble_eq_true rfl⟩ (Nat.le_of_ble_eq_true rfl) d_L_232 (fun H2 locs2 hP2 hD2 hS2 hz2 hk2 hDA2 => ?_)
  have hLW2 := hLW1.ref hP2 hD2 hDA2 hz2 hk2
  obtain ⟨e1, sl2, hI2⟩ := lk_go hI hk5 (xs (5 * k + 1)) (xs (5 * k + 2)) (xs (5 * k + 3)) (xs (5 * k + 4)) v1 hst
  refine lv_icmp_eq (tgt := 704) hx hb d_L_235 rfl (fun _ => ?_) (fun h9 => absurd (hr.trans e1.symm) h9)
  exact W.widen (by omega) (by omega) (kk H2 locs2 ⟨_, _, aU ad q7 q8, _, _, sl2, rfl, hLW2, hI2, hS2⟩)
theorem lc_remove {p : Program} {l : Launch} {e : Env} {s : State} {m : MethodId} {below : List Frame} {meth : Method} {c : Code} {b N t : Nat} {xs : Nat → Int32} {D : va_G} {cI cZ cO : ClassId} {am : Nat → Nat} {a0 k : Nat} {H : Heap} {locs : List Loc} {cells slots : Nat} {Q : State → Prop} {ls : Array Slot} (E : LE p s m c b N t xs D cI cZ cO) (hk : 5 * k + 5 ≤ N) (hl : lv_has ls 4 [(0, .ref b), (1, .ref a0), (2, .ref (am 0)), (3, .int (nI (5 * k)))]) (h : LSt D cI cZ cO t am a0 s k H locs) (hc : cells + 80 ≤ 600000) (hs : slots + 12080 ≤ 7302250) (kk : ∀ (H1 : Heap) (locs1 : List Loc), LSt D cI cZ cO t am a0 s (k + 1) H1 locs1 → W p l e room_1 s m #[Value.ref b] below meth c H1 locs1 (cells + 80) (slots + 12080) Q (F0 m 704 ls [])) : W p l e room_1 s m #[Value.ref b] below meth c H locs cells slots Q (F0 m 240 ls []) := by
  obtain ⟨L, f, ad, v, σ, sl, ha0, hLW, hI, hS⟩ := h
  subst ha0
  have E9 := E
  obtain ⟨⟨hx, hb, hml, hown, hU⟩, hK, hZ0, hX, hbl, hN⟩ := E9
  have hk5 : k < 590 := by omega
  have hA : ∀ q, s.heap.size ≤ q → lwA s q := fun q h => h
  refine lv_aload_n hx hb d_L_240 rfl (lv_at hl 1 rfl) ?_
  refine l_sc E hk hl hS 1 (by omega) (by decide) d_L_241 d_L_242 d_L_243 d_L_244 d_L_245 ?_
  refine l_sc E hk hl hS 2 (by omega) (by decide) d_L_246 d_L_247 d_L_248 d_L_249 d_L_250 ?_
  refine kLw_V_remove hx hb hml hown hU hK hLW.1 hLW.2.1 hS hA (hZ0.kept hS.2.1) ad v hLW.2.2.1 (xs (5 * k + 1)) (xs (5 * k + 2)) (rem_preV hI hk5 (xs (5 * k + 1)) (xs (5 * k + 2))) hl.1 ⟨Nat.le_of_ble_eq_true rfl, Nat.le_of_ble_eq_true rfl⟩ (Nat.le_of_ble_eq_true rfl) ⟨by show cells + 0 ≤ 600000; omega, by show slots + 0 ≤ 7302250; omega⟩ d_L_251 (fun u r H1 locs1 hpost hP1 hD1 hS1 hz1 hk1 hDA1 => ?_)
  obtain ⟨hr, v1, q7, q8, hst, hRep1⟩ := hpost
  have hLW1 := hLW.cls hP1 hD1 hDA1 hRep1 hz1 hk1
  refine lv_aload_n hx hb d_L_254 rfl (lv_at hl 2 rfl) ?_
  refine l_sc E hk hl hS1 1 (by omega) (by decide) d_L_255 d_L_256 d_L_257 d_L_258 d_L_259 ?_
  refine l_sc E hk hl hS1 2 (by omega) (by decide) d_L_260 d_L_261 d_L_262 d_L_263 d_L_264 ?_
  refine kLw_M_remove (hcs := ⟨by show cells + 0 ≤ 600000; omega, by show slots + 0 ≤ 7302250; omega⟩) hx hb hml hown hU hK.1 hLW1.2.2.2.1  (xs (5 * k + 1)) (xs (5 * k + 2)) (rem_pre hI (xs (5 * k + 1)) (xs (5 * k + 2))) hLW1.2.2.2.2.1 hS1 hA hl.1 ⟨Nat.le_of_ble_eq_true rfl, Nat.le_of_ble_eq_true rfl⟩ (Nat.le_of_ble_eq_true rfl) d_L_265 (fun H2 locs2 hP2 hD2 hS2 hz2 hk2 hDA2 => ?_)
  have hLW2 := hLW1.ref hP2 hD2 hDA2 hz2 hk2
  obtain ⟨e1, sl2, hI2⟩ := rm_go hI hk5 (xs (5 * k + 1)) (xs (5 * k + 2)) v1 hst
  refine lv_icmp_eq (tgt := 704) hx hb d_L_268 rfl (fun _ => ?_) (fun h9 => absurd (hr.trans e1.symm) h9)
  exact W.widen (by omega) (by omega) (kk H2 locs2 ⟨_, _, aU ad q7 q8, _, _, sl2, rfl, hLW2, hI2, hS2⟩)
theorem lc_move {p : Program} {l : Launch} {e : Env} {s : State} {m : MethodId} {below : List Frame} {meth : Method} {c : Code} {b N t : Nat} {xs : Nat → Int32} {D : va_G} {cI cZ cO : ClassId} {am : Nat → Nat} {a0 k : Nat} {H : Heap} {locs : List Loc} {cells slots : Nat} {Q : State → Prop} {ls : Array Slot} (E : LE p s m c b N t xs D cI cZ cO) (hk : 5 * k + 5 ≤ N) (hl : lv_has ls 4 [(0, .ref b), (1, .ref a0), (2, .ref (am 0)), (3, .int (nI (5 * k)))]) (h : LSt D cI cZ cO t am a0 s k H locs) (hc : cells + 80 ≤ 600000) (hs : slots + 12080 ≤ 7302250) (kk : ∀ (H1 : Heap) (locs1 : List Loc), LSt D cI cZ cO t am a0 s (k + 1) H1 locs1 → W p l e room_1 s m #[Value.ref b] below meth c H1 locs1 (cells + 80) (slots + 12080) Q (F0 m 704 ls [])) : W p l e room_1 s m #[Value.ref b] below meth c H locs cells slots Q (F0 m 273 ls []) := by
  obtain ⟨L, f, ad, v, σ, sl, ha0, hLW, hI, hS⟩ := h
  subst ha0
  have E9 := E
  obtain ⟨⟨hx, hb, hml, hown, hU⟩, hK, hZ0, hX, hbl, hN⟩ := E9
  have hk5 : k < 590 := by omega
  have hA : ∀ q, s.heap.size ≤ q → lwA s q := fun q h => h
  have h40 := hI.1.len40
  have h80 := hI.1.len80
  refine lv_aload_n hx hb d_L_273 rfl (lv_at hl 1 rfl) ?_
  refine l_sc E hk hl hS 1 (by omega) (by decide) d_L_274 d_L_275 d_L_276 d_L_277 d_L_278 ?_
  refine l_sc E hk hl hS 2 (by omega) (by decide) d_L_279 d_L_280 d_L_281 d_L_282 d_L_283 ?_
  refine l_sc E hk hl hS 3 (by omega) (by decide) d_L_284 d_L_285 d_L_286 d_L_287 d_L_288 ?_
  refine l_sc E hk hl hS 4 (by omega) (by decide) d_L_289 d_L_290 d_L_291 d_L_292 d_L_293 ?_
  refine kLw_V_move hx hb hml hown hU hK hLW.1 hLW.2.1 hS hA (hZ0.kept hS.2.1) ad v hLW.2.2.1 (xs (5 * k + 1)) (xs (5 * k + 2)) (xs (5 * k + 3)) (xs (5 * k + 4)) (by omega) hl.1 ⟨Nat.le_of_ble_eq_true rfl, Nat.le_of_ble_eq_true rfl⟩ (Nat.le_of_ble_eq_true rfl) ⟨by show cells + 2 ≤ 600000; omega, by show slots + 302 ≤ 7302250; omega⟩ d_L_294 (fun u r H1 locs1 hpost hP1 hD1 hS1 hz1 hk1 hDA1 => ?_)
  obtain ⟨hr, v1, q7, q8, hst, hRep1⟩ := hpost
  have hLW1 := hLW.cls hP1 hD1 hDA1 hRep1 hz1 hk1
  refine lv_aload_n hx hb d_L_297 rfl (lv_at hl 2 rfl) ?_
  refine l_sc E hk hl hS1 1 (by omega) (by decide) d_L_298 d_L_299 d_L_300 d_L_301 d_L_302 ?_
  refine l_sc E hk hl hS1 2 (by omega) (by decide) d_L_303 d_L_304 d_L_305 d_L_306 d_L_307 ?_
  refine l_sc E hk hl hS1 3 (by omega) (by decide) d_L_308 d_L_309 d_L_310 d_L_311 d_L_312 ?_
  refine l_sc E hk hl hS1 4 (by omega) (by decide) d_L_313 d_L_314 d_L_315 d_L_316 d_L_317 ?_
  refine kLw_M_move (hcs := ⟨by show cells + 2 ≤ 600000; omega, by show slots + 302 ≤ 7302250; omega⟩) hx hb hml hown hU hK.1 hLW1.2.2.2.1  (xs (5 * k + 1)) (xs (5 * k + 2)) (xs (5 * k + 3)) (xs (5 * k + 4)) hLW1.2.2.2.2.1 hS1 hA hl.1 ⟨Nat.le_of_ble_eq_true rfl, Nat.le_of_ble_eq_true rfl⟩ (Nat.le_of_ble_eq_true rfl) d_L_318 (fun H2 locs2 hP2 hD2 hS2 hz2 hk2 hDA2 => ?_)
  have hLW2 := hLW1.ref hP2 hD2 hDA2 hz2 hk2
  obtain ⟨e1, e2⟩ := mv_go hI hk5 (xs (5 * k + 1)) (xs (5 * k + 2)) (xs (5 * k + 3)) (xs (5 * k + 4))
  obtain ⟨sl2, hI2⟩ := e2 v1 hst
  refine lv_icmp_eq (tgt := 704) hx hb d_L_321 rfl (fun _ => ?_) (fun h9 => absurd (hr.trans e1.symm) h9)
  exact W.widen (by omega) (by omega) (kk H2 locs2 ⟨_, _, aU ad q7 q8, _, _, sl2, rfl, hLW2, hI2, hS2⟩)
theorem lc_find {p : Program} {l : Launch} {e : Env} {s : State} {m : MethodId} {below : List Frame} {meth : Method} {c : Code} {b N t : Nat} {xs : Nat → Int32} {D : va_G} {cI cZ cO : ClassId} {am : Nat → Nat} {a0 k : Nat} {H : Heap} {locs : List Loc} {cells slots : Nat} {Q : State → Prop} {ls : Array Slot} (E : LE p s m c b N t xs D cI cZ cO) (hk : 5 * k + 5 ≤ N) (hl : lv_has ls 4 [(0, .ref b), (1, .ref a0), (2, .ref (am 0)), (3, .int (nI (5 * k)))]) (h : LSt D cI cZ cO t am a0 s k H locs) (hc : cells + 80 ≤ 600000) (hs : slots + 12080 ≤ 7302250) (kk : ∀ (H1 : Heap) (locs1 : List Loc), LSt D cI cZ cO t am a0 s (k + 1) H1 locs1 → W p l e room_1 s m #[Value.ref b] below meth c H1 locs1 (cells + 80) (slots + 12080) Q (F0 m 704 ls [])) : W p l e room_1 s m #[Value.ref b] below meth c H locs cells slots Q (F0 m 326 ls []) := by
  obtain ⟨L, f, ad, v, σ, sl, ha0, hLW, hI, hS⟩ := h
  subst ha0
  have E9 := E
  obtain ⟨⟨hx, hb, hml, hown, hU⟩, hK, hZ0, hX, hbl, hN⟩ := E9
  have hk5 : k < 590 := by omega
  have hA : ∀ q, s.heap.size ≤ q → lwA s q := fun q h => h
  refine lv_aload_n hx hb d_L_326 rfl (lv_at hl 1 rfl) ?_
  refine l_sc E hk hl hS 1 (by omega) (by decide) d_L_327 d_L_328 d_L_329 d_L_330 d_L_331 ?_
  refine l_sc E hk hl hS 2 (by omega) (by decide) d_L_332 d_L_333 d_L_334 d_L_335 d_L_336 ?_
  refine kLw_V_find (hcs := ⟨by show cells ≤ 600000; omega, by show slots ≤ 7302250; omega⟩) hx hb hml hown hU hK hLW.1 t ad v hLW.2.2.1 (xs (5 * k + 1)) (xs (5 * k + 2)) hl.1 ⟨Nat.le_of_ble_eq_true rfl, Nat.le_of_ble_eq_true rfl⟩ (Nat.le_of_ble_eq_true rfl) d_L_337 ?_
  refine lv_aload_n hx hb d_L_340 rfl (lv_at hl 2 rfl) ?_
  refine l_sc E hk hl hS 1 (by omega) (by decide) d_L_341 d_L_342 d_L_343 d_L_344 d_L_345 ?_
  refine l_sc E hk hl hS 2 (by omega) (by decide) d_L_346 d_L_347 d_L_348 d_L_349 d_L_350 ?_
  refine kLw_M_find (hcs := ⟨by show cells ≤ 600000; omega, by show slots ≤ 7302250; omega⟩) hx hb hml hown hU hK.1 hLW.2.2.2.1  (xs (5 * k + 1)) (xs (5 * k + 2)) hl.1 ⟨Nat.le_of_ble_eq_true rfl, Nat.le_of_ble_eq_true rfl⟩ (Nat.le_of_ble_eq_true rfl) d_L_351 ?_
  refine lv_icmp_eq (tgt := 704) hx hb d_L_354 rfl (fun _ => ?_) (fun h9 => absurd (hI.1.find hI.2.2.1 (xs (5 * k + 1)) (xs (5 * k + 2))).symm h9)
  exact W.widen (by omega) (by omega) (kk H locs ⟨L, f, ad, v, σ, sl, rfl, hLW, hI.mono (by omega), hS⟩)
theorem lc_grow {p : Program} {l : Launch} {e : Env} {s : State} {m : MethodId} {below : List Frame} {meth : Method} {c : Code} {b N t : Nat} {xs : Nat → Int32} {D : va_G} {cI cZ cO : ClassId} {am : Nat → Nat} {a0 k : Nat} {H : Heap} {locs : List Loc} {cells slots : Nat} {Q : State → Prop} {ls : Array Slot} (E : LE p s m c b N t xs D cI cZ cO) (hk : 5 * k + 5 ≤ N) (hl : lv_has ls 4 [(0, .ref b), (1, .ref a0), (2, .ref (am 0)), (3, .int (nI (5 * k)))]) (h : LSt D cI cZ cO t am a0 s k H locs) (hc : cells + 80 ≤ 600000) (hs : slots + 12080 ≤ 7302250) (kk : ∀ (H1 : Heap) (locs1 : List Loc), LSt D cI cZ cO t am a0 s (k + 1) H1 locs1 → W p l e room_1 s m #[Value.ref b] below meth c H1 locs1 (cells + 80) (slots + 12080) Q (F0 m 704 ls [])) : W p l e room_1 s m #[Value.ref b] below meth c H locs cells slots Q (F0 m 359 ls []) := by
  obtain ⟨L, f, ad, v, σ, sl, ha0, hLW, hI, hS⟩ := h
  subst ha0
  have E9 := E
  obtain ⟨⟨hx, hb, hml, hown, hU⟩, hK, hZ0, hX, hbl, hN⟩ := E9
  have hk5 : k < 590 := by omega
  have hA : ∀ q, s.heap.size ≤ q → lwA s q := fun q h => h
  refine lv_aload_n hx hb d_L_359 rfl (lv_at hl 1 rfl) ?_
  refine l_sc E hk hl hS 1 (by omega) (by decide) d_L_360 d_L_361 d_L_362 d_L_363 d_L_364 ?_
  refine l_sc E hk hl hS 2 (by omega) (by decide) d_L_365 d_L_366 d_L_367 d_L_368 d_L_369 ?_
  refine kLw_V_grow hx hb hml hown hU hK hLW.1 hLW.2.1 hS hA t ad v hLW.2.2.1 (xs (5 * k + 1)) (xs (5 * k + 2)) (grow_preV hI hk5 (xs (5 * k + 1)) (xs (5 * k + 2))) hl.1 ⟨Nat.le_of_ble_eq_true rfl, Nat.le_of_ble_eq_true rfl⟩ (Nat.le_of_ble_eq_true rfl) ⟨by show cells + 0 ≤ 600000; omega, by show slots + 0 ≤ 7302250; omega⟩ d_L_370 (fun u r H1 locs1 hpost hP1 hD1 hS1 hz1 hk1 hDA1 => ?_)
  obtain ⟨hr, v1, q7, q8, hst, hRep1⟩ := hpost
  have hLW1 := hLW.cls hP1 hD1 hDA1 hRep1 hz1 hk1
  refine lv_aload_n hx hb d_L_373 rfl (lv_at hl 2 rfl) ?_
  refine l_sc E hk hl hS1 1 (by omega) (by decide) d_L_374 d_L_375 d_L_376 d_L_377 d_L_378 ?_
  refine l_sc E hk hl hS1 2 (by omega) (by decide) d_L_379 d_L_380 d_L_381 d_L_382 d_L_383 ?_
  refine kLw_M_grow (hcs := ⟨by show cells + 0 ≤ 600000; omega, by show slots + 0 ≤ 7302250; omega⟩) hx hb hml hown hU hK.1 hLW1.2.2.2.1 hI.1.ok  (xs (5 * k + 1)) (xs (5 * k + 2)) (grow_pre hI (xs (5 * k + 1)) (xs (5 * k + 2))) hLW1.2.2.2.2.1 hS1 hA hl.1 ⟨Nat.le_of_ble_eq_true rfl, Nat.le_of_ble_eq_true rfl⟩ (Nat.le_of_ble_eq_true rfl) d_L_384 (fun H2 locs2 hP2 hD2 hS2 hz2 hk2 hDA2 => ?_)
  have hLW2 := hLW1.ref hP2 hD2 hDA2 hz2 hk2
  obtain ⟨e1, sl2, hI2⟩ := gr_go hI hk5 (xs (5 * k + 1)) (xs (5 * k + 2)) v1 hst
  refine lv_icmp_eq (tgt := 704) hx hb d_L_387 rfl (fun _ => ?_) (fun h9 => absurd (hr.trans e1.symm) h9)
  exact W.widen (by omega) (by omega) (kk H2 locs2 ⟨_, _, aU ad q7 q8, _, _, sl2, rfl, hLW2, hI2, hS2⟩)
theorem lc_shrink {p : Program} {l : Launch} {e : Env} {s : State} {m : MethodId} {below : List Frame} {meth : Method} {c : Code} {b N t : Nat} {xs : Nat → Int32} {D : va_G} {cI cZ cO : ClassId} {am : Nat → Nat} {a0 k : Nat} {H : Heap} {locs : List Loc} {cells slots : Nat} {Q : State → Prop} {ls : Array Slot} (E : LE p s m c b N t xs D cI cZ cO) (hk : 5 * k + 5 ≤ N) (hl : lv_has ls 4 [(0, .ref b), (1, .ref a0), (2, .ref (am 0)), (3, .int (nI (5 * k)))]) (h : LSt D cI cZ cO t am a0 s k H locs) (hc : cells + 80 ≤ 600000) (hs : slots + 12080 ≤ 7302250) (kk : ∀ (H1 : Heap) (locs1 : List Loc), LSt D cI cZ cO t am a0 s (k + 1) H1 locs1 → W p l e room_1 s m #[Value.ref b] below meth c H1 locs1 (cells + 80) (slots + 12080) Q (F0 m 704 ls [])) : W p l e room_1 s m #[Value.ref b] below meth c H locs cells slots Q (F0 m 392 ls []) := by
  obtain ⟨L, f, ad, v, σ, sl, ha0, hLW, hI, hS⟩ := h
  subst ha0
  have E9 := E
  obtain ⟨⟨hx, hb, hml, hown, hU⟩, hK, hZ0, hX, hbl, hN⟩ := E9
  have hk5 : k < 590 := by omega
  have hA : ∀ q, s.heap.size ≤ q → lwA s q := fun q h => h
  refine lv_aload_n hx hb d_L_392 rfl (lv_at hl 1 rfl) ?_
  refine l_sc E hk hl hS 1 (by omega) (by decide) d_L_393 d_L_394 d_L_395 d_L_396 d_L_397 ?_
  refine l_sc E hk hl hS 2 (by omega) (by decide) d_L_398 d_L_399 d_L_400 d_L_401 d_L_402 ?_
  refine kLw_V_shrink hx hb hml hown hU hK hLW.1 hLW.2.1 hS hA t ad v hLW.2.2.1 (xs (5 * k + 1)) (xs (5 * k + 2)) hl.1 ⟨Nat.le_of_ble_eq_true rfl, Nat.le_of_ble_eq_true rfl⟩ (Nat.le_of_ble_eq_true rfl) ⟨by show cells + 0 ≤ 600000; omega, by show slots + 0 ≤ 7302250; omega⟩ d_L_403 (fun u r H1 locs1 hpost hP1 hD1 hS1 hz1 hk1 hDA1 => ?_)
  obtain ⟨hr, v1, q7, q8, hst, hRep1⟩ := hpost
  have hLW1 := hLW.cls hP1 hD1 hDA1 hRep1 hz1 hk1
  refine lv_aload_n hx hb d_L_406 rfl (lv_at hl 2 rfl) ?_
  refine l_sc E hk hl hS1 1 (by omega) (by decide) d_L_407 d_L_408 d_L_409 d_L_410 d_L_411 ?_
  refine l_sc E hk hl hS1 2 (by omega) (by decide) d_L_412 d_L_413 d_L_414 d_L_415 d_L_416 ?_
  refine kLw_M_shrink (hcs := ⟨by show cells + 0 ≤ 600000; omega, by show slots + 0 ≤ 7302250; omega⟩) hx hb hml hown hU hK.1 hLW1.2.2.2.1 hI.1.ok  (xs (5 * k + 1)) (xs (5 * k + 2)) hLW1.2.2.2.2.1 hS1 hA hl.1 ⟨Nat.le_of_ble_eq_true rfl, Nat.le_of_ble_eq_true rfl⟩ (Nat.le_of_ble_eq_true rfl) d_L_417 (fun H2 locs2 hP2 hD2 hS2 hz2 hk2 hDA2 => ?_)
  have hLW2 := hLW1.ref hP2 hD2 hDA2 hz2 hk2
  obtain ⟨e1, sl2, hI2⟩ := sh_go hI hk5 (xs (5 * k + 1)) (xs (5 * k + 2)) v1 hst
  refine lv_icmp_eq (tgt := 704) hx hb d_L_420 rfl (fun _ => ?_) (fun h9 => absurd (hr.trans e1.symm) h9)
  exact W.widen (by omega) (by omega) (kk H2 locs2 ⟨_, _, aU ad q7 q8, _, _, sl2, rfl, hLW2, hI2, hS2⟩)
theorem lc_size {p : Program} {l : Launch} {e : Env} {s : State} {m : MethodId} {below : List Frame} {meth : Method} {c : Code} {b N t : Nat} {xs : Nat → Int32} {D : va_G} {cI cZ cO : ClassId} {am : Nat → Nat} {a0 k : Nat} {H : Heap} {locs : List Loc} {cells slots : Nat} {Q : State → Prop} {ls : Array Slot} (E : LE p s m c b N t xs D cI cZ cO) (hk : 5 * k + 5 ≤ N) (hl : lv_has ls 4 [(0, .ref b), (1, .ref a0), (2, .ref (am 0)), (3, .int (nI (5 * k)))]) (h : LSt D cI cZ cO t am a0 s k H locs) (hc : cells + 80 ≤ 600000) (hs : slots + 12080 ≤ 7302250) (kk : ∀ (H1 : Heap) (locs1 : List Loc), LSt D cI cZ cO t am a0 s (k + 1) H1 locs1 → W p l e room_1 s m #[Value.ref b] below meth c H1 locs1 (cells + 80) (slots + 12080) Q (F0 m 704 ls [])) : W p l e room_1 s m #[Value.ref b] below meth c H locs cells slots Q (F0 m 425 ls []) := by
  obtain ⟨L, f, ad, v, σ, sl, ha0, hLW, hI, hS⟩ := h
  subst ha0
  have E9 := E
  obtain ⟨⟨hx, hb, hml, hown, hU⟩, hK, hZ0, hX, hbl, hN⟩ := E9
  have hk5 : k < 590 := by omega
  have hA : ∀ q, s.heap.size ≤ q → lwA s q := fun q h => h
  refine lv_aload_n hx hb d_L_425 rfl (lv_at hl 1 rfl) ?_
  refine l_sc E hk hl hS 1 (by omega) (by decide) d_L_426 d_L_427 d_L_428 d_L_429 d_L_430 ?_
  refine kLw_V_size (hcs := ⟨by show cells ≤ 600000; omega, by show slots ≤ 7302250; omega⟩) hx hb hml hown hU hK hLW.1 t ad v hLW.2.2.1 (xs (5 * k + 1)) hl.1 ⟨Nat.le_of_ble_eq_true rfl, Nat.le_of_ble_eq_true rfl⟩ (Nat.le_of_ble_eq_true rfl) d_L_431 ?_
  refine lv_aload_n hx hb d_L_434 rfl (lv_at hl 2 rfl) ?_
  refine l_sc E hk hl hS 1 (by omega) (by decide) d_L_435 d_L_436 d_L_437 d_L_438 d_L_439 ?_
  refine kLw_M_size (hcs := ⟨by show cells ≤ 600000; omega, by show slots ≤ 7302250; omega⟩) hx hb hml hown hU hK.1 hLW.2.2.2.1 hI.1.ok  (xs (5 * k + 1)) hl.1 ⟨Nat.le_of_ble_eq_true rfl, Nat.le_of_ble_eq_true rfl⟩ (Nat.le_of_ble_eq_true rfl) d_L_440 ?_
  refine lv_icmp_eq (tgt := 704) hx hb d_L_443 rfl (fun _ => ?_) (fun h9 => absurd (hI.1.size hI.2.2.1 hI.2.1 (xs (5 * k + 1))).symm h9)
  exact W.widen (by omega) (by omega) (kk H locs ⟨L, f, ad, v, σ, sl, rfl, hLW, hI.mono (by omega), hS⟩)
theorem lc_block {p : Program} {l : Launch} {e : Env} {s : State} {m : MethodId} {below : List Frame} {meth : Method} {c : Code} {b N t : Nat} {xs : Nat → Int32} {D : va_G} {cI cZ cO : ClassId} {am : Nat → Nat} {a0 k : Nat} {H : Heap} {locs : List Loc} {cells slots : Nat} {Q : State → Prop} {ls : Array Slot} (E : LE p s m c b N t xs D cI cZ cO) (hk : 5 * k + 5 ≤ N) (hl : lv_has ls 4 [(0, .ref b), (1, .ref a0), (2, .ref (am 0)), (3, .int (nI (5 * k)))]) (h : LSt D cI cZ cO t am a0 s k H locs) (hc : cells + 80 ≤ 600000) (hs : slots + 12080 ≤ 7302250) (kk : ∀ (H1 : Heap) (locs1 : List Loc), LSt D cI cZ cO t am a0 s (k + 1) H1 locs1 → W p l e room_1 s m #[Value.ref b] below meth c H1 locs1 (cells + 80) (slots + 12080) Q (F0 m 704 ls [])) : W p l e room_1 s m #[Value.ref b] below meth c H locs cells slots Q (F0 m 448 ls []) := by
  obtain ⟨L, f, ad, v, σ, sl, ha0, hLW, hI, hS⟩ := h
  subst ha0
  have E9 := E
  obtain ⟨⟨hx, hb, hml, hown, hU⟩, hK, hZ0, hX, hbl, hN⟩ := E9
  have hk5 : k < 590 := by omega
  have hA : ∀ q, s.heap.size ≤ q → lwA s q := fun q h => h
  refine lv_aload_n hx hb d_L_448 rfl (lv_at hl 1 rfl) ?_
  refine l_sc E hk hl hS 1 (by omega) (by decide) d_L_449 d_L_450 d_L_451 d_L_452 d_L_453 ?_
  refine l_sc E hk hl hS 2 (by omega) (by decide) d_L_454 d_L_455 d_L_456 d_L_457 d_L_458 ?_
  refine kLw_V_block (hcs := ⟨by show cells ≤ 600000; omega, by show slots ≤ 7302250; omega⟩) hx hb hml hown hU hK hLW.1 t ad v hLW.2.2.1 (xs (5 * k + 1)) (xs (5 * k + 2)) hl.1 ⟨Nat.le_of_ble_eq_true rfl, Nat.le_of_ble_eq_true rfl⟩ (Nat.le_of_ble_eq_true rfl) d_L_459 ?_
  refine lv_aload_n hx hb d_L_462 rfl (lv_at hl 2 rfl) ?_
  refine l_sc E hk hl hS 1 (by omega) (by decide) d_L_463 d_L_464 d_L_465 d_L_466 d_L_467 ?_
  refine l_sc E hk hl hS 2 (by omega) (by decide) d_L_468 d_L_469 d_L_470 d_L_471 d_L_472 ?_
  refine kLw_M_block (hcs := ⟨by show cells ≤ 600000; omega, by show slots ≤ 7302250; omega⟩) hx hb hml hown hU hK.1 hLW.2.2.2.1 hI.1.ok  (xs (5 * k + 1)) (xs (5 * k + 2)) hl.1 ⟨Nat.le_of_ble_eq_true rfl, Nat.le_of_ble_eq_true rfl⟩ (Nat.le_of_ble_eq_true rfl) d_L_473 ?_
  refine lv_icmp_eq (tgt := 704) hx hb d_L_476 rfl (fun _ => ?_) (fun h9 => absurd (hI.1.block hI.2.2.1 hI.2.1 (xs (5 * k + 1)) (xs (5 * k + 2))).symm h9)
  exact W.widen (by omega) (by omega) (kk H locs ⟨L, f, ad, v, σ, sl, rfl, hLW, hI.mono (by omega), hS⟩)
theorem lc_extents {p : Program} {l : Launch} {e : Env} {s : State} {m : MethodId} {below : List Frame} {meth : Method} {c : Code} {b N t : Nat} {xs : Nat → Int32} {D : va_G} {cI cZ cO : ClassId} {am : Nat → Nat} {a0 k : Nat} {H : Heap} {locs : List Loc} {cells slots : Nat} {Q : State → Prop} {ls : Array Slot} (E : LE p s m c b N t xs D cI cZ cO) (hk : 5 * k + 5 ≤ N) (hl : lv_has ls 4 [(0, .ref b), (1, .ref a0), (2, .ref (am 0)), (3, .int (nI (5 * k)))]) (h : LSt D cI cZ cO t am a0 s k H locs) (hc : cells + 80 ≤ 600000) (hs : slots + 12080 ≤ 7302250) (kk : ∀ (H1 : Heap) (locs1 : List Loc), LSt D cI cZ cO t am a0 s (k + 1) H1 locs1 → W p l e room_1 s m #[Value.ref b] below meth c H1 locs1 (cells + 80) (slots + 12080) Q (F0 m 704 ls [])) : W p l e room_1 s m #[Value.ref b] below meth c H locs cells slots Q (F0 m 481 ls []) := by
  obtain ⟨L, f, ad, v, σ, sl, ha0, hLW, hI, hS⟩ := h
  subst ha0
  have E9 := E
  obtain ⟨⟨hx, hb, hml, hown, hU⟩, hK, hZ0, hX, hbl, hN⟩ := E9
  have hk5 : k < 590 := by omega
  have hA : ∀ q, s.heap.size ≤ q → lwA s q := fun q h => h
  refine lv_aload_n hx hb d_L_481 rfl (lv_at hl 1 rfl) ?_
  refine l_sc E hk hl hS 1 (by omega) (by decide) d_L_482 d_L_483 d_L_484 d_L_485 d_L_486 ?_
  refine kLw_V_extents (hcs := ⟨by show cells ≤ 600000; omega, by show slots ≤ 7302250; omega⟩) hx hb hml hown hU hK hLW.1 t ad v hLW.2.2.1 (xs (5 * k + 1)) hl.1 ⟨Nat.le_of_ble_eq_true rfl, Nat.le_of_ble_eq_true rfl⟩ (Nat.le_of_ble_eq_true rfl) d_L_487 ?_
  refine lv_aload_n hx hb d_L_490 rfl (lv_at hl 2 rfl) ?_
  refine l_sc E hk hl hS 1 (by omega) (by decide) d_L_491 d_L_492 d_L_493 d_L_494 d_L_495 ?_
  refine kLw_M_extents (hcs := ⟨by show cells ≤ 600000; omega, by show slots ≤ 7302250; omega⟩) hx hb hml hown hU hK.1 hLW.2.2.2.1 hI.1.ok  (xs (5 * k + 1)) hl.1 ⟨Nat.le_of_ble_eq_true rfl, Nat.le_of_ble_eq_true rfl⟩ (Nat.le_of_ble_eq_true rfl) d_L_496 ?_
  refine lv_icmp_eq (tgt := 704) hx hb d_L_499 rfl (fun _ => ?_) (fun h9 => absurd (hI.1.extents hI.2.2.1 hI.2.1 (xs (5 * k + 1))).symm h9)
  exact W.widen (by omega) (by omega) (kk H locs ⟨L, f, ad, v, σ, sl, rfl, hLW, hI.mono (by omega), hS⟩)
theorem lc_valence {p : Program} {l : Launch} {e : Env} {s : State} {m : MethodId} {below : List Frame} {meth : Method} {c : Code} {b N t : Nat} {xs : Nat → Int32} {D : va_G} {cI cZ cO : ClassId} {am : Nat → Nat} {a0 k : Nat} {H : Heap} {locs : List Loc} {cells slots : Nat} {Q : State → Prop} {ls : Array Slot} (E : LE p s m c b N t xs D cI cZ cO) (hk : 5 * k + 5 ≤ N) (hl : lv_has ls 4 [(0, .ref b), (1, .ref a0), (2, .ref (am 0)), (3, .int (nI (5 * k)))]) (h : LSt D cI cZ cO t am a0 s k H locs) (hc : cells + 80 ≤ 600000) (hs : slots + 12080 ≤ 7302250) (kk : ∀ (H1 : Heap) (locs1 : List Loc), LSt D cI cZ cO t am a0 s (k + 1) H1 locs1 → W p l e room_1 s m #[Value.ref b] below meth c H1 locs1 (cells + 80) (slots + 12080) Q (F0 m 704 ls [])) : W p l e room_1 s m #[Value.ref b] below meth c H locs cells slots Q (F0 m 504 ls []) := by
  obtain ⟨L, f, ad, v, σ, sl, ha0, hLW, hI, hS⟩ := h
  subst ha0
  have E9 := E
  obtain ⟨⟨hx, hb, hml, hown, hU⟩, hK, hZ0, hX, hbl, hN⟩ := E9
  have hk5 : k < 590 := by omega
  have hA : ∀ q, s.heap.size ≤ q → lwA s q := fun q h => h
  refine lv_aload_n hx hb d_L_504 rfl (lv_at hl 1 rfl) ?_
  refine l_sc E hk hl hS 1 (by omega) (by decide) d_L_505 d_L_506 d_L_507 d_L_508 d_L_509 ?_
  refine kLw_V_valence (hcs := ⟨by show cells ≤ 600000; omega, by show slots ≤ 7302250; omega⟩) hx hb hml hown hU hK hLW.1 t ad v hLW.2.2.1 (xs (5 * k + 1)) hl.1 ⟨Nat.le_of_ble_eq_true rfl, Nat.le_of_ble_eq_true rfl⟩ (Nat.le_of_ble_eq_true rfl) d_L_510 ?_
  refine lv_aload_n hx hb d_L_513 rfl (lv_at hl 2 rfl) ?_
  refine l_sc E hk hl hS 1 (by omega) (by decide) d_L_514 d_L_515 d_L_516 d_L_517 d_L_518 ?_
  refine kLw_M_valence (hcs := ⟨by show cells ≤ 600000; omega, by show slots ≤ 7302250; omega⟩) hx hb hml hown hU hK.1 hLW.2.2.2.1  (xs (5 * k + 1)) hl.1 ⟨Nat.le_of_ble_eq_true rfl, Nat.le_of_ble_eq_true rfl⟩ (Nat.le_of_ble_eq_true rfl) d_L_519 ?_
  refine lv_icmp_eq (tgt := 704) hx hb d_L_522 rfl (fun _ => ?_) (fun h9 => absurd (hI.1.valence hI.2.2.1 hI.2.2.2.2 (by omega) (xs (5 * k + 1))).symm h9)
  exact W.widen (by omega) (by omega) (kk H locs ⟨L, f, ad, v, σ, sl, rfl, hLW, hI.mono (by omega), hS⟩)
theorem lc_records {p : Program} {l : Launch} {e : Env} {s : State} {m : MethodId} {below : List Frame} {meth : Method} {c : Code} {b N t : Nat} {xs : Nat → Int32} {D : va_G} {cI cZ cO : ClassId} {am : Nat → Nat} {a0 k : Nat} {H : Heap} {locs : List Loc} {cells slots : Nat} {Q : State → Prop} {ls : Array Slot} (E : LE p s m c b N t xs D cI cZ cO) (hk : 5 * k + 5 ≤ N) (hl : lv_has ls 4 [(0, .ref b), (1, .ref a0), (2, .ref (am 0)), (3, .int (nI (5 * k)))]) (h : LSt D cI cZ cO t am a0 s k H locs) (hc : cells + 80 ≤ 600000) (hs : slots + 12080 ≤ 7302250) (kk : ∀ (H1 : Heap) (locs1 : List Loc), LSt D cI cZ cO t am a0 s (k + 1) H1 locs1 → W p l e room_1 s m #[Value.ref b] below meth c H1 locs1 (cells + 80) (slots + 12080) Q (F0 m 704 ls [])) : W p l e room_1 s m #[Value.ref b] below meth c H locs cells slots Q (F0 m 527 ls []) := by
  obtain ⟨L, f, ad, v, σ, sl, ha0, hLW, hI, hS⟩ := h
  subst ha0
  have E9 := E
  obtain ⟨⟨hx, hb, hml, hown, hU⟩, hK, hZ0, hX, hbl, hN⟩ := E9
  have hk5 : k < 590 := by omega
  have hA : ∀ q, s.heap.size ≤ q → lwA s q := fun q h => h
  refine lv_aload_n hx hb d_L_527 rfl (lv_at hl 1 rfl) ?_
  refine kLw_V_records (hcs := ⟨by show cells ≤ 600000; omega, by show slots ≤ 7302250; omega⟩) hx hb hml hown hU hK hLW.1 t ad v hLW.2.2.1 hl.1 ⟨Nat.le_of_ble_eq_true rfl, Nat.le_of_ble_eq_true rfl⟩ (Nat.le_of_ble_eq_true rfl) d_L_528 ?_
  refine lv_aload_n hx hb d_L_531 rfl (lv_at hl 2 rfl) ?_
  refine kLw_M_records (hcs := ⟨by show cells ≤ 600000; omega, by show slots ≤ 7302250; omega⟩) hx hb hml hown hU hK.1 hLW.2.2.2.1  hl.1 ⟨Nat.le_of_ble_eq_true rfl, Nat.le_of_ble_eq_true rfl⟩ (Nat.le_of_ble_eq_true rfl) d_L_532 ?_
  refine lv_icmp_eq (tgt := 704) hx hb d_L_535 rfl (fun _ => ?_) (fun h9 => absurd (hI.1.recs).symm h9)
  exact W.widen (by omega) (by omega) (kk H locs ⟨L, f, ad, v, σ, sl, rfl, hLW, hI.mono (by omega), hS⟩)
theorem lc_row {p : Program} {l : Launch} {e : Env} {s : State} {m : MethodId} {below : List Frame} {meth : Method} {c : Code} {b N t : Nat} {xs : Nat → Int32} {D : va_G} {cI cZ cO : ClassId} {am : Nat → Nat} {a0 k : Nat} {H : Heap} {locs : List Loc} {cells slots : Nat} {Q : State → Prop} {ls : Array Slot} (E : LE p s m c b N t xs D cI cZ cO) (hk : 5 * k + 5 ≤ N) (hl : lv_has ls 4 [(0, .ref b), (1, .ref a0), (2, .ref (am 0)), (3, .int (nI (5 * k)))]) (h : LSt D cI cZ cO t am a0 s k H locs) (hc : cells + 80 ≤ 600000) (hs : slots + 12080 ≤ 7302250) (kk : ∀ (H1 : Heap) (locs1 : List Loc), LSt D cI cZ cO t am a0 s (k + 1) H1 locs1 → W p l e room_1 s m #[Value.ref b] below meth c H1 locs1 (cells + 80) (slots + 12080) Q (F0 m 704 ls [])) : W p l e room_1 s m #[Value.ref b] below meth c H locs cells slots Q (F0 m 540 ls []) := by
  obtain ⟨L, f, ad, v, σ, sl, ha0, hLW, hI, hS⟩ := h
  subst ha0
  have E9 := E
  obtain ⟨⟨hx, hb, hml, hown, hU⟩, hK, hZ0, hX, hbl, hN⟩ := E9
  have hk5 : k < 590 := by omega
  have hA : ∀ q, s.heap.size ≤ q → lwA s q := fun q h => h
  refine lv_aload_n hx hb d_L_540 rfl (lv_at hl 1 rfl) ?_
  refine l_sc E hk hl hS 1 (by omega) (by decide) d_L_541 d_L_542 d_L_543 d_L_544 d_L_545 ?_
  refine l_sc E hk hl hS 2 (by omega) (by decide) d_L_546 d_L_547 d_L_548 d_L_549 d_L_550 ?_
  refine kLw_V_row (hcs := ⟨by show cells ≤ 600000; omega, by show slots ≤ 7302250; omega⟩) hx hb hml hown hU hK hLW.1 t ad v hLW.2.2.1 (xs (5 * k + 1)) (xs (5 * k + 2)) hl.1 ⟨Nat.le_of_ble_eq_true rfl, Nat.le_of_ble_eq_true rfl⟩ (Nat.le_of_ble_eq_true rfl) d_L_551 ?_
  refine lv_aload_n hx hb d_L_554 rfl (lv_at hl 2 rfl) ?_
  refine l_sc E hk hl hS 1 (by omega) (by decide) d_L_555 d_L_556 d_L_557 d_L_558 d_L_559 ?_
  refine l_sc E hk hl hS 2 (by omega) (by decide) d_L_560 d_L_561 d_L_562 d_L_563 d_L_564 ?_
  refine kLw_M_row (hcs := ⟨by show cells ≤ 600000; omega, by show slots ≤ 7302250; omega⟩) hx hb hml hown hU hK.1 hLW.2.2.2.1 hI.1.ok  (xs (5 * k + 1)) (xs (5 * k + 2)) hl.1 ⟨Nat.le_of_ble_eq_true rfl, Nat.le_of_ble_eq_true rfl⟩ (Nat.le_of_ble_eq_true rfl) d_L_565 ?_
  refine lv_icmp_eq (tgt := 704) hx hb d_L_568 rfl (fun _ => ?_) (fun h9 => absurd (hI.1.row hI.2.2.1 hI.2.1 hI.2.2.2.2 (by omega) (xs (5 * k + 1)) (xs (5 * k + 2))).symm h9)
  exact W.widen (by omega) (by omega) (kk H locs ⟨L, f, ad, v, σ, sl, rfl, hLW, hI.mono (by omega), hS⟩)
theorem lc_overflows {p : Program} {l : Launch} {e : Env} {s : State} {m : MethodId} {below : List Frame} {meth : Method} {c : Code} {b N t : Nat} {xs : Nat → Int32} {D : va_G} {cI cZ cO : ClassId} {am : Nat → Nat} {a0 k : Nat} {H : Heap} {locs : List Loc} {cells slots : Nat} {Q : State → Prop} {ls : Array Slot} (E : LE p s m c b N t xs D cI cZ cO) (hk : 5 * k + 5 ≤ N) (hl : lv_has ls 4 [(0, .ref b), (1, .ref a0), (2, .ref (am 0)), (3, .int (nI (5 * k)))]) (h : LSt D cI cZ cO t am a0 s k H locs) (hc : cells + 80 ≤ 600000) (hs : slots + 12080 ≤ 7302250) (kk : ∀ (H1 : Heap) (locs1 : List Loc), LSt D cI cZ cO t am a0 s (k + 1) H1 locs1 → W p l e room_1 s m #[Value.ref b] below meth c H1 locs1 (cells + 80) (slots + 12080) Q (F0 m 704 ls [])) : W p l e room_1 s m #[Value.ref b] below meth c H locs cells slots Q (F0 m 573 ls []) := by
  obtain ⟨L, f, ad, v, σ, sl, ha0, hLW, hI, hS⟩ := h
  subst ha0
  have E9 := E
  obtain ⟨⟨hx, hb, hml, hown, hU⟩, hK, hZ0, hX, hbl, hN⟩ := E9
  have hk5 : k < 590 := by omega
  have hA : ∀ q, s.heap.size ≤ q → lwA s q := fun q h => h
  refine lv_aload_n hx hb d_L_573 rfl (lv_at hl 1 rfl) ?_
  refine kLw_V_overflows (hcs := ⟨by show cells ≤ 600000; omega, by show slots ≤ 7302250; omega⟩) hx hb hml hown hU hK hLW.1 t ad v hLW.2.2.1 hl.1 ⟨Nat.le_of_ble_eq_true rfl, Nat.le_of_ble_eq_true rfl⟩ (Nat.le_of_ble_eq_true rfl) d_L_574 ?_
  refine lv_aload_n hx hb d_L_577 rfl (lv_at hl 2 rfl) ?_
  refine kLw_M_overflows (hcs := ⟨by show cells ≤ 600000; omega, by show slots ≤ 7302250; omega⟩) hx hb hml hown hU hK.1 hLW.2.2.2.1 hI.1.ok  hl.1 ⟨Nat.le_of_ble_eq_true rfl, Nat.le_of_ble_eq_true rfl⟩ (Nat.le_of_ble_eq_true rfl) d_L_578 ?_
  refine lv_icmp_eq (tgt := 704) hx hb d_L_581 rfl (fun _ => ?_) (fun h9 => absurd (hI.1.overflows hI.2.1).symm h9)
  exact W.widen (by omega) (by omega) (kk H locs ⟨L, f, ad, v, σ, sl, rfl, hLW, hI.mono (by omega), hS⟩)
theorem lc_overflow {p : Program} {l : Launch} {e : Env} {s : State} {m : MethodId} {below : List Frame} {meth : Method} {c : Code} {b N t : Nat} {xs : Nat → Int32} {D : va_G} {cI cZ cO : ClassId} {am : Nat → Nat} {a0 k : Nat} {H : Heap} {locs : List Loc} {cells slots : Nat} {Q : State → Prop} {ls : Array Slot} (E : LE p s m c b N t xs D cI cZ cO) (hk : 5 * k + 5 ≤ N) (hl : lv_has ls 4 [(0, .ref b), (1, .ref a0), (2, .ref (am 0)), (3, .int (nI (5 * k)))]) (h : LSt D cI cZ cO t am a0 s k H locs) (hc : cells + 80 ≤ 600000) (hs : slots + 12080 ≤ 7302250) (kk : ∀ (H1 : Heap) (locs1 : List Loc), LSt D cI cZ cO t am a0 s (k + 1) H1 locs1 → W p l e room_1 s m #[Value.ref b] below meth c H1 locs1 (cells + 80) (slots + 12080) Q (F0 m 704 ls [])) : W p l e room_1 s m #[Value.ref b] below meth c H locs cells slots Q (F0 m 586 ls []) := by
  obtain ⟨L, f, ad, v, σ, sl, ha0, hLW, hI, hS⟩ := h
  subst ha0
  have E9 := E
  obtain ⟨⟨hx, hb, hml, hown, hU⟩, hK, hZ0, hX, hbl, hN⟩ := E9
  have hk5 : k < 590 := by omega
  have hA : ∀ q, s.heap.size ≤ q → lwA s q := fun q h => h
  refine lv_aload_n hx hb d_L_586 rfl (lv_at hl 1 rfl) ?_
  refine l_sc E hk hl hS 1 (by omega) (by decide) d_L_587 d_L_588 d_L_589 d_L_590 d_L_591 ?_
  refine l_sc E hk hl hS 2 (by omega) (by decide) d_L_592 d_L_593 d_L_594 d_L_595 d_L_596 ?_
  refine kLw_V_overflow (hcs := ⟨by show cells ≤ 600000; omega, by show slots ≤ 7302250; omega⟩) hx hb hml hown hU hK hLW.1 t ad v hLW.2.2.1 (xs (5 * k + 1)) (xs (5 * k + 2)) hl.1 ⟨Nat.le_of_ble_eq_true rfl, Nat.le_of_ble_eq_true rfl⟩ (Nat.le_of_ble_eq_true rfl) d_L_597 ?_
  refine lv_aload_n hx hb d_L_600 rfl (lv_at hl 2 rfl) ?_
  refine l_sc E hk hl hS 1 (by omega) (by decide) d_L_601 d_L_602 d_L_603 d_L_604 d_L_605 ?_
  refine l_sc E hk hl hS 2 (by omega) (by decide) d_L_606 d_L_607 d_L_608 d_L_609 d_L_610 ?_
  refine kLw_M_overflow (hcs := ⟨by show cells ≤ 600000; omega, by show slots ≤ 7302250; omega⟩) hx hb hml hown hU hK.1 hLW.2.2.2.1 hI.1.ok  (xs (5 * k + 1)) (xs (5 * k + 2)) hl.1 ⟨Nat.le_of_ble_eq_true rfl, Nat.le_of_ble_eq_true rfl⟩ (Nat.le_of_ble_eq_true rfl) d_L_611 ?_
  refine lv_icmp_eq (tgt := 704) hx hb d_L_614 rfl (fun _ => ?_) (fun h9 => absurd (hI.1.overflow hI.2.2.1 hI.2.1 (by omega) (xs (5 * k + 1)) (xs (5 * k + 2))).symm h9)
  exact W.widen (by omega) (by omega) (kk H locs ⟨L, f, ad, v, σ, sl, rfl, hLW, hI.mono (by omega), hS⟩)
theorem lc_unmount {p : Program} {l : Launch} {e : Env} {s : State} {m : MethodId} {below : List Frame} {meth : Method} {c : Code} {b N t : Nat} {xs : Nat → Int32} {D : va_G} {cI cZ cO : ClassId} {am : Nat → Nat} {a0 k : Nat} {H : Heap} {locs : List Loc} {cells slots : Nat} {Q : State → Prop} {ls : Array Slot} (E : LE p s m c b N t xs D cI cZ cO) (hk : 5 * k + 5 ≤ N) (hl : lv_has ls 4 [(0, .ref b), (1, .ref a0), (2, .ref (am 0)), (3, .int (nI (5 * k)))]) (h : LSt D cI cZ cO t am a0 s k H locs) (hc : cells + 80 ≤ 600000) (hs : slots + 12080 ≤ 7302250) (kk : ∀ (H1 : Heap) (locs1 : List Loc), LSt D cI cZ cO t am a0 s (k + 1) H1 locs1 → W p l e room_1 s m #[Value.ref b] below meth c H1 locs1 (cells + 80) (slots + 12080) Q (F0 m 704 ls [])) : W p l e room_1 s m #[Value.ref b] below meth c H locs cells slots Q (F0 m 619 ls []) := by
  obtain ⟨L, f, ad, v, σ, sl, ha0, hLW, hI, hS⟩ := h
  subst ha0
  have E9 := E
  obtain ⟨⟨hx, hb, hml, hown, hU⟩, hK, hZ0, hX, hbl, hN⟩ := E9
  have hk5 : k < 590 := by omega
  have hA : ∀ q, s.heap.size ≤ q → lwA s q := fun q h => h
  refine lv_aload_n hx hb d_L_619 rfl (lv_at hl 1 rfl) ?_
  refine kLw_V_unmount hx hb hml hown hU hK hLW.1 hLW.2.1 hS hA t ad v hLW.2.2.1 hl.1 ⟨Nat.le_of_ble_eq_true rfl, Nat.le_of_ble_eq_true rfl⟩ (Nat.le_of_ble_eq_true rfl) ⟨by show cells + 0 ≤ 600000; omega, by show slots + 0 ≤ 7302250; omega⟩ d_L_620 (fun u r H1 locs1 hpost hP1 hD1 hS1 hz1 hk1 hDA1 => ?_)
  obtain ⟨hr, q7, q8, hRep1⟩ := hpost
  have hLW1 := hLW.cls hP1 hD1 hDA1 hRep1 hz1 hk1
  refine lv_aload_n hx hb d_L_623 rfl (lv_at hl 2 rfl) ?_
  refine kLw_M_unmount (hcs := ⟨by show cells + 0 ≤ 600000; omega, by show slots + 0 ≤ 7302250; omega⟩) hx hb hml hown hU hK.1 hLW1.2.2.2.1  hLW1.2.2.2.2.1 hS1 hA hl.1 ⟨Nat.le_of_ble_eq_true rfl, Nat.le_of_ble_eq_true rfl⟩ (Nat.le_of_ble_eq_true rfl) d_L_624 (fun H2 locs2 hP2 hD2 hS2 hz2 hk2 hDA2 => ?_)
  have hLW2 := hLW1.ref hP2 hD2 hDA2 hz2 hk2
  obtain ⟨e1, sl2, hI2⟩ := um_go hI
  refine lv_icmp_eq (tgt := 704) hx hb d_L_627 rfl (fun _ => ?_) (fun h9 => absurd (hr.trans e1) h9)
  exact W.widen (by omega) (by omega) (kk H2 locs2 ⟨_, _, aU ad q7 q8, _, _, sl2, rfl, hLW2, hI2, hS2⟩)
theorem lc_harm {p : Program} {l : Launch} {e : Env} {s : State} {m : MethodId} {below : List Frame} {meth : Method} {c : Code} {b N t : Nat} {xs : Nat → Int32} {D : va_G} {cI cZ cO : ClassId} {am : Nat → Nat} {a0 k : Nat} {H : Heap} {locs : List Loc} {cells slots : Nat} {Q : State → Prop} {ls : Array Slot} (E : LE p s m c b N t xs D cI cZ cO) (hk : 5 * k + 5 ≤ N) (hl : lv_has ls 4 [(0, .ref b), (1, .ref a0), (2, .ref (am 0)), (3, .int (nI (5 * k)))]) (h : LSt D cI cZ cO t am a0 s k H locs) (hc : cells + 80 ≤ 600000) (hs : slots + 12080 ≤ 7302250) (kk : ∀ (H1 : Heap) (locs1 : List Loc), LSt D cI cZ cO t am a0 s (k + 1) H1 locs1 → W p l e room_1 s m #[Value.ref b] below meth c H1 locs1 (cells + 80) (slots + 12080) Q (F0 m 704 ls [])) : W p l e room_1 s m #[Value.ref b] below meth c H locs cells slots Q (F0 m 632 ls []) := by
  obtain ⟨L, f, ad, v, σ, sl, ha0, hLW, hI, hS⟩ := h
  subst ha0
  have E9 := E
  obtain ⟨⟨hx, hb, hml, hown, hU⟩, hK, hZ0, hX, hbl, hN⟩ := E9
  have hk5 : k < 590 := by omega
  have hA : ∀ q, s.heap.size ≤ q → lwA s q := fun q h => h
  refine lv_aload_n hx hb d_L_632 rfl (lv_at hl 1 rfl) ?_
  refine l_sc E hk hl hS 1 (by omega) (by decide) d_L_633 d_L_634 d_L_635 d_L_636 d_L_637 ?_
  refine l_sc E hk hl hS 2 (by omega) (by decide) d_L_638 d_L_639 d_L_640 d_L_641 d_L_642 ?_
  refine kLw_V_harm hx hb hml hown hU hK hLW.1 hLW.2.1 hS hA (hZ0.kept hS.2.1) ad v hLW.2.2.1 (xs (5 * k + 1)) (xs (5 * k + 2)) hl.1 ⟨Nat.le_of_ble_eq_true rfl, Nat.le_of_ble_eq_true rfl⟩ (Nat.le_of_ble_eq_true rfl) ⟨by show cells + 0 ≤ 600000; omega, by show slots + 0 ≤ 7302250; omega⟩ d_L_643 (fun u r H1 locs1 hpost hP1 hD1 hS1 hz1 hk1 hDA1 => ?_)
  obtain ⟨v1, q7, q8, hst, hRep1⟩ := hpost
  have hLW1 := hLW.cls hP1 hD1 hDA1 hRep1 hz1 hk1
  refine lv_aload_n hx hb d_L_646 rfl (lv_at hl 2 rfl) ?_
  refine l_sc E hk hl hS1 1 (by omega) (by decide) d_L_647 d_L_648 d_L_649 d_L_650 d_L_651 ?_
  refine l_sc E hk hl hS1 2 (by omega) (by decide) d_L_652 d_L_653 d_L_654 d_L_655 d_L_656 ?_
  refine kLw_M_harm (hcs := ⟨by show cells + 0 ≤ 600000; omega, by show slots + 0 ≤ 7302250; omega⟩) hx hb hml hown hU hK.1 hLW1.2.2.2.1  (xs (5 * k + 1)) (xs (5 * k + 2)) hLW1.2.2.2.2.1 hS1 hA hl.1 ⟨Nat.le_of_ble_eq_true rfl, Nat.le_of_ble_eq_true rfl⟩ (Nat.le_of_ble_eq_true rfl) d_L_657 (fun H2 locs2 hP2 hD2 hS2 hz2 hk2 hDA2 => ?_)
  have hLW2 := hLW1.ref hP2 hD2 hDA2 hz2 hk2
  obtain ⟨e1, sl2, hI2⟩ := hm_go hI hk5 (xs (5 * k + 1)) (xs (5 * k + 2)) r v1 hst
  refine lv_icmp_eq (tgt := 704) hx hb d_L_660 rfl (fun _ => ?_) (fun h9 => absurd (e1) h9)
  exact W.widen (by omega) (by omega) (kk H2 locs2 ⟨_, _, aU ad q7 q8, _, _, sl2, rfl, hLW2, hI2, hS2⟩)
theorem lc_check {p : Program} {l : Launch} {e : Env} {s : State} {m : MethodId} {below : List Frame} {meth : Method} {c : Code} {b N t : Nat} {xs : Nat → Int32} {D : va_G} {cI cZ cO : ClassId} {am : Nat → Nat} {a0 k : Nat} {H : Heap} {locs : List Loc} {cells slots : Nat} {Q : State → Prop} {ls : Array Slot} (E : LE p s m c b N t xs D cI cZ cO) (hk : 5 * k + 5 ≤ N) (hl : lv_has ls 4 [(0, .ref b), (1, .ref a0), (2, .ref (am 0)), (3, .int (nI (5 * k)))]) (h : LSt D cI cZ cO t am a0 s k H locs) (hc : cells + 80 ≤ 600000) (hs : slots + 12080 ≤ 7302250) (kk : ∀ (H1 : Heap) (locs1 : List Loc), LSt D cI cZ cO t am a0 s (k + 1) H1 locs1 → W p l e room_1 s m #[Value.ref b] below meth c H1 locs1 (cells + 80) (slots + 12080) Q (F0 m 704 ls [])) : W p l e room_1 s m #[Value.ref b] below meth c H locs cells slots Q (F0 m 665 ls []) := by
  obtain ⟨L, f, ad, v, σ, sl, ha0, hLW, hI, hS⟩ := h
  subst ha0
  have E9 := E
  obtain ⟨⟨hx, hb, hml, hown, hU⟩, hK, hZ0, hX, hbl, hN⟩ := E9
  have hk5 : k < 590 := by omega
  have hA : ∀ q, s.heap.size ≤ q → lwA s q := fun q h => h
  refine lv_aload_n hx hb d_L_665 rfl (lv_at hl 1 rfl) ?_
  refine kLw_V_check (hcs := ⟨by show cells ≤ 600000; omega, by show slots ≤ 7302250; omega⟩) hx hb hml hown hU hK hLW.1 t ad v hLW.2.2.1 hl.1 ⟨Nat.le_of_ble_eq_true rfl, Nat.le_of_ble_eq_true rfl⟩ (Nat.le_of_ble_eq_true rfl) d_L_666 ?_
  refine lv_aload_n hx hb d_L_669 rfl (lv_at hl 2 rfl) ?_
  refine kLw_M_check (hcs := ⟨by show cells ≤ 600000; omega, by show slots ≤ 7302250; omega⟩) hx hb hml hown hU hK.1 hLW.2.2.2.1 hI.1.ok  hl.1 ⟨Nat.le_of_ble_eq_true rfl, Nat.le_of_ble_eq_true rfl⟩ (Nat.le_of_ble_eq_true rfl) d_L_670 ?_
  refine lv_icmp_eq (tgt := 704) hx hb d_L_673 rfl (fun _ => ?_) (fun h9 => absurd (hI.1.check hI.2.1 hI.2.2.2.2 (by omega)).symm h9)
  exact W.widen (by omega) (by omega) (kk H locs ⟨L, f, ad, v, σ, sl, rfl, hLW, hI.mono (by omega), hS⟩)
theorem lc_mount {p : Program} {l : Launch} {e : Env} {s : State} {m : MethodId} {below : List Frame} {meth : Method} {c : Code} {b N t : Nat} {xs : Nat → Int32} {D : va_G} {cI cZ cO : ClassId} {am : Nat → Nat} {a0 k : Nat} {H : Heap} {locs : List Loc} {cells slots : Nat} {Q : State → Prop} {ls : Array Slot} (E : LE p s m c b N t xs D cI cZ cO) (hk : 5 * k + 5 ≤ N) (hl : lv_has ls 4 [(0, .ref b), (1, .ref a0), (2, .ref (am 0)), (3, .int (nI (5 * k)))]) (h : LSt D cI cZ cO t am a0 s k H locs) (hc : cells + 80 ≤ 600000) (hs : slots + 12080 ≤ 7302250) (kk : ∀ (H1 : Heap) (locs1 : List Loc), LSt D cI cZ cO t am a0 s (k + 1) H1 locs1 → W p l e room_1 s m #[Value.ref b] below meth c H1 locs1 (cells + 80) (slots + 12080) Q (F0 m 704 ls [])) : W p l e room_1 s m #[Value.ref b] below meth c H locs cells slots Q (F0 m 678 ls []) := by
  obtain ⟨L, f, ad, v, σ, sl, ha0, hLW, hI, hS⟩ := h
  subst ha0
  have E9 := E
  obtain ⟨⟨hx, hb, hml, hown, hU⟩, hK, hZ0, hX, hbl, hN⟩ := E9
  have hk5 : k < 590 := by omega
  have hA : ∀ q, s.heap.size ≤ q → lwA s q := fun q h => h
  refine lv_aload_n hx hb d_L_678 rfl (lv_at hl 1 rfl) ?_
  refine kLw_V_mount hx hb hml hown hU hK hLW.1 hLW.2.1 hS hA t ad v hLW.2.2.1 hl.1 ⟨Nat.le_of_ble_eq_true rfl, Nat.le_of_ble_eq_true rfl⟩ (Nat.le_of_ble_eq_true rfl) ⟨by show cells + 0 ≤ 600000; omega, by show slots + 0 ≤ 7302250; omega⟩ d_L_679 (fun u r H1 locs1 hpost hP1 hD1 hS1 hz1 hk1 hDA1 => ?_)
  obtain ⟨v1, q7, q8, hst, hRep1⟩ := hpost
  have hLW1 := hLW.cls hP1 hD1 hDA1 hRep1 hz1 hk1
  refine lv_aload_n hx hb d_L_682 rfl (lv_at hl 2 rfl) ?_
  refine kLw_M_mount (hcs := ⟨by show cells + 0 ≤ 600000; omega, by show slots + 0 ≤ 7302250; omega⟩) hx hb hml hown hU hK.1 hLW1.2.2.2.1 hI.1.ok  hLW1.2.2.2.2.1 hS1 hA hl.1 ⟨Nat.le_of_ble_eq_true rfl, Nat.le_of_ble_eq_true rfl⟩ (Nat.le_of_ble_eq_true rfl) d_L_683 (fun H2 locs2 hP2 hD2 hS2 hz2 hk2 hDA2 => ?_)
  have hLW2 := hLW1.ref hP2 hD2 hDA2 hz2 hk2
  obtain ⟨e1, sl2, hI2⟩ := mt_go hI hk5 r v1 hst
  refine lv_icmp_eq (tgt := 704) hx hb d_L_686 rfl (fun _ => ?_) (fun h9 => absurd (e1) h9)
  exact W.widen (by omega) (by omega) (kk H2 locs2 ⟨_, _, aU ad q7 q8, _, _, sl2, rfl, hLW2, hI2, hS2⟩)
theorem lc_mend {p : Program} {l : Launch} {e : Env} {s : State} {m : MethodId} {below : List Frame} {meth : Method} {c : Code} {b N t : Nat} {xs : Nat → Int32} {D : va_G} {cI cZ cO : ClassId} {am : Nat → Nat} {a0 k : Nat} {H : Heap} {locs : List Loc} {cells slots : Nat} {Q : State → Prop} {ls : Array Slot} (E : LE p s m c b N t xs D cI cZ cO) (hk : 5 * k + 5 ≤ N) (hl : lv_has ls 4 [(0, .ref b), (1, .ref a0), (2, .ref (am 0)), (3, .int (nI (5 * k)))]) (h : LSt D cI cZ cO t am a0 s k H locs) (hc : cells + 80 ≤ 600000) (hs : slots + 12080 ≤ 7302250) (kk : ∀ (H1 : Heap) (locs1 : List Loc), LSt D cI cZ cO t am a0 s (k + 1) H1 locs1 → W p l e room_1 s m #[Value.ref b] below meth c H1 locs1 (cells + 80) (slots + 12080) Q (F0 m 704 ls [])) : W p l e room_1 s m #[Value.ref b] below meth c H locs cells slots Q (F0 m 691 ls []) := by
  obtain ⟨L, f, ad, v, σ, sl, ha0, hLW, hI, hS⟩ := h
  subst ha0
  have E9 := E
  obtain ⟨⟨hx, hb, hml, hown, hU⟩, hK, hZ0, hX, hbl, hN⟩ := E9
  have hk5 : k < 590 := by omega
  have hA : ∀ q, s.heap.size ≤ q → lwA s q := fun q h => h
  have h40 := hI.1.len40
  have h80 := hI.1.len80
  refine lv_aload_n hx hb d_L_691 rfl (lv_at hl 1 rfl) ?_
  refine kLw_V_mend hx hb hml hown hU hK hLW.1 hLW.2.1 hS hA (hZ0.kept hS.2.1) ad v hLW.2.2.1 h40 h80 hl.1 ⟨Nat.le_of_ble_eq_true rfl, Nat.le_of_ble_eq_true rfl⟩ (Nat.le_of_ble_eq_true rfl) ⟨by show cells + 80 ≤ 600000; omega, by show slots + 12080 ≤ 7302250; omega⟩ d_L_692 (fun u r H1 locs1 hpost hP1 hD1 hS1 hz1 hk1 hDA1 => ?_)
  obtain ⟨v1, q7, q8, hst, hRep1⟩ := hpost
  have hLW1 := hLW.cls hP1 hD1 hDA1 hRep1 hz1 hk1
  refine lv_aload_n hx hb d_L_695 rfl (lv_at hl 2 rfl) ?_
  refine kLw_M_mend (hcs := ⟨by show cells + 80 ≤ 600000; omega, by show slots + 12080 ≤ 7302250; omega⟩) hx hb hml hown hU hK.1 hLW1.2.2.2.1  hLW1.2.2.2.2.1 hS1 hA hl.1 ⟨Nat.le_of_ble_eq_true rfl, Nat.le_of_ble_eq_true rfl⟩ (Nat.le_of_ble_eq_true rfl) d_L_696 (fun H2 locs2 hP2 hD2 hS2 hz2 hk2 hDA2 => ?_)
  have hLW2 := hLW1.ref hP2 hD2 hDA2 hz2 hk2
  obtain ⟨e1, sl2, hI2⟩ := md_go hI hk5 r v1 hst
  refine lv_icmp_eq (tgt := 704) hx hb d_L_699 rfl (fun _ => ?_) (fun h9 => absurd (e1) h9)
  exact W.widen (by omega) (by omega) (kk H2 locs2 ⟨_, _, aU ad q7 q8, _, _, sl2, rfl, hLW2, hI2, hS2⟩)
