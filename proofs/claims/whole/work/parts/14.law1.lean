set_option maxHeartbeats 4000000 in
set_option maxRecDepth 100000 in
theorem lc_line {p : Program} {l : Launch} {e : Env} {s : State} {m : MethodId} {below : List Frame} {meth : Method} {c : Code} {D : va_G} {cA : ClassId} {adx ady : Nat → Nat} {b L : Nat} {xs : Nat → Int32} {z i : Nat} {Inv : St → St → Prop} (C1 : sd_Cx RL cL_law 4 ret (Cond.initialized RX9 :: sd_big) p s m #[Value.ref b] meth c) (hX : va_X b L xs s s.heap) (hbl : b < s.heap.size) (hbA : ¬ (fun q : Nat => s.heap.size ≤ q) b) (hL : L ≤ 4096) (hi : i + 8 ≤ L) (hOK : ok_line z Inv) (hn : ∀ (Sx Sy : St) (H : Heap) (locs : List Loc) (ls : Array Slot), sd_Wl D vwCl cA sd_nw (wX adx cA Sx ++ wY ady cA Sy) (fun q : Nat => s.heap.size ≤ q) s H locs → lv_has ls 4 [(0, .ref b), (1, .ref (adx 0)), (2, .ref (ady 0)), (3, .int (nI i))] → Inv Sx Sy → W p l e room_1 s m #[Value.ref b] below meth c H locs 71 113381 (lw_Z below #[Value.ref b] s) (F0 m 1239 ls [])) (Sx Sy : St) (H : Heap) (locs : List Loc) (ls : Array Slot) (h : sd_Wl D vwCl cA sd_nw (wX adx cA Sx ++ wY ady cA Sy) (fun q : Nat => s.heap.size ≤ q) s H locs) (hl : lv_has ls 4 [(0, .ref b), (1, .ref (adx 0)), (2, .ref (ady 0)), (3, .int (nI i))]) (hI : Inv Sx Sy) : W p l e room_1 s m #[Value.ref b] below meth c H locs 71 113381 (lw_Z below #[Value.ref b] s) (F0 m 156 ls []) := by
  have hx := C1.1
  have hb := C1.2.1
  obtain ⟨q, r, hq, hr, heq, hI⟩ := hOK Sx Sy (xs (nI i + 1).toNatClampNeg) (xs (nI i + 2).toNatClampNeg) hI
  refine lv_aload_n hx hb dL_law_156 rfl (lv_at hl 1 rfl) ?_
  refine lv_aload_n hx hb dL_law_157 rfl (lv_at hl 0 rfl) ?_
  refine lv_iload_n hx hb dL_law_158 rfl (lv_at hl 3 rfl) ?_
  refine lv_iconst (v := 1) hx hb dL_law_159 (by decide) ?_
  refine lv_iadd hx hb dL_law_160 ?_
  refine va_sld hx hb hX hbl hbA h.2.2.2.1 (lw_ix (k := 1) hL hi (by decide)) dL_law_161 ?_
  refine lv_aload_n hx hb dL_law_162 rfl (lv_at hl 0 rfl) ?_
  refine lv_iload_n hx hb dL_law_163 rfl (lv_at hl 3 rfl) ?_
  refine lv_iconst (v := 2) hx hb dL_law_164 (by decide) ?_
  refine lv_iadd hx hb dL_law_165 ?_
  refine va_sld hx hb hX hbl hbA h.2.2.2.1 (lw_ix (k := 2) hL hi (by decide)) dL_law_166 ?_
  refine lc_i C1 (w := wX adx cA) (S := Sx) (w2 := (wY ady cA Sy)) h kYX9_line kmL_13 0 (aX_0 adx cA _) rfl [.int (xs (nI i + 1).toNatClampNeg), .int (xs (nI i + 2).toNatClampNeg)] (tX9_line l D cA adx hq) rfl hl.1 rfl (Nat.le_of_ble_eq_true rfl) (by decide) dL_law_167 (by decide) (fun H locs h => ?_)
  refine lv_aload_n hx hb dL_law_170 rfl (lv_at hl 2 rfl) ?_
  refine lv_aload_n hx hb dL_law_171 rfl (lv_at hl 0 rfl) ?_
  refine lv_iload_n hx hb dL_law_172 rfl (lv_at hl 3 rfl) ?_
  refine lv_iconst (v := 1) hx hb dL_law_173 (by decide) ?_
  refine lv_iadd hx hb dL_law_174 ?_
  refine va_sld hx hb hX hbl hbA h.2.2.2.1 (lw_ix (k := 1) hL hi (by decide)) dL_law_175 ?_
  refine lv_aload_n hx hb dL_law_176 rfl (lv_at hl 0 rfl) ?_
  refine lv_iload_n hx hb dL_law_177 rfl (lv_at hl 3 rfl) ?_
  refine lv_iconst (v := 2) hx hb dL_law_178 (by decide) ?_
  refine lv_iadd hx hb dL_law_179 ?_
  refine va_sld hx hb hX hbl hbA h.2.2.2.1 (lw_ix (k := 2) hL hi (by decide)) dL_law_180 ?_
  replace h := sd_swap h
  refine lc_i C1 (w := wY ady cA) (S := Sy) (w2 := (wX adx cA q.2)) h kYX10_line kmL_17 0 (aY_0 ady cA _) rfl [.int (xs (nI i + 1).toNatClampNeg), .int (xs (nI i + 2).toNatClampNeg)] (tX10_line l D cA ady hr) rfl hl.1 rfl (Nat.le_of_ble_eq_true rfl) (by decide) dL_law_181 (by decide) (fun H locs h => ?_)
  replace h := sd_swap h
  refine lv_icmp_eq (tgt := 1239) hx hb dL_law_184 (by decide) (fun c1 => ?_) (fun c1 => absurd heq c1)
  exact hn _ _ H locs ls h hl hI
set_option maxHeartbeats 4000000 in
set_option maxRecDepth 100000 in
theorem lc_tide {p : Program} {l : Launch} {e : Env} {s : State} {m : MethodId} {below : List Frame} {meth : Method} {c : Code} {D : va_G} {cA : ClassId} {adx ady : Nat → Nat} {b L : Nat} {xs : Nat → Int32} {z i : Nat} {Inv : St → St → Prop} (C1 : sd_Cx RL cL_law 4 ret (Cond.initialized RX9 :: sd_big) p s m #[Value.ref b] meth c) (hX : va_X b L xs s s.heap) (hbl : b < s.heap.size) (hbA : ¬ (fun q : Nat => s.heap.size ≤ q) b) (hL : L ≤ 4096) (hi : i + 8 ≤ L) (hOK : ok_tide z Inv) (hn : ∀ (Sx Sy : St) (H : Heap) (locs : List Loc) (ls : Array Slot), sd_Wl D vwCl cA sd_nw (wX adx cA Sx ++ wY ady cA Sy) (fun q : Nat => s.heap.size ≤ q) s H locs → lv_has ls 4 [(0, .ref b), (1, .ref (adx 0)), (2, .ref (ady 0)), (3, .int (nI i))] → Inv Sx Sy → W p l e room_1 s m #[Value.ref b] below meth c H locs 71 113381 (lw_Z below #[Value.ref b] s) (F0 m 1239 ls [])) (Sx Sy : St) (H : Heap) (locs : List Loc) (ls : Array Slot) (h : sd_Wl D vwCl cA sd_nw (wX adx cA Sx ++ wY ady cA Sy) (fun q : Nat => s.heap.size ≤ q) s H locs) (hl : lv_has ls 4 [(0, .ref b), (1, .ref (adx 0)), (2, .ref (ady 0)), (3, .int (nI i))]) (hI : Inv Sx Sy) : W p l e room_1 s m #[Value.ref b] below meth c H locs 71 113381 (lw_Z below #[Value.ref b] s) (F0 m 189 ls []) := by
  have hx := C1.1
  have hb := C1.2.1
  obtain ⟨q, r, hq, hr, heq, hI⟩ := hOK Sx Sy (xs (nI i + 1).toNatClampNeg) (xs (nI i + 2).toNatClampNeg) (xs (nI i + 3).toNatClampNeg) hI
  refine lv_aload_n hx hb dL_law_189 rfl (lv_at hl 1 rfl) ?_
  refine lv_aload_n hx hb dL_law_190 rfl (lv_at hl 0 rfl) ?_
  refine lv_iload_n hx hb dL_law_191 rfl (lv_at hl 3 rfl) ?_
  refine lv_iconst (v := 1) hx hb dL_law_192 (by decide) ?_
  refine lv_iadd hx hb dL_law_193 ?_
  refine va_sld hx hb hX hbl hbA h.2.2.2.1 (lw_ix (k := 1) hL hi (by decide)) dL_law_194 ?_
  refine lv_aload_n hx hb dL_law_195 rfl (lv_at hl 0 rfl) ?_
  refine lv_iload_n hx hb dL_law_196 rfl (lv_at hl 3 rfl) ?_
  refine lv_iconst (v := 2) hx hb dL_law_197 (by decide) ?_
  refine lv_iadd hx hb dL_law_198 ?_
  refine va_sld hx hb hX hbl hbA h.2.2.2.1 (lw_ix (k := 2) hL hi (by decide)) dL_law_199 ?_
  refine lv_aload_n hx hb dL_law_200 rfl (lv_at hl 0 rfl) ?_
  refine lv_iload_n hx hb dL_law_201 rfl (lv_at hl 3 rfl) ?_
  refine lv_iconst (v := 3) hx hb dL_law_202 (by decide) ?_
  refine lv_iadd hx hb dL_law_203 ?_
  refine va_sld hx hb hX hbl hbA h.2.2.2.1 (lw_ix (k := 3) hL hi (by decide)) dL_law_204 ?_
  refine lc_i C1 (w := wX adx cA) (S := Sx) (w2 := (wY ady cA Sy)) h kYX9_tide kmL_18 0 (aX_0 adx cA _) rfl [.int (xs (nI i + 1).toNatClampNeg), .int (xs (nI i + 2).toNatClampNeg), .int (xs (nI i + 3).toNatClampNeg)] (tX9_tide l D cA adx hq) rfl hl.1 rfl (Nat.le_of_ble_eq_true rfl) (by decide) dL_law_205 (by decide) (fun H locs h => ?_)
  refine lv_aload_n hx hb dL_law_208 rfl (lv_at hl 2 rfl) ?_
  refine lv_aload_n hx hb dL_law_209 rfl (lv_at hl 0 rfl) ?_
  refine lv_iload_n hx hb dL_law_210 rfl (lv_at hl 3 rfl) ?_
  refine lv_iconst (v := 1) hx hb dL_law_211 (by decide) ?_
  refine lv_iadd hx hb dL_law_212 ?_
  refine va_sld hx hb hX hbl hbA h.2.2.2.1 (lw_ix (k := 1) hL hi (by decide)) dL_law_213 ?_
  refine lv_aload_n hx hb dL_law_214 rfl (lv_at hl 0 rfl) ?_
  refine lv_iload_n hx hb dL_law_215 rfl (lv_at hl 3 rfl) ?_
  refine lv_iconst (v := 2) hx hb dL_law_216 (by decide) ?_
  refine lv_iadd hx hb dL_law_217 ?_
  refine va_sld hx hb hX hbl hbA h.2.2.2.1 (lw_ix (k := 2) hL hi (by decide)) dL_law_218 ?_
  refine lv_aload_n hx hb dL_law_219 rfl (lv_at hl 0 rfl) ?_
  refine lv_iload_n hx hb dL_law_220 rfl (lv_at hl 3 rfl) ?_
  refine lv_iconst (v := 3) hx hb dL_law_221 (by decide) ?_
  refine lv_iadd hx hb dL_law_222 ?_
  refine va_sld hx hb hX hbl hbA h.2.2.2.1 (lw_ix (k := 3) hL hi (by decide)) dL_law_223 ?_
  replace h := sd_swap h
  refine lc_i C1 (w := wY ady cA) (S := Sy) (w2 := (wX adx cA q.2)) h kYX10_tide kmL_22 0 (aY_0 ady cA _) rfl [.int (xs (nI i + 1).toNatClampNeg), .int (xs (nI i + 2).toNatClampNeg), .int (xs (nI i + 3).toNatClampNeg)] (tX10_tide l D cA ady hr) rfl hl.1 rfl (Nat.le_of_ble_eq_true rfl) (by decide) dL_law_224 (by decide) (fun H locs h => ?_)
  replace h := sd_swap h
  refine lv_icmp_eq (tgt := 1239) hx hb dL_law_227 (by decide) (fun c1 => ?_) (fun c1 => absurd heq c1)
  exact hn _ _ H locs ls h hl hI
set_option maxHeartbeats 4000000 in
set_option maxRecDepth 100000 in
theorem lc_speed {p : Program} {l : Launch} {e : Env} {s : State} {m : MethodId} {below : List Frame} {meth : Method} {c : Code} {D : va_G} {cA : ClassId} {adx ady : Nat → Nat} {b L : Nat} {xs : Nat → Int32} {z i : Nat} {Inv : St → St → Prop} (C1 : sd_Cx RL cL_law 4 ret (Cond.initialized RX9 :: sd_big) p s m #[Value.ref b] meth c) (hX : va_X b L xs s s.heap) (hbl : b < s.heap.size) (hbA : ¬ (fun q : Nat => s.heap.size ≤ q) b) (hL : L ≤ 4096) (hi : i + 8 ≤ L) (hOK : ok_speed z Inv) (hn : ∀ (Sx Sy : St) (H : Heap) (locs : List Loc) (ls : Array Slot), sd_Wl D vwCl cA sd_nw (wX adx cA Sx ++ wY ady cA Sy) (fun q : Nat => s.heap.size ≤ q) s H locs → lv_has ls 4 [(0, .ref b), (1, .ref (adx 0)), (2, .ref (ady 0)), (3, .int (nI i))] → Inv Sx Sy → W p l e room_1 s m #[Value.ref b] below meth c H locs 71 113381 (lw_Z below #[Value.ref b] s) (F0 m 1239 ls [])) (Sx Sy : St) (H : Heap) (locs : List Loc) (ls : Array Slot) (h : sd_Wl D vwCl cA sd_nw (wX adx cA Sx ++ wY ady cA Sy) (fun q : Nat => s.heap.size ≤ q) s H locs) (hl : lv_has ls 4 [(0, .ref b), (1, .ref (adx 0)), (2, .ref (ady 0)), (3, .int (nI i))]) (hI : Inv Sx Sy) : W p l e room_1 s m #[Value.ref b] below meth c H locs 71 113381 (lw_Z below #[Value.ref b] s) (F0 m 232 ls []) := by
  have hx := C1.1
  have hb := C1.2.1
  obtain ⟨q, r, hq, hr, heq, hI⟩ := hOK Sx Sy (xs (nI i + 1).toNatClampNeg) (xs (nI i + 2).toNatClampNeg) hI
  refine lv_aload_n hx hb dL_law_232 rfl (lv_at hl 1 rfl) ?_
  refine lv_aload_n hx hb dL_law_233 rfl (lv_at hl 0 rfl) ?_
  refine lv_iload_n hx hb dL_law_234 rfl (lv_at hl 3 rfl) ?_
  refine lv_iconst (v := 1) hx hb dL_law_235 (by decide) ?_
  refine lv_iadd hx hb dL_law_236 ?_
  refine va_sld hx hb hX hbl hbA h.2.2.2.1 (lw_ix (k := 1) hL hi (by decide)) dL_law_237 ?_
  refine lv_aload_n hx hb dL_law_238 rfl (lv_at hl 0 rfl) ?_
  refine lv_iload_n hx hb dL_law_239 rfl (lv_at hl 3 rfl) ?_
  refine lv_iconst (v := 2) hx hb dL_law_240 (by decide) ?_
  refine lv_iadd hx hb dL_law_241 ?_
  refine va_sld hx hb hX hbl hbA h.2.2.2.1 (lw_ix (k := 2) hL hi (by decide)) dL_law_242 ?_
  refine lc_i C1 (w := wX adx cA) (S := Sx) (w2 := (wY ady cA Sy)) h kYX9_speed kmL_23 0 (aX_0 adx cA _) rfl [.int (xs (nI i + 1).toNatClampNeg), .int (xs (nI i + 2).toNatClampNeg)] (tX9_speed l D cA adx hq) rfl hl.1 rfl (Nat.le_of_ble_eq_true rfl) (by decide) dL_law_243 (by decide) (fun H locs h => ?_)
  refine lv_aload_n hx hb dL_law_246 rfl (lv_at hl 2 rfl) ?_
  refine lv_aload_n hx hb dL_law_247 rfl (lv_at hl 0 rfl) ?_
  refine lv_iload_n hx hb dL_law_248 rfl (lv_at hl 3 rfl) ?_
  refine lv_iconst (v := 1) hx hb dL_law_249 (by decide) ?_
  refine lv_iadd hx hb dL_law_250 ?_
  refine va_sld hx hb hX hbl hbA h.2.2.2.1 (lw_ix (k := 1) hL hi (by decide)) dL_law_251 ?_
  refine lv_aload_n hx hb dL_law_252 rfl (lv_at hl 0 rfl) ?_
  refine lv_iload_n hx hb dL_law_253 rfl (lv_at hl 3 rfl) ?_
  refine lv_iconst (v := 2) hx hb dL_law_254 (by decide) ?_
  refine lv_iadd hx hb dL_law_255 ?_
  refine va_sld hx hb hX hbl hbA h.2.2.2.1 (lw_ix (k := 2) hL hi (by decide)) dL_law_256 ?_
  replace h := sd_swap h
  refine lc_i C1 (w := wY ady cA) (S := Sy) (w2 := (wX adx cA q.2)) h kYX10_speed kmL_27 0 (aY_0 ady cA _) rfl [.int (xs (nI i + 1).toNatClampNeg), .int (xs (nI i + 2).toNatClampNeg)] (tX10_speed l D cA ady hr) rfl hl.1 rfl (Nat.le_of_ble_eq_true rfl) (by decide) dL_law_257 (by decide) (fun H locs h => ?_)
  replace h := sd_swap h
  refine lv_icmp_eq (tgt := 1239) hx hb dL_law_260 (by decide) (fun c1 => ?_) (fun c1 => absurd heq c1)
  exact hn _ _ H locs ls h hl hI
set_option maxHeartbeats 4000000 in
set_option maxRecDepth 100000 in
theorem lc_shift {p : Program} {l : Launch} {e : Env} {s : State} {m : MethodId} {below : List Frame} {meth : Method} {c : Code} {D : va_G} {cA : ClassId} {adx ady : Nat → Nat} {b L : Nat} {xs : Nat → Int32} {z i : Nat} {Inv : St → St → Prop} (C1 : sd_Cx RL cL_law 4 ret (Cond.initialized RX9 :: sd_big) p s m #[Value.ref b] meth c) (hX : va_X b L xs s s.heap) (hbl : b < s.heap.size) (hbA : ¬ (fun q : Nat => s.heap.size ≤ q) b) (hL : L ≤ 4096) (hi : i + 8 ≤ L) (hOK : ok_shift z Inv) (hn : ∀ (Sx Sy : St) (H : Heap) (locs : List Loc) (ls : Array Slot), sd_Wl D vwCl cA sd_nw (wX adx cA Sx ++ wY ady cA Sy) (fun q : Nat => s.heap.size ≤ q) s H locs → lv_has ls 4 [(0, .ref b), (1, .ref (adx 0)), (2, .ref (ady 0)), (3, .int (nI i))] → Inv Sx Sy → W p l e room_1 s m #[Value.ref b] below meth c H locs 71 113381 (lw_Z below #[Value.ref b] s) (F0 m 1239 ls [])) (Sx Sy : St) (H : Heap) (locs : List Loc) (ls : Array Slot) (h : sd_Wl D vwCl cA sd_nw (wX adx cA Sx ++ wY ady cA Sy) (fun q : Nat => s.heap.size ≤ q) s H locs) (hl : lv_has ls 4 [(0, .ref b), (1, .ref (adx 0)), (2, .ref (ady 0)), (3, .int (nI i))]) (hI : Inv Sx Sy) : W p l e room_1 s m #[Value.ref b] below meth c H locs 71 113381 (lw_Z below #[Value.ref b] s) (F0 m 265 ls []) := by
  have hx := C1.1
  have hb := C1.2.1
  obtain ⟨q, r, hq, hr, heq, hI⟩ := hOK Sx Sy (xs (nI i + 1).toNatClampNeg) (xs (nI i + 2).toNatClampNeg) hI
  refine lv_aload_n hx hb dL_law_265 rfl (lv_at hl 1 rfl) ?_
  refine lv_aload_n hx hb dL_law_266 rfl (lv_at hl 0 rfl) ?_
  refine lv_iload_n hx hb dL_law_267 rfl (lv_at hl 3 rfl) ?_
  refine lv_iconst (v := 1) hx hb dL_law_268 (by decide) ?_
  refine lv_iadd hx hb dL_law_269 ?_
  refine va_sld hx hb hX hbl hbA h.2.2.2.1 (lw_ix (k := 1) hL hi (by decide)) dL_law_270 ?_
  refine lv_aload_n hx hb dL_law_271 rfl (lv_at hl 0 rfl) ?_
  refine lv_iload_n hx hb dL_law_272 rfl (lv_at hl 3 rfl) ?_
  refine lv_iconst (v := 2) hx hb dL_law_273 (by decide) ?_
  refine lv_iadd hx hb dL_law_274 ?_
  refine va_sld hx hb hX hbl hbA h.2.2.2.1 (lw_ix (k := 2) hL hi (by decide)) dL_law_275 ?_
  refine lc_i C1 (w := wX adx cA) (S := Sx) (w2 := (wY ady cA Sy)) h kYX9_shift kmL_28 0 (aX_0 adx cA _) rfl [.int (xs (nI i + 1).toNatClampNeg), .int (xs (nI i + 2).toNatClampNeg)] (tX9_shift l D cA adx hq) rfl hl.1 rfl (Nat.le_of_ble_eq_true rfl) (by decide) dL_law_276 (by decide) (fun H locs h => ?_)
  refine lv_aload_n hx hb dL_law_279 rfl (lv_at hl 2 rfl) ?_
  refine lv_aload_n hx hb dL_law_280 rfl (lv_at hl 0 rfl) ?_
  refine lv_iload_n hx hb dL_law_281 rfl (lv_at hl 3 rfl) ?_
  refine lv_iconst (v := 1) hx hb dL_law_282 (by decide) ?_
  refine lv_iadd hx hb dL_law_283 ?_
  refine va_sld hx hb hX hbl hbA h.2.2.2.1 (lw_ix (k := 1) hL hi (by decide)) dL_law_284 ?_
  refine lv_aload_n hx hb dL_law_285 rfl (lv_at hl 0 rfl) ?_
  refine lv_iload_n hx hb dL_law_286 rfl (lv_at hl 3 rfl) ?_
  refine lv_iconst (v := 2) hx hb dL_law_287 (by decide) ?_
  refine lv_iadd hx hb dL_law_288 ?_
  refine va_sld hx hb hX hbl hbA h.2.2.2.1 (lw_ix (k := 2) hL hi (by decide)) dL_law_289 ?_
  replace h := sd_swap h
  refine lc_i C1 (w := wY ady cA) (S := Sy) (w2 := (wX adx cA q.2)) h kYX10_shift kmL_31 0 (aY_0 ady cA _) rfl [.int (xs (nI i + 1).toNatClampNeg), .int (xs (nI i + 2).toNatClampNeg)] (tX10_shift l D cA ady hr) rfl hl.1 rfl (Nat.le_of_ble_eq_true rfl) (by decide) dL_law_290 (by decide) (fun H locs h => ?_)
  replace h := sd_swap h
  refine lv_icmp_eq (tgt := 1239) hx hb dL_law_293 (by decide) (fun c1 => ?_) (fun c1 => absurd heq c1)
  exact hn _ _ H locs ls h hl hI
set_option maxHeartbeats 4000000 in
set_option maxRecDepth 100000 in
theorem lc_lead {p : Program} {l : Launch} {e : Env} {s : State} {m : MethodId} {below : List Frame} {meth : Method} {c : Code} {D : va_G} {cA : ClassId} {adx ady : Nat → Nat} {b L : Nat} {xs : Nat → Int32} {z i : Nat} {Inv : St → St → Prop} (C1 : sd_Cx RL cL_law 4 ret (Cond.initialized RX9 :: sd_big) p s m #[Value.ref b] meth c) (hX : va_X b L xs s s.heap) (hbl : b < s.heap.size) (hbA : ¬ (fun q : Nat => s.heap.size ≤ q) b) (hL : L ≤ 4096) (hi : i + 8 ≤ L) (hOK : ok_lead z Inv) (hn : ∀ (Sx Sy : St) (H : Heap) (locs : List Loc) (ls : Array Slot), sd_Wl D vwCl cA sd_nw (wX adx cA Sx ++ wY ady cA Sy) (fun q : Nat => s.heap.size ≤ q) s H locs → lv_has ls 4 [(0, .ref b), (1, .ref (adx 0)), (2, .ref (ady 0)), (3, .int (nI i))] → Inv Sx Sy → W p l e room_1 s m #[Value.ref b] below meth c H locs 71 113381 (lw_Z below #[Value.ref b] s) (F0 m 1239 ls [])) (Sx Sy : St) (H : Heap) (locs : List Loc) (ls : Array Slot) (h : sd_Wl D vwCl cA sd_nw (wX adx cA Sx ++ wY ady cA Sy) (fun q : Nat => s.heap.size ≤ q) s H locs) (hl : lv_has ls 4 [(0, .ref b), (1, .ref (adx 0)), (2, .ref (ady 0)), (3, .int (nI i))]) (hI : Inv Sx Sy) : W p l e room_1 s m #[Value.ref b] below meth c H locs 71 113381 (lw_Z below #[Value.ref b] s) (F0 m 298 ls []) := by
  have hx := C1.1
  have hb := C1.2.1
  obtain ⟨q, r, hq, hr, heq, hI⟩ := hOK Sx Sy (xs (nI i + 1).toNatClampNeg) (xs (nI i + 2).toNatClampNeg) (xs (nI i + 3).toNatClampNeg) (xs (nI i + 4).toNatClampNeg) (xs (nI i + 5).toNatClampNeg) hI
  refine lv_aload_n hx hb dL_law_298 rfl (lv_at hl 1 rfl) ?_
  refine lv_aload_n hx hb dL_law_299 rfl (lv_at hl 0 rfl) ?_
  refine lv_iload_n hx hb dL_law_300 rfl (lv_at hl 3 rfl) ?_
  refine lv_iconst (v := 1) hx hb dL_law_301 (by decide) ?_
  refine lv_iadd hx hb dL_law_302 ?_
  refine va_sld hx hb hX hbl hbA h.2.2.2.1 (lw_ix (k := 1) hL hi (by decide)) dL_law_303 ?_
  refine lv_aload_n hx hb dL_law_304 rfl (lv_at hl 0 rfl) ?_
  refine lv_iload_n hx hb dL_law_305 rfl (lv_at hl 3 rfl) ?_
  refine lv_iconst (v := 2) hx hb dL_law_306 (by decide) ?_
  refine lv_iadd hx hb dL_law_307 ?_
  refine va_sld hx hb hX hbl hbA h.2.2.2.1 (lw_ix (k := 2) hL hi (by decide)) dL_law_308 ?_
  refine lv_aload_n hx hb dL_law_309 rfl (lv_at hl 0 rfl) ?_
  refine lv_iload_n hx hb dL_law_310 rfl (lv_at hl 3 rfl) ?_
  refine lv_iconst (v := 3) hx hb dL_law_311 (by decide) ?_
  refine lv_iadd hx hb dL_law_312 ?_
  refine va_sld hx hb hX hbl hbA h.2.2.2.1 (lw_ix (k := 3) hL hi (by decide)) dL_law_313 ?_
  refine lv_aload_n hx hb dL_law_314 rfl (lv_at hl 0 rfl) ?_
  refine lv_iload_n hx hb dL_law_315 rfl (lv_at hl 3 rfl) ?_
  refine lv_iconst (v := 4) hx hb dL_law_316 (by decide) ?_
  refine lv_iadd hx hb dL_law_317 ?_
  refine va_sld hx hb hX hbl hbA h.2.2.2.1 (lw_ix (k := 4) hL hi (by decide)) dL_law_318 ?_
  refine lv_aload_n hx hb dL_law_319 rfl (lv_at hl 0 rfl) ?_
  refine lv_iload_n hx hb dL_law_320 rfl (lv_at hl 3 rfl) ?_
  refine lv_iconst (v := 5) hx hb dL_law_321 (by decide) ?_
  refine lv_iadd hx hb dL_law_322 ?_
  refine va_sld hx hb hX hbl hbA h.2.2.2.1 (lw_ix (k := 5) hL hi (by decide)) dL_law_323 ?_
  refine lc_i C1 (w := wX adx cA) (S := Sx) (w2 := (wY ady cA Sy)) h kYX9_lead kmL_32 0 (aX_0 adx cA _) rfl [.int (xs (nI i + 1).toNatClampNeg), .int (xs (nI i + 2).toNatClampNeg), .int (xs (nI i + 3).toNatClampNeg), .int (xs (nI i + 4).toNatClampNeg), .int (xs (nI i + 5).toNatClampNeg)] (tX9_lead l D cA adx hq) rfl hl.1 rfl (Nat.le_of_ble_eq_true rfl) (by decide) dL_law_324 (by decide) (fun H locs h => ?_)
  refine lv_aload_n hx hb dL_law_327 rfl (lv_at hl 2 rfl) ?_
  refine lv_aload_n hx hb dL_law_328 rfl (lv_at hl 0 rfl) ?_
  refine lv_iload_n hx hb dL_law_329 rfl (lv_at hl 3 rfl) ?_
  refine lv_iconst (v := 1) hx hb dL_law_330 (by decide) ?_
  refine lv_iadd hx hb dL_law_331 ?_
  refine va_sld hx hb hX hbl hbA h.2.2.2.1 (lw_ix (k := 1) hL hi (by decide)) dL_law_332 ?_
  refine lv_aload_n hx hb dL_law_333 rfl (lv_at hl 0 rfl) ?_
  refine lv_iload_n hx hb dL_law_334 rfl (lv_at hl 3 rfl) ?_
  refine lv_iconst (v := 2) hx hb dL_law_335 (by decide) ?_
  refine lv_iadd hx hb dL_law_336 ?_
  refine va_sld hx hb hX hbl hbA h.2.2.2.1 (lw_ix (k := 2) hL hi (by decide)) dL_law_337 ?_
  refine lv_aload_n hx hb dL_law_338 rfl (lv_at hl 0 rfl) ?_
  refine lv_iload_n hx hb dL_law_339 rfl (lv_at hl 3 rfl) ?_
  refine lv_iconst (v := 3) hx hb dL_law_340 (by decide) ?_
  refine lv_iadd hx hb dL_law_341 ?_
  refine va_sld hx hb hX hbl hbA h.2.2.2.1 (lw_ix (k := 3) hL hi (by decide)) dL_law_342 ?_
  refine lv_aload_n hx hb dL_law_343 rfl (lv_at hl 0 rfl) ?_
  refine lv_iload_n hx hb dL_law_344 rfl (lv_at hl 3 rfl) ?_
  refine lv_iconst (v := 4) hx hb dL_law_345 (by decide) ?_
  refine lv_iadd hx hb dL_law_346 ?_
  refine va_sld hx hb hX hbl hbA h.2.2.2.1 (lw_ix (k := 4) hL hi (by decide)) dL_law_347 ?_
  refine lv_aload_n hx hb dL_law_348 rfl (lv_at hl 0 rfl) ?_
  refine lv_iload_n hx hb dL_law_349 rfl (lv_at hl 3 rfl) ?_
  refine lv_iconst (v := 5) hx hb dL_law_350 (by decide) ?_
  refine lv_iadd hx hb dL_law_351 ?_
  refine va_sld hx hb hX hbl hbA h.2.2.2.1 (lw_ix (k := 5) hL hi (by decide)) dL_law_352 ?_
  replace h := sd_swap h
  refine lc_i C1 (w := wY ady cA) (S := Sy) (w2 := (wX adx cA q.2)) h kYX10_lead kmL_36 0 (aY_0 ady cA _) rfl [.int (xs (nI i + 1).toNatClampNeg), .int (xs (nI i + 2).toNatClampNeg), .int (xs (nI i + 3).toNatClampNeg), .int (xs (nI i + 4).toNatClampNeg), .int (xs (nI i + 5).toNatClampNeg)] (tX10_lead l D cA ady hr) rfl hl.1 rfl (Nat.le_of_ble_eq_true rfl) (by decide) dL_law_353 (by decide) (fun H locs h => ?_)
  replace h := sd_swap h
  refine lv_icmp_eq (tgt := 1239) hx hb dL_law_356 (by decide) (fun c1 => ?_) (fun c1 => absurd heq c1)
  exact hn _ _ H locs ls h hl hI
set_option maxHeartbeats 4000000 in
set_option maxRecDepth 100000 in
theorem lc_echo {p : Program} {l : Launch} {e : Env} {s : State} {m : MethodId} {below : List Frame} {meth : Method} {c : Code} {D : va_G} {cA : ClassId} {adx ady : Nat → Nat} {b L : Nat} {xs : Nat → Int32} {z i : Nat} {Inv : St → St → Prop} (C1 : sd_Cx RL cL_law 4 ret (Cond.initialized RX9 :: sd_big) p s m #[Value.ref b] meth c) (hX : va_X b L xs s s.heap) (hbl : b < s.heap.size) (hbA : ¬ (fun q : Nat => s.heap.size ≤ q) b) (hL : L ≤ 4096) (hi : i + 8 ≤ L) (hOK : ok_echo z Inv) (hn : ∀ (Sx Sy : St) (H : Heap) (locs : List Loc) (ls : Array Slot), sd_Wl D vwCl cA sd_nw (wX adx cA Sx ++ wY ady cA Sy) (fun q : Nat => s.heap.size ≤ q) s H locs → lv_has ls 4 [(0, .ref b), (1, .ref (adx 0)), (2, .ref (ady 0)), (3, .int (nI i))] → Inv Sx Sy → W p l e room_1 s m #[Value.ref b] below meth c H locs 71 113381 (lw_Z below #[Value.ref b] s) (F0 m 1239 ls [])) (Sx Sy : St) (H : Heap) (locs : List Loc) (ls : Array Slot) (h : sd_Wl D vwCl cA sd_nw (wX adx cA Sx ++ wY ady cA Sy) (fun q : Nat => s.heap.size ≤ q) s H locs) (hl : lv_has ls 4 [(0, .ref b), (1, .ref (adx 0)), (2, .ref (ady 0)), (3, .int (nI i))]) (hI : Inv Sx Sy) : W p l e room_1 s m #[Value.ref b] below meth c H locs 71 113381 (lw_Z below #[Value.ref b] s) (F0 m 361 ls []) := by
  have hx := C1.1
  have hb := C1.2.1
  obtain ⟨q, r, hq, hr, heq, hI⟩ := hOK Sx Sy (xs (nI i + 1).toNatClampNeg) (xs (nI i + 2).toNatClampNeg) (xs (nI i + 3).toNatClampNeg) (xs (nI i + 4).toNatClampNeg) (xs (nI i + 5).toNatClampNeg) hI
  refine lv_aload_n hx hb dL_law_361 rfl (lv_at hl 1 rfl) ?_
  refine lv_aload_n hx hb dL_law_362 rfl (lv_at hl 0 rfl) ?_
  refine lv_iload_n hx hb dL_law_363 rfl (lv_at hl 3 rfl) ?_
  refine lv_iconst (v := 1) hx hb dL_law_364 (by decide) ?_
  refine lv_iadd hx hb dL_law_365 ?_
  refine va_sld hx hb hX hbl hbA h.2.2.2.1 (lw_ix (k := 1) hL hi (by decide)) dL_law_366 ?_
  refine lv_aload_n hx hb dL_law_367 rfl (lv_at hl 0 rfl) ?_
  refine lv_iload_n hx hb dL_law_368 rfl (lv_at hl 3 rfl) ?_
  refine lv_iconst (v := 2) hx hb dL_law_369 (by decide) ?_
  refine lv_iadd hx hb dL_law_370 ?_
  refine va_sld hx hb hX hbl hbA h.2.2.2.1 (lw_ix (k := 2) hL hi (by decide)) dL_law_371 ?_
  refine lv_aload_n hx hb dL_law_372 rfl (lv_at hl 0 rfl) ?_
  refine lv_iload_n hx hb dL_law_373 rfl (lv_at hl 3 rfl) ?_
  refine lv_iconst (v := 3) hx hb dL_law_374 (by decide) ?_
  refine lv_iadd hx hb dL_law_375 ?_
  refine va_sld hx hb hX hbl hbA h.2.2.2.1 (lw_ix (k := 3) hL hi (by decide)) dL_law_376 ?_
  refine lv_aload_n hx hb dL_law_377 rfl (lv_at hl 0 rfl) ?_
  refine lv_iload_n hx hb dL_law_378 rfl (lv_at hl 3 rfl) ?_
  refine lv_iconst (v := 4) hx hb dL_law_379 (by decide) ?_
  refine lv_iadd hx hb dL_law_380 ?_
  refine va_sld hx hb hX hbl hbA h.2.2.2.1 (lw_ix (k := 4) hL hi (by decide)) dL_law_381 ?_
  refine lv_aload_n hx hb dL_law_382 rfl (lv_at hl 0 rfl) ?_
  refine lv_iload_n hx hb dL_law_383 rfl (lv_at hl 3 rfl) ?_
  refine lv_iconst (v := 5) hx hb dL_law_384 (by decide) ?_
  refine lv_iadd hx hb dL_law_385 ?_
  refine va_sld hx hb hX hbl hbA h.2.2.2.1 (lw_ix (k := 5) hL hi (by decide)) dL_law_386 ?_
  refine lc_i C1 (w := wX adx cA) (S := Sx) (w2 := (wY ady cA Sy)) h kYX9_echo kmL_37 0 (aX_0 adx cA _) rfl [.int (xs (nI i + 1).toNatClampNeg), .int (xs (nI i + 2).toNatClampNeg), .int (xs (nI i + 3).toNatClampNeg), .int (xs (nI i + 4).toNatClampNeg), .int (xs (nI i + 5).toNatClampNeg)] (tX9_echo l D cA adx hq) rfl hl.1 rfl (Nat.le_of_ble_eq_true rfl) (by decide) dL_law_387 (by decide) (fun H locs h => ?_)
  refine lv_aload_n hx hb dL_law_390 rfl (lv_at hl 2 rfl) ?_
  refine lv_aload_n hx hb dL_law_391 rfl (lv_at hl 0 rfl) ?_
  refine lv_iload_n hx hb dL_law_392 rfl (lv_at hl 3 rfl) ?_
  refine lv_iconst (v := 1) hx hb dL_law_393 (by decide) ?_
  refine lv_iadd hx hb dL_law_394 ?_
  refine va_sld hx hb hX hbl hbA h.2.2.2.1 (lw_ix (k := 1) hL hi (by decide)) dL_law_395 ?_
  refine lv_aload_n hx hb dL_law_396 rfl (lv_at hl 0 rfl) ?_
  refine lv_iload_n hx hb dL_law_397 rfl (lv_at hl 3 rfl) ?_
  refine lv_iconst (v := 2) hx hb dL_law_398 (by decide) ?_
  refine lv_iadd hx hb dL_law_399 ?_
  refine va_sld hx hb hX hbl hbA h.2.2.2.1 (lw_ix (k := 2) hL hi (by decide)) dL_law_400 ?_
  refine lv_aload_n hx hb dL_law_401 rfl (lv_at hl 0 rfl) ?_
  refine lv_iload_n hx hb dL_law_402 rfl (lv_at hl 3 rfl) ?_
  refine lv_iconst (v := 3) hx hb dL_law_403 (by decide) ?_
  refine lv_iadd hx hb dL_law_404 ?_
  refine va_sld hx hb hX hbl hbA h.2.2.2.1 (lw_ix (k := 3) hL hi (by decide)) dL_law_405 ?_
  refine lv_aload_n hx hb dL_law_406 rfl (lv_at hl 0 rfl) ?_
  refine lv_iload_n hx hb dL_law_407 rfl (lv_at hl 3 rfl) ?_
  refine lv_iconst (v := 4) hx hb dL_law_408 (by decide) ?_
  refine lv_iadd hx hb dL_law_409 ?_
  refine va_sld hx hb hX hbl hbA h.2.2.2.1 (lw_ix (k := 4) hL hi (by decide)) dL_law_410 ?_
  refine lv_aload_n hx hb dL_law_411 rfl (lv_at hl 0 rfl) ?_
  refine lv_iload_n hx hb dL_law_412 rfl (lv_at hl 3 rfl) ?_
  refine lv_iconst (v := 5) hx hb dL_law_413 (by decide) ?_
  refine lv_iadd hx hb dL_law_414 ?_
  refine va_sld hx hb hX hbl hbA h.2.2.2.1 (lw_ix (k := 5) hL hi (by decide)) dL_law_415 ?_
  replace h := sd_swap h
  refine lc_i C1 (w := wY ady cA) (S := Sy) (w2 := (wX adx cA q.2)) h kYX10_echo kmL_40 0 (aY_0 ady cA _) rfl [.int (xs (nI i + 1).toNatClampNeg), .int (xs (nI i + 2).toNatClampNeg), .int (xs (nI i + 3).toNatClampNeg), .int (xs (nI i + 4).toNatClampNeg), .int (xs (nI i + 5).toNatClampNeg)] (tX10_echo l D cA ady hr) rfl hl.1 rfl (Nat.le_of_ble_eq_true rfl) (by decide) dL_law_416 (by decide) (fun H locs h => ?_)
  replace h := sd_swap h
  refine lv_icmp_eq (tgt := 1239) hx hb dL_law_419 (by decide) (fun c1 => ?_) (fun c1 => absurd heq c1)
  exact hn _ _ H locs ls h hl hI
set_option maxHeartbeats 4000000 in
set_option maxRecDepth 100000 in
theorem lc_sweep {p : Program} {l : Launch} {e : Env} {s : State} {m : MethodId} {below : List Frame} {meth : Method} {c : Code} {D : va_G} {cA : ClassId} {adx ady : Nat → Nat} {b L : Nat} {xs : Nat → Int32} {z i : Nat} {Inv : St → St → Prop} (C1 : sd_Cx RL cL_law 4 ret (Cond.initialized RX9 :: sd_big) p s m #[Value.ref b] meth c) (hX : va_X b L xs s s.heap) (hbl : b < s.heap.size) (hbA : ¬ (fun q : Nat => s.heap.size ≤ q) b) (hL : L ≤ 4096) (hi : i + 8 ≤ L) (hOK : ok_sweep z Inv) (hn : ∀ (Sx Sy : St) (H : Heap) (locs : List Loc) (ls : Array Slot), sd_Wl D vwCl cA sd_nw (wX adx cA Sx ++ wY ady cA Sy) (fun q : Nat => s.heap.size ≤ q) s H locs → lv_has ls 4 [(0, .ref b), (1, .ref (adx 0)), (2, .ref (ady 0)), (3, .int (nI i))] → Inv Sx Sy → W p l e room_1 s m #[Value.ref b] below meth c H locs 71 113381 (lw_Z below #[Value.ref b] s) (F0 m 1239 ls [])) (Sx Sy : St) (H : Heap) (locs : List Loc) (ls : Array Slot) (h : sd_Wl D vwCl cA sd_nw (wX adx cA Sx ++ wY ady cA Sy) (fun q : Nat => s.heap.size ≤ q) s H locs) (hl : lv_has ls 4 [(0, .ref b), (1, .ref (adx 0)), (2, .ref (ady 0)), (3, .int (nI i))]) (hI : Inv Sx Sy) : W p l e room_1 s m #[Value.ref b] below meth c H locs 71 113381 (lw_Z below #[Value.ref b] s) (F0 m 424 ls []) := by
  have hx := C1.1
  have hb := C1.2.1
  obtain ⟨q, r, hq, hr, heq, hI⟩ := hOK Sx Sy (xs (nI i + 1).toNatClampNeg) (xs (nI i + 2).toNatClampNeg) (xs (nI i + 3).toNatClampNeg) (xs (nI i + 4).toNatClampNeg) (xs (nI i + 5).toNatClampNeg) (xs (nI i + 6).toNatClampNeg) (xs (nI i + 7).toNatClampNeg) hI
  refine lv_aload_n hx hb dL_law_424 rfl (lv_at hl 1 rfl) ?_
  refine lv_aload_n hx hb dL_law_425 rfl (lv_at hl 0 rfl) ?_
  refine lv_iload_n hx hb dL_law_426 rfl (lv_at hl 3 rfl) ?_
  refine lv_iconst (v := 1) hx hb dL_law_427 (by decide) ?_
  refine lv_iadd hx hb dL_law_428 ?_
  refine va_sld hx hb hX hbl hbA h.2.2.2.1 (lw_ix (k := 1) hL hi (by decide)) dL_law_429 ?_
  refine lv_aload_n hx hb dL_law_430 rfl (lv_at hl 0 rfl) ?_
  refine lv_iload_n hx hb dL_law_431 rfl (lv_at hl 3 rfl) ?_
  refine lv_iconst (v := 2) hx hb dL_law_432 (by decide) ?_
  refine lv_iadd hx hb dL_law_433 ?_
  refine va_sld hx hb hX hbl hbA h.2.2.2.1 (lw_ix (k := 2) hL hi (by decide)) dL_law_434 ?_
  refine lv_aload_n hx hb dL_law_435 rfl (lv_at hl 0 rfl) ?_
  refine lv_iload_n hx hb dL_law_436 rfl (lv_at hl 3 rfl) ?_
  refine lv_iconst (v := 3) hx hb dL_law_437 (by decide) ?_
  refine lv_iadd hx hb dL_law_438 ?_
  refine va_sld hx hb hX hbl hbA h.2.2.2.1 (lw_ix (k := 3) hL hi (by decide)) dL_law_439 ?_
  refine lv_aload_n hx hb dL_law_440 rfl (lv_at hl 0 rfl) ?_
  refine lv_iload_n hx hb dL_law_441 rfl (lv_at hl 3 rfl) ?_
  refine lv_iconst (v := 4) hx hb dL_law_442 (by decide) ?_
  refine lv_iadd hx hb dL_law_443 ?_
  refine va_sld hx hb hX hbl hbA h.2.2.2.1 (lw_ix (k := 4) hL hi (by decide)) dL_law_444 ?_
  refine lv_aload_n hx hb dL_law_445 rfl (lv_at hl 0 rfl) ?_
  refine lv_iload_n hx hb dL_law_446 rfl (lv_at hl 3 rfl) ?_
  refine lv_iconst (v := 5) hx hb dL_law_447 (by decide) ?_
  refine lv_iadd hx hb dL_law_448 ?_
  refine va_sld hx hb hX hbl hbA h.2.2.2.1 (lw_ix (k := 5) hL hi (by decide)) dL_law_449 ?_
  refine lv_aload_n hx hb dL_law_450 rfl (lv_at hl 0 rfl) ?_
  refine lv_iload_n hx hb dL_law_451 rfl (lv_at hl 3 rfl) ?_
  refine lv_bipush (v := 6) hx hb dL_law_452 (by decide) ?_
  refine lv_iadd hx hb dL_law_454 ?_
  refine va_sld hx hb hX hbl hbA h.2.2.2.1 (lw_ix (k := 6) hL hi (by decide)) dL_law_455 ?_
  refine lv_aload_n hx hb dL_law_456 rfl (lv_at hl 0 rfl) ?_
  refine lv_iload_n hx hb dL_law_457 rfl (lv_at hl 3 rfl) ?_
  refine lv_bipush (v := 7) hx hb dL_law_458 (by decide) ?_
  refine lv_iadd hx hb dL_law_460 ?_
  refine va_sld hx hb hX hbl hbA h.2.2.2.1 (lw_ix (k := 7) hL hi (by decide)) dL_law_461 ?_
  refine lc_i C1 (w := wX adx cA) (S := Sx) (w2 := (wY ady cA Sy)) h kYX9_sweep kmL_41 0 (aX_0 adx cA _) rfl [.int (xs (nI i + 1).toNatClampNeg), .int (xs (nI i + 2).toNatClampNeg), .int (xs (nI i + 3).toNatClampNeg), .int (xs (nI i + 4).toNatClampNeg), .int (xs (nI i + 5).toNatClampNeg), .int (xs (nI i + 6).toNatClampNeg), .int (xs (nI i + 7).toNatClampNeg)] (tX9_sweep l D cA adx hq) rfl hl.1 rfl (Nat.le_of_ble_eq_true rfl) (by decide) dL_law_462 (by decide) (fun H locs h => ?_)
  refine lv_aload_n hx hb dL_law_465 rfl (lv_at hl 2 rfl) ?_
  refine lv_aload_n hx hb dL_law_466 rfl (lv_at hl 0 rfl) ?_
  refine lv_iload_n hx hb dL_law_467 rfl (lv_at hl 3 rfl) ?_
  refine lv_iconst (v := 1) hx hb dL_law_468 (by decide) ?_
  refine lv_iadd hx hb dL_law_469 ?_
  refine va_sld hx hb hX hbl hbA h.2.2.2.1 (lw_ix (k := 1) hL hi (by decide)) dL_law_470 ?_
  refine lv_aload_n hx hb dL_law_471 rfl (lv_at hl 0 rfl) ?_
  refine lv_iload_n hx hb dL_law_472 rfl (lv_at hl 3 rfl) ?_
  refine lv_iconst (v := 2) hx hb dL_law_473 (by decide) ?_
  refine lv_iadd hx hb dL_law_474 ?_
  refine va_sld hx hb hX hbl hbA h.2.2.2.1 (lw_ix (k := 2) hL hi (by decide)) dL_law_475 ?_
  refine lv_aload_n hx hb dL_law_476 rfl (lv_at hl 0 rfl) ?_
  refine lv_iload_n hx hb dL_law_477 rfl (lv_at hl 3 rfl) ?_
  refine lv_iconst (v := 3) hx hb dL_law_478 (by decide) ?_
  refine lv_iadd hx hb dL_law_479 ?_
  refine va_sld hx hb hX hbl hbA h.2.2.2.1 (lw_ix (k := 3) hL hi (by decide)) dL_law_480 ?_
  refine lv_aload_n hx hb dL_law_481 rfl (lv_at hl 0 rfl) ?_
  refine lv_iload_n hx hb dL_law_482 rfl (lv_at hl 3 rfl) ?_
  refine lv_iconst (v := 4) hx hb dL_law_483 (by decide) ?_
  refine lv_iadd hx hb dL_law_484 ?_
  refine va_sld hx hb hX hbl hbA h.2.2.2.1 (lw_ix (k := 4) hL hi (by decide)) dL_law_485 ?_
  refine lv_aload_n hx hb dL_law_486 rfl (lv_at hl 0 rfl) ?_
  refine lv_iload_n hx hb dL_law_487 rfl (lv_at hl 3 rfl) ?_
  refine lv_iconst (v := 5) hx hb dL_law_488 (by decide) ?_
  refine lv_iadd hx hb dL_law_489 ?_
  refine va_sld hx hb hX hbl hbA h.2.2.2.1 (lw_ix (k := 5) hL hi (by decide)) dL_law_490 ?_
  refine lv_aload_n hx hb dL_law_491 rfl (lv_at hl 0 rfl) ?_
  refine lv_iload_n hx hb dL_law_492 rfl (lv_at hl 3 rfl) ?_
  refine lv_bipush (v := 6) hx hb dL_law_493 (by decide) ?_
  refine lv_iadd hx hb dL_law_495 ?_
  refine va_sld hx hb hX hbl hbA h.2.2.2.1 (lw_ix (k := 6) hL hi (by decide)) dL_law_496 ?_
  refine lv_aload_n hx hb dL_law_497 rfl (lv_at hl 0 rfl) ?_
  refine lv_iload_n hx hb dL_law_498 rfl (lv_at hl 3 rfl) ?_
  refine lv_bipush (v := 7) hx hb dL_law_499 (by decide) ?_
  refine lv_iadd hx hb dL_law_501 ?_
  refine va_sld hx hb hX hbl hbA h.2.2.2.1 (lw_ix (k := 7) hL hi (by decide)) dL_law_502 ?_
  replace h := sd_swap h
  refine lc_i C1 (w := wY ady cA) (S := Sy) (w2 := (wX adx cA q.2)) h kYX10_sweep kmL_45 0 (aY_0 ady cA _) rfl [.int (xs (nI i + 1).toNatClampNeg), .int (xs (nI i + 2).toNatClampNeg), .int (xs (nI i + 3).toNatClampNeg), .int (xs (nI i + 4).toNatClampNeg), .int (xs (nI i + 5).toNatClampNeg), .int (xs (nI i + 6).toNatClampNeg), .int (xs (nI i + 7).toNatClampNeg)] (tX10_sweep l D cA ady hr) rfl hl.1 rfl (Nat.le_of_ble_eq_true rfl) (by decide) dL_law_503 (by decide) (fun H locs h => ?_)
  replace h := sd_swap h
  refine lv_icmp_eq (tgt := 1239) hx hb dL_law_506 (by decide) (fun c1 => ?_) (fun c1 => absurd heq c1)
  exact hn _ _ H locs ls h hl hI
set_option maxHeartbeats 4000000 in
set_option maxRecDepth 100000 in
theorem lc_notice {p : Program} {l : Launch} {e : Env} {s : State} {m : MethodId} {below : List Frame} {meth : Method} {c : Code} {D : va_G} {cA : ClassId} {adx ady : Nat → Nat} {b L : Nat} {xs : Nat → Int32} {z i : Nat} {Inv : St → St → Prop} (C1 : sd_Cx RL cL_law 4 ret (Cond.initialized RX9 :: sd_big) p s m #[Value.ref b] meth c) (hX : va_X b L xs s s.heap) (hbl : b < s.heap.size) (hbA : ¬ (fun q : Nat => s.heap.size ≤ q) b) (hL : L ≤ 4096) (hi : i + 8 ≤ L) (hOK : ok_notice z Inv) (hn : ∀ (Sx Sy : St) (H : Heap) (locs : List Loc) (ls : Array Slot), sd_Wl D vwCl cA sd_nw (wX adx cA Sx ++ wY ady cA Sy) (fun q : Nat => s.heap.size ≤ q) s H locs → lv_has ls 4 [(0, .ref b), (1, .ref (adx 0)), (2, .ref (ady 0)), (3, .int (nI i))] → Inv Sx Sy → W p l e room_1 s m #[Value.ref b] below meth c H locs 71 113381 (lw_Z below #[Value.ref b] s) (F0 m 1239 ls [])) (Sx Sy : St) (H : Heap) (locs : List Loc) (ls : Array Slot) (h : sd_Wl D vwCl cA sd_nw (wX adx cA Sx ++ wY ady cA Sy) (fun q : Nat => s.heap.size ≤ q) s H locs) (hl : lv_has ls 4 [(0, .ref b), (1, .ref (adx 0)), (2, .ref (ady 0)), (3, .int (nI i))]) (hI : Inv Sx Sy) : W p l e room_1 s m #[Value.ref b] below meth c H locs 71 113381 (lw_Z below #[Value.ref b] s) (F0 m 511 ls []) := by
  have hx := C1.1
  have hb := C1.2.1
  obtain ⟨q, r, hq, hr, heq, hI⟩ := hOK Sx Sy (xs (nI i + 1).toNatClampNeg) (xs (nI i + 2).toNatClampNeg) (xs (nI i + 3).toNatClampNeg) (xs (nI i + 4).toNatClampNeg) (xs (nI i + 5).toNatClampNeg) hI
  refine lv_aload_n hx hb dL_law_511 rfl (lv_at hl 1 rfl) ?_
  refine lv_aload_n hx hb dL_law_512 rfl (lv_at hl 0 rfl) ?_
  refine lv_iload_n hx hb dL_law_513 rfl (lv_at hl 3 rfl) ?_
  refine lv_iconst (v := 1) hx hb dL_law_514 (by decide) ?_
  refine lv_iadd hx hb dL_law_515 ?_
  refine va_sld hx hb hX hbl hbA h.2.2.2.1 (lw_ix (k := 1) hL hi (by decide)) dL_law_516 ?_
  refine lv_aload_n hx hb dL_law_517 rfl (lv_at hl 0 rfl) ?_
  refine lv_iload_n hx hb dL_law_518 rfl (lv_at hl 3 rfl) ?_
  refine lv_iconst (v := 2) hx hb dL_law_519 (by decide) ?_
  refine lv_iadd hx hb dL_law_520 ?_
  refine va_sld hx hb hX hbl hbA h.2.2.2.1 (lw_ix (k := 2) hL hi (by decide)) dL_law_521 ?_
  refine lv_aload_n hx hb dL_law_522 rfl (lv_at hl 0 rfl) ?_
  refine lv_iload_n hx hb dL_law_523 rfl (lv_at hl 3 rfl) ?_
  refine lv_iconst (v := 3) hx hb dL_law_524 (by decide) ?_
  refine lv_iadd hx hb dL_law_525 ?_
  refine va_sld hx hb hX hbl hbA h.2.2.2.1 (lw_ix (k := 3) hL hi (by decide)) dL_law_526 ?_
  refine lv_aload_n hx hb dL_law_527 rfl (lv_at hl 0 rfl) ?_
  refine lv_iload_n hx hb dL_law_528 rfl (lv_at hl 3 rfl) ?_
  refine lv_iconst (v := 4) hx hb dL_law_529 (by decide) ?_
  refine lv_iadd hx hb dL_law_530 ?_
  refine va_sld hx hb hX hbl hbA h.2.2.2.1 (lw_ix (k := 4) hL hi (by decide)) dL_law_531 ?_
  refine lv_aload_n hx hb dL_law_532 rfl (lv_at hl 0 rfl) ?_
  refine lv_iload_n hx hb dL_law_533 rfl (lv_at hl 3 rfl) ?_
  refine lv_iconst (v := 5) hx hb dL_law_534 (by decide) ?_
  refine lv_iadd hx hb dL_law_535 ?_
  refine va_sld hx hb hX hbl hbA h.2.2.2.1 (lw_ix (k := 5) hL hi (by decide)) dL_law_536 ?_
  refine lc_i C1 (w := wX adx cA) (S := Sx) (w2 := (wY ady cA Sy)) h kYX9_notice kmL_46 0 (aX_0 adx cA _) rfl [.int (xs (nI i + 1).toNatClampNeg), .int (xs (nI i + 2).toNatClampNeg), .int (xs (nI i + 3).toNatClampNeg), .int (xs (nI i + 4).toNatClampNeg), .int (xs (nI i + 5).toNatClampNeg)] (tX9_notice l D cA adx hq) rfl hl.1 rfl (Nat.le_of_ble_eq_true rfl) (by decide) dL_law_537 (by decide) (fun H locs h => ?_)
  refine lv_aload_n hx hb dL_law_540 rfl (lv_at hl 2 rfl) ?_
  refine lv_aload_n hx hb dL_law_541 rfl (lv_at hl 0 rfl) ?_
  refine lv_iload_n hx hb dL_law_542 rfl (lv_at hl 3 rfl) ?_
  refine lv_iconst (v := 1) hx hb dL_law_543 (by decide) ?_
  refine lv_iadd hx hb dL_law_544 ?_
  refine va_sld hx hb hX hbl hbA h.2.2.2.1 (lw_ix (k := 1) hL hi (by decide)) dL_law_545 ?_
  refine lv_aload_n hx hb dL_law_546 rfl (lv_at hl 0 rfl) ?_
  refine lv_iload_n hx hb dL_law_547 rfl (lv_at hl 3 rfl) ?_
  refine lv_iconst (v := 2) hx hb dL_law_548 (by decide) ?_
  refine lv_iadd hx hb dL_law_549 ?_
  refine va_sld hx hb hX hbl hbA h.2.2.2.1 (lw_ix (k := 2) hL hi (by decide)) dL_law_550 ?_
  refine lv_aload_n hx hb dL_law_551 rfl (lv_at hl 0 rfl) ?_
  refine lv_iload_n hx hb dL_law_552 rfl (lv_at hl 3 rfl) ?_
  refine lv_iconst (v := 3) hx hb dL_law_553 (by decide) ?_
  refine lv_iadd hx hb dL_law_554 ?_
  refine va_sld hx hb hX hbl hbA h.2.2.2.1 (lw_ix (k := 3) hL hi (by decide)) dL_law_555 ?_
  refine lv_aload_n hx hb dL_law_556 rfl (lv_at hl 0 rfl) ?_
  refine lv_iload_n hx hb dL_law_557 rfl (lv_at hl 3 rfl) ?_
  refine lv_iconst (v := 4) hx hb dL_law_558 (by decide) ?_
  refine lv_iadd hx hb dL_law_559 ?_
  refine va_sld hx hb hX hbl hbA h.2.2.2.1 (lw_ix (k := 4) hL hi (by decide)) dL_law_560 ?_
  refine lv_aload_n hx hb dL_law_561 rfl (lv_at hl 0 rfl) ?_
  refine lv_iload_n hx hb dL_law_562 rfl (lv_at hl 3 rfl) ?_
  refine lv_iconst (v := 5) hx hb dL_law_563 (by decide) ?_
  refine lv_iadd hx hb dL_law_564 ?_
  refine va_sld hx hb hX hbl hbA h.2.2.2.1 (lw_ix (k := 5) hL hi (by decide)) dL_law_565 ?_
  replace h := sd_swap h
  refine lc_i C1 (w := wY ady cA) (S := Sy) (w2 := (wX adx cA q.2)) h kYX10_notice kmL_49 0 (aY_0 ady cA _) rfl [.int (xs (nI i + 1).toNatClampNeg), .int (xs (nI i + 2).toNatClampNeg), .int (xs (nI i + 3).toNatClampNeg), .int (xs (nI i + 4).toNatClampNeg), .int (xs (nI i + 5).toNatClampNeg)] (tX10_notice l D cA ady hr) rfl hl.1 rfl (Nat.le_of_ble_eq_true rfl) (by decide) dL_law_566 (by decide) (fun H locs h => ?_)
  replace h := sd_swap h
  refine lv_icmp_eq (tgt := 1239) hx hb dL_law_569 (by decide) (fun c1 => ?_) (fun c1 => absurd heq c1)
  exact hn _ _ H locs ls h hl hI
set_option maxHeartbeats 4000000 in
set_option maxRecDepth 100000 in
theorem lc_gone {p : Program} {l : Launch} {e : Env} {s : State} {m : MethodId} {below : List Frame} {meth : Method} {c : Code} {D : va_G} {cA : ClassId} {adx ady : Nat → Nat} {b L : Nat} {xs : Nat → Int32} {z i : Nat} {Inv : St → St → Prop} (C1 : sd_Cx RL cL_law 4 ret (Cond.initialized RX9 :: sd_big) p s m #[Value.ref b] meth c) (hX : va_X b L xs s s.heap) (hbl : b < s.heap.size) (hbA : ¬ (fun q : Nat => s.heap.size ≤ q) b) (hL : L ≤ 4096) (hi : i + 8 ≤ L) (hOK : ok_gone z Inv) (hn : ∀ (Sx Sy : St) (H : Heap) (locs : List Loc) (ls : Array Slot), sd_Wl D vwCl cA sd_nw (wX adx cA Sx ++ wY ady cA Sy) (fun q : Nat => s.heap.size ≤ q) s H locs → lv_has ls 4 [(0, .ref b), (1, .ref (adx 0)), (2, .ref (ady 0)), (3, .int (nI i))] → Inv Sx Sy → W p l e room_1 s m #[Value.ref b] below meth c H locs 71 113381 (lw_Z below #[Value.ref b] s) (F0 m 1239 ls [])) (Sx Sy : St) (H : Heap) (locs : List Loc) (ls : Array Slot) (h : sd_Wl D vwCl cA sd_nw (wX adx cA Sx ++ wY ady cA Sy) (fun q : Nat => s.heap.size ≤ q) s H locs) (hl : lv_has ls 4 [(0, .ref b), (1, .ref (adx 0)), (2, .ref (ady 0)), (3, .int (nI i))]) (hI : Inv Sx Sy) : W p l e room_1 s m #[Value.ref b] below meth c H locs 71 113381 (lw_Z below #[Value.ref b] s) (F0 m 574 ls []) := by
  have hx := C1.1
  have hb := C1.2.1
  obtain ⟨q, r, hq, hr, heq, hI⟩ := hOK Sx Sy (xs (nI i + 1).toNatClampNeg) (xs (nI i + 2).toNatClampNeg) hI
  refine lv_aload_n hx hb dL_law_574 rfl (lv_at hl 1 rfl) ?_
  refine lv_aload_n hx hb dL_law_575 rfl (lv_at hl 0 rfl) ?_
  refine lv_iload_n hx hb dL_law_576 rfl (lv_at hl 3 rfl) ?_
  refine lv_iconst (v := 1) hx hb dL_law_577 (by decide) ?_
  refine lv_iadd hx hb dL_law_578 ?_
  refine va_sld hx hb hX hbl hbA h.2.2.2.1 (lw_ix (k := 1) hL hi (by decide)) dL_law_579 ?_
  refine lv_aload_n hx hb dL_law_580 rfl (lv_at hl 0 rfl) ?_
  refine lv_iload_n hx hb dL_law_581 rfl (lv_at hl 3 rfl) ?_
  refine lv_iconst (v := 2) hx hb dL_law_582 (by decide) ?_
  refine lv_iadd hx hb dL_law_583 ?_
  refine va_sld hx hb hX hbl hbA h.2.2.2.1 (lw_ix (k := 2) hL hi (by decide)) dL_law_584 ?_
  refine lc_i C1 (w := wX adx cA) (S := Sx) (w2 := (wY ady cA Sy)) h kYX9_gone kmL_50 0 (aX_0 adx cA _) rfl [.int (xs (nI i + 1).toNatClampNeg), .int (xs (nI i + 2).toNatClampNeg)] (tX9_gone l D cA adx hq) rfl hl.1 rfl (Nat.le_of_ble_eq_true rfl) (by decide) dL_law_585 (by decide) (fun H locs h => ?_)
  refine lv_aload_n hx hb dL_law_588 rfl (lv_at hl 2 rfl) ?_
  refine lv_aload_n hx hb dL_law_589 rfl (lv_at hl 0 rfl) ?_
  refine lv_iload_n hx hb dL_law_590 rfl (lv_at hl 3 rfl) ?_
  refine lv_iconst (v := 1) hx hb dL_law_591 (by decide) ?_
  refine lv_iadd hx hb dL_law_592 ?_
  refine va_sld hx hb hX hbl hbA h.2.2.2.1 (lw_ix (k := 1) hL hi (by decide)) dL_law_593 ?_
  refine lv_aload_n hx hb dL_law_594 rfl (lv_at hl 0 rfl) ?_
  refine lv_iload_n hx hb dL_law_595 rfl (lv_at hl 3 rfl) ?_
  refine lv_iconst (v := 2) hx hb dL_law_596 (by decide) ?_
  refine lv_iadd hx hb dL_law_597 ?_
  refine va_sld hx hb hX hbl hbA h.2.2.2.1 (lw_ix (k := 2) hL hi (by decide)) dL_law_598 ?_
  replace h := sd_swap h
  refine lc_i C1 (w := wY ady cA) (S := Sy) (w2 := (wX adx cA q.2)) h kYX10_gone kmL_53 0 (aY_0 ady cA _) rfl [.int (xs (nI i + 1).toNatClampNeg), .int (xs (nI i + 2).toNatClampNeg)] (tX10_gone l D cA ady hr) rfl hl.1 rfl (Nat.le_of_ble_eq_true rfl) (by decide) dL_law_599 (by decide) (fun H locs h => ?_)
  replace h := sd_swap h
  refine lv_icmp_eq (tgt := 1239) hx hb dL_law_602 (by decide) (fun c1 => ?_) (fun c1 => absurd heq c1)
  exact hn _ _ H locs ls h hl hI
set_option maxHeartbeats 4000000 in
set_option maxRecDepth 100000 in
theorem lc_count {p : Program} {l : Launch} {e : Env} {s : State} {m : MethodId} {below : List Frame} {meth : Method} {c : Code} {D : va_G} {cA : ClassId} {adx ady : Nat → Nat} {b L : Nat} {xs : Nat → Int32} {z i : Nat} {Inv : St → St → Prop} (C1 : sd_Cx RL cL_law 4 ret (Cond.initialized RX9 :: sd_big) p s m #[Value.ref b] meth c) (hX : va_X b L xs s s.heap) (hbl : b < s.heap.size) (hbA : ¬ (fun q : Nat => s.heap.size ≤ q) b) (hL : L ≤ 4096) (hi : i + 8 ≤ L) (hOK : ok_count z Inv) (hn : ∀ (Sx Sy : St) (H : Heap) (locs : List Loc) (ls : Array Slot), sd_Wl D vwCl cA sd_nw (wX adx cA Sx ++ wY ady cA Sy) (fun q : Nat => s.heap.size ≤ q) s H locs → lv_has ls 4 [(0, .ref b), (1, .ref (adx 0)), (2, .ref (ady 0)), (3, .int (nI i))] → Inv Sx Sy → W p l e room_1 s m #[Value.ref b] below meth c H locs 71 113381 (lw_Z below #[Value.ref b] s) (F0 m 1239 ls [])) (Sx Sy : St) (H : Heap) (locs : List Loc) (ls : Array Slot) (h : sd_Wl D vwCl cA sd_nw (wX adx cA Sx ++ wY ady cA Sy) (fun q : Nat => s.heap.size ≤ q) s H locs) (hl : lv_has ls 4 [(0, .ref b), (1, .ref (adx 0)), (2, .ref (ady 0)), (3, .int (nI i))]) (hI : Inv Sx Sy) : W p l e room_1 s m #[Value.ref b] below meth c H locs 71 113381 (lw_Z below #[Value.ref b] s) (F0 m 607 ls []) := by
  have hx := C1.1
  have hb := C1.2.1
  obtain ⟨q, r, hq, hr, heq, hI⟩ := hOK Sx Sy (xs (nI i + 1).toNatClampNeg) hI
  refine lv_aload_n hx hb dL_law_607 rfl (lv_at hl 1 rfl) ?_
  refine lv_aload_n hx hb dL_law_608 rfl (lv_at hl 0 rfl) ?_
  refine lv_iload_n hx hb dL_law_609 rfl (lv_at hl 3 rfl) ?_
  refine lv_iconst (v := 1) hx hb dL_law_610 (by decide) ?_
  refine lv_iadd hx hb dL_law_611 ?_
  refine va_sld hx hb hX hbl hbA h.2.2.2.1 (lw_ix (k := 1) hL hi (by decide)) dL_law_612 ?_
  refine lc_i C1 (w := wX adx cA) (S := Sx) (w2 := (wY ady cA Sy)) h kYX9_count kmL_54 0 (aX_0 adx cA _) rfl [.int (xs (nI i + 1).toNatClampNeg)] (tX9_count l D cA adx hq) rfl hl.1 rfl (Nat.le_of_ble_eq_true rfl) (by decide) dL_law_613 (by decide) (fun H locs h => ?_)
  refine lv_aload_n hx hb dL_law_616 rfl (lv_at hl 2 rfl) ?_
  refine lv_aload_n hx hb dL_law_617 rfl (lv_at hl 0 rfl) ?_
  refine lv_iload_n hx hb dL_law_618 rfl (lv_at hl 3 rfl) ?_
  refine lv_iconst (v := 1) hx hb dL_law_619 (by decide) ?_
  refine lv_iadd hx hb dL_law_620 ?_
  refine va_sld hx hb hX hbl hbA h.2.2.2.1 (lw_ix (k := 1) hL hi (by decide)) dL_law_621 ?_
  replace h := sd_swap h
  refine lc_i C1 (w := wY ady cA) (S := Sy) (w2 := (wX adx cA q.2)) h kYX10_count kmL_58 0 (aY_0 ady cA _) rfl [.int (xs (nI i + 1).toNatClampNeg)] (tX10_count l D cA ady hr) rfl hl.1 rfl (Nat.le_of_ble_eq_true rfl) (by decide) dL_law_622 (by decide) (fun H locs h => ?_)
  replace h := sd_swap h
  refine lv_icmp_eq (tgt := 1239) hx hb dL_law_625 (by decide) (fun c1 => ?_) (fun c1 => absurd heq c1)
  exact hn _ _ H locs ls h hl hI
set_option maxHeartbeats 4000000 in
set_option maxRecDepth 100000 in
theorem lc_sounding {p : Program} {l : Launch} {e : Env} {s : State} {m : MethodId} {below : List Frame} {meth : Method} {c : Code} {D : va_G} {cA : ClassId} {adx ady : Nat → Nat} {b L : Nat} {xs : Nat → Int32} {z i : Nat} {Inv : St → St → Prop} (C1 : sd_Cx RL cL_law 4 ret (Cond.initialized RX9 :: sd_big) p s m #[Value.ref b] meth c) (hX : va_X b L xs s s.heap) (hbl : b < s.heap.size) (hbA : ¬ (fun q : Nat => s.heap.size ≤ q) b) (hL : L ≤ 4096) (hi : i + 8 ≤ L) (hOK : ok_sounding z Inv) (hn : ∀ (Sx Sy : St) (H : Heap) (locs : List Loc) (ls : Array Slot), sd_Wl D vwCl cA sd_nw (wX adx cA Sx ++ wY ady cA Sy) (fun q : Nat => s.heap.size ≤ q) s H locs → lv_has ls 4 [(0, .ref b), (1, .ref (adx 0)), (2, .ref (ady 0)), (3, .int (nI i))] → Inv Sx Sy → W p l e room_1 s m #[Value.ref b] below meth c H locs 71 113381 (lw_Z below #[Value.ref b] s) (F0 m 1239 ls [])) (Sx Sy : St) (H : Heap) (locs : List Loc) (ls : Array Slot) (h : sd_Wl D vwCl cA sd_nw (wX adx cA Sx ++ wY ady cA Sy) (fun q : Nat => s.heap.size ≤ q) s H locs) (hl : lv_has ls 4 [(0, .ref b), (1, .ref (adx 0)), (2, .ref (ady 0)), (3, .int (nI i))]) (hI : Inv Sx Sy) : W p l e room_1 s m #[Value.ref b] below meth c H locs 71 113381 (lw_Z below #[Value.ref b] s) (F0 m 630 ls []) := by
  have hx := C1.1
  have hb := C1.2.1
  obtain ⟨q, r, hq, hr, heq, hI⟩ := hOK Sx Sy (xs (nI i + 1).toNatClampNeg) (xs (nI i + 2).toNatClampNeg) hI
  refine lv_aload_n hx hb dL_law_630 rfl (lv_at hl 1 rfl) ?_
  refine lv_aload_n hx hb dL_law_631 rfl (lv_at hl 0 rfl) ?_
  refine lv_iload_n hx hb dL_law_632 rfl (lv_at hl 3 rfl) ?_
  refine lv_iconst (v := 1) hx hb dL_law_633 (by decide) ?_
  refine lv_iadd hx hb dL_law_634 ?_
  refine va_sld hx hb hX hbl hbA h.2.2.2.1 (lw_ix (k := 1) hL hi (by decide)) dL_law_635 ?_
  refine lv_aload_n hx hb dL_law_636 rfl (lv_at hl 0 rfl) ?_
  refine lv_iload_n hx hb dL_law_637 rfl (lv_at hl 3 rfl) ?_
  refine lv_iconst (v := 2) hx hb dL_law_638 (by decide) ?_
  refine lv_iadd hx hb dL_law_639 ?_
  refine va_sld hx hb hX hbl hbA h.2.2.2.1 (lw_ix (k := 2) hL hi (by decide)) dL_law_640 ?_
  refine lc_i C1 (w := wX adx cA) (S := Sx) (w2 := (wY ady cA Sy)) h kYX9_sounding kmL_59 0 (aX_0 adx cA _) rfl [.int (xs (nI i + 1).toNatClampNeg), .int (xs (nI i + 2).toNatClampNeg)] (tX9_sounding l D cA adx hq) rfl hl.1 rfl (Nat.le_of_ble_eq_true rfl) (by decide) dL_law_641 (by decide) (fun H locs h => ?_)
  refine lv_aload_n hx hb dL_law_644 rfl (lv_at hl 2 rfl) ?_
  refine lv_aload_n hx hb dL_law_645 rfl (lv_at hl 0 rfl) ?_
  refine lv_iload_n hx hb dL_law_646 rfl (lv_at hl 3 rfl) ?_
  refine lv_iconst (v := 1) hx hb dL_law_647 (by decide) ?_
  refine lv_iadd hx hb dL_law_648 ?_
  refine va_sld hx hb hX hbl hbA h.2.2.2.1 (lw_ix (k := 1) hL hi (by decide)) dL_law_649 ?_
  refine lv_aload_n hx hb dL_law_650 rfl (lv_at hl 0 rfl) ?_
  refine lv_iload_n hx hb dL_law_651 rfl (lv_at hl 3 rfl) ?_
  refine lv_iconst (v := 2) hx hb dL_law_652 (by decide) ?_
  refine lv_iadd hx hb dL_law_653 ?_
  refine va_sld hx hb hX hbl hbA h.2.2.2.1 (lw_ix (k := 2) hL hi (by decide)) dL_law_654 ?_
  replace h := sd_swap h
  refine lc_i C1 (w := wY ady cA) (S := Sy) (w2 := (wX adx cA q.2)) h kYX10_sounding kmL_62 0 (aY_0 ady cA _) rfl [.int (xs (nI i + 1).toNatClampNeg), .int (xs (nI i + 2).toNatClampNeg)] (tX10_sounding l D cA ady hr) rfl hl.1 rfl (Nat.le_of_ble_eq_true rfl) (by decide) dL_law_655 (by decide) (fun H locs h => ?_)
  replace h := sd_swap h
  refine lv_icmp_eq (tgt := 1239) hx hb dL_law_658 (by decide) (fun c1 => ?_) (fun c1 => absurd heq c1)
  exact hn _ _ H locs ls h hl hI
set_option maxHeartbeats 4000000 in
set_option maxRecDepth 100000 in
theorem lc_depth {p : Program} {l : Launch} {e : Env} {s : State} {m : MethodId} {below : List Frame} {meth : Method} {c : Code} {D : va_G} {cA : ClassId} {adx ady : Nat → Nat} {b L : Nat} {xs : Nat → Int32} {z i : Nat} {Inv : St → St → Prop} (C1 : sd_Cx RL cL_law 4 ret (Cond.initialized RX9 :: sd_big) p s m #[Value.ref b] meth c) (hX : va_X b L xs s s.heap) (hbl : b < s.heap.size) (hbA : ¬ (fun q : Nat => s.heap.size ≤ q) b) (hL : L ≤ 4096) (hi : i + 8 ≤ L) (hOK : ok_depth z Inv) (hn : ∀ (Sx Sy : St) (H : Heap) (locs : List Loc) (ls : Array Slot), sd_Wl D vwCl cA sd_nw (wX adx cA Sx ++ wY ady cA Sy) (fun q : Nat => s.heap.size ≤ q) s H locs → lv_has ls 4 [(0, .ref b), (1, .ref (adx 0)), (2, .ref (ady 0)), (3, .int (nI i))] → Inv Sx Sy → W p l e room_1 s m #[Value.ref b] below meth c H locs 71 113381 (lw_Z below #[Value.ref b] s) (F0 m 1239 ls [])) (Sx Sy : St) (H : Heap) (locs : List Loc) (ls : Array Slot) (h : sd_Wl D vwCl cA sd_nw (wX adx cA Sx ++ wY ady cA Sy) (fun q : Nat => s.heap.size ≤ q) s H locs) (hl : lv_has ls 4 [(0, .ref b), (1, .ref (adx 0)), (2, .ref (ady 0)), (3, .int (nI i))]) (hI : Inv Sx Sy) : W p l e room_1 s m #[Value.ref b] below meth c H locs 71 113381 (lw_Z below #[Value.ref b] s) (F0 m 663 ls []) := by
  have hx := C1.1
  have hb := C1.2.1
  obtain ⟨q, r, hq, hr, heq, hI⟩ := hOK Sx Sy (xs (nI i + 1).toNatClampNeg) hI
  refine lv_aload_n hx hb dL_law_663 rfl (lv_at hl 1 rfl) ?_
  refine lv_aload_n hx hb dL_law_664 rfl (lv_at hl 0 rfl) ?_
  refine lv_iload_n hx hb dL_law_665 rfl (lv_at hl 3 rfl) ?_
  refine lv_iconst (v := 1) hx hb dL_law_666 (by decide) ?_
  refine lv_iadd hx hb dL_law_667 ?_
  refine va_sld hx hb hX hbl hbA h.2.2.2.1 (lw_ix (k := 1) hL hi (by decide)) dL_law_668 ?_
  refine lc_i C1 (w := wX adx cA) (S := Sx) (w2 := (wY ady cA Sy)) h kYX9_depth kmL_63 0 (aX_0 adx cA _) rfl [.int (xs (nI i + 1).toNatClampNeg)] (tX9_depth l D cA adx hq) rfl hl.1 rfl (Nat.le_of_ble_eq_true rfl) (by decide) dL_law_669 (by decide) (fun H locs h => ?_)
  refine lv_aload_n hx hb dL_law_672 rfl (lv_at hl 2 rfl) ?_
  refine lv_aload_n hx hb dL_law_673 rfl (lv_at hl 0 rfl) ?_
  refine lv_iload_n hx hb dL_law_674 rfl (lv_at hl 3 rfl) ?_
  refine lv_iconst (v := 1) hx hb dL_law_675 (by decide) ?_
  refine lv_iadd hx hb dL_law_676 ?_
  refine va_sld hx hb hX hbl hbA h.2.2.2.1 (lw_ix (k := 1) hL hi (by decide)) dL_law_677 ?_
  replace h := sd_swap h
  refine lc_i C1 (w := wY ady cA) (S := Sy) (w2 := (wX adx cA q.2)) h kYX10_depth kmL_66 0 (aY_0 ady cA _) rfl [.int (xs (nI i + 1).toNatClampNeg)] (tX10_depth l D cA ady hr) rfl hl.1 rfl (Nat.le_of_ble_eq_true rfl) (by decide) dL_law_678 (by decide) (fun H locs h => ?_)
  replace h := sd_swap h
  refine lv_icmp_eq (tgt := 1239) hx hb dL_law_681 (by decide) (fun c1 => ?_) (fun c1 => absurd heq c1)
  exact hn _ _ H locs ls h hl hI
set_option maxHeartbeats 4000000 in
set_option maxRecDepth 100000 in
theorem lc_boat {p : Program} {l : Launch} {e : Env} {s : State} {m : MethodId} {below : List Frame} {meth : Method} {c : Code} {D : va_G} {cA : ClassId} {adx ady : Nat → Nat} {b L : Nat} {xs : Nat → Int32} {z i : Nat} {Inv : St → St → Prop} (C1 : sd_Cx RL cL_law 4 ret (Cond.initialized RX9 :: sd_big) p s m #[Value.ref b] meth c) (hX : va_X b L xs s s.heap) (hbl : b < s.heap.size) (hbA : ¬ (fun q : Nat => s.heap.size ≤ q) b) (hL : L ≤ 4096) (hi : i + 8 ≤ L) (hOK : ok_boat z Inv) (hn : ∀ (Sx Sy : St) (H : Heap) (locs : List Loc) (ls : Array Slot), sd_Wl D vwCl cA sd_nw (wX adx cA Sx ++ wY ady cA Sy) (fun q : Nat => s.heap.size ≤ q) s H locs → lv_has ls 4 [(0, .ref b), (1, .ref (adx 0)), (2, .ref (ady 0)), (3, .int (nI i))] → Inv Sx Sy → W p l e room_1 s m #[Value.ref b] below meth c H locs 71 113381 (lw_Z below #[Value.ref b] s) (F0 m 1239 ls [])) (Sx Sy : St) (H : Heap) (locs : List Loc) (ls : Array Slot) (h : sd_Wl D vwCl cA sd_nw (wX adx cA Sx ++ wY ady cA Sy) (fun q : Nat => s.heap.size ≤ q) s H locs) (hl : lv_has ls 4 [(0, .ref b), (1, .ref (adx 0)), (2, .ref (ady 0)), (3, .int (nI i))]) (hI : Inv Sx Sy) : W p l e room_1 s m #[Value.ref b] below meth c H locs 71 113381 (lw_Z below #[Value.ref b] s) (F0 m 686 ls []) := by
  have hx := C1.1
  have hb := C1.2.1
  obtain ⟨q, r, hq, hr, heq, hI⟩ := hOK Sx Sy (xs (nI i + 1).toNatClampNeg) (xs (nI i + 2).toNatClampNeg) hI
  refine lv_aload_n hx hb dL_law_686 rfl (lv_at hl 1 rfl) ?_
  refine lv_aload_n hx hb dL_law_687 rfl (lv_at hl 0 rfl) ?_
  refine lv_iload_n hx hb dL_law_688 rfl (lv_at hl 3 rfl) ?_
  refine lv_iconst (v := 1) hx hb dL_law_689 (by decide) ?_
  refine lv_iadd hx hb dL_law_690 ?_
  refine va_sld hx hb hX hbl hbA h.2.2.2.1 (lw_ix (k := 1) hL hi (by decide)) dL_law_691 ?_
  refine lv_aload_n hx hb dL_law_692 rfl (lv_at hl 0 rfl) ?_
  refine lv_iload_n hx hb dL_law_693 rfl (lv_at hl 3 rfl) ?_
  refine lv_iconst (v := 2) hx hb dL_law_694 (by decide) ?_
  refine lv_iadd hx hb dL_law_695 ?_
  refine va_sld hx hb hX hbl hbA h.2.2.2.1 (lw_ix (k := 2) hL hi (by decide)) dL_law_696 ?_
  refine lc_i C1 (w := wX adx cA) (S := Sx) (w2 := (wY ady cA Sy)) h kYX9_boat kmL_67 0 (aX_0 adx cA _) rfl [.int (xs (nI i + 1).toNatClampNeg), .int (xs (nI i + 2).toNatClampNeg)] (tX9_boat l D cA adx hq) rfl hl.1 rfl (Nat.le_of_ble_eq_true rfl) (by decide) dL_law_697 (by decide) (fun H locs h => ?_)
  refine lv_aload_n hx hb dL_law_700 rfl (lv_at hl 2 rfl) ?_
  refine lv_aload_n hx hb dL_law_701 rfl (lv_at hl 0 rfl) ?_
  refine lv_iload_n hx hb dL_law_702 rfl (lv_at hl 3 rfl) ?_
  refine lv_iconst (v := 1) hx hb dL_law_703 (by decide) ?_
  refine lv_iadd hx hb dL_law_704 ?_
  refine va_sld hx hb hX hbl hbA h.2.2.2.1 (lw_ix (k := 1) hL hi (by decide)) dL_law_705 ?_
  refine lv_aload_n hx hb dL_law_706 rfl (lv_at hl 0 rfl) ?_
  refine lv_iload_n hx hb dL_law_707 rfl (lv_at hl 3 rfl) ?_
  refine lv_iconst (v := 2) hx hb dL_law_708 (by decide) ?_
  refine lv_iadd hx hb dL_law_709 ?_
  refine va_sld hx hb hX hbl hbA h.2.2.2.1 (lw_ix (k := 2) hL hi (by decide)) dL_law_710 ?_
  replace h := sd_swap h
  refine lc_i C1 (w := wY ady cA) (S := Sy) (w2 := (wX adx cA Sx)) h kYX10_boat kmL_70 0 (aY_0 ady cA _) rfl [.int (xs (nI i + 1).toNatClampNeg), .int (xs (nI i + 2).toNatClampNeg)] (tX10_boat l D cA ady hr) rfl hl.1 rfl (Nat.le_of_ble_eq_true rfl) (by decide) dL_law_711 (by decide) (fun H locs h => ?_)
  replace h := sd_swap h
  refine lv_icmp_eq (tgt := 1239) hx hb dL_law_714 (by decide) (fun c1 => ?_) (fun c1 => absurd heq c1)
  exact hn _ _ H locs ls h hl hI
set_option maxHeartbeats 4000000 in
set_option maxRecDepth 100000 in
theorem lc_water {p : Program} {l : Launch} {e : Env} {s : State} {m : MethodId} {below : List Frame} {meth : Method} {c : Code} {D : va_G} {cA : ClassId} {adx ady : Nat → Nat} {b L : Nat} {xs : Nat → Int32} {z i : Nat} {Inv : St → St → Prop} (C1 : sd_Cx RL cL_law 4 ret (Cond.initialized RX9 :: sd_big) p s m #[Value.ref b] meth c) (hX : va_X b L xs s s.heap) (hbl : b < s.heap.size) (hbA : ¬ (fun q : Nat => s.heap.size ≤ q) b) (hL : L ≤ 4096) (hi : i + 8 ≤ L) (hOK : ok_water z Inv) (hn : ∀ (Sx Sy : St) (H : Heap) (locs : List Loc) (ls : Array Slot), sd_Wl D vwCl cA sd_nw (wX adx cA Sx ++ wY ady cA Sy) (fun q : Nat => s.heap.size ≤ q) s H locs → lv_has ls 4 [(0, .ref b), (1, .ref (adx 0)), (2, .ref (ady 0)), (3, .int (nI i))] → Inv Sx Sy → W p l e room_1 s m #[Value.ref b] below meth c H locs 71 113381 (lw_Z below #[Value.ref b] s) (F0 m 1239 ls [])) (Sx Sy : St) (H : Heap) (locs : List Loc) (ls : Array Slot) (h : sd_Wl D vwCl cA sd_nw (wX adx cA Sx ++ wY ady cA Sy) (fun q : Nat => s.heap.size ≤ q) s H locs) (hl : lv_has ls 4 [(0, .ref b), (1, .ref (adx 0)), (2, .ref (ady 0)), (3, .int (nI i))]) (hI : Inv Sx Sy) : W p l e room_1 s m #[Value.ref b] below meth c H locs 71 113381 (lw_Z below #[Value.ref b] s) (F0 m 719 ls []) := by
  have hx := C1.1
  have hb := C1.2.1
  obtain ⟨q, r, hq, hr, heq, hI⟩ := hOK Sx Sy (xs (nI i + 1).toNatClampNeg) (xs (nI i + 2).toNatClampNeg) (xs (nI i + 3).toNatClampNeg) hI
  refine lv_aload_n hx hb dL_law_719 rfl (lv_at hl 1 rfl) ?_
  refine lv_aload_n hx hb dL_law_720 rfl (lv_at hl 0 rfl) ?_
  refine lv_iload_n hx hb dL_law_721 rfl (lv_at hl 3 rfl) ?_
  refine lv_iconst (v := 1) hx hb dL_law_722 (by decide) ?_
  refine lv_iadd hx hb dL_law_723 ?_
  refine va_sld hx hb hX hbl hbA h.2.2.2.1 (lw_ix (k := 1) hL hi (by decide)) dL_law_724 ?_
  refine lv_aload_n hx hb dL_law_725 rfl (lv_at hl 0 rfl) ?_
  refine lv_iload_n hx hb dL_law_726 rfl (lv_at hl 3 rfl) ?_
  refine lv_iconst (v := 2) hx hb dL_law_727 (by decide) ?_
  refine lv_iadd hx hb dL_law_728 ?_
  refine va_sld hx hb hX hbl hbA h.2.2.2.1 (lw_ix (k := 2) hL hi (by decide)) dL_law_729 ?_
  refine lv_aload_n hx hb dL_law_730 rfl (lv_at hl 0 rfl) ?_
  refine lv_iload_n hx hb dL_law_731 rfl (lv_at hl 3 rfl) ?_
  refine lv_iconst (v := 3) hx hb dL_law_732 (by decide) ?_
  refine lv_iadd hx hb dL_law_733 ?_
  refine va_sld hx hb hX hbl hbA h.2.2.2.1 (lw_ix (k := 3) hL hi (by decide)) dL_law_734 ?_
  refine lc_i C1 (w := wX adx cA) (S := Sx) (w2 := (wY ady cA Sy)) h kYX9_water kmL_71 0 (aX_0 adx cA _) rfl [.int (xs (nI i + 1).toNatClampNeg), .int (xs (nI i + 2).toNatClampNeg), .int (xs (nI i + 3).toNatClampNeg)] (tX9_water l D cA adx hq) rfl hl.1 rfl (Nat.le_of_ble_eq_true rfl) (by decide) dL_law_735 (by decide) (fun H locs h => ?_)
  refine lv_aload_n hx hb dL_law_738 rfl (lv_at hl 2 rfl) ?_
  refine lv_aload_n hx hb dL_law_739 rfl (lv_at hl 0 rfl) ?_
  refine lv_iload_n hx hb dL_law_740 rfl (lv_at hl 3 rfl) ?_
  refine lv_iconst (v := 1) hx hb dL_law_741 (by decide) ?_
  refine lv_iadd hx hb dL_law_742 ?_
  refine va_sld hx hb hX hbl hbA h.2.2.2.1 (lw_ix (k := 1) hL hi (by decide)) dL_law_743 ?_
  refine lv_aload_n hx hb dL_law_744 rfl (lv_at hl 0 rfl) ?_
  refine lv_iload_n hx hb dL_law_745 rfl (lv_at hl 3 rfl) ?_
  refine lv_iconst (v := 2) hx hb dL_law_746 (by decide) ?_
  refine lv_iadd hx hb dL_law_747 ?_
  refine va_sld hx hb hX hbl hbA h.2.2.2.1 (lw_ix (k := 2) hL hi (by decide)) dL_law_748 ?_
  refine lv_aload_n hx hb dL_law_749 rfl (lv_at hl 0 rfl) ?_
  refine lv_iload_n hx hb dL_law_750 rfl (lv_at hl 3 rfl) ?_
  refine lv_iconst (v := 3) hx hb dL_law_751 (by decide) ?_
  refine lv_iadd hx hb dL_law_752 ?_
  refine va_sld hx hb hX hbl hbA h.2.2.2.1 (lw_ix (k := 3) hL hi (by decide)) dL_law_753 ?_
  replace h := sd_swap h
  refine lc_i C1 (w := wY ady cA) (S := Sy) (w2 := (wX adx cA q.2)) h kYX10_water kmL_74 0 (aY_0 ady cA _) rfl [.int (xs (nI i + 1).toNatClampNeg), .int (xs (nI i + 2).toNatClampNeg), .int (xs (nI i + 3).toNatClampNeg)] (tX10_water l D cA ady hr) rfl hl.1 rfl (Nat.le_of_ble_eq_true rfl) (by decide) dL_law_754 (by decide) (fun H locs h => ?_)
  replace h := sd_swap h
  refine lv_icmp_eq (tgt := 1239) hx hb dL_law_757 (by decide) (fun c1 => ?_) (fun c1 => absurd heq c1)
  exact hn _ _ H locs ls h hl hI
set_option maxHeartbeats 4000000 in
set_option maxRecDepth 100000 in
theorem lc_cross {p : Program} {l : Launch} {e : Env} {s : State} {m : MethodId} {below : List Frame} {meth : Method} {c : Code} {D : va_G} {cA : ClassId} {adx ady : Nat → Nat} {b L : Nat} {xs : Nat → Int32} {z i : Nat} {Inv : St → St → Prop} (C1 : sd_Cx RL cL_law 4 ret (Cond.initialized RX9 :: sd_big) p s m #[Value.ref b] meth c) (hX : va_X b L xs s s.heap) (hbl : b < s.heap.size) (hbA : ¬ (fun q : Nat => s.heap.size ≤ q) b) (hL : L ≤ 4096) (hi : i + 8 ≤ L) (hOK : ok_cross z Inv) (hn : ∀ (Sx Sy : St) (H : Heap) (locs : List Loc) (ls : Array Slot), sd_Wl D vwCl cA sd_nw (wX adx cA Sx ++ wY ady cA Sy) (fun q : Nat => s.heap.size ≤ q) s H locs → lv_has ls 4 [(0, .ref b), (1, .ref (adx 0)), (2, .ref (ady 0)), (3, .int (nI i))] → Inv Sx Sy → W p l e room_1 s m #[Value.ref b] below meth c H locs 71 113381 (lw_Z below #[Value.ref b] s) (F0 m 1239 ls [])) (Sx Sy : St) (H : Heap) (locs : List Loc) (ls : Array Slot) (h : sd_Wl D vwCl cA sd_nw (wX adx cA Sx ++ wY ady cA Sy) (fun q : Nat => s.heap.size ≤ q) s H locs) (hl : lv_has ls 4 [(0, .ref b), (1, .ref (adx 0)), (2, .ref (ady 0)), (3, .int (nI i))]) (hI : Inv Sx Sy) : W p l e room_1 s m #[Value.ref b] below meth c H locs 71 113381 (lw_Z below #[Value.ref b] s) (F0 m 762 ls []) := by
  have hx := C1.1
  have hb := C1.2.1
  obtain ⟨q, r, hq, hr, heq, hI⟩ := hOK Sx Sy (xs (nI i + 1).toNatClampNeg) (xs (nI i + 2).toNatClampNeg) (xs (nI i + 3).toNatClampNeg) (xs (nI i + 4).toNatClampNeg) hI
  refine lv_aload_n hx hb dL_law_762 rfl (lv_at hl 1 rfl) ?_
  refine lv_aload_n hx hb dL_law_763 rfl (lv_at hl 0 rfl) ?_
  refine lv_iload_n hx hb dL_law_764 rfl (lv_at hl 3 rfl) ?_
  refine lv_iconst (v := 1) hx hb dL_law_765 (by decide) ?_
  refine lv_iadd hx hb dL_law_766 ?_
  refine va_sld hx hb hX hbl hbA h.2.2.2.1 (lw_ix (k := 1) hL hi (by decide)) dL_law_767 ?_
  refine lv_aload_n hx hb dL_law_768 rfl (lv_at hl 0 rfl) ?_
  refine lv_iload_n hx hb dL_law_769 rfl (lv_at hl 3 rfl) ?_
  refine lv_iconst (v := 2) hx hb dL_law_770 (by decide) ?_
  refine lv_iadd hx hb dL_law_771 ?_
  refine va_sld hx hb hX hbl hbA h.2.2.2.1 (lw_ix (k := 2) hL hi (by decide)) dL_law_772 ?_
  refine lv_aload_n hx hb dL_law_773 rfl (lv_at hl 0 rfl) ?_
  refine lv_iload_n hx hb dL_law_774 rfl (lv_at hl 3 rfl) ?_
  refine lv_iconst (v := 3) hx hb dL_law_775 (by decide) ?_
  refine lv_iadd hx hb dL_law_776 ?_
  refine va_sld hx hb hX hbl hbA h.2.2.2.1 (lw_ix (k := 3) hL hi (by decide)) dL_law_777 ?_
  refine lv_aload_n hx hb dL_law_778 rfl (lv_at hl 0 rfl) ?_
  refine lv_iload_n hx hb dL_law_779 rfl (lv_at hl 3 rfl) ?_
  refine lv_iconst (v := 4) hx hb dL_law_780 (by decide) ?_
  refine lv_iadd hx hb dL_law_781 ?_
  refine va_sld hx hb hX hbl hbA h.2.2.2.1 (lw_ix (k := 4) hL hi (by decide)) dL_law_782 ?_
  refine lc_i C1 (w := wX adx cA) (S := Sx) (w2 := (wY ady cA Sy)) h kYX9_cross kmL_75 0 (aX_0 adx cA _) rfl [.int (xs (nI i + 1).toNatClampNeg), .int (xs (nI i + 2).toNatClampNeg), .int (xs (nI i + 3).toNatClampNeg), .int (xs (nI i + 4).toNatClampNeg)] (tX9_cross l D cA adx hq) rfl hl.1 rfl (Nat.le_of_ble_eq_true rfl) (by decide) dL_law_783 (by decide) (fun H locs h => ?_)
  refine lv_aload_n hx hb dL_law_786 rfl (lv_at hl 2 rfl) ?_
  refine lv_aload_n hx hb dL_law_787 rfl (lv_at hl 0 rfl) ?_
  refine lv_iload_n hx hb dL_law_788 rfl (lv_at hl 3 rfl) ?_
  refine lv_iconst (v := 1) hx hb dL_law_789 (by decide) ?_
  refine lv_iadd hx hb dL_law_790 ?_
  refine va_sld hx hb hX hbl hbA h.2.2.2.1 (lw_ix (k := 1) hL hi (by decide)) dL_law_791 ?_
  refine lv_aload_n hx hb dL_law_792 rfl (lv_at hl 0 rfl) ?_
  refine lv_iload_n hx hb dL_law_793 rfl (lv_at hl 3 rfl) ?_
  refine lv_iconst (v := 2) hx hb dL_law_794 (by decide) ?_
  refine lv_iadd hx hb dL_law_795 ?_
  refine va_sld hx hb hX hbl hbA h.2.2.2.1 (lw_ix (k := 2) hL hi (by decide)) dL_law_796 ?_
  refine lv_aload_n hx hb dL_law_797 rfl (lv_at hl 0 rfl) ?_
  refine lv_iload_n hx hb dL_law_798 rfl (lv_at hl 3 rfl) ?_
  refine lv_iconst (v := 3) hx hb dL_law_799 (by decide) ?_
  refine lv_iadd hx hb dL_law_800 ?_
  refine va_sld hx hb hX hbl hbA h.2.2.2.1 (lw_ix (k := 3) hL hi (by decide)) dL_law_801 ?_
  refine lv_aload_n hx hb dL_law_802 rfl (lv_at hl 0 rfl) ?_
  refine lv_iload_n hx hb dL_law_803 rfl (lv_at hl 3 rfl) ?_
  refine lv_iconst (v := 4) hx hb dL_law_804 (by decide) ?_
  refine lv_iadd hx hb dL_law_805 ?_
  refine va_sld hx hb hX hbl hbA h.2.2.2.1 (lw_ix (k := 4) hL hi (by decide)) dL_law_806 ?_
  replace h := sd_swap h
  refine lc_i C1 (w := wY ady cA) (S := Sy) (w2 := (wX adx cA q.2)) h kYX10_cross kmL_79 0 (aY_0 ady cA _) rfl [.int (xs (nI i + 1).toNatClampNeg), .int (xs (nI i + 2).toNatClampNeg), .int (xs (nI i + 3).toNatClampNeg), .int (xs (nI i + 4).toNatClampNeg)] (tX10_cross l D cA ady hr) rfl hl.1 rfl (Nat.le_of_ble_eq_true rfl) (by decide) dL_law_807 (by decide) (fun H locs h => ?_)
  replace h := sd_swap h
  refine lv_icmp_eq (tgt := 1239) hx hb dL_law_810 (by decide) (fun c1 => ?_) (fun c1 => absurd heq c1)
  exact hn _ _ H locs ls h hl hI
set_option maxHeartbeats 4000000 in
set_option maxRecDepth 100000 in
theorem lc_worst {p : Program} {l : Launch} {e : Env} {s : State} {m : MethodId} {below : List Frame} {meth : Method} {c : Code} {D : va_G} {cA : ClassId} {adx ady : Nat → Nat} {b L : Nat} {xs : Nat → Int32} {z i : Nat} {Inv : St → St → Prop} (C1 : sd_Cx RL cL_law 4 ret (Cond.initialized RX9 :: sd_big) p s m #[Value.ref b] meth c) (hX : va_X b L xs s s.heap) (hbl : b < s.heap.size) (hbA : ¬ (fun q : Nat => s.heap.size ≤ q) b) (hL : L ≤ 4096) (hi : i + 8 ≤ L) (hOK : ok_worst z Inv) (hn : ∀ (Sx Sy : St) (H : Heap) (locs : List Loc) (ls : Array Slot), sd_Wl D vwCl cA sd_nw (wX adx cA Sx ++ wY ady cA Sy) (fun q : Nat => s.heap.size ≤ q) s H locs → lv_has ls 4 [(0, .ref b), (1, .ref (adx 0)), (2, .ref (ady 0)), (3, .int (nI i))] → Inv Sx Sy → W p l e room_1 s m #[Value.ref b] below meth c H locs 71 113381 (lw_Z below #[Value.ref b] s) (F0 m 1239 ls [])) (Sx Sy : St) (H : Heap) (locs : List Loc) (ls : Array Slot) (h : sd_Wl D vwCl cA sd_nw (wX adx cA Sx ++ wY ady cA Sy) (fun q : Nat => s.heap.size ≤ q) s H locs) (hl : lv_has ls 4 [(0, .ref b), (1, .ref (adx 0)), (2, .ref (ady 0)), (3, .int (nI i))]) (hI : Inv Sx Sy) : W p l e room_1 s m #[Value.ref b] below meth c H locs 71 113381 (lw_Z below #[Value.ref b] s) (F0 m 815 ls []) := by
  have hx := C1.1
  have hb := C1.2.1
  obtain ⟨q, r, hq, hr, heq, hI⟩ := hOK Sx Sy (xs (nI i + 1).toNatClampNeg) hI
  refine lv_aload_n hx hb dL_law_815 rfl (lv_at hl 1 rfl) ?_
  refine lv_aload_n hx hb dL_law_816 rfl (lv_at hl 0 rfl) ?_
  refine lv_iload_n hx hb dL_law_817 rfl (lv_at hl 3 rfl) ?_
  refine lv_iconst (v := 1) hx hb dL_law_818 (by decide) ?_
  refine lv_iadd hx hb dL_law_819 ?_
  refine va_sld hx hb hX hbl hbA h.2.2.2.1 (lw_ix (k := 1) hL hi (by decide)) dL_law_820 ?_
  refine lc_i C1 (w := wX adx cA) (S := Sx) (w2 := (wY ady cA Sy)) h kYX9_worst kmL_80 0 (aX_0 adx cA _) rfl [.int (xs (nI i + 1).toNatClampNeg)] (tX9_worst l D cA adx hq) rfl hl.1 rfl (Nat.le_of_ble_eq_true rfl) (by decide) dL_law_821 (by decide) (fun H locs h => ?_)
  refine lv_aload_n hx hb dL_law_824 rfl (lv_at hl 2 rfl) ?_
  refine lv_aload_n hx hb dL_law_825 rfl (lv_at hl 0 rfl) ?_
  refine lv_iload_n hx hb dL_law_826 rfl (lv_at hl 3 rfl) ?_
  refine lv_iconst (v := 1) hx hb dL_law_827 (by decide) ?_
  refine lv_iadd hx hb dL_law_828 ?_
  refine va_sld hx hb hX hbl hbA h.2.2.2.1 (lw_ix (k := 1) hL hi (by decide)) dL_law_829 ?_
  replace h := sd_swap h
  refine lc_i C1 (w := wY ady cA) (S := Sy) (w2 := (wX adx cA q.2)) h kYX10_worst kmL_83 0 (aY_0 ady cA _) rfl [.int (xs (nI i + 1).toNatClampNeg)] (tX10_worst l D cA ady hr) rfl hl.1 rfl (Nat.le_of_ble_eq_true rfl) (by decide) dL_law_830 (by decide) (fun H locs h => ?_)
  replace h := sd_swap h
  refine lv_icmp_eq (tgt := 1239) hx hb dL_law_833 (by decide) (fun c1 => ?_) (fun c1 => absurd heq c1)
  exact hn _ _ H locs ls h hl hI
set_option maxHeartbeats 4000000 in
set_option maxRecDepth 100000 in
theorem lc_shown {p : Program} {l : Launch} {e : Env} {s : State} {m : MethodId} {below : List Frame} {meth : Method} {c : Code} {D : va_G} {cA : ClassId} {adx ady : Nat → Nat} {b L : Nat} {xs : Nat → Int32} {z i : Nat} {Inv : St → St → Prop} (C1 : sd_Cx RL cL_law 4 ret (Cond.initialized RX9 :: sd_big) p s m #[Value.ref b] meth c) (hX : va_X b L xs s s.heap) (hbl : b < s.heap.size) (hbA : ¬ (fun q : Nat => s.heap.size ≤ q) b) (hL : L ≤ 4096) (hi : i + 8 ≤ L) (hOK : ok_shown z Inv) (hn : ∀ (Sx Sy : St) (H : Heap) (locs : List Loc) (ls : Array Slot), sd_Wl D vwCl cA sd_nw (wX adx cA Sx ++ wY ady cA Sy) (fun q : Nat => s.heap.size ≤ q) s H locs → lv_has ls 4 [(0, .ref b), (1, .ref (adx 0)), (2, .ref (ady 0)), (3, .int (nI i))] → Inv Sx Sy → W p l e room_1 s m #[Value.ref b] below meth c H locs 71 113381 (lw_Z below #[Value.ref b] s) (F0 m 1239 ls [])) (Sx Sy : St) (H : Heap) (locs : List Loc) (ls : Array Slot) (h : sd_Wl D vwCl cA sd_nw (wX adx cA Sx ++ wY ady cA Sy) (fun q : Nat => s.heap.size ≤ q) s H locs) (hl : lv_has ls 4 [(0, .ref b), (1, .ref (adx 0)), (2, .ref (ady 0)), (3, .int (nI i))]) (hI : Inv Sx Sy) : W p l e room_1 s m #[Value.ref b] below meth c H locs 71 113381 (lw_Z below #[Value.ref b] s) (F0 m 838 ls []) := by
  have hx := C1.1
  have hb := C1.2.1
  obtain ⟨q, r, hq, hr, heq, hI⟩ := hOK Sx Sy (xs (nI i + 1).toNatClampNeg) (xs (nI i + 2).toNatClampNeg) (xs (nI i + 3).toNatClampNeg) (xs (nI i + 4).toNatClampNeg) hI
  refine lv_aload_n hx hb dL_law_838 rfl (lv_at hl 1 rfl) ?_
  refine lv_aload_n hx hb dL_law_839 rfl (lv_at hl 0 rfl) ?_
  refine lv_iload_n hx hb dL_law_840 rfl (lv_at hl 3 rfl) ?_
  refine lv_iconst (v := 1) hx hb dL_law_841 (by decide) ?_
  refine lv_iadd hx hb dL_law_842 ?_
  refine va_sld hx hb hX hbl hbA h.2.2.2.1 (lw_ix (k := 1) hL hi (by decide)) dL_law_843 ?_
  refine lv_aload_n hx hb dL_law_844 rfl (lv_at hl 0 rfl) ?_
  refine lv_iload_n hx hb dL_law_845 rfl (lv_at hl 3 rfl) ?_
  refine lv_iconst (v := 2) hx hb dL_law_846 (by decide) ?_
  refine lv_iadd hx hb dL_law_847 ?_
  refine va_sld hx hb hX hbl hbA h.2.2.2.1 (lw_ix (k := 2) hL hi (by decide)) dL_law_848 ?_
  refine lv_aload_n hx hb dL_law_849 rfl (lv_at hl 0 rfl) ?_
  refine lv_iload_n hx hb dL_law_850 rfl (lv_at hl 3 rfl) ?_
  refine lv_iconst (v := 3) hx hb dL_law_851 (by decide) ?_
  refine lv_iadd hx hb dL_law_852 ?_
  refine va_sld hx hb hX hbl hbA h.2.2.2.1 (lw_ix (k := 3) hL hi (by decide)) dL_law_853 ?_
  refine lv_aload_n hx hb dL_law_854 rfl (lv_at hl 0 rfl) ?_
  refine lv_iload_n hx hb dL_law_855 rfl (lv_at hl 3 rfl) ?_
  refine lv_iconst (v := 4) hx hb dL_law_856 (by decide) ?_
  refine lv_iadd hx hb dL_law_857 ?_
  refine va_sld hx hb hX hbl hbA h.2.2.2.1 (lw_ix (k := 4) hL hi (by decide)) dL_law_858 ?_
  refine lc_i C1 (w := wX adx cA) (S := Sx) (w2 := (wY ady cA Sy)) h kYX9_shown kmL_84 0 (aX_0 adx cA _) rfl [.int (xs (nI i + 1).toNatClampNeg), .int (xs (nI i + 2).toNatClampNeg), .int (xs (nI i + 3).toNatClampNeg), .int (xs (nI i + 4).toNatClampNeg)] (tX9_shown l D cA adx hq) rfl hl.1 rfl (Nat.le_of_ble_eq_true rfl) (by decide) dL_law_859 (by decide) (fun H locs h => ?_)
  refine lv_aload_n hx hb dL_law_862 rfl (lv_at hl 2 rfl) ?_
  refine lv_aload_n hx hb dL_law_863 rfl (lv_at hl 0 rfl) ?_
  refine lv_iload_n hx hb dL_law_864 rfl (lv_at hl 3 rfl) ?_
  refine lv_iconst (v := 1) hx hb dL_law_865 (by decide) ?_
  refine lv_iadd hx hb dL_law_866 ?_
  refine va_sld hx hb hX hbl hbA h.2.2.2.1 (lw_ix (k := 1) hL hi (by decide)) dL_law_867 ?_
  refine lv_aload_n hx hb dL_law_868 rfl (lv_at hl 0 rfl) ?_
  refine lv_iload_n hx hb dL_law_869 rfl (lv_at hl 3 rfl) ?_
  refine lv_iconst (v := 2) hx hb dL_law_870 (by decide) ?_
  refine lv_iadd hx hb dL_law_871 ?_
  refine va_sld hx hb hX hbl hbA h.2.2.2.1 (lw_ix (k := 2) hL hi (by decide)) dL_law_872 ?_
  refine lv_aload_n hx hb dL_law_873 rfl (lv_at hl 0 rfl) ?_
  refine lv_iload_n hx hb dL_law_874 rfl (lv_at hl 3 rfl) ?_
  refine lv_iconst (v := 3) hx hb dL_law_875 (by decide) ?_
  refine lv_iadd hx hb dL_law_876 ?_
  refine va_sld hx hb hX hbl hbA h.2.2.2.1 (lw_ix (k := 3) hL hi (by decide)) dL_law_877 ?_
  refine lv_aload_n hx hb dL_law_878 rfl (lv_at hl 0 rfl) ?_
  refine lv_iload_n hx hb dL_law_879 rfl (lv_at hl 3 rfl) ?_
  refine lv_iconst (v := 4) hx hb dL_law_880 (by decide) ?_
  refine lv_iadd hx hb dL_law_881 ?_
  refine va_sld hx hb hX hbl hbA h.2.2.2.1 (lw_ix (k := 4) hL hi (by decide)) dL_law_882 ?_
  replace h := sd_swap h
  refine lc_i C1 (w := wY ady cA) (S := Sy) (w2 := (wX adx cA q.2)) h kYX10_shown kmL_87 0 (aY_0 ady cA _) rfl [.int (xs (nI i + 1).toNatClampNeg), .int (xs (nI i + 2).toNatClampNeg), .int (xs (nI i + 3).toNatClampNeg), .int (xs (nI i + 4).toNatClampNeg)] (tX10_shown l D cA ady hr) rfl hl.1 rfl (Nat.le_of_ble_eq_true rfl) (by decide) dL_law_883 (by decide) (fun H locs h => ?_)
  replace h := sd_swap h
  refine lv_icmp_eq (tgt := 1239) hx hb dL_law_886 (by decide) (fun c1 => ?_) (fun c1 => absurd heq c1)
  exact hn _ _ H locs ls h hl hI
set_option maxHeartbeats 4000000 in
set_option maxRecDepth 100000 in
theorem lc_why {p : Program} {l : Launch} {e : Env} {s : State} {m : MethodId} {below : List Frame} {meth : Method} {c : Code} {D : va_G} {cA : ClassId} {adx ady : Nat → Nat} {b L : Nat} {xs : Nat → Int32} {z i : Nat} {Inv : St → St → Prop} (C1 : sd_Cx RL cL_law 4 ret (Cond.initialized RX9 :: sd_big) p s m #[Value.ref b] meth c) (hX : va_X b L xs s s.heap) (hbl : b < s.heap.size) (hbA : ¬ (fun q : Nat => s.heap.size ≤ q) b) (hL : L ≤ 4096) (hi : i + 8 ≤ L) (hOK : ok_why z Inv) (hn : ∀ (Sx Sy : St) (H : Heap) (locs : List Loc) (ls : Array Slot), sd_Wl D vwCl cA sd_nw (wX adx cA Sx ++ wY ady cA Sy) (fun q : Nat => s.heap.size ≤ q) s H locs → lv_has ls 4 [(0, .ref b), (1, .ref (adx 0)), (2, .ref (ady 0)), (3, .int (nI i))] → Inv Sx Sy → W p l e room_1 s m #[Value.ref b] below meth c H locs 71 113381 (lw_Z below #[Value.ref b] s) (F0 m 1239 ls [])) (Sx Sy : St) (H : Heap) (locs : List Loc) (ls : Array Slot) (h : sd_Wl D vwCl cA sd_nw (wX adx cA Sx ++ wY ady cA Sy) (fun q : Nat => s.heap.size ≤ q) s H locs) (hl : lv_has ls 4 [(0, .ref b), (1, .ref (adx 0)), (2, .ref (ady 0)), (3, .int (nI i))]) (hI : Inv Sx Sy) : W p l e room_1 s m #[Value.ref b] below meth c H locs 71 113381 (lw_Z below #[Value.ref b] s) (F0 m 891 ls []) := by
  have hx := C1.1
  have hb := C1.2.1
  obtain ⟨q, r, hq, hr, heq, hI⟩ := hOK Sx Sy (xs (nI i + 1).toNatClampNeg) (xs (nI i + 2).toNatClampNeg) (xs (nI i + 3).toNatClampNeg) hI
  refine lv_aload_n hx hb dL_law_891 rfl (lv_at hl 1 rfl) ?_
  refine lv_aload_n hx hb dL_law_892 rfl (lv_at hl 0 rfl) ?_
  refine lv_iload_n hx hb dL_law_893 rfl (lv_at hl 3 rfl) ?_
  refine lv_iconst (v := 1) hx hb dL_law_894 (by decide) ?_
  refine lv_iadd hx hb dL_law_895 ?_
  refine va_sld hx hb hX hbl hbA h.2.2.2.1 (lw_ix (k := 1) hL hi (by decide)) dL_law_896 ?_
  refine lv_aload_n hx hb dL_law_897 rfl (lv_at hl 0 rfl) ?_
  refine lv_iload_n hx hb dL_law_898 rfl (lv_at hl 3 rfl) ?_
  refine lv_iconst (v := 2) hx hb dL_law_899 (by decide) ?_
  refine lv_iadd hx hb dL_law_900 ?_
  refine va_sld hx hb hX hbl hbA h.2.2.2.1 (lw_ix (k := 2) hL hi (by decide)) dL_law_901 ?_
  refine lv_aload_n hx hb dL_law_902 rfl (lv_at hl 0 rfl) ?_
  refine lv_iload_n hx hb dL_law_903 rfl (lv_at hl 3 rfl) ?_
  refine lv_iconst (v := 3) hx hb dL_law_904 (by decide) ?_
  refine lv_iadd hx hb dL_law_905 ?_
  refine va_sld hx hb hX hbl hbA h.2.2.2.1 (lw_ix (k := 3) hL hi (by decide)) dL_law_906 ?_
  refine lc_i C1 (w := wX adx cA) (S := Sx) (w2 := (wY ady cA Sy)) h kYX9_why kmL_88 0 (aX_0 adx cA _) rfl [.int (xs (nI i + 1).toNatClampNeg), .int (xs (nI i + 2).toNatClampNeg), .int (xs (nI i + 3).toNatClampNeg)] (tX9_why l D cA adx hq) rfl hl.1 rfl (Nat.le_of_ble_eq_true rfl) (by decide) dL_law_907 (by decide) (fun H locs h => ?_)
  refine lv_aload_n hx hb dL_law_910 rfl (lv_at hl 2 rfl) ?_
  refine lv_aload_n hx hb dL_law_911 rfl (lv_at hl 0 rfl) ?_
  refine lv_iload_n hx hb dL_law_912 rfl (lv_at hl 3 rfl) ?_
  refine lv_iconst (v := 1) hx hb dL_law_913 (by decide) ?_
  refine lv_iadd hx hb dL_law_914 ?_
  refine va_sld hx hb hX hbl hbA h.2.2.2.1 (lw_ix (k := 1) hL hi (by decide)) dL_law_915 ?_
  refine lv_aload_n hx hb dL_law_916 rfl (lv_at hl 0 rfl) ?_
  refine lv_iload_n hx hb dL_law_917 rfl (lv_at hl 3 rfl) ?_
  refine lv_iconst (v := 2) hx hb dL_law_918 (by decide) ?_
  refine lv_iadd hx hb dL_law_919 ?_
  refine va_sld hx hb hX hbl hbA h.2.2.2.1 (lw_ix (k := 2) hL hi (by decide)) dL_law_920 ?_
  refine lv_aload_n hx hb dL_law_921 rfl (lv_at hl 0 rfl) ?_
  refine lv_iload_n hx hb dL_law_922 rfl (lv_at hl 3 rfl) ?_
  refine lv_iconst (v := 3) hx hb dL_law_923 (by decide) ?_
  refine lv_iadd hx hb dL_law_924 ?_
  refine va_sld hx hb hX hbl hbA h.2.2.2.1 (lw_ix (k := 3) hL hi (by decide)) dL_law_925 ?_
  replace h := sd_swap h
  refine lc_i C1 (w := wY ady cA) (S := Sy) (w2 := (wX adx cA q.2)) h kYX10_why kmL_91 0 (aY_0 ady cA _) rfl [.int (xs (nI i + 1).toNatClampNeg), .int (xs (nI i + 2).toNatClampNeg), .int (xs (nI i + 3).toNatClampNeg)] (tX10_why l D cA ady hr) rfl hl.1 rfl (Nat.le_of_ble_eq_true rfl) (by decide) dL_law_926 (by decide) (fun H locs h => ?_)
  replace h := sd_swap h
  refine lv_icmp_eq (tgt := 1239) hx hb dL_law_929 (by decide) (fun c1 => ?_) (fun c1 => absurd heq c1)
  exact hn _ _ H locs ls h hl hI
set_option maxHeartbeats 4000000 in
set_option maxRecDepth 100000 in
theorem lc_bottom {p : Program} {l : Launch} {e : Env} {s : State} {m : MethodId} {below : List Frame} {meth : Method} {c : Code} {D : va_G} {cA : ClassId} {adx ady : Nat → Nat} {b L : Nat} {xs : Nat → Int32} {z i : Nat} {Inv : St → St → Prop} (C1 : sd_Cx RL cL_law 4 ret (Cond.initialized RX9 :: sd_big) p s m #[Value.ref b] meth c) (hX : va_X b L xs s s.heap) (hbl : b < s.heap.size) (hbA : ¬ (fun q : Nat => s.heap.size ≤ q) b) (hL : L ≤ 4096) (hi : i + 8 ≤ L) (hOK : ok_bottom z Inv) (hn : ∀ (Sx Sy : St) (H : Heap) (locs : List Loc) (ls : Array Slot), sd_Wl D vwCl cA sd_nw (wX adx cA Sx ++ wY ady cA Sy) (fun q : Nat => s.heap.size ≤ q) s H locs → lv_has ls 4 [(0, .ref b), (1, .ref (adx 0)), (2, .ref (ady 0)), (3, .int (nI i))] → Inv Sx Sy → W p l e room_1 s m #[Value.ref b] below meth c H locs 71 113381 (lw_Z below #[Value.ref b] s) (F0 m 1239 ls [])) (Sx Sy : St) (H : Heap) (locs : List Loc) (ls : Array Slot) (h : sd_Wl D vwCl cA sd_nw (wX adx cA Sx ++ wY ady cA Sy) (fun q : Nat => s.heap.size ≤ q) s H locs) (hl : lv_has ls 4 [(0, .ref b), (1, .ref (adx 0)), (2, .ref (ady 0)), (3, .int (nI i))]) (hI : Inv Sx Sy) : W p l e room_1 s m #[Value.ref b] below meth c H locs 71 113381 (lw_Z below #[Value.ref b] s) (F0 m 934 ls []) := by
  have hx := C1.1
  have hb := C1.2.1
  obtain ⟨q, r, hq, hr, heq, hI⟩ := hOK Sx Sy (xs (nI i + 1).toNatClampNeg) (xs (nI i + 2).toNatClampNeg) hI
  refine lv_aload_n hx hb dL_law_934 rfl (lv_at hl 1 rfl) ?_
  refine lv_aload_n hx hb dL_law_935 rfl (lv_at hl 0 rfl) ?_
  refine lv_iload_n hx hb dL_law_936 rfl (lv_at hl 3 rfl) ?_
  refine lv_iconst (v := 1) hx hb dL_law_937 (by decide) ?_
  refine lv_iadd hx hb dL_law_938 ?_
  refine va_sld hx hb hX hbl hbA h.2.2.2.1 (lw_ix (k := 1) hL hi (by decide)) dL_law_939 ?_
  refine lv_aload_n hx hb dL_law_940 rfl (lv_at hl 0 rfl) ?_
  refine lv_iload_n hx hb dL_law_941 rfl (lv_at hl 3 rfl) ?_
  refine lv_iconst (v := 2) hx hb dL_law_942 (by decide) ?_
  refine lv_iadd hx hb dL_law_943 ?_
  refine va_sld hx hb hX hbl hbA h.2.2.2.1 (lw_ix (k := 2) hL hi (by decide)) dL_law_944 ?_
  refine lc_i C1 (w := wX adx cA) (S := Sx) (w2 := (wY ady cA Sy)) h kYX9_bottom kmL_92 0 (aX_0 adx cA _) rfl [.int (xs (nI i + 1).toNatClampNeg), .int (xs (nI i + 2).toNatClampNeg)] (tX9_bottom l D cA adx hq) rfl hl.1 rfl (Nat.le_of_ble_eq_true rfl) (by decide) dL_law_945 (by decide) (fun H locs h => ?_)
  refine lv_aload_n hx hb dL_law_948 rfl (lv_at hl 2 rfl) ?_
  refine lv_aload_n hx hb dL_law_949 rfl (lv_at hl 0 rfl) ?_
  refine lv_iload_n hx hb dL_law_950 rfl (lv_at hl 3 rfl) ?_
  refine lv_iconst (v := 1) hx hb dL_law_951 (by decide) ?_
  refine lv_iadd hx hb dL_law_952 ?_
  refine va_sld hx hb hX hbl hbA h.2.2.2.1 (lw_ix (k := 1) hL hi (by decide)) dL_law_953 ?_
  refine lv_aload_n hx hb dL_law_954 rfl (lv_at hl 0 rfl) ?_
  refine lv_iload_n hx hb dL_law_955 rfl (lv_at hl 3 rfl) ?_
  refine lv_iconst (v := 2) hx hb dL_law_956 (by decide) ?_
  refine lv_iadd hx hb dL_law_957 ?_
  refine va_sld hx hb hX hbl hbA h.2.2.2.1 (lw_ix (k := 2) hL hi (by decide)) dL_law_958 ?_
  replace h := sd_swap h
  refine lc_i C1 (w := wY ady cA) (S := Sy) (w2 := (wX adx cA q.2)) h kYX10_bottom kmL_95 0 (aY_0 ady cA _) rfl [.int (xs (nI i + 1).toNatClampNeg), .int (xs (nI i + 2).toNatClampNeg)] (tX10_bottom l D cA ady hr) rfl hl.1 rfl (Nat.le_of_ble_eq_true rfl) (by decide) dL_law_959 (by decide) (fun H locs h => ?_)
  replace h := sd_swap h
  refine lv_icmp_eq (tgt := 1239) hx hb dL_law_962 (by decide) (fun c1 => ?_) (fun c1 => absurd heq c1)
  exact hn _ _ H locs ls h hl hI
set_option maxHeartbeats 4000000 in
set_option maxRecDepth 100000 in
theorem lc_deepest {p : Program} {l : Launch} {e : Env} {s : State} {m : MethodId} {below : List Frame} {meth : Method} {c : Code} {D : va_G} {cA : ClassId} {adx ady : Nat → Nat} {b L : Nat} {xs : Nat → Int32} {z i : Nat} {Inv : St → St → Prop} (C1 : sd_Cx RL cL_law 4 ret (Cond.initialized RX9 :: sd_big) p s m #[Value.ref b] meth c) (hX : va_X b L xs s s.heap) (hbl : b < s.heap.size) (hbA : ¬ (fun q : Nat => s.heap.size ≤ q) b) (hL : L ≤ 4096) (hi : i + 8 ≤ L) (hOK : ok_deepest z Inv) (hn : ∀ (Sx Sy : St) (H : Heap) (locs : List Loc) (ls : Array Slot), sd_Wl D vwCl cA sd_nw (wX adx cA Sx ++ wY ady cA Sy) (fun q : Nat => s.heap.size ≤ q) s H locs → lv_has ls 4 [(0, .ref b), (1, .ref (adx 0)), (2, .ref (ady 0)), (3, .int (nI i))] → Inv Sx Sy → W p l e room_1 s m #[Value.ref b] below meth c H locs 71 113381 (lw_Z below #[Value.ref b] s) (F0 m 1239 ls [])) (Sx Sy : St) (H : Heap) (locs : List Loc) (ls : Array Slot) (h : sd_Wl D vwCl cA sd_nw (wX adx cA Sx ++ wY ady cA Sy) (fun q : Nat => s.heap.size ≤ q) s H locs) (hl : lv_has ls 4 [(0, .ref b), (1, .ref (adx 0)), (2, .ref (ady 0)), (3, .int (nI i))]) (hI : Inv Sx Sy) : W p l e room_1 s m #[Value.ref b] below meth c H locs 71 113381 (lw_Z below #[Value.ref b] s) (F0 m 967 ls []) := by
  have hx := C1.1
  have hb := C1.2.1
  obtain ⟨q, r, hq, hr, heq, hI⟩ := hOK Sx Sy (xs (nI i + 1).toNatClampNeg) (xs (nI i + 2).toNatClampNeg) (xs (nI i + 3).toNatClampNeg) hI
  refine lv_aload_n hx hb dL_law_967 rfl (lv_at hl 1 rfl) ?_
  refine lv_aload_n hx hb dL_law_968 rfl (lv_at hl 0 rfl) ?_
  refine lv_iload_n hx hb dL_law_969 rfl (lv_at hl 3 rfl) ?_
  refine lv_iconst (v := 1) hx hb dL_law_970 (by decide) ?_
  refine lv_iadd hx hb dL_law_971 ?_
  refine va_sld hx hb hX hbl hbA h.2.2.2.1 (lw_ix (k := 1) hL hi (by decide)) dL_law_972 ?_
  refine lv_aload_n hx hb dL_law_973 rfl (lv_at hl 0 rfl) ?_
  refine lv_iload_n hx hb dL_law_974 rfl (lv_at hl 3 rfl) ?_
  refine lv_iconst (v := 2) hx hb dL_law_975 (by decide) ?_
  refine lv_iadd hx hb dL_law_976 ?_
  refine va_sld hx hb hX hbl hbA h.2.2.2.1 (lw_ix (k := 2) hL hi (by decide)) dL_law_977 ?_
  refine lv_aload_n hx hb dL_law_978 rfl (lv_at hl 0 rfl) ?_
  refine lv_iload_n hx hb dL_law_979 rfl (lv_at hl 3 rfl) ?_
  refine lv_iconst (v := 3) hx hb dL_law_980 (by decide) ?_
  refine lv_iadd hx hb dL_law_981 ?_
  refine va_sld hx hb hX hbl hbA h.2.2.2.1 (lw_ix (k := 3) hL hi (by decide)) dL_law_982 ?_
  refine lc_i C1 (w := wX adx cA) (S := Sx) (w2 := (wY ady cA Sy)) h kYX9_deepest kmL_96 0 (aX_0 adx cA _) rfl [.int (xs (nI i + 1).toNatClampNeg), .int (xs (nI i + 2).toNatClampNeg), .int (xs (nI i + 3).toNatClampNeg)] (tX9_deepest l D cA adx hq) rfl hl.1 rfl (Nat.le_of_ble_eq_true rfl) (by decide) dL_law_983 (by decide) (fun H locs h => ?_)
  refine lv_aload_n hx hb dL_law_986 rfl (lv_at hl 2 rfl) ?_
  refine lv_aload_n hx hb dL_law_987 rfl (lv_at hl 0 rfl) ?_
  refine lv_iload_n hx hb dL_law_988 rfl (lv_at hl 3 rfl) ?_
  refine lv_iconst (v := 1) hx hb dL_law_989 (by decide) ?_
  refine lv_iadd hx hb dL_law_990 ?_
  refine va_sld hx hb hX hbl hbA h.2.2.2.1 (lw_ix (k := 1) hL hi (by decide)) dL_law_991 ?_
  refine lv_aload_n hx hb dL_law_992 rfl (lv_at hl 0 rfl) ?_
  refine lv_iload_n hx hb dL_law_993 rfl (lv_at hl 3 rfl) ?_
  refine lv_iconst (v := 2) hx hb dL_law_994 (by decide) ?_
  refine lv_iadd hx hb dL_law_995 ?_
  refine va_sld hx hb hX hbl hbA h.2.2.2.1 (lw_ix (k := 2) hL hi (by decide)) dL_law_996 ?_
  refine lv_aload_n hx hb dL_law_997 rfl (lv_at hl 0 rfl) ?_
  refine lv_iload_n hx hb dL_law_998 rfl (lv_at hl 3 rfl) ?_
  refine lv_iconst (v := 3) hx hb dL_law_999 (by decide) ?_
  refine lv_iadd hx hb dL_law_1000 ?_
  refine va_sld hx hb hX hbl hbA h.2.2.2.1 (lw_ix (k := 3) hL hi (by decide)) dL_law_1001 ?_
  replace h := sd_swap h
  refine lc_i C1 (w := wY ady cA) (S := Sy) (w2 := (wX adx cA q.2)) h kYX10_deepest kmL_99 0 (aY_0 ady cA _) rfl [.int (xs (nI i + 1).toNatClampNeg), .int (xs (nI i + 2).toNatClampNeg), .int (xs (nI i + 3).toNatClampNeg)] (tX10_deepest l D cA ady hr) rfl hl.1 rfl (Nat.le_of_ble_eq_true rfl) (by decide) dL_law_1002 (by decide) (fun H locs h => ?_)
  replace h := sd_swap h
  refine lv_icmp_eq (tgt := 1239) hx hb dL_law_1005 (by decide) (fun c1 => ?_) (fun c1 => absurd heq c1)
  exact hn _ _ H locs ls h hl hI
set_option maxHeartbeats 4000000 in
set_option maxRecDepth 100000 in
theorem lc_way {p : Program} {l : Launch} {e : Env} {s : State} {m : MethodId} {below : List Frame} {meth : Method} {c : Code} {D : va_G} {cA : ClassId} {adx ady : Nat → Nat} {b L : Nat} {xs : Nat → Int32} {z i : Nat} {Inv : St → St → Prop} (C1 : sd_Cx RL cL_law 4 ret (Cond.initialized RX9 :: sd_big) p s m #[Value.ref b] meth c) (hX : va_X b L xs s s.heap) (hbl : b < s.heap.size) (hbA : ¬ (fun q : Nat => s.heap.size ≤ q) b) (hL : L ≤ 4096) (hi : i + 8 ≤ L) (hOK : ok_way z Inv) (hn : ∀ (Sx Sy : St) (H : Heap) (locs : List Loc) (ls : Array Slot), sd_Wl D vwCl cA sd_nw (wX adx cA Sx ++ wY ady cA Sy) (fun q : Nat => s.heap.size ≤ q) s H locs → lv_has ls 4 [(0, .ref b), (1, .ref (adx 0)), (2, .ref (ady 0)), (3, .int (nI i))] → Inv Sx Sy → W p l e room_1 s m #[Value.ref b] below meth c H locs 71 113381 (lw_Z below #[Value.ref b] s) (F0 m 1239 ls [])) (Sx Sy : St) (H : Heap) (locs : List Loc) (ls : Array Slot) (h : sd_Wl D vwCl cA sd_nw (wX adx cA Sx ++ wY ady cA Sy) (fun q : Nat => s.heap.size ≤ q) s H locs) (hl : lv_has ls 4 [(0, .ref b), (1, .ref (adx 0)), (2, .ref (ady 0)), (3, .int (nI i))]) (hI : Inv Sx Sy) : W p l e room_1 s m #[Value.ref b] below meth c H locs 71 113381 (lw_Z below #[Value.ref b] s) (F0 m 1010 ls []) := by
  have hx := C1.1
  have hb := C1.2.1
  obtain ⟨q, r, hq, hr, heq, hI⟩ := hOK Sx Sy (xs (nI i + 1).toNatClampNeg) (xs (nI i + 2).toNatClampNeg) (xs (nI i + 3).toNatClampNeg) (xs (nI i + 4).toNatClampNeg) hI
  refine lv_aload_n hx hb dL_law_1010 rfl (lv_at hl 1 rfl) ?_
  refine lv_aload_n hx hb dL_law_1011 rfl (lv_at hl 0 rfl) ?_
  refine lv_iload_n hx hb dL_law_1012 rfl (lv_at hl 3 rfl) ?_
  refine lv_iconst (v := 1) hx hb dL_law_1013 (by decide) ?_
  refine lv_iadd hx hb dL_law_1014 ?_
  refine va_sld hx hb hX hbl hbA h.2.2.2.1 (lw_ix (k := 1) hL hi (by decide)) dL_law_1015 ?_
  refine lv_aload_n hx hb dL_law_1016 rfl (lv_at hl 0 rfl) ?_
  refine lv_iload_n hx hb dL_law_1017 rfl (lv_at hl 3 rfl) ?_
  refine lv_iconst (v := 2) hx hb dL_law_1018 (by decide) ?_
  refine lv_iadd hx hb dL_law_1019 ?_
  refine va_sld hx hb hX hbl hbA h.2.2.2.1 (lw_ix (k := 2) hL hi (by decide)) dL_law_1020 ?_
  refine lv_aload_n hx hb dL_law_1021 rfl (lv_at hl 0 rfl) ?_
  refine lv_iload_n hx hb dL_law_1022 rfl (lv_at hl 3 rfl) ?_
  refine lv_iconst (v := 3) hx hb dL_law_1023 (by decide) ?_
  refine lv_iadd hx hb dL_law_1024 ?_
  refine va_sld hx hb hX hbl hbA h.2.2.2.1 (lw_ix (k := 3) hL hi (by decide)) dL_law_1025 ?_
  refine lv_aload_n hx hb dL_law_1026 rfl (lv_at hl 0 rfl) ?_
  refine lv_iload_n hx hb dL_law_1027 rfl (lv_at hl 3 rfl) ?_
  refine lv_iconst (v := 4) hx hb dL_law_1028 (by decide) ?_
  refine lv_iadd hx hb dL_law_1029 ?_
  refine va_sld hx hb hX hbl hbA h.2.2.2.1 (lw_ix (k := 4) hL hi (by decide)) dL_law_1030 ?_
  refine lc_i C1 (w := wX adx cA) (S := Sx) (w2 := (wY ady cA Sy)) h kYX9_way kmL_100 0 (aX_0 adx cA _) rfl [.int (xs (nI i + 1).toNatClampNeg), .int (xs (nI i + 2).toNatClampNeg), .int (xs (nI i + 3).toNatClampNeg), .int (xs (nI i + 4).toNatClampNeg)] (tX9_way l D cA adx hq) rfl hl.1 rfl (Nat.le_of_ble_eq_true rfl) (by decide) dL_law_1031 (by decide) (fun H locs h => ?_)
  refine lv_aload_n hx hb dL_law_1034 rfl (lv_at hl 2 rfl) ?_
  refine lv_aload_n hx hb dL_law_1035 rfl (lv_at hl 0 rfl) ?_
  refine lv_iload_n hx hb dL_law_1036 rfl (lv_at hl 3 rfl) ?_
  refine lv_iconst (v := 1) hx hb dL_law_1037 (by decide) ?_
  refine lv_iadd hx hb dL_law_1038 ?_
  refine va_sld hx hb hX hbl hbA h.2.2.2.1 (lw_ix (k := 1) hL hi (by decide)) dL_law_1039 ?_
  refine lv_aload_n hx hb dL_law_1040 rfl (lv_at hl 0 rfl) ?_
  refine lv_iload_n hx hb dL_law_1041 rfl (lv_at hl 3 rfl) ?_
  refine lv_iconst (v := 2) hx hb dL_law_1042 (by decide) ?_
  refine lv_iadd hx hb dL_law_1043 ?_
  refine va_sld hx hb hX hbl hbA h.2.2.2.1 (lw_ix (k := 2) hL hi (by decide)) dL_law_1044 ?_
  refine lv_aload_n hx hb dL_law_1045 rfl (lv_at hl 0 rfl) ?_
  refine lv_iload_n hx hb dL_law_1046 rfl (lv_at hl 3 rfl) ?_
  refine lv_iconst (v := 3) hx hb dL_law_1047 (by decide) ?_
  refine lv_iadd hx hb dL_law_1048 ?_
  refine va_sld hx hb hX hbl hbA h.2.2.2.1 (lw_ix (k := 3) hL hi (by decide)) dL_law_1049 ?_
  refine lv_aload_n hx hb dL_law_1050 rfl (lv_at hl 0 rfl) ?_
  refine lv_iload_n hx hb dL_law_1051 rfl (lv_at hl 3 rfl) ?_
  refine lv_iconst (v := 4) hx hb dL_law_1052 (by decide) ?_
  refine lv_iadd hx hb dL_law_1053 ?_
  refine va_sld hx hb hX hbl hbA h.2.2.2.1 (lw_ix (k := 4) hL hi (by decide)) dL_law_1054 ?_
  replace h := sd_swap h
  refine lc_i C1 (w := wY ady cA) (S := Sy) (w2 := (wX adx cA q.2)) h kYX10_way kmL_103 0 (aY_0 ady cA _) rfl [.int (xs (nI i + 1).toNatClampNeg), .int (xs (nI i + 2).toNatClampNeg), .int (xs (nI i + 3).toNatClampNeg), .int (xs (nI i + 4).toNatClampNeg)] (tX10_way l D cA ady hr) rfl hl.1 rfl (Nat.le_of_ble_eq_true rfl) (by decide) dL_law_1055 (by decide) (fun H locs h => ?_)
  replace h := sd_swap h
  refine lv_icmp_eq (tgt := 1239) hx hb dL_law_1058 (by decide) (fun c1 => ?_) (fun c1 => absurd heq c1)
  exact hn _ _ H locs ls h hl hI
set_option maxHeartbeats 4000000 in
set_option maxRecDepth 100000 in
theorem lc_narrow {p : Program} {l : Launch} {e : Env} {s : State} {m : MethodId} {below : List Frame} {meth : Method} {c : Code} {D : va_G} {cA : ClassId} {adx ady : Nat → Nat} {b L : Nat} {xs : Nat → Int32} {z i : Nat} {Inv : St → St → Prop} (C1 : sd_Cx RL cL_law 4 ret (Cond.initialized RX9 :: sd_big) p s m #[Value.ref b] meth c) (hX : va_X b L xs s s.heap) (hbl : b < s.heap.size) (hbA : ¬ (fun q : Nat => s.heap.size ≤ q) b) (hL : L ≤ 4096) (hi : i + 8 ≤ L) (hOK : ok_narrow z Inv) (hn : ∀ (Sx Sy : St) (H : Heap) (locs : List Loc) (ls : Array Slot), sd_Wl D vwCl cA sd_nw (wX adx cA Sx ++ wY ady cA Sy) (fun q : Nat => s.heap.size ≤ q) s H locs → lv_has ls 4 [(0, .ref b), (1, .ref (adx 0)), (2, .ref (ady 0)), (3, .int (nI i))] → Inv Sx Sy → W p l e room_1 s m #[Value.ref b] below meth c H locs 71 113381 (lw_Z below #[Value.ref b] s) (F0 m 1239 ls [])) (Sx Sy : St) (H : Heap) (locs : List Loc) (ls : Array Slot) (h : sd_Wl D vwCl cA sd_nw (wX adx cA Sx ++ wY ady cA Sy) (fun q : Nat => s.heap.size ≤ q) s H locs) (hl : lv_has ls 4 [(0, .ref b), (1, .ref (adx 0)), (2, .ref (ady 0)), (3, .int (nI i))]) (hI : Inv Sx Sy) : W p l e room_1 s m #[Value.ref b] below meth c H locs 71 113381 (lw_Z below #[Value.ref b] s) (F0 m 1063 ls []) := by
  have hx := C1.1
  have hb := C1.2.1
  obtain ⟨q, r, hq, hr, heq, hI⟩ := hOK Sx Sy (xs (nI i + 1).toNatClampNeg) (xs (nI i + 2).toNatClampNeg) (xs (nI i + 3).toNatClampNeg) hI
  refine lv_aload_n hx hb dL_law_1063 rfl (lv_at hl 1 rfl) ?_
  refine lv_aload_n hx hb dL_law_1064 rfl (lv_at hl 0 rfl) ?_
  refine lv_iload_n hx hb dL_law_1065 rfl (lv_at hl 3 rfl) ?_
  refine lv_iconst (v := 1) hx hb dL_law_1066 (by decide) ?_
  refine lv_iadd hx hb dL_law_1067 ?_
  refine va_sld hx hb hX hbl hbA h.2.2.2.1 (lw_ix (k := 1) hL hi (by decide)) dL_law_1068 ?_
  refine lv_aload_n hx hb dL_law_1069 rfl (lv_at hl 0 rfl) ?_
  refine lv_iload_n hx hb dL_law_1070 rfl (lv_at hl 3 rfl) ?_
  refine lv_iconst (v := 2) hx hb dL_law_1071 (by decide) ?_
  refine lv_iadd hx hb dL_law_1072 ?_
  refine va_sld hx hb hX hbl hbA h.2.2.2.1 (lw_ix (k := 2) hL hi (by decide)) dL_law_1073 ?_
  refine lv_aload_n hx hb dL_law_1074 rfl (lv_at hl 0 rfl) ?_
  refine lv_iload_n hx hb dL_law_1075 rfl (lv_at hl 3 rfl) ?_
  refine lv_iconst (v := 3) hx hb dL_law_1076 (by decide) ?_
  refine lv_iadd hx hb dL_law_1077 ?_
  refine va_sld hx hb hX hbl hbA h.2.2.2.1 (lw_ix (k := 3) hL hi (by decide)) dL_law_1078 ?_
  refine lc_i C1 (w := wX adx cA) (S := Sx) (w2 := (wY ady cA Sy)) h kYX9_narrow kmL_104 0 (aX_0 adx cA _) rfl [.int (xs (nI i + 1).toNatClampNeg), .int (xs (nI i + 2).toNatClampNeg), .int (xs (nI i + 3).toNatClampNeg)] (tX9_narrow l D cA adx hq) rfl hl.1 rfl (Nat.le_of_ble_eq_true rfl) (by decide) dL_law_1079 (by decide) (fun H locs h => ?_)
  refine lv_aload_n hx hb dL_law_1082 rfl (lv_at hl 2 rfl) ?_
  refine lv_aload_n hx hb dL_law_1083 rfl (lv_at hl 0 rfl) ?_
  refine lv_iload_n hx hb dL_law_1084 rfl (lv_at hl 3 rfl) ?_
  refine lv_iconst (v := 1) hx hb dL_law_1085 (by decide) ?_
  refine lv_iadd hx hb dL_law_1086 ?_
  refine va_sld hx hb hX hbl hbA h.2.2.2.1 (lw_ix (k := 1) hL hi (by decide)) dL_law_1087 ?_
  refine lv_aload_n hx hb dL_law_1088 rfl (lv_at hl 0 rfl) ?_
  refine lv_iload_n hx hb dL_law_1089 rfl (lv_at hl 3 rfl) ?_
  refine lv_iconst (v := 2) hx hb dL_law_1090 (by decide) ?_
  refine lv_iadd hx hb dL_law_1091 ?_
  refine va_sld hx hb hX hbl hbA h.2.2.2.1 (lw_ix (k := 2) hL hi (by decide)) dL_law_1092 ?_
  refine lv_aload_n hx hb dL_law_1093 rfl (lv_at hl 0 rfl) ?_
  refine lv_iload_n hx hb dL_law_1094 rfl (lv_at hl 3 rfl) ?_
  refine lv_iconst (v := 3) hx hb dL_law_1095 (by decide) ?_
  refine lv_iadd hx hb dL_law_1096 ?_
  refine va_sld hx hb hX hbl hbA h.2.2.2.1 (lw_ix (k := 3) hL hi (by decide)) dL_law_1097 ?_
  replace h := sd_swap h
  refine lc_i C1 (w := wY ady cA) (S := Sy) (w2 := (wX adx cA q.2)) h kYX10_narrow kmL_107 0 (aY_0 ady cA _) rfl [.int (xs (nI i + 1).toNatClampNeg), .int (xs (nI i + 2).toNatClampNeg), .int (xs (nI i + 3).toNatClampNeg)] (tX10_narrow l D cA ady hr) rfl hl.1 rfl (Nat.le_of_ble_eq_true rfl) (by decide) dL_law_1098 (by decide) (fun H locs h => ?_)
  replace h := sd_swap h
  refine lv_icmp_eq (tgt := 1239) hx hb dL_law_1101 (by decide) (fun c1 => ?_) (fun c1 => absurd heq c1)
  exact hn _ _ H locs ls h hl hI
set_option maxHeartbeats 4000000 in
set_option maxRecDepth 100000 in
theorem lc_draught {p : Program} {l : Launch} {e : Env} {s : State} {m : MethodId} {below : List Frame} {meth : Method} {c : Code} {D : va_G} {cA : ClassId} {adx ady : Nat → Nat} {b L : Nat} {xs : Nat → Int32} {z i : Nat} {Inv : St → St → Prop} (C1 : sd_Cx RL cL_law 4 ret (Cond.initialized RX9 :: sd_big) p s m #[Value.ref b] meth c) (hX : va_X b L xs s s.heap) (hbl : b < s.heap.size) (hbA : ¬ (fun q : Nat => s.heap.size ≤ q) b) (hL : L ≤ 4096) (hi : i + 8 ≤ L) (hOK : ok_draught z Inv) (hn : ∀ (Sx Sy : St) (H : Heap) (locs : List Loc) (ls : Array Slot), sd_Wl D vwCl cA sd_nw (wX adx cA Sx ++ wY ady cA Sy) (fun q : Nat => s.heap.size ≤ q) s H locs → lv_has ls 4 [(0, .ref b), (1, .ref (adx 0)), (2, .ref (ady 0)), (3, .int (nI i))] → Inv Sx Sy → W p l e room_1 s m #[Value.ref b] below meth c H locs 71 113381 (lw_Z below #[Value.ref b] s) (F0 m 1239 ls [])) (Sx Sy : St) (H : Heap) (locs : List Loc) (ls : Array Slot) (h : sd_Wl D vwCl cA sd_nw (wX adx cA Sx ++ wY ady cA Sy) (fun q : Nat => s.heap.size ≤ q) s H locs) (hl : lv_has ls 4 [(0, .ref b), (1, .ref (adx 0)), (2, .ref (ady 0)), (3, .int (nI i))]) (hI : Inv Sx Sy) : W p l e room_1 s m #[Value.ref b] below meth c H locs 71 113381 (lw_Z below #[Value.ref b] s) (F0 m 1106 ls []) := by
  have hx := C1.1
  have hb := C1.2.1
  obtain ⟨q, r, hq, hr, heq, hI⟩ := hOK Sx Sy (xs (nI i + 1).toNatClampNeg) (xs (nI i + 2).toNatClampNeg) (xs (nI i + 3).toNatClampNeg) (xs (nI i + 4).toNatClampNeg) hI
  refine lv_aload_n hx hb dL_law_1106 rfl (lv_at hl 1 rfl) ?_
  refine lv_aload_n hx hb dL_law_1107 rfl (lv_at hl 0 rfl) ?_
  refine lv_iload_n hx hb dL_law_1108 rfl (lv_at hl 3 rfl) ?_
  refine lv_iconst (v := 1) hx hb dL_law_1109 (by decide) ?_
  refine lv_iadd hx hb dL_law_1110 ?_
  refine va_sld hx hb hX hbl hbA h.2.2.2.1 (lw_ix (k := 1) hL hi (by decide)) dL_law_1111 ?_
  refine lv_aload_n hx hb dL_law_1112 rfl (lv_at hl 0 rfl) ?_
  refine lv_iload_n hx hb dL_law_1113 rfl (lv_at hl 3 rfl) ?_
  refine lv_iconst (v := 2) hx hb dL_law_1114 (by decide) ?_
  refine lv_iadd hx hb dL_law_1115 ?_
  refine va_sld hx hb hX hbl hbA h.2.2.2.1 (lw_ix (k := 2) hL hi (by decide)) dL_law_1116 ?_
  refine lv_aload_n hx hb dL_law_1117 rfl (lv_at hl 0 rfl) ?_
  refine lv_iload_n hx hb dL_law_1118 rfl (lv_at hl 3 rfl) ?_
  refine lv_iconst (v := 3) hx hb dL_law_1119 (by decide) ?_
  refine lv_iadd hx hb dL_law_1120 ?_
  refine va_sld hx hb hX hbl hbA h.2.2.2.1 (lw_ix (k := 3) hL hi (by decide)) dL_law_1121 ?_
  refine lv_aload_n hx hb dL_law_1122 rfl (lv_at hl 0 rfl) ?_
  refine lv_iload_n hx hb dL_law_1123 rfl (lv_at hl 3 rfl) ?_
  refine lv_iconst (v := 4) hx hb dL_law_1124 (by decide) ?_
  refine lv_iadd hx hb dL_law_1125 ?_
  refine va_sld hx hb hX hbl hbA h.2.2.2.1 (lw_ix (k := 4) hL hi (by decide)) dL_law_1126 ?_
  refine lc_i C1 (w := wX adx cA) (S := Sx) (w2 := (wY ady cA Sy)) h kYX9_draught kmL_108 0 (aX_0 adx cA _) rfl [.int (xs (nI i + 1).toNatClampNeg), .int (xs (nI i + 2).toNatClampNeg), .int (xs (nI i + 3).toNatClampNeg), .int (xs (nI i + 4).toNatClampNeg)] (tX9_draught l D cA adx hq) rfl hl.1 rfl (Nat.le_of_ble_eq_true rfl) (by decide) dL_law_1127 (by decide) (fun H locs h => ?_)
  refine lv_aload_n hx hb dL_law_1130 rfl (lv_at hl 2 rfl) ?_
  refine lv_aload_n hx hb dL_law_1131 rfl (lv_at hl 0 rfl) ?_
  refine lv_iload_n hx hb dL_law_1132 rfl (lv_at hl 3 rfl) ?_
  refine lv_iconst (v := 1) hx hb dL_law_1133 (by decide) ?_
  refine lv_iadd hx hb dL_law_1134 ?_
  refine va_sld hx hb hX hbl hbA h.2.2.2.1 (lw_ix (k := 1) hL hi (by decide)) dL_law_1135 ?_
  refine lv_aload_n hx hb dL_law_1136 rfl (lv_at hl 0 rfl) ?_
  refine lv_iload_n hx hb dL_law_1137 rfl (lv_at hl 3 rfl) ?_
  refine lv_iconst (v := 2) hx hb dL_law_1138 (by decide) ?_
  refine lv_iadd hx hb dL_law_1139 ?_
  refine va_sld hx hb hX hbl hbA h.2.2.2.1 (lw_ix (k := 2) hL hi (by decide)) dL_law_1140 ?_
  refine lv_aload_n hx hb dL_law_1141 rfl (lv_at hl 0 rfl) ?_
  refine lv_iload_n hx hb dL_law_1142 rfl (lv_at hl 3 rfl) ?_
  refine lv_iconst (v := 3) hx hb dL_law_1143 (by decide) ?_
  refine lv_iadd hx hb dL_law_1144 ?_
  refine va_sld hx hb hX hbl hbA h.2.2.2.1 (lw_ix (k := 3) hL hi (by decide)) dL_law_1145 ?_
  refine lv_aload_n hx hb dL_law_1146 rfl (lv_at hl 0 rfl) ?_
  refine lv_iload_n hx hb dL_law_1147 rfl (lv_at hl 3 rfl) ?_
  refine lv_iconst (v := 4) hx hb dL_law_1148 (by decide) ?_
  refine lv_iadd hx hb dL_law_1149 ?_
  refine va_sld hx hb hX hbl hbA h.2.2.2.1 (lw_ix (k := 4) hL hi (by decide)) dL_law_1150 ?_
  replace h := sd_swap h
  refine lc_i C1 (w := wY ady cA) (S := Sy) (w2 := (wX adx cA q.2)) h kYX10_draught kmL_112 0 (aY_0 ady cA _) rfl [.int (xs (nI i + 1).toNatClampNeg), .int (xs (nI i + 2).toNatClampNeg), .int (xs (nI i + 3).toNatClampNeg), .int (xs (nI i + 4).toNatClampNeg)] (tX10_draught l D cA ady hr) rfl hl.1 rfl (Nat.le_of_ble_eq_true rfl) (by decide) dL_law_1151 (by decide) (fun H locs h => ?_)
  replace h := sd_swap h
  refine lv_icmp_eq (tgt := 1239) hx hb dL_law_1154 (by decide) (fun c1 => ?_) (fun c1 => absurd heq c1)
  exact hn _ _ H locs ls h hl hI
set_option maxHeartbeats 4000000 in
set_option maxRecDepth 100000 in
theorem lc_check {p : Program} {l : Launch} {e : Env} {s : State} {m : MethodId} {below : List Frame} {meth : Method} {c : Code} {D : va_G} {cA : ClassId} {adx ady : Nat → Nat} {b L : Nat} {xs : Nat → Int32} {z i : Nat} {Inv : St → St → Prop} (C1 : sd_Cx RL cL_law 4 ret (Cond.initialized RX9 :: sd_big) p s m #[Value.ref b] meth c) (hX : va_X b L xs s s.heap) (hbl : b < s.heap.size) (hbA : ¬ (fun q : Nat => s.heap.size ≤ q) b) (hL : L ≤ 4096) (hi : i + 8 ≤ L) (hOK : ok_check z Inv) (hn : ∀ (Sx Sy : St) (H : Heap) (locs : List Loc) (ls : Array Slot), sd_Wl D vwCl cA sd_nw (wX adx cA Sx ++ wY ady cA Sy) (fun q : Nat => s.heap.size ≤ q) s H locs → lv_has ls 4 [(0, .ref b), (1, .ref (adx 0)), (2, .ref (ady 0)), (3, .int (nI i))] → Inv Sx Sy → W p l e room_1 s m #[Value.ref b] below meth c H locs 71 113381 (lw_Z below #[Value.ref b] s) (F0 m 1239 ls [])) (Sx Sy : St) (H : Heap) (locs : List Loc) (ls : Array Slot) (h : sd_Wl D vwCl cA sd_nw (wX adx cA Sx ++ wY ady cA Sy) (fun q : Nat => s.heap.size ≤ q) s H locs) (hl : lv_has ls 4 [(0, .ref b), (1, .ref (adx 0)), (2, .ref (ady 0)), (3, .int (nI i))]) (hI : Inv Sx Sy) : W p l e room_1 s m #[Value.ref b] below meth c H locs 71 113381 (lw_Z below #[Value.ref b] s) (F0 m 1159 ls []) := by
  have hx := C1.1
  have hb := C1.2.1
  obtain ⟨q, r, hq, hr, heq, hI⟩ := hOK Sx Sy (xs (nI i + 1).toNatClampNeg) (xs (nI i + 2).toNatClampNeg) (xs (nI i + 3).toNatClampNeg) hI
  refine lv_aload_n hx hb dL_law_1159 rfl (lv_at hl 1 rfl) ?_
  refine lv_aload_n hx hb dL_law_1160 rfl (lv_at hl 0 rfl) ?_
  refine lv_iload_n hx hb dL_law_1161 rfl (lv_at hl 3 rfl) ?_
  refine lv_iconst (v := 1) hx hb dL_law_1162 (by decide) ?_
  refine lv_iadd hx hb dL_law_1163 ?_
  refine va_sld hx hb hX hbl hbA h.2.2.2.1 (lw_ix (k := 1) hL hi (by decide)) dL_law_1164 ?_
  refine lv_aload_n hx hb dL_law_1165 rfl (lv_at hl 0 rfl) ?_
  refine lv_iload_n hx hb dL_law_1166 rfl (lv_at hl 3 rfl) ?_
  refine lv_iconst (v := 2) hx hb dL_law_1167 (by decide) ?_
  refine lv_iadd hx hb dL_law_1168 ?_
  refine va_sld hx hb hX hbl hbA h.2.2.2.1 (lw_ix (k := 2) hL hi (by decide)) dL_law_1169 ?_
  refine lv_aload_n hx hb dL_law_1170 rfl (lv_at hl 0 rfl) ?_
  refine lv_iload_n hx hb dL_law_1171 rfl (lv_at hl 3 rfl) ?_
  refine lv_iconst (v := 3) hx hb dL_law_1172 (by decide) ?_
  refine lv_iadd hx hb dL_law_1173 ?_
  refine va_sld hx hb hX hbl hbA h.2.2.2.1 (lw_ix (k := 3) hL hi (by decide)) dL_law_1174 ?_
  refine lc_i C1 (w := wX adx cA) (S := Sx) (w2 := (wY ady cA Sy)) h kYX9_check kmL_113 0 (aX_0 adx cA _) rfl [.int (xs (nI i + 1).toNatClampNeg), .int (xs (nI i + 2).toNatClampNeg), .int (xs (nI i + 3).toNatClampNeg)] (tX9_check l D cA adx hq) rfl hl.1 rfl (Nat.le_of_ble_eq_true rfl) (by decide) dL_law_1175 (by decide) (fun H locs h => ?_)
  refine lv_aload_n hx hb dL_law_1178 rfl (lv_at hl 2 rfl) ?_
  refine lv_aload_n hx hb dL_law_1179 rfl (lv_at hl 0 rfl) ?_
  refine lv_iload_n hx hb dL_law_1180 rfl (lv_at hl 3 rfl) ?_
  refine lv_iconst (v := 1) hx hb dL_law_1181 (by decide) ?_
  refine lv_iadd hx hb dL_law_1182 ?_
  refine va_sld hx hb hX hbl hbA h.2.2.2.1 (lw_ix (k := 1) hL hi (by decide)) dL_law_1183 ?_
  refine lv_aload_n hx hb dL_law_1184 rfl (lv_at hl 0 rfl) ?_
  refine lv_iload_n hx hb dL_law_1185 rfl (lv_at hl 3 rfl) ?_
  refine lv_iconst (v := 2) hx hb dL_law_1186 (by decide) ?_
  refine lv_iadd hx hb dL_law_1187 ?_
  refine va_sld hx hb hX hbl hbA h.2.2.2.1 (lw_ix (k := 2) hL hi (by decide)) dL_law_1188 ?_
  refine lv_aload_n hx hb dL_law_1189 rfl (lv_at hl 0 rfl) ?_
  refine lv_iload_n hx hb dL_law_1190 rfl (lv_at hl 3 rfl) ?_
  refine lv_iconst (v := 3) hx hb dL_law_1191 (by decide) ?_
  refine lv_iadd hx hb dL_law_1192 ?_
  refine va_sld hx hb hX hbl hbA h.2.2.2.1 (lw_ix (k := 3) hL hi (by decide)) dL_law_1193 ?_
  replace h := sd_swap h
  refine lc_i C1 (w := wY ady cA) (S := Sy) (w2 := (wX adx cA q.2)) h kYX10_check kmL_116 0 (aY_0 ady cA _) rfl [.int (xs (nI i + 1).toNatClampNeg), .int (xs (nI i + 2).toNatClampNeg), .int (xs (nI i + 3).toNatClampNeg)] (tX10_check l D cA ady hr) rfl hl.1 rfl (Nat.le_of_ble_eq_true rfl) (by decide) dL_law_1194 (by decide) (fun H locs h => ?_)
  replace h := sd_swap h
  refine lv_icmp_eq (tgt := 1239) hx hb dL_law_1197 (by decide) (fun c1 => ?_) (fun c1 => absurd heq c1)
  exact hn _ _ H locs ls h hl hI
set_option maxHeartbeats 4000000 in
set_option maxRecDepth 100000 in
theorem lc_undo {p : Program} {l : Launch} {e : Env} {s : State} {m : MethodId} {below : List Frame} {meth : Method} {c : Code} {D : va_G} {cA : ClassId} {adx ady : Nat → Nat} {b L : Nat} {xs : Nat → Int32} {z i : Nat} {Inv : St → St → Prop} (C1 : sd_Cx RL cL_law 4 ret (Cond.initialized RX9 :: sd_big) p s m #[Value.ref b] meth c) (hX : va_X b L xs s s.heap) (hbl : b < s.heap.size) (hbA : ¬ (fun q : Nat => s.heap.size ≤ q) b) (hL : L ≤ 4096) (hi : i + 8 ≤ L) (hOK : ok_undo z Inv) (hn : ∀ (Sx Sy : St) (H : Heap) (locs : List Loc) (ls : Array Slot), sd_Wl D vwCl cA sd_nw (wX adx cA Sx ++ wY ady cA Sy) (fun q : Nat => s.heap.size ≤ q) s H locs → lv_has ls 4 [(0, .ref b), (1, .ref (adx 0)), (2, .ref (ady 0)), (3, .int (nI i))] → Inv Sx Sy → W p l e room_1 s m #[Value.ref b] below meth c H locs 71 113381 (lw_Z below #[Value.ref b] s) (F0 m 1239 ls [])) (Sx Sy : St) (H : Heap) (locs : List Loc) (ls : Array Slot) (h : sd_Wl D vwCl cA sd_nw (wX adx cA Sx ++ wY ady cA Sy) (fun q : Nat => s.heap.size ≤ q) s H locs) (hl : lv_has ls 4 [(0, .ref b), (1, .ref (adx 0)), (2, .ref (ady 0)), (3, .int (nI i))]) (hI : Inv Sx Sy) : W p l e room_1 s m #[Value.ref b] below meth c H locs 71 113381 (lw_Z below #[Value.ref b] s) (F0 m 1202 ls []) := by
  have hx := C1.1
  have hb := C1.2.1
  obtain ⟨q, r, hq, hr, heq, hI⟩ := hOK Sx Sy  hI
  refine lv_aload_n hx hb dL_law_1202 rfl (lv_at hl 1 rfl) ?_
  refine lc_i C1 (w := wX adx cA) (S := Sx) (w2 := (wY ady cA Sy)) h kYX9_undo kmL_117 0 (aX_0 adx cA _) rfl [] (tX9_undo l D cA adx hq) rfl hl.1 rfl (Nat.le_of_ble_eq_true rfl) (by decide) dL_law_1203 (by decide) (fun H locs h => ?_)
  refine lv_aload_n hx hb dL_law_1206 rfl (lv_at hl 2 rfl) ?_
  replace h := sd_swap h
  refine lc_i C1 (w := wY ady cA) (S := Sy) (w2 := (wX adx cA q.2)) h kYX10_undo kmL_121 0 (aY_0 ady cA _) rfl [] (tX10_undo l D cA ady hr) rfl hl.1 rfl (Nat.le_of_ble_eq_true rfl) (by decide) dL_law_1207 (by decide) (fun H locs h => ?_)
  replace h := sd_swap h
  refine lv_icmp_eq (tgt := 1239) hx hb dL_law_1210 (by decide) (fun c1 => ?_) (fun c1 => absurd heq c1)
  exact hn _ _ H locs ls h hl hI
set_option maxHeartbeats 4000000 in
set_option maxRecDepth 100000 in
theorem lc_image {p : Program} {l : Launch} {e : Env} {s : State} {m : MethodId} {below : List Frame} {meth : Method} {c : Code} {D : va_G} {cA : ClassId} {adx ady : Nat → Nat} {b L : Nat} {xs : Nat → Int32} {z i : Nat} {Inv : St → St → Prop} (C1 : sd_Cx RL cL_law 4 ret (Cond.initialized RX9 :: sd_big) p s m #[Value.ref b] meth c) (hX : va_X b L xs s s.heap) (hbl : b < s.heap.size) (hbA : ¬ (fun q : Nat => s.heap.size ≤ q) b) (hL : L ≤ 4096) (hi : i + 8 ≤ L) (hOK : ok_image z Inv) (hn : ∀ (Sx Sy : St) (H : Heap) (locs : List Loc) (ls : Array Slot), sd_Wl D vwCl cA sd_nw (wX adx cA Sx ++ wY ady cA Sy) (fun q : Nat => s.heap.size ≤ q) s H locs → lv_has ls 4 [(0, .ref b), (1, .ref (adx 0)), (2, .ref (ady 0)), (3, .int (nI i))] → Inv Sx Sy → W p l e room_1 s m #[Value.ref b] below meth c H locs 71 113381 (lw_Z below #[Value.ref b] s) (F0 m 1239 ls [])) (Sx Sy : St) (H : Heap) (locs : List Loc) (ls : Array Slot) (h : sd_Wl D vwCl cA sd_nw (wX adx cA Sx ++ wY ady cA Sy) (fun q : Nat => s.heap.size ≤ q) s H locs) (hl : lv_has ls 4 [(0, .ref b), (1, .ref (adx 0)), (2, .ref (ady 0)), (3, .int (nI i))]) (hI : Inv Sx Sy) : W p l e room_1 s m #[Value.ref b] below meth c H locs 71 113381 (lw_Z below #[Value.ref b] s) (F0 m 1215 ls []) := by
  have hx := C1.1
  have hb := C1.2.1
  obtain ⟨q, r, hq, hr, hI⟩ := hOK Sx Sy  hI
  refine lv_aload_n hx hb dL_law_1215 rfl (lv_at hl 1 rfl) ?_
  refine lc_v C1 (w := wX adx cA) (S := Sx) (w2 := (wY ady cA Sy)) h kYX9_image kmL_122 0 (aX_0 adx cA _) rfl [] (tX9_image l D cA adx hq) rfl hl.1 rfl (Nat.le_of_ble_eq_true rfl) (by decide) dL_law_1216 (by decide) (fun H locs h => ?_)
  refine lv_aload_n hx hb dL_law_1219 rfl (lv_at hl 2 rfl) ?_
  replace h := sd_swap h
  refine lc_v C1 (w := wY ady cA) (S := Sy) (w2 := (wX adx cA q)) h kYX10_image kmL_125 0 (aY_0 ady cA _) rfl [] (tX10_image l D cA ady hr) rfl hl.1 rfl (Nat.le_of_ble_eq_true rfl) (by decide) dL_law_1220 (by decide) (fun H locs h => ?_)
  replace h := sd_swap h
  refine lv_goto (tgt := 1239) hx hb dL_law_1223 (by decide) ?_
  exact hn _ _ H locs ls h hl hI
set_option maxHeartbeats 4000000 in
set_option maxRecDepth 100000 in
theorem lc_load {p : Program} {l : Launch} {e : Env} {s : State} {m : MethodId} {below : List Frame} {meth : Method} {c : Code} {D : va_G} {cA : ClassId} {adx ady : Nat → Nat} {b L : Nat} {xs : Nat → Int32} {z i : Nat} {Inv : St → St → Prop} (C1 : sd_Cx RL cL_law 4 ret (Cond.initialized RX9 :: sd_big) p s m #[Value.ref b] meth c) (hX : va_X b L xs s s.heap) (hbl : b < s.heap.size) (hbA : ¬ (fun q : Nat => s.heap.size ≤ q) b) (hL : L ≤ 4096) (hi : i + 8 ≤ L) (hOK : ok_load z Inv) (hn : ∀ (Sx Sy : St) (H : Heap) (locs : List Loc) (ls : Array Slot), sd_Wl D vwCl cA sd_nw (wX adx cA Sx ++ wY ady cA Sy) (fun q : Nat => s.heap.size ≤ q) s H locs → lv_has ls 4 [(0, .ref b), (1, .ref (adx 0)), (2, .ref (ady 0)), (3, .int (nI i))] → Inv Sx Sy → W p l e room_1 s m #[Value.ref b] below meth c H locs 71 113381 (lw_Z below #[Value.ref b] s) (F0 m 1239 ls [])) (Sx Sy : St) (H : Heap) (locs : List Loc) (ls : Array Slot) (h : sd_Wl D vwCl cA sd_nw (wX adx cA Sx ++ wY ady cA Sy) (fun q : Nat => s.heap.size ≤ q) s H locs) (hl : lv_has ls 4 [(0, .ref b), (1, .ref (adx 0)), (2, .ref (ady 0)), (3, .int (nI i))]) (hI : Inv Sx Sy) : W p l e room_1 s m #[Value.ref b] below meth c H locs 71 113381 (lw_Z below #[Value.ref b] s) (F0 m 1226 ls []) := by
  have hx := C1.1
  have hb := C1.2.1
  obtain ⟨q, r, hq, hr, heq, hI⟩ := hOK Sx Sy  hI
  refine lv_aload_n hx hb dL_law_1226 rfl (lv_at hl 1 rfl) ?_
  refine lc_i C1 (w := wX adx cA) (S := Sx) (w2 := (wY ady cA Sy)) h kYX9_load kmL_126 0 (aX_0 adx cA _) rfl [] (tX9_load l D cA adx hq) rfl hl.1 rfl (Nat.le_of_ble_eq_true rfl) (by decide) dL_law_1227 (by decide) (fun H locs h => ?_)
  refine lv_aload_n hx hb dL_law_1230 rfl (lv_at hl 2 rfl) ?_
  replace h := sd_swap h
  refine lc_i C1 (w := wY ady cA) (S := Sy) (w2 := (wX adx cA q.2)) h kYX10_load kmL_129 0 (aY_0 ady cA _) rfl [] (tX10_load l D cA ady hr) rfl hl.1 rfl (Nat.le_of_ble_eq_true rfl) (by decide) dL_law_1231 (by decide) (fun H locs h => ?_)
  replace h := sd_swap h
  refine lv_icmp_eq (tgt := 1239) hx hb dL_law_1234 (by decide) (fun c1 => ?_) (fun c1 => absurd heq c1)
  exact hn _ _ H locs ls h hl hI
set_option maxHeartbeats 4000000 in
set_option maxRecDepth 100000 in
theorem law_loop {p : Program} {l : Launch} {e : Env} {s : State} {m : MethodId} {below : List Frame} {meth : Method} {c : Code} {D : va_G} {cA : ClassId} {adx ady : Nat → Nat} {b L : Nat} {xs : Nat → Int32} {z : Nat} {Inv : St → St → Prop} (C1 : sd_Cx RL cL_law 4 ret (Cond.initialized RX9 :: sd_big) p s m #[Value.ref b] meth c) (hX : va_X b L xs s s.heap) (hbl : b < s.heap.size) (hL : L ≤ 4096) (hOK : LawOK z Inv) : ∀ (n i : Nat) (Sx Sy : St) (H : Heap) (locs : List Loc) (ls : Array Slot), L < i + 8 * n → i ≤ 8192 → sd_Wl D vwCl cA sd_nw (wX adx cA Sx ++ wY ady cA Sy) (fun q : Nat => s.heap.size ≤ q) s H locs → lv_has ls 4 [(0, .ref b), (1, .ref (adx 0)), (2, .ref (ady 0)), (3, .int (nI i))] → Inv Sx Sy → W p l e room_1 s m #[Value.ref b] below meth c H locs 71 113381 (lw_Z below #[Value.ref b] s) (F0 m 18 ls []) := by
  have hbA : ¬ (fun q : Nat => s.heap.size ≤ q) b := Nat.not_le.mpr hbl
  have hx := C1.1
  have hb := C1.2.1
  obtain ⟨ok0, ok1, ok2, ok3, ok4, ok5, ok6, ok7, ok8, ok9, ok10, ok11, ok12, ok13, ok14, ok15, ok16, ok17, ok18, ok19, ok20, ok21, ok22, ok23, ok24, ok25, ok26⟩ := hOK
  intro n
  induction n with
  | zero =>
    intro i Sx Sy H locs ls hn hi8 h hl hI
    refine lv_iload_n hx hb dL_law_18 rfl (lv_at hl 3 rfl) ?_
    refine lv_aload_n hx hb dL_law_19 rfl (lv_at hl 0 rfl) ?_
    refine va_slen hx hb hX hbl hbA h.2.2.2.1 dL_law_20 ?_
    refine lv_bipush (v := 8) hx hb dL_law_21 (by decide) ?_
    refine lv_isub hx hb dL_law_23 ?_
    refine lv_icmp_gt (tgt := 1245) hx hb dL_law_24 (by decide) (fun c1 => ?_) (fun c1 => ?_)
    · refine lv_iconst (v := 1) hx hb dL_law_1245 (by decide) ?_
      refine va_forget (fun q hq => h.2.2.2.1.2.2 q hq) ?_
      refine W.widen (k := 600000) (n := 7302250) (by decide) (by decide) ?_
      exact lw_ret hx hb C1.2.2.2.2.2.1 C1.2.2.2.2.2.2 dL_law_1246
    · have := lw_len hL hi8 c1
      omega
  | succ n ih =>
    intro i Sx Sy H locs ls hn hi8 h hl hI
    refine lv_iload_n hx hb dL_law_18 rfl (lv_at hl 3 rfl) ?_
    refine lv_aload_n hx hb dL_law_19 rfl (lv_at hl 0 rfl) ?_
    refine va_slen hx hb hX hbl hbA h.2.2.2.1 dL_law_20 ?_
    refine lv_bipush (v := 8) hx hb dL_law_21 (by decide) ?_
    refine lv_isub hx hb dL_law_23 ?_
    refine lv_icmp_gt (tgt := 1245) hx hb dL_law_24 (by decide) (fun c1 => ?_) (fun c1 => ?_)
    · refine lv_iconst (v := 1) hx hb dL_law_1245 (by decide) ?_
      refine va_forget (fun q hq => h.2.2.2.1.2.2 q hq) ?_
      refine W.widen (k := 600000) (n := 7302250) (by decide) (by decide) ?_
      exact lw_ret hx hb C1.2.2.2.2.2.1 C1.2.2.2.2.2.2 dL_law_1246
    have hi := lw_len hL hi8 c1
    have hnx : ∀ (Sx Sy : St) (H : Heap) (locs : List Loc) (ls : Array Slot), sd_Wl D vwCl cA sd_nw (wX adx cA Sx ++ wY ady cA Sy) (fun q : Nat => s.heap.size ≤ q) s H locs → lv_has ls 4 [(0, .ref b), (1, .ref (adx 0)), (2, .ref (ady 0)), (3, .int (nI i))] → Inv Sx Sy → W p l e room_1 s m #[Value.ref b] below meth c H locs 71 113381 (lw_Z below #[Value.ref b] s) (F0 m 1239 ls []) := by
      intro Sx Sy H locs ls h hl hI
      refine lv_iinc (v := nI (i + 8)) (lv' := [(3, .int (nI (i + 8))), (0, .ref b), (1, .ref (adx 0)), (2, .ref (ady 0))]) hx hb dL_law_1239 hl (k := 3) rfl (lw_i8 i) (by decide) rfl (fun ls hl => ?_)
      refine lv_goto (tgt := 18) hx hb dL_law_1242 (by decide) ?_
      exact ih (i + 8) Sx Sy H locs ls (by omega) (by omega) h (lv_sub hl [1, 2, 3, 0] rfl) hI
    refine lv_aload_n hx hb dL_law_27 rfl (lv_at hl 0 rfl) ?_
    refine lv_iload_n hx hb dL_law_28 rfl (lv_at hl 3 rfl) ?_
    refine va_sld hx hb hX hbl hbA h.2.2.2.1 (lw_ix0 hL hi) dL_law_29 ?_
    refine lv_bipush (v := 31) hx hb dL_law_30 (by decide) ?_
    refine lv_iand hx hb dL_law_32 ?_
    refine lv_topi (fun x hxe => ?_)
    by_cases c_0 : x = 0
    · refine lv_tableIn (off := 123) (tgt := 156) hx hb dL_law_33 (by rw [c_0]; decide) (by rw [c_0]; decide) (by rw [c_0]; rfl) (by decide) ?_
      exact lc_line C1 hX hbl hbA hL hi ok0 hnx Sx Sy H locs ls h hl hI
    by_cases c_1 : x = 1
    · refine lv_tableIn (off := 156) (tgt := 189) hx hb dL_law_33 (by rw [c_1]; decide) (by rw [c_1]; decide) (by rw [c_1]; rfl) (by decide) ?_
      exact lc_tide C1 hX hbl hbA hL hi ok1 hnx Sx Sy H locs ls h hl hI
    by_cases c_2 : x = 2
    · refine lv_tableIn (off := 199) (tgt := 232) hx hb dL_law_33 (by rw [c_2]; decide) (by rw [c_2]; decide) (by rw [c_2]; rfl) (by decide) ?_
      exact lc_speed C1 hX hbl hbA hL hi ok2 hnx Sx Sy H locs ls h hl hI
    by_cases c_3 : x = 3
    · refine lv_tableIn (off := 232) (tgt := 265) hx hb dL_law_33 (by rw [c_3]; decide) (by rw [c_3]; decide) (by rw [c_3]; rfl) (by decide) ?_
      exact lc_shift C1 hX hbl hbA hL hi ok3 hnx Sx Sy H locs ls h hl hI
    by_cases c_4 : x = 4
    · refine lv_tableIn (off := 265) (tgt := 298) hx hb dL_law_33 (by rw [c_4]; decide) (by rw [c_4]; decide) (by rw [c_4]; rfl) (by decide) ?_
      exact lc_lead C1 hX hbl hbA hL hi ok4 hnx Sx Sy H locs ls h hl hI
    by_cases c_5 : x = 5
    · refine lv_tableIn (off := 328) (tgt := 361) hx hb dL_law_33 (by rw [c_5]; decide) (by rw [c_5]; decide) (by rw [c_5]; rfl) (by decide) ?_
      exact lc_echo C1 hX hbl hbA hL hi ok5 hnx Sx Sy H locs ls h hl hI
    by_cases c_6 : x = 6
    · refine lv_tableIn (off := 391) (tgt := 424) hx hb dL_law_33 (by rw [c_6]; decide) (by rw [c_6]; decide) (by rw [c_6]; rfl) (by decide) ?_
      exact lc_sweep C1 hX hbl hbA hL hi ok6 hnx Sx Sy H locs ls h hl hI
    by_cases c_7 : x = 7
    · refine lv_tableIn (off := 478) (tgt := 511) hx hb dL_law_33 (by rw [c_7]; decide) (by rw [c_7]; decide) (by rw [c_7]; rfl) (by decide) ?_
      exact lc_notice C1 hX hbl hbA hL hi ok7 hnx Sx Sy H locs ls h hl hI
    by_cases c_8 : x = 8
    · refine lv_tableIn (off := 541) (tgt := 574) hx hb dL_law_33 (by rw [c_8]; decide) (by rw [c_8]; decide) (by rw [c_8]; rfl) (by decide) ?_
      exact lc_gone C1 hX hbl hbA hL hi ok8 hnx Sx Sy H locs ls h hl hI
    by_cases c_9 : x = 9
    · refine lv_tableIn (off := 574) (tgt := 607) hx hb dL_law_33 (by rw [c_9]; decide) (by rw [c_9]; decide) (by rw [c_9]; rfl) (by decide) ?_
      exact lc_count C1 hX hbl hbA hL hi ok9 hnx Sx Sy H locs ls h hl hI
    by_cases c_10 : x = 10
    · refine lv_tableIn (off := 597) (tgt := 630) hx hb dL_law_33 (by rw [c_10]; decide) (by rw [c_10]; decide) (by rw [c_10]; rfl) (by decide) ?_
      exact lc_sounding C1 hX hbl hbA hL hi ok10 hnx Sx Sy H locs ls h hl hI
    by_cases c_11 : x = 11
    · refine lv_tableIn (off := 630) (tgt := 663) hx hb dL_law_33 (by rw [c_11]; decide) (by rw [c_11]; decide) (by rw [c_11]; rfl) (by decide) ?_
      exact lc_depth C1 hX hbl hbA hL hi ok11 hnx Sx Sy H locs ls h hl hI
    by_cases c_12 : x = 12
    · refine lv_tableIn (off := 653) (tgt := 686) hx hb dL_law_33 (by rw [c_12]; decide) (by rw [c_12]; decide) (by rw [c_12]; rfl) (by decide) ?_
      exact lc_boat C1 hX hbl hbA hL hi ok12 hnx Sx Sy H locs ls h hl hI
    by_cases c_13 : x = 13
    · refine lv_tableIn (off := 686) (tgt := 719) hx hb dL_law_33 (by rw [c_13]; decide) (by rw [c_13]; decide) (by rw [c_13]; rfl) (by decide) ?_
      exact lc_water C1 hX hbl hbA hL hi ok13 hnx Sx Sy H locs ls h hl hI
    by_cases c_14 : x = 14
    · refine lv_tableIn (off := 729) (tgt := 762) hx hb dL_law_33 (by rw [c_14]; decide) (by rw [c_14]; decide) (by rw [c_14]; rfl) (by decide) ?_
      exact lc_cross C1 hX hbl hbA hL hi ok14 hnx Sx Sy H locs ls h hl hI
    by_cases c_15 : x = 15
    · refine lv_tableIn (off := 782) (tgt := 815) hx hb dL_law_33 (by rw [c_15]; decide) (by rw [c_15]; decide) (by rw [c_15]; rfl) (by decide) ?_
      exact lc_worst C1 hX hbl hbA hL hi ok15 hnx Sx Sy H locs ls h hl hI
    by_cases c_16 : x = 16
    · refine lv_tableIn (off := 805) (tgt := 838) hx hb dL_law_33 (by rw [c_16]; decide) (by rw [c_16]; decide) (by rw [c_16]; rfl) (by decide) ?_
      exact lc_shown C1 hX hbl hbA hL hi ok16 hnx Sx Sy H locs ls h hl hI
    by_cases c_17 : x = 17
    · refine lv_tableIn (off := 858) (tgt := 891) hx hb dL_law_33 (by rw [c_17]; decide) (by rw [c_17]; decide) (by rw [c_17]; rfl) (by decide) ?_
      exact lc_why C1 hX hbl hbA hL hi ok17 hnx Sx Sy H locs ls h hl hI
    by_cases c_18 : x = 18
    · refine lv_tableIn (off := 901) (tgt := 934) hx hb dL_law_33 (by rw [c_18]; decide) (by rw [c_18]; decide) (by rw [c_18]; rfl) (by decide) ?_
      exact lc_bottom C1 hX hbl hbA hL hi ok18 hnx Sx Sy H locs ls h hl hI
    by_cases c_19 : x = 19
    · refine lv_tableIn (off := 934) (tgt := 967) hx hb dL_law_33 (by rw [c_19]; decide) (by rw [c_19]; decide) (by rw [c_19]; rfl) (by decide) ?_
      exact lc_deepest C1 hX hbl hbA hL hi ok19 hnx Sx Sy H locs ls h hl hI
    by_cases c_20 : x = 20
    · refine lv_tableIn (off := 977) (tgt := 1010) hx hb dL_law_33 (by rw [c_20]; decide) (by rw [c_20]; decide) (by rw [c_20]; rfl) (by decide) ?_
      exact lc_way C1 hX hbl hbA hL hi ok20 hnx Sx Sy H locs ls h hl hI
    by_cases c_21 : x = 21
    · refine lv_tableIn (off := 1030) (tgt := 1063) hx hb dL_law_33 (by rw [c_21]; decide) (by rw [c_21]; decide) (by rw [c_21]; rfl) (by decide) ?_
      exact lc_narrow C1 hX hbl hbA hL hi ok21 hnx Sx Sy H locs ls h hl hI
    by_cases c_22 : x = 22
    · refine lv_tableIn (off := 1073) (tgt := 1106) hx hb dL_law_33 (by rw [c_22]; decide) (by rw [c_22]; decide) (by rw [c_22]; rfl) (by decide) ?_
      exact lc_draught C1 hX hbl hbA hL hi ok22 hnx Sx Sy H locs ls h hl hI
    by_cases c_23 : x = 23
    · refine lv_tableIn (off := 1126) (tgt := 1159) hx hb dL_law_33 (by rw [c_23]; decide) (by rw [c_23]; decide) (by rw [c_23]; rfl) (by decide) ?_
      exact lc_check C1 hX hbl hbA hL hi ok23 hnx Sx Sy H locs ls h hl hI
    by_cases c_24 : x = 24
    · refine lv_tableIn (off := 1169) (tgt := 1202) hx hb dL_law_33 (by rw [c_24]; decide) (by rw [c_24]; decide) (by rw [c_24]; rfl) (by decide) ?_
      exact lc_undo C1 hX hbl hbA hL hi ok24 hnx Sx Sy H locs ls h hl hI
    by_cases c_25 : x = 25
    · refine lv_tableIn (off := 1182) (tgt := 1215) hx hb dL_law_33 (by rw [c_25]; decide) (by rw [c_25]; decide) (by rw [c_25]; rfl) (by decide) ?_
      exact lc_image C1 hX hbl hbA hL hi ok25 hnx Sx Sy H locs ls h hl hI
    by_cases c_26 : x = 26
    · refine lv_tableIn (off := 1193) (tgt := 1226) hx hb dL_law_33 (by rw [c_26]; decide) (by rw [c_26]; decide) (by rw [c_26]; rfl) (by decide) ?_
      exact lc_load C1 hX hbl hbA hL hi ok26 hnx Sx Sy H locs ls h hl hI
    have d_0 := lv_neT c_0 (a := 0) (by decide)
    have d_1 := lv_neT c_1 (a := 1) (by decide)
    have d_2 := lv_neT c_2 (a := 2) (by decide)
    have d_3 := lv_neT c_3 (a := 3) (by decide)
    have d_4 := lv_neT c_4 (a := 4) (by decide)
    have d_5 := lv_neT c_5 (a := 5) (by decide)
    have d_6 := lv_neT c_6 (a := 6) (by decide)
    have d_7 := lv_neT c_7 (a := 7) (by decide)
    have d_8 := lv_neT c_8 (a := 8) (by decide)
    have d_9 := lv_neT c_9 (a := 9) (by decide)
    have d_10 := lv_neT c_10 (a := 10) (by decide)
    have d_11 := lv_neT c_11 (a := 11) (by decide)
    have d_12 := lv_neT c_12 (a := 12) (by decide)
    have d_13 := lv_neT c_13 (a := 13) (by decide)
    have d_14 := lv_neT c_14 (a := 14) (by decide)
    have d_15 := lv_neT c_15 (a := 15) (by decide)
    have d_16 := lv_neT c_16 (a := 16) (by decide)
    have d_17 := lv_neT c_17 (a := 17) (by decide)
    have d_18 := lv_neT c_18 (a := 18) (by decide)
    have d_19 := lv_neT c_19 (a := 19) (by decide)
    have d_20 := lv_neT c_20 (a := 20) (by decide)
    have d_21 := lv_neT c_21 (a := 21) (by decide)
    have d_22 := lv_neT c_22 (a := 22) (by decide)
    have d_23 := lv_neT c_23 (a := 23) (by decide)
    have d_24 := lv_neT c_24 (a := 24) (by decide)
    have d_25 := lv_neT c_25 (a := 25) (by decide)
    have d_26 := lv_neT c_26 (a := 26) (by decide)
    refine lv_tableOut (tgt := 1239) hx hb dL_law_33 (by omega) (by decide) ?_
    exact hnx Sx Sy H locs ls h hl hI
