def SX0 : St := (fun k => if k = 10 then (-1) else if k = 11 then (-1) else if k = 17 then (-30000) else 0, fun k => if k = 1 then 1 else if k = 3 then 1 else 0, fun _ _ => 0)
def SY0 : St := (fun k => 0, fun k => 0, fun _ _ => 0)
def adX (h0 : Nat) (u : Nat → Nat) (k : Nat) : Nat := [h0, u 1, u 2, u 3, u 4, u 5, u 6, u 7, u 8, u 9, u 10, u 11, u 12, u 13, u 14, u 15, u 16, u 17, u 18, u 19, u 20, u 21, u 22, u 23, u 24, u 25, u 26, u 27, u 28, u 29, u 30, u 31, u 32, u 33, u 34, u 35, u 36, u 37, u 38, u 39, u 40, u 41, u 42, u 43, u 44, u 45, u 46, u 47, u 48, u 49, u 50, u 51, u 52, u 53, u 54, u 55, u 56, u 57, u 58, u 59, u 60, u 61].getD k 0
def adY (h0 : Nat) (u : Nat → Nat) (k : Nat) : Nat := [h0, u 1, u 2, u 3, u 4, u 5, u 6, u 7, u 8].getD k 0
theorem perX (cA : ClassId) (h0 : Nat) (u : Nat → Nat) : ([0, 1, 2, 3, 4, 5, 6, 7, 8, 9, 10, 11, 12, 13, 14, 15, 16, 17, 18, 19, 20, 21, 22, 23, 24, 25, 26, 27, 28, 29, 30, 31, 32, 33, 34, 35, 36, 37, 38, 39, 40, 41, 42, 43, 44, 45, 46, 47, 48, 49, 50, 51, 52, 53, 54, 55, 56, 57, 58, 59, 60, 61] : List Nat).filterMap (fun i => (oX9_init cA h0 u)[i]?) = wX (adX h0 u) cA SX0 ∧ ([0, 1, 2, 3, 4, 5, 6, 7, 8, 9, 10, 11, 12, 13, 14, 15, 16, 17, 18, 19, 20, 21, 22, 23, 24, 25, 26, 27, 28, 29, 30, 31, 32, 33, 34, 35, 36, 37, 38, 39, 40, 41, 42, 43, 44, 45, 46, 47, 48, 49, 50, 51, 52, 53, 54, 55, 56, 57, 58, 59, 60, 61] : List Nat).map (fun i => (oX9_init cA h0 u)[i]?) = (wX (adX h0 u) cA SX0).map some := ⟨rfl, rfl⟩
theorem perY (cA : ClassId) (h0 : Nat) (u : Nat → Nat) : ([0, 1, 2, 3, 4, 5, 6, 7, 8] : List Nat).filterMap (fun i => (oX10_init cA h0 u)[i]?) = wY (adY h0 u) cA SY0 ∧ ([0, 1, 2, 3, 4, 5, 6, 7, 8] : List Nat).map (fun i => (oX10_init cA h0 u)[i]?) = (wY (adY h0 u) cA SY0).map some := ⟨rfl, rfl⟩
theorem sd_perm {D : va_G} {cl : List vw_C} {cA : ClassId} {nw : List Cond} {A : Nat → Prop} {s : State} {w1 w1' w2 : va_W} {H : Heap} {locs : List Loc} (h : sd_Wl D cl cA nw (w1 ++ w2) A s H locs) (is : List Nat) (hC : is.filterMap (fun i => w1[i]?) = w1' ∧ is.map (fun i => w1[i]?) = w1'.map some) (hn : va_nd is = true) : sd_Wl D cl cA nw (w1' ++ w2) A s H locs := by
  obtain ⟨h1, h2, hx⟩ := sd_split h
  refine sd_unite (h1.part is hC.1 hC.2 hn) h2 (fun i j p q hp hq => ?_)
  have e1 : (w1'.map some)[i]? = some (some p) := by rw [List.getElem?_map, hp]; rfl
  rw [← hC.2, List.getElem?_map] at e1
  cases hi : is[i]? with
  | none => rw [hi] at e1; cases e1
  | some k => rw [hi] at e1; exact hx k j p q (Option.some.inj e1) hq
theorem lw_memL {ws : List Cond} (is : List Nat) (hp : is.map (fun i => lw_tbl[i]?) = ws.map some) : ∀ x ∈ ws, x ∈ lw_tbl := by
  intro x hx
  have h1 : some x ∈ ws.map some := List.mem_map.mpr ⟨x, hx, rfl⟩
  rw [← hp] at h1
  obtain ⟨i, -, hi⟩ := List.mem_map.mp h1
  exact List.mem_of_getElem? hi
theorem kNW : ∀ x ∈ sd_nw, x ∈ lw_tbl := lw_memL [72, 78, 105, 133, 225, 517] (by decide +kernel)
theorem kNW2 : sd_nw.all (fun x => sd_isNest x && x.onTables) = true := by decide +kernel
section SM
variable {p : Program} {l : Launch} {e : Env} {R : Room} {s : State} {m : MethodId} {args : Array Value} {below : List Frame} {meth : Method} {c : Code} {H : Heap} {locs : List Loc} {cells slots : Nat} {Q : State → Prop}
variable {cc bytes : ByteArray} {pc nL maxL n index : Nat} {ret : Option FieldType} {ls : Array Slot} {rest st0 : List Value} {D : va_G} {cl : List vw_C} {A : Nat → Prop} {b : Nat} {cA : ClassId} {nw : List Cond} {k0 : Cond} {own : String} {w0 w2 : va_W} {y : MethodName} {rm : Room}
theorem lc_I (C0 : sd_Cx own cc nL ret (k0 :: sd_big) p s m args meth c) (h : sd_Wl D cl cA nw (w0 ++ w2) A s H locs) (hy : cn_cal y bytes maxL n) (hl : Cond.methodLink own index y ∈ sd_big) (As : List Value) {out : (Nat → Nat) → va_W} {mc ms : Nat} (hM : ∀ sz, Met l y (Cond.code y bytes maxL none :: sd_big) rm (va_Pc (.ref b :: As) (sd_pre D cl cA nw (fun _ => w0) z0 sz)) (sd_Qc D cl out (va_A w0 sz)) mc ms (va_A w0 sz)) (hn : As.length = n) (hs : ls.size = nL) (hst : st0 = As.reverse ++ .ref b :: rest) (hW : (rest.map fun v => v.category).sum ≤ 8) (hR : cn_rm rm maxL mc ms R) (hdg : decode cc pc = .ok (.invokespecial index, 3)) (hf : cells + mc ≤ R.cells ∧ slots + ms ≤ R.slots)
    (kk : ∀ (u : Nat → Nat) (H1 : Heap) (locs1 : List Loc), sd_Wl D cl cA nw (out u ++ w2) A s H1 locs1 → W p l e R s m args below meth c H1 locs1 (cells + mc) (slots + ms) Q (F0 m (pc + 3) ls rest)) : W p l e R s m args below meth c H locs cells slots Q (F0 m pc ls st0) := by
  have h0 := (sd_split h).1
  refine va_callv (va_runI (As := As) (rest := rest) ⟨C0.1, C0.2.1, C0.2.2.1, C0.2.2.2.1, C0.2.2.2.2.1⟩ (hM H.size) ⟨callB_of n C0.2.2.2.2.1 (sd_goodIn hy.1.1) rfl hR.1 hR.2.1 (C0.2.2.2.2.1 _ (List.mem_cons_of_mem _ hy.1.2.1)) (C0.2.2.2.2.1 _ (List.mem_cons_of_mem _ hl)) hy.1.2.2 hR.2.2, hy.2.2, C0.2.2.2.2.1 _ (List.mem_cons_of_mem _ hy.2.1)⟩ ⟨sd_blind, sd_preU h0 (.ref b :: As)⟩ rfl hn hs hst (lv_room hW) hdg hf) h.2.2.2.1 (fun q _ hq => sd_free h0 q hq) (sd_free h0) (fun u t H1 locs1 ht hvm hp hB hz hk hS => ?_)
  exact kk u H1 locs1 (sd_beside h (ht ▸ hB.1) hB.2 hk hS)
end SM
theorem klL_7 : Cond.classLink RL 7 RX9 ∈ sd_big := sd_mem (k := 62) (by decide +kernel) (by decide +kernel)
theorem klL_10 : Cond.classLink RL 10 RX10 ∈ sd_big := sd_mem (k := 812) (by decide +kernel) (by decide +kernel)
theorem kjX0 : Cond.instantiable RX0 8 ∈ sd_big ∧ Cond.initialized RX0 ∈ sd_big := ⟨sd_mem (k := 224) (by decide +kernel) (by decide +kernel), sd_mem (k := 53) (by decide +kernel) (by decide +kernel)⟩
theorem kjX1 : Cond.instantiable RX1 7 ∈ sd_big ∧ Cond.initialized RX1 ∈ sd_big := ⟨sd_mem (k := 336) (by decide +kernel) (by decide +kernel), sd_mem (k := 57) (by decide +kernel) (by decide +kernel)⟩
theorem kjX2 : Cond.instantiable RX2 3 ∈ sd_big ∧ Cond.initialized RX2 ∈ sd_big := ⟨sd_mem (k := 318) (by decide +kernel) (by decide +kernel), sd_mem (k := 56) (by decide +kernel) (by decide +kernel)⟩
theorem kjX3 : Cond.instantiable RX3 7 ∈ sd_big ∧ Cond.initialized RX3 ∈ sd_big := ⟨sd_mem (k := 259) (by decide +kernel) (by decide +kernel), sd_mem (k := 54) (by decide +kernel) (by decide +kernel)⟩
theorem kjX4 : Cond.instantiable RX4 4 ∈ sd_big ∧ Cond.initialized RX4 ∈ sd_big := ⟨sd_mem (k := 77) (by decide +kernel) (by decide +kernel), sd_mem (k := 50) (by decide +kernel) (by decide +kernel)⟩
theorem kjX5 : Cond.instantiable RX5 6 ∈ sd_big ∧ Cond.initialized RX5 ∈ sd_big := ⟨sd_mem (k := 290) (by decide +kernel) (by decide +kernel), sd_mem (k := 55) (by decide +kernel) (by decide +kernel)⟩
theorem kjX6 : Cond.instantiable RX6 11 ∈ sd_big ∧ Cond.initialized RX6 ∈ sd_big := ⟨sd_mem (k := 132) (by decide +kernel) (by decide +kernel), sd_mem (k := 52) (by decide +kernel) (by decide +kernel)⟩
theorem kjX7 : Cond.instantiable RX7 4 ∈ sd_big ∧ Cond.initialized RX7 ∈ sd_big := ⟨sd_mem (k := 71) (by decide +kernel) (by decide +kernel), sd_mem (k := 49) (by decide +kernel) (by decide +kernel)⟩
theorem kjX8 : Cond.instantiable RX8 5 ∈ sd_big ∧ Cond.initialized RX8 ∈ sd_big := ⟨sd_mem (k := 104) (by decide +kernel) (by decide +kernel), sd_mem (k := 51) (by decide +kernel) (by decide +kernel)⟩
theorem kjX9 : Cond.instantiable RX9 8 ∈ sd_big ∧ Cond.initialized RX9 ∈ sd_big := ⟨sd_mem (k := 63) (by decide +kernel) (by decide +kernel), sd_mem (k := 48) (by decide +kernel) (by decide +kernel)⟩
theorem kjX10 : Cond.instantiable RX10 17 ∈ sd_big ∧ Cond.initialized RX10 ∈ sd_big := ⟨sd_mem (k := 813) (by decide +kernel) (by decide +kernel), sd_mem (k := 58) (by decide +kernel) (by decide +kernel)⟩
theorem dgX9 : ∀ j, j < 8 → defaultValue (tyX9 j) = vp_V [.null, .null, .null, .null, .null, .null, .null, .int 0] j := by
  intro j hj
  rcases (show j = 0 ∨ j = 1 ∨ j = 2 ∨ j = 3 ∨ j = 4 ∨ j = 5 ∨ j = 6 ∨ j = 7 by omega) with rfl | rfl | rfl | rfl | rfl | rfl | rfl | rfl <;> rfl
set_option maxRecDepth 100000 in
theorem kJX9_init : cn_cal yX9_init cX9_init 1 0 := ⟨⟨sd_mem (k := 66) rfl (by decide +kernel), sd_mem (k := 48) (by decide +kernel) (by decide +kernel), by decide +kernel⟩, sd_mem (k := 65) (by decide +kernel) (by decide +kernel), rfl⟩
theorem kmLi_9 : Cond.methodLink RL 9 yX9_init ∈ sd_big := sd_mem (k := 64) (by decide +kernel) (by decide +kernel)
theorem dgX10 : ∀ j, j < 17 → defaultValue (tyX10 j) = vp_V [.null, .null, .null, .int 0, .int 0, .int 0, .long 0, .long 0, .int 0, .int 0, .int 0, .null, .null, .int 0, .null, .null, .null] j := by
  intro j hj
  rcases (show j = 0 ∨ j = 1 ∨ j = 2 ∨ j = 3 ∨ j = 4 ∨ j = 5 ∨ j = 6 ∨ j = 7 ∨ j = 8 ∨ j = 9 ∨ j = 10 ∨ j = 11 ∨ j = 12 ∨ j = 13 ∨ j = 14 ∨ j = 15 ∨ j = 16 by omega) with rfl | rfl | rfl | rfl | rfl | rfl | rfl | rfl | rfl | rfl | rfl | rfl | rfl | rfl | rfl | rfl | rfl <;> rfl
set_option maxRecDepth 100000 in
theorem kJX10_init : cn_cal yX10_init cX10_init 1 0 := ⟨⟨sd_mem (k := 816) rfl (by decide +kernel), sd_mem (k := 58) (by decide +kernel) (by decide +kernel), by decide +kernel⟩, sd_mem (k := 815) (by decide +kernel) (by decide +kernel), rfl⟩
theorem kmLi_12 : Cond.methodLink RL 12 yX10_init ∈ sd_big := sd_mem (k := 814) (by decide +kernel) (by decide +kernel)
set_option maxHeartbeats 4000000 in
set_option maxRecDepth 100000 in
/-- THE LAW from its entry, out of the pure part -/
theorem whole_of {z : Nat} {Inv : St → St → Prop} (hOK : LawOK z Inv) (hI0 : Inv SX0 SY0) {p : Program} {e : Env} {s : State} {m : MethodId} {below : List Frame} {meth : Method} {c : Code} (l : Launch) {b L : Nat} {xs : Nat → Int32} (hL : L ≤ 4096) (C0 : lw_At p s m meth c b L xs) : W p l e room_1 s m #[Value.ref b] below meth c s.heap [] 0 0 (lw_Z below #[Value.ref b] s) (entryFrame m ([Value.ref b] : List Value).toArray 4) := by
  obtain ⟨hx, hb, hr, hml, hown, hts, hX, hbl, hlocks, hgv⟩ := C0
  have hin : ∀ w ∈ sd_big, w ∈ lw_tbl := fun w h => (List.mem_filter.mp h).1
  have C1 : sd_Cx RL cL_law 4 ret (Cond.initialized RX9 :: sd_big) p s m #[Value.ref b] meth c := ⟨hx, hb, hml, hown, fun w hw => hts w (hin w (by rcases List.mem_cons.mp hw with rfl | h; exact kjX9.2; exact h)), hr, hlocks⟩
  obtain ⟨c0, iS0, hKn0⟩ := u_known (C := RX0) (T := TX0) (N := 8) (n := 8) hts (fun x h => hin x (kcX0 x h)) (hts _ (hin _ kjX0.1))
  obtain ⟨c1, iS1, hKn1⟩ := u_known (C := RX1) (T := TX1) (N := 7) (n := 7) hts (fun x h => hin x (kcX1 x h)) (hts _ (hin _ kjX1.1))
  obtain ⟨c2, iS2, hKn2⟩ := u_known (C := RX2) (T := TX2) (N := 3) (n := 3) hts (fun x h => hin x (kcX2 x h)) (hts _ (hin _ kjX2.1))
  obtain ⟨c3, iS3, hKn3⟩ := u_known (C := RX3) (T := TX3) (N := 7) (n := 7) hts (fun x h => hin x (kcX3 x h)) (hts _ (hin _ kjX3.1))
  obtain ⟨c4, iS4, hKn4⟩ := u_known (C := RX4) (T := TX4) (N := 4) (n := 4) hts (fun x h => hin x (kcX4 x h)) (hts _ (hin _ kjX4.1))
  obtain ⟨c5, iS5, hKn5⟩ := u_known (C := RX5) (T := TX5) (N := 6) (n := 6) hts (fun x h => hin x (kcX5 x h)) (hts _ (hin _ kjX5.1))
  obtain ⟨c6, iS6, hKn6⟩ := u_known (C := RX6) (T := TX6) (N := 11) (n := 11) hts (fun x h => hin x (kcX6 x h)) (hts _ (hin _ kjX6.1))
  obtain ⟨c7, iS7, hKn7⟩ := u_known (C := RX7) (T := TX7) (N := 4) (n := 4) hts (fun x h => hin x (kcX7 x h)) (hts _ (hin _ kjX7.1))
  obtain ⟨c8, iS8, hKn8⟩ := u_known (C := RX8) (T := TX8) (N := 5) (n := 5) hts (fun x h => hin x (kcX8 x h)) (hts _ (hin _ kjX8.1))
  obtain ⟨c9, iS9, hKn9⟩ := u_known (C := RX9) (T := TX9) (N := 8) (n := 8) hts (fun x h => hin x (kcX9 x h)) (hts _ (hin _ kjX9.1))
  obtain ⟨c10, iS10, hKn10⟩ := u_known (C := RX10) (T := TX10) (N := 17) (n := 17) hts (fun x h => hin x (kcX10 x h)) (hts _ (hin _ kjX10.1))
  obtain ⟨cA, kA, comp, hcA, hkA, hkind⟩ := Cond.arrayClass_spec (hts _ (hin _ kac))
  obtain ⟨D, hKc⟩ : ∃ D : va_G, ∀ (k : Nat) (q : vw_C), vwCl[k]? = some q → u_Kn s q.1 q.2.1 q.2.2 (D.1 k) (D.2 k) := by
    refine ⟨(fun k => [c0, c1, c2, c3, c4, c5, c6, c7, c8, c9, c10].getD k c0, fun k => [iS0, iS1, iS2, iS3, iS4, iS5, iS6, iS7, iS8, iS9, iS10].getD k iS0), ?_⟩
    intro k q hq
    match k, hq with
    | 0, hq => cases hq; exact hKn0
    | 1, hq => cases hq; exact hKn1
    | 2, hq => cases hq; exact hKn2
    | 3, hq => cases hq; exact hKn3
    | 4, hq => cases hq; exact hKn4
    | 5, hq => cases hq; exact hKn5
    | 6, hq => cases hq; exact hKn6
    | 7, hq => cases hq; exact hKn7
    | 8, hq => cases hq; exact hKn8
    | 9, hq => cases hq; exact hKn9
    | 10, hq => cases hq; exact hKn10
    | k + 11, hq => simp [vwCl] at hq
  have hK : sd_K D vwCl cA sd_nw s := by
    refine ⟨⟨hKc, fun k q h => ?_⟩, fun w hw => ?_⟩
    · match k, h with
      | 0, h => cases h; exact ⟨fun n z => ⟨fun k h => (by cases h), kA, hkA, comp, hkind⟩, hcA⟩
      | k + 1, h => simp at h
    · have h1 := List.all_eq_true.mp kNW2 w hw
      rw [Bool.and_eq_true] at h1
      exact ⟨h1.1, va_Nw.of h1.2 (hts w (kNW w hw))⟩
  have h : sd_Wl D vwCl cA sd_nw [] (fun q : Nat => s.heap.size ≤ q) s s.heap [] := ⟨hK, fun k q h => by simp at h, ⟨fun i j p q h => by simp at h, fun k q h => by simp at h⟩, va_S.rf, fun _ h => h⟩
  have hl := lv_entry ([.ref b]) (n := 4) (Nat.le_of_ble_eq_true rfl)
  rw [lg_entry_eq]
  generalize (lg_sl ([.ref b]) ++ List.replicate (4 - (lg_sl ([.ref b])).length) Slot.unset).toArray = ls at hl ⊢
  have hl : lv_has ls 4 [(0, .ref b)] := hl
  refine cn_new C1 h (C := RX9) (T := TX9) (N := 8) (ci := 9) (fs := [.null, .null, .null, .null, .null, .null, .null, .int 0]) kcX9 tyX9 tyX9_ok klL_7 kjX9.1 kjX9.2 rfl dgX9 (by decide) (by decide) dL_law_0 (fun qx H h => ?_)
  refine lv_dup hx hb dL_law_3 rfl ?_
  replace h : sd_Wl D vwCl cA sd_nw ([(qx, .inr (9, [.null, .null, .null, .null, .null, .null, .null, .int 0]))] ++ []) (fun q : Nat => s.heap.size ≤ q) s H [] := h
  refine lc_I C1 h kJX9_init kmLi_9 [] (tX9_init l D cA qx) rfl hl.1 rfl (Nat.le_of_ble_eq_true rfl) (by decide) dL_law_4 (by decide) (fun ux H locs h => ?_)
  replace h := sd_perm h [0, 1, 2, 3, 4, 5, 6, 7, 8, 9, 10, 11, 12, 13, 14, 15, 16, 17, 18, 19, 20, 21, 22, 23, 24, 25, 26, 27, 28, 29, 30, 31, 32, 33, 34, 35, 36, 37, 38, 39, 40, 41, 42, 43, 44, 45, 46, 47, 48, 49, 50, 51, 52, 53, 54, 55, 56, 57, 58, 59, 60, 61] (perX cA qx ux) (by decide)
  rw [List.append_nil] at h
  generalize hadx : adX qx ux = adx at h
  have ex : qx = adx 0 := by rw [← hadx]; rfl
  rw [ex]
  refine lv_astore_n (lv' := [(1, .ref (adx 0)), (0, .ref b)]) hx hb dL_law_7 rfl hl (by decide) rfl (fun ls hl => ?_)
  refine cn_new C1 h (C := RX10) (T := TX10) (N := 17) (ci := 10) (fs := [.null, .null, .null, .int 0, .int 0, .int 0, .long 0, .long 0, .int 0, .int 0, .int 0, .null, .null, .int 0, .null, .null, .null]) kcX10 tyX10 tyX10_ok klL_10 kjX10.1 kjX10.2 rfl dgX10 (by decide) (by decide) dL_law_8 (fun qy H h => ?_)
  refine lv_dup hx hb dL_law_11 rfl ?_
  replace h := sd_swap h
  refine lc_I C1 h kJX10_init kmLi_12 [] (tX10_init l D cA qy) rfl hl.1 rfl (Nat.le_of_ble_eq_true rfl) (by decide) dL_law_12 (by decide) (fun uy H locs h => ?_)
  replace h := sd_swap (sd_perm h [0, 1, 2, 3, 4, 5, 6, 7, 8] (perY cA qy uy) (by decide))
  generalize hady : adY qy uy = ady at h
  have ey : qy = ady 0 := by rw [← hady]; rfl
  rw [ey]
  refine lv_astore_n (lv' := [(2, .ref (ady 0)), (1, .ref (adx 0)), (0, .ref b)]) hx hb dL_law_15 rfl hl (by decide) rfl (fun ls hl => ?_)
  refine lv_iconst (v := 0) hx hb dL_law_16 (by decide) ?_
  refine lv_istore_n (lv' := [(3, .int 0), (2, .ref (ady 0)), (1, .ref (adx 0)), (0, .ref b)]) hx hb dL_law_17 rfl hl (by decide) rfl (fun ls hl => ?_)
  refine W.widen (k := 71) (n := 113381) (by decide) (by decide) ?_
  exact law_loop C1 hX hbl hL hOK (L + 1) 0 SX0 SY0 H locs ls (by omega) (by omega) h (lv_sub hl [3, 2, 1, 0] rfl) hI0
