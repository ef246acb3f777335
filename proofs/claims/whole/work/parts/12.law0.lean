/-! THE LAW: two worlds side by side -/
theorem sd_split {D : va_G} {cl : List vw_C} {cA : ClassId} {nw : List Cond} {A : Nat → Prop} {s : State} {w1 w2 : va_W} {H : Heap} {locs : List Loc} (h : sd_Wl D cl cA nw (w1 ++ w2) A s H locs) :
    sd_Wl D cl cA nw w1 A s H locs ∧ sd_Wl D cl cA nw w2 A s H locs ∧ ∀ (i j : Nat) (p q : Nat × va_E), w1[i]? = some p → w2[j]? = some q → p.1 ≠ q.1 := by
  obtain ⟨hK, hP, hD, hS, hA⟩ := h
  have hl : ∀ (k : Nat) (q : Nat × va_E), w1[k]? = some q → (w1 ++ w2)[k]? = some q := fun k q hq => by
    rw [List.getElem?_append_left (List.getElem?_eq_some_iff.mp hq).1]; exact hq
  have hr : ∀ (k : Nat) (q : Nat × va_E), w2[k]? = some q → (w1 ++ w2)[w1.length + k]? = some q := fun k q hq => by
    rw [List.getElem?_append_right (by omega), show w1.length + k - w1.length = k by omega]; exact hq
  refine ⟨⟨hK, fun k q hq => hP k q (hl k q hq), ⟨fun i j p q hp hq e => hD.1 i j p q (hl i p hp) (hl j q hq) e, fun k q hq => hD.2 k q (hl k q hq)⟩, hS, hA⟩,
    ⟨hK, fun k q hq => hP _ q (hr k q hq), ⟨fun i j p q hp hq e => by have := hD.1 _ _ p q (hr i p hp) (hr j q hq) e; omega, fun k q hq => hD.2 _ q (hr k q hq)⟩, hS, hA⟩, ?_⟩
  intro i j p q hp hq e
  have h1 := hD.1 _ _ p q (hl i p hp) (hr j q hq) e
  have h2 := (List.getElem?_eq_some_iff.mp hp).1
  omega
theorem sd_unite {D : va_G} {cl : List vw_C} {cA : ClassId} {nw : List Cond} {A : Nat → Prop} {s : State} {w1 w2 : va_W} {H : Heap} {locs : List Loc} (h1 : sd_Wl D cl cA nw w1 A s H locs) (h2 : sd_Wl D cl cA nw w2 A s H locs) (hx : ∀ (i j : Nat) (p q : Nat × va_E), w1[i]? = some p → w2[j]? = some q → p.1 ≠ q.1) : sd_Wl D cl cA nw (w1 ++ w2) A s H locs :=
  ⟨h1.1, h1.2.1.app h2.2.1, va_D.app h1.2.2.1 h2.2.2.1 hx, h1.2.2.2.1, h1.2.2.2.2⟩
theorem sd_swap {D : va_G} {cl : List vw_C} {cA : ClassId} {nw : List Cond} {A : Nat → Prop} {s : State} {w1 w2 : va_W} {H : Heap} {locs : List Loc} (h : sd_Wl D cl cA nw (w1 ++ w2) A s H locs) : sd_Wl D cl cA nw (w2 ++ w1) A s H locs := by
  obtain ⟨h1, h2, hx⟩ := sd_split h
  exact sd_unite h2 h1 (fun i j p q hp hq e => hx j i q p hq hp e.symm)
/-- behind a call: what came back, beside the rest -/
theorem sd_beside {D : va_G} {cl : List vw_C} {cA : ClassId} {nw : List Cond} {A : Nat → Prop} {s : State} {w1 w2 w3 : va_W} {H H1 : Heap} {locs locs1 : List Loc} (h : sd_Wl D cl cA nw (w1 ++ w2) A s H locs) (hP : va_P D cl w3 H1) (hD : va_D (va_A w1 H.size) w3) (hk : ∀ q : Nat, q < H.size → ¬ va_A w1 H.size q → H1[q]? = H[q]?) (hS : va_S A s.heap H1 locs1) : sd_Wl D cl cA nw (w3 ++ w2) A s H1 locs1 := by
  obtain ⟨h1, h2, hx⟩ := sd_split h
  have hn : ∀ (j : Nat) (q : Nat × va_E), w2[j]? = some q → q.1 < H.size ∧ ¬ va_A w1 H.size q.1 := by
    intro j q hq
    have hlt := (h2.2.1 j q hq).lt
    refine ⟨hlt, fun hh => ?_⟩
    rcases hh with ⟨k, e, hk2⟩ | hh
    · exact hx k j _ q hk2 hq rfl
    · omega
  refine sd_unite ⟨h.1, hP, hD.weaken (fun _ q _ hq => sd_free h1 q.1 hq), hS, h.2.2.2.2⟩ ⟨h.1, fun j q hq => (h2.2.1 j q hq).kept (hk q.1 (hn j q hq).1 (hn j q hq).2), h2.2.2.1, hS, h.2.2.2.2⟩ (fun i j p q hp hq e => ?_)
  exact (hn j q hq).2 (by rw [← e]; exact hD.2 i p hp)
section SL
variable {p : Program} {l : Launch} {e : Env} {R : Room} {s : State} {m : MethodId} {args : Array Value} {below : List Frame} {meth : Method} {c : Code} {H : Heap} {locs : List Loc} {cells slots : Nat} {Q : State → Prop}
variable {cc bytes : ByteArray} {pc nL maxL n index : Nat} {ret rt : Option FieldType} {ls : Array Slot} {rest st0 : List Value} {D : va_G} {cl : List vw_C} {A : Nat → Prop} {b : Nat} {cA : ClassId} {nw : List Cond} {k0 : Cond} {own : String} {w : St → va_W} {w2 : va_W} {S : St} {y : MethodName} {rm : Room}
theorem lc_i (C0 : sd_Cx own cc nL ret (k0 :: sd_big) p s m args meth c) (h : sd_Wl D cl cA nw (w S ++ w2) A s H locs) (hy : sd_calV y bytes maxL rt n) (hl : Cond.methodLink own index y ∈ sd_big) (q0 : Nat) {ci N : Nat} {T : u_T} {fs : List Value} (he : (w S)[q0]? = some (b, .inr (ci, fs))) (hc : cl[ci]? = some (y.cls, T, N)) (As : List Value) {q : Int32 × St} (hM : sd_MI l D cl cA nw w y (Cond.code y bytes maxL rt :: sd_big) rm (.ref b :: As) S q) (hn : As.length = n) (hs : ls.size = nL) (hst : st0 = As.reverse ++ .ref b :: rest) (hW : (rest.map fun v => v.category).sum ≤ 8) (hR : sd_rm rm maxL R) (hdg : decode cc pc = .ok (.invokevirtual index, 3)) (hf : cells ≤ R.cells ∧ slots ≤ R.slots)
    (kk : ∀ (H1 : Heap) (locs1 : List Loc), sd_Wl D cl cA nw (w q.2 ++ w2) A s H1 locs1 → W p l e R s m args below meth c H1 locs1 cells slots Q (F0 m (pc + 3) ls (.int q.1 :: rest))) : W p l e R s m args below meth c H locs cells slots Q (F0 m pc ls st0) := by
  have h0 : sd_Wd D cl cA nw w A s S H locs := (sd_split h).1
  refine va_calli (va_runV (As := As) (rest := rest) ⟨C0.1, C0.2.1, C0.2.2.1, C0.2.2.2.1, C0.2.2.2.2.1⟩ (hM H.size) ⟨sd_cwB C0 hy.1 hl hR, C0.2.2.2.2.1 _ (List.mem_cons_of_mem _ hy.2.1), C0.2.2.2.2.1 _ (List.mem_cons_of_mem _ hy.2.2)⟩ ⟨sd_blind, va_recv h0.1.1 h0.2.1 hc he, sd_preU h0 (.ref b :: As)⟩ rfl hn hs hst (lv_room hW) hdg hf) h.2.2.2.1 (fun q _ hq => sd_free h0 q hq) (sd_free h0) (fun r u t H1 locs1 ht hvm hp hB hz hk hS => ?_)
  subst hp
  exact kk H1 locs1 (sd_beside h (ht ▸ hB.1) hB.2 hk hS)
theorem lc_v (C0 : sd_Cx own cc nL ret (k0 :: sd_big) p s m args meth c) (h : sd_Wl D cl cA nw (w S ++ w2) A s H locs) (hy : sd_calV y bytes maxL rt n) (hl : Cond.methodLink own index y ∈ sd_big) (q0 : Nat) {ci N : Nat} {T : u_T} {fs : List Value} (he : (w S)[q0]? = some (b, .inr (ci, fs))) (hc : cl[ci]? = some (y.cls, T, N)) (As : List Value) {q : St} (hM : sd_MV l D cl cA nw w y (Cond.code y bytes maxL rt :: sd_big) rm (.ref b :: As) S q) (hn : As.length = n) (hs : ls.size = nL) (hst : st0 = As.reverse ++ .ref b :: rest) (hW : (rest.map fun v => v.category).sum ≤ 8) (hR : sd_rm rm maxL R) (hdg : decode cc pc = .ok (.invokevirtual index, 3)) (hf : cells ≤ R.cells ∧ slots ≤ R.slots)
    (kk : ∀ (H1 : Heap) (locs1 : List Loc), sd_Wl D cl cA nw (w q ++ w2) A s H1 locs1 → W p l e R s m args below meth c H1 locs1 cells slots Q (F0 m (pc + 3) ls rest)) : W p l e R s m args below meth c H locs cells slots Q (F0 m pc ls st0) := by
  have h0 : sd_Wd D cl cA nw w A s S H locs := (sd_split h).1
  refine va_callv (va_runV (As := As) (rest := rest) ⟨C0.1, C0.2.1, C0.2.2.1, C0.2.2.2.1, C0.2.2.2.2.1⟩ (hM H.size) ⟨sd_cwB C0 hy.1 hl hR, C0.2.2.2.2.1 _ (List.mem_cons_of_mem _ hy.2.1), C0.2.2.2.2.1 _ (List.mem_cons_of_mem _ hy.2.2)⟩ ⟨sd_blind, va_recv h0.1.1 h0.2.1 hc he, sd_preU h0 (.ref b :: As)⟩ rfl hn hs hst (lv_room hW) hdg hf) h.2.2.2.1 (fun q _ hq => sd_free h0 q hq) (sd_free h0) (fun u t H1 locs1 ht hvm hp hB hz hk hS => ?_)
  exact kk H1 locs1 (sd_beside h (ht ▸ hB.1) hB.2 hk hS)
end SL
theorem lw_len {i L : Nat} (hL : L ≤ 4096) (hi : i ≤ 8192) (h : ¬ Int32.ofNat L - 8 < nI i) : i + 8 ≤ L := by
  have e8 : (8 : Int32) = nI 8 := rfl
  have e1 : (Int32.ofNat L - 8).toInt = (L : Int) - 8 := by rw [e8]; exact pk_sub_toInt (a := L) (b := 8) (by omega) (by omega)
  have e2 : (nI i).toInt = (i : Int) := nI_toInt (by omega)
  rw [Int32.lt_iff_toInt_lt, e1, e2] at h
  omega
theorem lw_ix {i L k : Nat} (hL : L ≤ 4096) (h : i + 8 ≤ L) (hk : k < 8) : vp_in (nI i + nI k) L := by
  rw [nI_add]; exact vp_in_nI (by omega) (by omega)
theorem lw_ix0 {i L : Nat} (hL : L ≤ 4096) (h : i + 8 ≤ L) : vp_in (nI i) L := vp_in_nI (by omega) (by omega)
theorem lw_i8 (i : Nat) : nI i + 8 = nI (i + 8) := by
  have e8 : (8 : Int32) = nI 8 := rfl
  rw [e8, nI_add]
theorem kmL_13 : Cond.methodLink RL 13 yX9_line ∈ sd_big := sd_mem (k := 391) (by decide +kernel) (by decide +kernel)
set_option maxRecDepth 100000 in
theorem kYX9_line : sd_calV yX9_line cX9_line 4 (some .int) 2 := ⟨⟨sd_mem (k := 394) rfl (by decide +kernel), sd_mem (k := 48) (by decide +kernel) (by decide +kernel), by decide +kernel⟩, sd_mem (k := 392) (by decide +kernel) (by decide +kernel), sd_mem (k := 393) (by decide +kernel) (by decide +kernel)⟩
theorem kmL_17 : Cond.methodLink RL 17 yX10_line ∈ sd_big := sd_mem (k := 883) (by decide +kernel) (by decide +kernel)
set_option maxRecDepth 100000 in
theorem kYX10_line : sd_calV yX10_line cX10_line 4 (some .int) 2 := ⟨⟨sd_mem (k := 886) rfl (by decide +kernel), sd_mem (k := 58) (by decide +kernel) (by decide +kernel), by decide +kernel⟩, sd_mem (k := 884) (by decide +kernel) (by decide +kernel), sd_mem (k := 885) (by decide +kernel) (by decide +kernel)⟩
theorem kmL_18 : Cond.methodLink RL 18 yX9_tide ∈ sd_big := sd_mem (k := 415) (by decide +kernel) (by decide +kernel)
set_option maxRecDepth 100000 in
theorem kYX9_tide : sd_calV yX9_tide cX9_tide 6 (some .int) 3 := ⟨⟨sd_mem (k := 418) rfl (by decide +kernel), sd_mem (k := 48) (by decide +kernel) (by decide +kernel), by decide +kernel⟩, sd_mem (k := 416) (by decide +kernel) (by decide +kernel), sd_mem (k := 417) (by decide +kernel) (by decide +kernel)⟩
theorem kmL_22 : Cond.methodLink RL 22 yX10_tide ∈ sd_big := sd_mem (k := 906) (by decide +kernel) (by decide +kernel)
set_option maxRecDepth 100000 in
theorem kYX10_tide : sd_calV yX10_tide cX10_tide 6 (some .int) 3 := ⟨⟨sd_mem (k := 909) rfl (by decide +kernel), sd_mem (k := 58) (by decide +kernel) (by decide +kernel), by decide +kernel⟩, sd_mem (k := 907) (by decide +kernel) (by decide +kernel), sd_mem (k := 908) (by decide +kernel) (by decide +kernel)⟩
theorem kmL_23 : Cond.methodLink RL 23 yX9_speed ∈ sd_big := sd_mem (k := 430) (by decide +kernel) (by decide +kernel)
set_option maxRecDepth 100000 in
theorem kYX9_speed : sd_calV yX9_speed cX9_speed 3 (some .boolean) 2 := ⟨⟨sd_mem (k := 433) rfl (by decide +kernel), sd_mem (k := 48) (by decide +kernel) (by decide +kernel), by decide +kernel⟩, sd_mem (k := 431) (by decide +kernel) (by decide +kernel), sd_mem (k := 432) (by decide +kernel) (by decide +kernel)⟩
theorem kmL_27 : Cond.methodLink RL 27 yX10_speed ∈ sd_big := sd_mem (k := 894) (by decide +kernel) (by decide +kernel)
set_option maxRecDepth 100000 in
theorem kYX10_speed : sd_calV yX10_speed cX10_speed 3 (some .boolean) 2 := ⟨⟨sd_mem (k := 897) rfl (by decide +kernel), sd_mem (k := 58) (by decide +kernel) (by decide +kernel), by decide +kernel⟩, sd_mem (k := 895) (by decide +kernel) (by decide +kernel), sd_mem (k := 896) (by decide +kernel) (by decide +kernel)⟩
theorem kmL_28 : Cond.methodLink RL 28 yX9_shift ∈ sd_big := sd_mem (k := 438) (by decide +kernel) (by decide +kernel)
set_option maxRecDepth 100000 in
theorem kYX9_shift : sd_calV yX9_shift cX9_shift 3 (some .boolean) 2 := ⟨⟨sd_mem (k := 441) rfl (by decide +kernel), sd_mem (k := 48) (by decide +kernel) (by decide +kernel), by decide +kernel⟩, sd_mem (k := 439) (by decide +kernel) (by decide +kernel), sd_mem (k := 440) (by decide +kernel) (by decide +kernel)⟩
theorem kmL_31 : Cond.methodLink RL 31 yX10_shift ∈ sd_big := sd_mem (k := 902) (by decide +kernel) (by decide +kernel)
set_option maxRecDepth 100000 in
theorem kYX10_shift : sd_calV yX10_shift cX10_shift 3 (some .boolean) 2 := ⟨⟨sd_mem (k := 905) rfl (by decide +kernel), sd_mem (k := 58) (by decide +kernel) (by decide +kernel), by decide +kernel⟩, sd_mem (k := 903) (by decide +kernel) (by decide +kernel), sd_mem (k := 904) (by decide +kernel) (by decide +kernel)⟩
theorem kmL_32 : Cond.methodLink RL 32 yX9_lead ∈ sd_big := sd_mem (k := 442) (by decide +kernel) (by decide +kernel)
set_option maxRecDepth 100000 in
theorem kYX9_lead : sd_calV yX9_lead cX9_lead 6 (some .int) 5 := ⟨⟨sd_mem (k := 445) rfl (by decide +kernel), sd_mem (k := 48) (by decide +kernel) (by decide +kernel), by decide +kernel⟩, sd_mem (k := 443) (by decide +kernel) (by decide +kernel), sd_mem (k := 444) (by decide +kernel) (by decide +kernel)⟩
theorem kmL_36 : Cond.methodLink RL 36 yX10_lead ∈ sd_big := sd_mem (k := 921) (by decide +kernel) (by decide +kernel)
set_option maxRecDepth 100000 in
theorem kYX10_lead : sd_calV yX10_lead cX10_lead 6 (some .int) 5 := ⟨⟨sd_mem (k := 924) rfl (by decide +kernel), sd_mem (k := 58) (by decide +kernel) (by decide +kernel), by decide +kernel⟩, sd_mem (k := 922) (by decide +kernel) (by decide +kernel), sd_mem (k := 923) (by decide +kernel) (by decide +kernel)⟩
theorem kmL_37 : Cond.methodLink RL 37 yX9_echo ∈ sd_big := sd_mem (k := 470) (by decide +kernel) (by decide +kernel)
set_option maxRecDepth 100000 in
theorem kYX9_echo : sd_calV yX9_echo cX9_echo 7 (some .int) 5 := ⟨⟨sd_mem (k := 473) rfl (by decide +kernel), sd_mem (k := 48) (by decide +kernel) (by decide +kernel), by decide +kernel⟩, sd_mem (k := 471) (by decide +kernel) (by decide +kernel), sd_mem (k := 472) (by decide +kernel) (by decide +kernel)⟩
theorem kmL_40 : Cond.methodLink RL 40 yX10_echo ∈ sd_big := sd_mem (k := 941) (by decide +kernel) (by decide +kernel)
set_option maxRecDepth 100000 in
theorem kYX10_echo : sd_calV yX10_echo cX10_echo 7 (some .int) 5 := ⟨⟨sd_mem (k := 944) rfl (by decide +kernel), sd_mem (k := 58) (by decide +kernel) (by decide +kernel), by decide +kernel⟩, sd_mem (k := 942) (by decide +kernel) (by decide +kernel), sd_mem (k := 943) (by decide +kernel) (by decide +kernel)⟩
theorem kmL_41 : Cond.methodLink RL 41 yX9_sweep ∈ sd_big := sd_mem (k := 479) (by decide +kernel) (by decide +kernel)
set_option maxRecDepth 100000 in
theorem kYX9_sweep : sd_calV yX9_sweep cX9_sweep 9 (some .int) 7 := ⟨⟨sd_mem (k := 482) rfl (by decide +kernel), sd_mem (k := 48) (by decide +kernel) (by decide +kernel), by decide +kernel⟩, sd_mem (k := 480) (by decide +kernel) (by decide +kernel), sd_mem (k := 481) (by decide +kernel) (by decide +kernel)⟩
theorem kmL_45 : Cond.methodLink RL 45 yX10_sweep ∈ sd_big := sd_mem (k := 950) (by decide +kernel) (by decide +kernel)
set_option maxRecDepth 100000 in
theorem kYX10_sweep : sd_calV yX10_sweep cX10_sweep 8 (some .int) 7 := ⟨⟨sd_mem (k := 953) rfl (by decide +kernel), sd_mem (k := 58) (by decide +kernel) (by decide +kernel), by decide +kernel⟩, sd_mem (k := 951) (by decide +kernel) (by decide +kernel), sd_mem (k := 952) (by decide +kernel) (by decide +kernel)⟩
theorem kmL_46 : Cond.methodLink RL 46 yX9_notice ∈ sd_big := sd_mem (k := 484) (by decide +kernel) (by decide +kernel)
set_option maxRecDepth 100000 in
theorem kYX9_notice : sd_calV yX9_notice cX9_notice 8 (some .int) 5 := ⟨⟨sd_mem (k := 487) rfl (by decide +kernel), sd_mem (k := 48) (by decide +kernel) (by decide +kernel), by decide +kernel⟩, sd_mem (k := 485) (by decide +kernel) (by decide +kernel), sd_mem (k := 486) (by decide +kernel) (by decide +kernel)⟩
theorem kmL_49 : Cond.methodLink RL 49 yX10_notice ∈ sd_big := sd_mem (k := 954) (by decide +kernel) (by decide +kernel)
set_option maxRecDepth 100000 in
theorem kYX10_notice : sd_calV yX10_notice cX10_notice 6 (some .int) 5 := ⟨⟨sd_mem (k := 957) rfl (by decide +kernel), sd_mem (k := 58) (by decide +kernel) (by decide +kernel), by decide +kernel⟩, sd_mem (k := 955) (by decide +kernel) (by decide +kernel), sd_mem (k := 956) (by decide +kernel) (by decide +kernel)⟩
theorem kmL_50 : Cond.methodLink RL 50 yX9_gone ∈ sd_big := sd_mem (k := 488) (by decide +kernel) (by decide +kernel)
set_option maxRecDepth 100000 in
theorem kYX9_gone : sd_calV yX9_gone cX9_gone 4 (some .boolean) 2 := ⟨⟨sd_mem (k := 491) rfl (by decide +kernel), sd_mem (k := 48) (by decide +kernel) (by decide +kernel), by decide +kernel⟩, sd_mem (k := 489) (by decide +kernel) (by decide +kernel), sd_mem (k := 490) (by decide +kernel) (by decide +kernel)⟩
theorem kmL_53 : Cond.methodLink RL 53 yX10_gone ∈ sd_big := sd_mem (k := 958) (by decide +kernel) (by decide +kernel)
set_option maxRecDepth 100000 in
theorem kYX10_gone : sd_calV yX10_gone cX10_gone 3 (some .boolean) 2 := ⟨⟨sd_mem (k := 961) rfl (by decide +kernel), sd_mem (k := 58) (by decide +kernel) (by decide +kernel), by decide +kernel⟩, sd_mem (k := 959) (by decide +kernel) (by decide +kernel), sd_mem (k := 960) (by decide +kernel) (by decide +kernel)⟩
theorem kmL_54 : Cond.methodLink RL 54 yX9_count ∈ sd_big := sd_mem (k := 496) (by decide +kernel) (by decide +kernel)
set_option maxRecDepth 100000 in
theorem kYX9_count : sd_calV yX9_count cX9_count 2 (some .int) 1 := ⟨⟨sd_mem (k := 499) rfl (by decide +kernel), sd_mem (k := 48) (by decide +kernel) (by decide +kernel), by decide +kernel⟩, sd_mem (k := 497) (by decide +kernel) (by decide +kernel), sd_mem (k := 498) (by decide +kernel) (by decide +kernel)⟩
theorem kmL_58 : Cond.methodLink RL 58 yX10_count ∈ sd_big := sd_mem (k := 970) (by decide +kernel) (by decide +kernel)
set_option maxRecDepth 100000 in
theorem kYX10_count : sd_calV yX10_count cX10_count 4 (some .int) 1 := ⟨⟨sd_mem (k := 973) rfl (by decide +kernel), sd_mem (k := 58) (by decide +kernel) (by decide +kernel), by decide +kernel⟩, sd_mem (k := 971) (by decide +kernel) (by decide +kernel), sd_mem (k := 972) (by decide +kernel) (by decide +kernel)⟩
theorem kmL_59 : Cond.methodLink RL 59 yX9_sounding ∈ sd_big := sd_mem (k := 523) (by decide +kernel) (by decide +kernel)
set_option maxRecDepth 100000 in
theorem kYX9_sounding : sd_calV yX9_sounding cX9_sounding 4 (some .int) 2 := ⟨⟨sd_mem (k := 526) rfl (by decide +kernel), sd_mem (k := 48) (by decide +kernel) (by decide +kernel), by decide +kernel⟩, sd_mem (k := 524) (by decide +kernel) (by decide +kernel), sd_mem (k := 525) (by decide +kernel) (by decide +kernel)⟩
theorem kmL_62 : Cond.methodLink RL 62 yX10_sounding ∈ sd_big := sd_mem (k := 978) (by decide +kernel) (by decide +kernel)
set_option maxRecDepth 100000 in
theorem kYX10_sounding : sd_calV yX10_sounding cX10_sounding 3 (some .int) 2 := ⟨⟨sd_mem (k := 981) rfl (by decide +kernel), sd_mem (k := 58) (by decide +kernel) (by decide +kernel), by decide +kernel⟩, sd_mem (k := 979) (by decide +kernel) (by decide +kernel), sd_mem (k := 980) (by decide +kernel) (by decide +kernel)⟩
theorem kmL_63 : Cond.methodLink RL 63 yX9_depth ∈ sd_big := sd_mem (k := 528) (by decide +kernel) (by decide +kernel)
set_option maxRecDepth 100000 in
theorem kYX9_depth : sd_calV yX9_depth cX9_depth 2 (some .int) 1 := ⟨⟨sd_mem (k := 531) rfl (by decide +kernel), sd_mem (k := 48) (by decide +kernel) (by decide +kernel), by decide +kernel⟩, sd_mem (k := 529) (by decide +kernel) (by decide +kernel), sd_mem (k := 530) (by decide +kernel) (by decide +kernel)⟩
theorem kmL_66 : Cond.methodLink RL 66 yX10_depth ∈ sd_big := sd_mem (k := 982) (by decide +kernel) (by decide +kernel)
set_option maxRecDepth 100000 in
theorem kYX10_depth : sd_calV yX10_depth cX10_depth 2 (some .int) 1 := ⟨⟨sd_mem (k := 985) rfl (by decide +kernel), sd_mem (k := 58) (by decide +kernel) (by decide +kernel), by decide +kernel⟩, sd_mem (k := 983) (by decide +kernel) (by decide +kernel), sd_mem (k := 984) (by decide +kernel) (by decide +kernel)⟩
theorem kmL_67 : Cond.methodLink RL 67 yX9_boat ∈ sd_big := sd_mem (k := 532) (by decide +kernel) (by decide +kernel)
set_option maxRecDepth 100000 in
theorem kYX9_boat : sd_calV yX9_boat cX9_boat 4 (some .int) 2 := ⟨⟨sd_mem (k := 535) rfl (by decide +kernel), sd_mem (k := 48) (by decide +kernel) (by decide +kernel), by decide +kernel⟩, sd_mem (k := 533) (by decide +kernel) (by decide +kernel), sd_mem (k := 534) (by decide +kernel) (by decide +kernel)⟩
theorem kmL_70 : Cond.methodLink RL 70 yX10_boat ∈ sd_big := sd_mem (k := 991) (by decide +kernel) (by decide +kernel)
set_option maxRecDepth 100000 in
theorem kYX10_boat : sd_calV yX10_boat cX10_boat 5 (some .int) 2 := ⟨⟨sd_mem (k := 994) rfl (by decide +kernel), sd_mem (k := 58) (by decide +kernel) (by decide +kernel), by decide +kernel⟩, sd_mem (k := 992) (by decide +kernel) (by decide +kernel), sd_mem (k := 993) (by decide +kernel) (by decide +kernel)⟩
theorem kmL_71 : Cond.methodLink RL 71 yX9_water ∈ sd_big := sd_mem (k := 540) (by decide +kernel) (by decide +kernel)
set_option maxRecDepth 100000 in
theorem kYX9_water : sd_calV yX9_water cX9_water 5 (some .int) 3 := ⟨⟨sd_mem (k := 543) rfl (by decide +kernel), sd_mem (k := 48) (by decide +kernel) (by decide +kernel), by decide +kernel⟩, sd_mem (k := 541) (by decide +kernel) (by decide +kernel), sd_mem (k := 542) (by decide +kernel) (by decide +kernel)⟩
theorem kmL_74 : Cond.methodLink RL 74 yX10_water ∈ sd_big := sd_mem (k := 910) (by decide +kernel) (by decide +kernel)
set_option maxRecDepth 100000 in
theorem kYX10_water : sd_calV yX10_water cX10_water 4 (some .int) 3 := ⟨⟨sd_mem (k := 913) rfl (by decide +kernel), sd_mem (k := 58) (by decide +kernel) (by decide +kernel), by decide +kernel⟩, sd_mem (k := 911) (by decide +kernel) (by decide +kernel), sd_mem (k := 912) (by decide +kernel) (by decide +kernel)⟩
theorem kmL_75 : Cond.methodLink RL 75 yX9_cross ∈ sd_big := sd_mem (k := 546) (by decide +kernel) (by decide +kernel)
set_option maxRecDepth 100000 in
theorem kYX9_cross : sd_calV yX9_cross cX9_cross 6 (some .int) 4 := ⟨⟨sd_mem (k := 549) rfl (by decide +kernel), sd_mem (k := 48) (by decide +kernel) (by decide +kernel), by decide +kernel⟩, sd_mem (k := 547) (by decide +kernel) (by decide +kernel), sd_mem (k := 548) (by decide +kernel) (by decide +kernel)⟩
theorem kmL_79 : Cond.methodLink RL 79 yX10_cross ∈ sd_big := sd_mem (k := 995) (by decide +kernel) (by decide +kernel)
set_option maxRecDepth 100000 in
theorem kYX10_cross : sd_calV yX10_cross cX10_cross 6 (some .int) 4 := ⟨⟨sd_mem (k := 998) rfl (by decide +kernel), sd_mem (k := 58) (by decide +kernel) (by decide +kernel), by decide +kernel⟩, sd_mem (k := 996) (by decide +kernel) (by decide +kernel), sd_mem (k := 997) (by decide +kernel) (by decide +kernel)⟩
theorem kmL_80 : Cond.methodLink RL 80 yX9_worst ∈ sd_big := sd_mem (k := 577) (by decide +kernel) (by decide +kernel)
set_option maxRecDepth 100000 in
theorem kYX9_worst : sd_calV yX9_worst cX9_worst 2 (some .int) 1 := ⟨⟨sd_mem (k := 580) rfl (by decide +kernel), sd_mem (k := 48) (by decide +kernel) (by decide +kernel), by decide +kernel⟩, sd_mem (k := 578) (by decide +kernel) (by decide +kernel), sd_mem (k := 579) (by decide +kernel) (by decide +kernel)⟩
theorem kmL_83 : Cond.methodLink RL 83 yX10_worst ∈ sd_big := sd_mem (k := 1011) (by decide +kernel) (by decide +kernel)
set_option maxRecDepth 100000 in
theorem kYX10_worst : sd_calV yX10_worst cX10_worst 9 (some .int) 1 := ⟨⟨sd_mem (k := 1014) rfl (by decide +kernel), sd_mem (k := 58) (by decide +kernel) (by decide +kernel), by decide +kernel⟩, sd_mem (k := 1012) (by decide +kernel) (by decide +kernel), sd_mem (k := 1013) (by decide +kernel) (by decide +kernel)⟩
theorem kmL_84 : Cond.methodLink RL 84 yX9_shown ∈ sd_big := sd_mem (k := 602) (by decide +kernel) (by decide +kernel)
set_option maxRecDepth 100000 in
theorem kYX9_shown : sd_calV yX9_shown cX9_shown 5 (some .int) 4 := ⟨⟨sd_mem (k := 605) rfl (by decide +kernel), sd_mem (k := 48) (by decide +kernel) (by decide +kernel), by decide +kernel⟩, sd_mem (k := 603) (by decide +kernel) (by decide +kernel), sd_mem (k := 604) (by decide +kernel) (by decide +kernel)⟩
theorem kmL_87 : Cond.methodLink RL 87 yX10_shown ∈ sd_big := sd_mem (k := 1015) (by decide +kernel) (by decide +kernel)
set_option maxRecDepth 100000 in
theorem kYX10_shown : sd_calV yX10_shown cX10_shown 5 (some .int) 4 := ⟨⟨sd_mem (k := 1018) rfl (by decide +kernel), sd_mem (k := 58) (by decide +kernel) (by decide +kernel), by decide +kernel⟩, sd_mem (k := 1016) (by decide +kernel) (by decide +kernel), sd_mem (k := 1017) (by decide +kernel) (by decide +kernel)⟩
theorem kmL_88 : Cond.methodLink RL 88 yX9_why ∈ sd_big := sd_mem (k := 664) (by decide +kernel) (by decide +kernel)
set_option maxRecDepth 100000 in
theorem kYX9_why : sd_calV yX9_why cX9_why 4 (some .int) 3 := ⟨⟨sd_mem (k := 667) rfl (by decide +kernel), sd_mem (k := 48) (by decide +kernel) (by decide +kernel), by decide +kernel⟩, sd_mem (k := 665) (by decide +kernel) (by decide +kernel), sd_mem (k := 666) (by decide +kernel) (by decide +kernel)⟩
theorem kmL_91 : Cond.methodLink RL 91 yX10_why ∈ sd_big := sd_mem (k := 1054) (by decide +kernel) (by decide +kernel)
set_option maxRecDepth 100000 in
theorem kYX10_why : sd_calV yX10_why cX10_why 5 (some .int) 3 := ⟨⟨sd_mem (k := 1057) rfl (by decide +kernel), sd_mem (k := 58) (by decide +kernel) (by decide +kernel), by decide +kernel⟩, sd_mem (k := 1055) (by decide +kernel) (by decide +kernel), sd_mem (k := 1056) (by decide +kernel) (by decide +kernel)⟩
theorem kmL_92 : Cond.methodLink RL 92 yX9_bottom ∈ sd_big := sd_mem (k := 670) (by decide +kernel) (by decide +kernel)
set_option maxRecDepth 100000 in
theorem kYX9_bottom : sd_calV yX9_bottom cX9_bottom 3 (some .int) 2 := ⟨⟨sd_mem (k := 673) rfl (by decide +kernel), sd_mem (k := 48) (by decide +kernel) (by decide +kernel), by decide +kernel⟩, sd_mem (k := 671) (by decide +kernel) (by decide +kernel), sd_mem (k := 672) (by decide +kernel) (by decide +kernel)⟩
theorem kmL_95 : Cond.methodLink RL 95 yX10_bottom ∈ sd_big := sd_mem (k := 1058) (by decide +kernel) (by decide +kernel)
set_option maxRecDepth 100000 in
theorem kYX10_bottom : sd_calV yX10_bottom cX10_bottom 3 (some .int) 2 := ⟨⟨sd_mem (k := 1061) rfl (by decide +kernel), sd_mem (k := 58) (by decide +kernel) (by decide +kernel), by decide +kernel⟩, sd_mem (k := 1059) (by decide +kernel) (by decide +kernel), sd_mem (k := 1060) (by decide +kernel) (by decide +kernel)⟩
theorem kmL_96 : Cond.methodLink RL 96 yX9_deepest ∈ sd_big := sd_mem (k := 691) (by decide +kernel) (by decide +kernel)
set_option maxRecDepth 100000 in
theorem kYX9_deepest : sd_calV yX9_deepest cX9_deepest 4 (some .int) 3 := ⟨⟨sd_mem (k := 694) rfl (by decide +kernel), sd_mem (k := 48) (by decide +kernel) (by decide +kernel), by decide +kernel⟩, sd_mem (k := 692) (by decide +kernel) (by decide +kernel), sd_mem (k := 693) (by decide +kernel) (by decide +kernel)⟩
theorem kmL_99 : Cond.methodLink RL 99 yX10_deepest ∈ sd_big := sd_mem (k := 1070) (by decide +kernel) (by decide +kernel)
set_option maxRecDepth 100000 in
theorem kYX10_deepest : sd_calV yX10_deepest cX10_deepest 4 (some .int) 3 := ⟨⟨sd_mem (k := 1073) rfl (by decide +kernel), sd_mem (k := 58) (by decide +kernel) (by decide +kernel), by decide +kernel⟩, sd_mem (k := 1071) (by decide +kernel) (by decide +kernel), sd_mem (k := 1072) (by decide +kernel) (by decide +kernel)⟩
theorem kmL_100 : Cond.methodLink RL 100 yX9_way ∈ sd_big := sd_mem (k := 736) (by decide +kernel) (by decide +kernel)
set_option maxRecDepth 100000 in
theorem kYX9_way : sd_calV yX9_way cX9_way 5 (some .int) 4 := ⟨⟨sd_mem (k := 739) rfl (by decide +kernel), sd_mem (k := 48) (by decide +kernel) (by decide +kernel), by decide +kernel⟩, sd_mem (k := 737) (by decide +kernel) (by decide +kernel), sd_mem (k := 738) (by decide +kernel) (by decide +kernel)⟩
theorem kmL_103 : Cond.methodLink RL 103 yX10_way ∈ sd_big := sd_mem (k := 1093) (by decide +kernel) (by decide +kernel)
set_option maxRecDepth 100000 in
theorem kYX10_way : sd_calV yX10_way cX10_way 7 (some .int) 4 := ⟨⟨sd_mem (k := 1096) rfl (by decide +kernel), sd_mem (k := 58) (by decide +kernel) (by decide +kernel), by decide +kernel⟩, sd_mem (k := 1094) (by decide +kernel) (by decide +kernel), sd_mem (k := 1095) (by decide +kernel) (by decide +kernel)⟩
theorem kmL_104 : Cond.methodLink RL 104 yX9_narrow ∈ sd_big := sd_mem (k := 740) (by decide +kernel) (by decide +kernel)
set_option maxRecDepth 100000 in
theorem kYX9_narrow : sd_calV yX9_narrow cX9_narrow 4 (some .int) 3 := ⟨⟨sd_mem (k := 743) rfl (by decide +kernel), sd_mem (k := 48) (by decide +kernel) (by decide +kernel), by decide +kernel⟩, sd_mem (k := 741) (by decide +kernel) (by decide +kernel), sd_mem (k := 742) (by decide +kernel) (by decide +kernel)⟩
theorem kmL_107 : Cond.methodLink RL 107 yX10_narrow ∈ sd_big := sd_mem (k := 1101) (by decide +kernel) (by decide +kernel)
set_option maxRecDepth 100000 in
theorem kYX10_narrow : sd_calV yX10_narrow cX10_narrow 6 (some .int) 3 := ⟨⟨sd_mem (k := 1104) rfl (by decide +kernel), sd_mem (k := 58) (by decide +kernel) (by decide +kernel), by decide +kernel⟩, sd_mem (k := 1102) (by decide +kernel) (by decide +kernel), sd_mem (k := 1103) (by decide +kernel) (by decide +kernel)⟩
theorem kmL_108 : Cond.methodLink RL 108 yX9_draught ∈ sd_big := sd_mem (k := 748) (by decide +kernel) (by decide +kernel)
set_option maxRecDepth 100000 in
theorem kYX9_draught : sd_calV yX9_draught cX9_draught 5 (some .boolean) 4 := ⟨⟨sd_mem (k := 751) rfl (by decide +kernel), sd_mem (k := 48) (by decide +kernel) (by decide +kernel), by decide +kernel⟩, sd_mem (k := 749) (by decide +kernel) (by decide +kernel), sd_mem (k := 750) (by decide +kernel) (by decide +kernel)⟩
theorem kmL_112 : Cond.methodLink RL 112 yX10_draught ∈ sd_big := sd_mem (k := 1105) (by decide +kernel) (by decide +kernel)
set_option maxRecDepth 100000 in
theorem kYX10_draught : sd_calV yX10_draught cX10_draught 5 (some .boolean) 4 := ⟨⟨sd_mem (k := 1108) rfl (by decide +kernel), sd_mem (k := 58) (by decide +kernel) (by decide +kernel), by decide +kernel⟩, sd_mem (k := 1106) (by decide +kernel) (by decide +kernel), sd_mem (k := 1107) (by decide +kernel) (by decide +kernel)⟩
theorem kmL_113 : Cond.methodLink RL 113 yX9_check ∈ sd_big := sd_mem (k := 753) (by decide +kernel) (by decide +kernel)
set_option maxRecDepth 100000 in
theorem kYX9_check : sd_calV yX9_check cX9_check 5 (some .int) 3 := ⟨⟨sd_mem (k := 756) rfl (by decide +kernel), sd_mem (k := 48) (by decide +kernel) (by decide +kernel), by decide +kernel⟩, sd_mem (k := 754) (by decide +kernel) (by decide +kernel), sd_mem (k := 755) (by decide +kernel) (by decide +kernel)⟩
theorem kmL_116 : Cond.methodLink RL 116 yX10_check ∈ sd_big := sd_mem (k := 1066) (by decide +kernel) (by decide +kernel)
set_option maxRecDepth 100000 in
theorem kYX10_check : sd_calV yX10_check cX10_check 5 (some .int) 3 := ⟨⟨sd_mem (k := 1069) rfl (by decide +kernel), sd_mem (k := 58) (by decide +kernel) (by decide +kernel), by decide +kernel⟩, sd_mem (k := 1067) (by decide +kernel) (by decide +kernel), sd_mem (k := 1068) (by decide +kernel) (by decide +kernel)⟩
theorem kmL_117 : Cond.methodLink RL 117 yX9_undo ∈ sd_big := sd_mem (k := 757) (by decide +kernel) (by decide +kernel)
set_option maxRecDepth 100000 in
theorem kYX9_undo : sd_calV yX9_undo cX9_undo 1 (some .boolean) 0 := ⟨⟨sd_mem (k := 760) rfl (by decide +kernel), sd_mem (k := 48) (by decide +kernel) (by decide +kernel), by decide +kernel⟩, sd_mem (k := 758) (by decide +kernel) (by decide +kernel), sd_mem (k := 759) (by decide +kernel) (by decide +kernel)⟩
theorem kmL_121 : Cond.methodLink RL 121 yX10_undo ∈ sd_big := sd_mem (k := 871) (by decide +kernel) (by decide +kernel)
set_option maxRecDepth 100000 in
theorem kYX10_undo : sd_calV yX10_undo cX10_undo 2 (some .boolean) 0 := ⟨⟨sd_mem (k := 874) rfl (by decide +kernel), sd_mem (k := 58) (by decide +kernel) (by decide +kernel), by decide +kernel⟩, sd_mem (k := 872) (by decide +kernel) (by decide +kernel), sd_mem (k := 873) (by decide +kernel) (by decide +kernel)⟩
theorem kmL_122 : Cond.methodLink RL 122 yX9_image ∈ sd_big := sd_mem (k := 779) (by decide +kernel) (by decide +kernel)
set_option maxRecDepth 100000 in
theorem kYX9_image : sd_calV yX9_image cX9_image 1 none 0 := ⟨⟨sd_mem (k := 782) rfl (by decide +kernel), sd_mem (k := 48) (by decide +kernel) (by decide +kernel), by decide +kernel⟩, sd_mem (k := 780) (by decide +kernel) (by decide +kernel), sd_mem (k := 781) (by decide +kernel) (by decide +kernel)⟩
theorem kmL_125 : Cond.methodLink RL 125 yX10_image ∈ sd_big := sd_mem (k := 875) (by decide +kernel) (by decide +kernel)
set_option maxRecDepth 100000 in
theorem kYX10_image : sd_calV yX10_image cX10_image 2 none 0 := ⟨⟨sd_mem (k := 878) rfl (by decide +kernel), sd_mem (k := 58) (by decide +kernel) (by decide +kernel), by decide +kernel⟩, sd_mem (k := 876) (by decide +kernel) (by decide +kernel), sd_mem (k := 877) (by decide +kernel) (by decide +kernel)⟩
theorem kmL_126 : Cond.methodLink RL 126 yX9_load ∈ sd_big := sd_mem (k := 804) (by decide +kernel) (by decide +kernel)
set_option maxRecDepth 100000 in
theorem kYX9_load : sd_calV yX9_load cX9_load 1 (some .boolean) 0 := ⟨⟨sd_mem (k := 807) rfl (by decide +kernel), sd_mem (k := 48) (by decide +kernel) (by decide +kernel), by decide +kernel⟩, sd_mem (k := 805) (by decide +kernel) (by decide +kernel), sd_mem (k := 806) (by decide +kernel) (by decide +kernel)⟩
theorem kmL_129 : Cond.methodLink RL 129 yX10_load ∈ sd_big := sd_mem (k := 879) (by decide +kernel) (by decide +kernel)
set_option maxRecDepth 100000 in
theorem kYX10_load : sd_calV yX10_load cX10_load 2 (some .boolean) 0 := ⟨⟨sd_mem (k := 882) rfl (by decide +kernel), sd_mem (k := 58) (by decide +kernel) (by decide +kernel), by decide +kernel⟩, sd_mem (k := 880) (by decide +kernel) (by decide +kernel), sd_mem (k := 881) (by decide +kernel) (by decide +kernel)⟩
