def rX9_within : Room := { frames := 0, cells := 0, slots := 0, locals := 0 }
def mX9_within (S : St) (v0 : Int32) (v1 : Int32) (v2 : Int32) : Option Int32 :=
  if v0 < v1 then
    some 0
  else
    if v2 < v0 then
      some 0
    else
      some 1
set_option maxHeartbeats 4000000 in
set_option maxRecDepth 100000 in
theorem bX9_within {p : Program} {l : Launch} {e : Env} {s : State} {m : MethodId} {args : Array Value} {below : List Frame} {meth : Method} {c : Code} {D : va_G} {cA : ClassId} {ad : Nat → Nat} {A : Nat → Prop} {H : Heap} {locs : List Loc} {ls : Array Slot} {q : Int32} {S : St} {v0 : Int32} {v1 : Int32} {v2 : Int32} (C0 : sd_Cx RX9 cX9_within 3 (some .boolean) (Cond.code yX9_within cX9_within 3 (some .boolean) :: sd_big) p s m args meth c) (h : sd_Wd D vwCl cA sd_nw (wX ad cA) A s S H locs) (hl : lv_has ls 3 [(0, .int v0), (1, .int v1), (2, .int v2)])  (hm : mX9_within S v0 v1 v2 = some q) : W p l e rX9_within s m args below meth c H locs 0 0 (MQ below (sd_Qi D vwCl (wX ad cA) A (q, S)) args s 0 0 A) (F0 m 0 ls []) := by
  unfold mX9_within at hm
  have hx := C0.1
  have hb := C0.2.1
  refine lv_iload_n hx hb dX9_within_0 rfl (lv_at hl 0 rfl) ?_
  refine lv_iload_n hx hb dX9_within_1 rfl (lv_at hl 1 rfl) ?_
  refine lv_icmp_lt (tgt := 14) hx hb dX9_within_2 (by decide) (fun c1 => ?_) (fun c1 => ?_)
  · replace hm := ip c1 hm
    refine lv_iconst (v := 0) hx hb dX9_within_14 (by decide) ?_
    exact sd_zret C0 h (congrArg (fun x => (x, S)) (Option.some.inj hm)) rfl dX9_within_15
  · replace hm := iq c1 hm
    refine lv_iload_n hx hb dX9_within_5 rfl (lv_at hl 0 rfl) ?_
    refine lv_iload_n hx hb dX9_within_6 rfl (lv_at hl 2 rfl) ?_
    refine lv_icmp_gt (tgt := 14) hx hb dX9_within_7 (by decide) (fun c2 => ?_) (fun c2 => ?_)
    · replace hm := ip c2 hm
      refine lv_iconst (v := 0) hx hb dX9_within_14 (by decide) ?_
      exact sd_zret C0 h (congrArg (fun x => (x, S)) (Option.some.inj hm)) rfl dX9_within_15
    · replace hm := iq c2 hm
      refine lv_iconst (v := 1) hx hb dX9_within_10 (by decide) ?_
      refine lv_goto (tgt := 15) hx hb dX9_within_11 (by decide) ?_
      exact sd_zret C0 h (congrArg (fun x => (x, S)) (Option.some.inj hm)) rfl dX9_within_15
theorem tX9_within (l : Launch) (D : va_G) (cA : ClassId) (ad : Nat → Nat) {S : St} {v0 : Int32} {v1 : Int32} {v2 : Int32} {q : Int32} (hm : mX9_within S v0 v1 v2 = some q) : sd_MI l D vwCl cA sd_nw (wX ad cA) yX9_within (Cond.code yX9_within cX9_within 3 (some .boolean) :: sd_big) rX9_within [.int v0, .int v1, .int v2] S (q, S) :=
  sd_ofI (by decide +kernel) (Nat.le_of_ble_eq_true rfl) (fun _ _ _ _ _ _ _ _ _ _ C0 h hl => bX9_within C0 h (lv_sub hl [0, 1, 2] rfl) hm)

def rX9_isDay : Room := { frames := 1, cells := 0, slots := 0, locals := 22 }
def mX9_isDay (S : St) (v0 : Int32) : Option Int32 :=
  (mX9_within S v0 0 99).bind fun u1 =>
  zb u1 u1
set_option maxHeartbeats 4000000 in
set_option maxRecDepth 100000 in
theorem bX9_isDay {p : Program} {l : Launch} {e : Env} {s : State} {m : MethodId} {args : Array Value} {below : List Frame} {meth : Method} {c : Code} {D : va_G} {cA : ClassId} {ad : Nat → Nat} {A : Nat → Prop} {H : Heap} {locs : List Loc} {ls : Array Slot} {q : Int32} {S : St} {v0 : Int32} (C0 : sd_Cx RX9 cX9_isDay 1 (some .boolean) (Cond.code yX9_isDay cX9_isDay 1 (some .boolean) :: sd_big) p s m args meth c) (h : sd_Wd D vwCl cA sd_nw (wX ad cA) A s S H locs) (hl : lv_has ls 1 [(0, .int v0)])  (hm : mX9_isDay S v0 = some q) : W p l e rX9_isDay s m args below meth c H locs 0 0 (MQ below (sd_Qi D vwCl (wX ad cA) A (q, S)) args s 0 0 A) (F0 m 0 ls []) := by
  unfold mX9_isDay at hm
  have hx := C0.1
  have hb := C0.2.1
  refine lv_iload_n hx hb dX9_isDay_0 rfl (lv_at hl 0 rfl) ?_
  refine lv_iconst (v := 0) hx hb dX9_isDay_1 (by decide) ?_
  refine lv_bipush (v := 99) hx hb dX9_isDay_2 (by decide) ?_
  obtain ⟨u1, hu1, hm⟩ := bs hm
  refine sd_Si C0 h kYX9_within kmX9_89 [.int v0, .int 0, .int 99] (tX9_within l D cA ad hu1) rfl hl.1 rfl (Nat.le_of_ble_eq_true rfl) (by decide) dX9_isDay_4 (by decide) (fun H locs h => ?_)
  obtain ⟨hz, hm⟩ := zb_some hm
  exact sd_zret C0 h (congrArg (fun x => (x, S)) hm) hz dX9_isDay_7
theorem tX9_isDay (l : Launch) (D : va_G) (cA : ClassId) (ad : Nat → Nat) {S : St} {v0 : Int32} {q : Int32} (hm : mX9_isDay S v0 = some q) : sd_MI l D vwCl cA sd_nw (wX ad cA) yX9_isDay (Cond.code yX9_isDay cX9_isDay 1 (some .boolean) :: sd_big) rX9_isDay [.int v0] S (q, S) :=
  sd_ofI (by decide +kernel) (Nat.le_of_ble_eq_true rfl) (fun _ _ _ _ _ _ _ _ _ _ C0 h hl => bX9_isDay C0 h (lv_sub hl [0] rfl) hm)

def rX9_isSpeed : Room := { frames := 1, cells := 0, slots := 0, locals := 22 }
def mX9_isSpeed (S : St) (v0 : Int32) : Option Int32 :=
  (mX9_within S v0 1400 1600).bind fun u1 =>
  zb u1 u1
set_option maxHeartbeats 4000000 in
set_option maxRecDepth 100000 in
theorem bX9_isSpeed {p : Program} {l : Launch} {e : Env} {s : State} {m : MethodId} {args : Array Value} {below : List Frame} {meth : Method} {c : Code} {D : va_G} {cA : ClassId} {ad : Nat → Nat} {A : Nat → Prop} {H : Heap} {locs : List Loc} {ls : Array Slot} {q : Int32} {S : St} {v0 : Int32} (C0 : sd_Cx RX9 cX9_isSpeed 1 (some .boolean) (Cond.code yX9_isSpeed cX9_isSpeed 1 (some .boolean) :: sd_big) p s m args meth c) (h : sd_Wd D vwCl cA sd_nw (wX ad cA) A s S H locs) (hl : lv_has ls 1 [(0, .int v0)])  (hm : mX9_isSpeed S v0 = some q) : W p l e rX9_isSpeed s m args below meth c H locs 0 0 (MQ below (sd_Qi D vwCl (wX ad cA) A (q, S)) args s 0 0 A) (F0 m 0 ls []) := by
  unfold mX9_isSpeed at hm
  have hx := C0.1
  have hb := C0.2.1
  refine lv_iload_n hx hb dX9_isSpeed_0 rfl (lv_at hl 0 rfl) ?_
  refine lv_sipush (v := 1400) hx hb dX9_isSpeed_1 (by decide) ?_
  refine lv_sipush (v := 1600) hx hb dX9_isSpeed_4 (by decide) ?_
  obtain ⟨u1, hu1, hm⟩ := bs hm
  refine sd_Si C0 h kYX9_within kmX9_89 [.int v0, .int 1400, .int 1600] (tX9_within l D cA ad hu1) rfl hl.1 rfl (Nat.le_of_ble_eq_true rfl) (by decide) dX9_isSpeed_7 (by decide) (fun H locs h => ?_)
  obtain ⟨hz, hm⟩ := zb_some hm
  exact sd_zret C0 h (congrArg (fun x => (x, S)) hm) hz dX9_isSpeed_10
theorem tX9_isSpeed (l : Launch) (D : va_G) (cA : ClassId) (ad : Nat → Nat) {S : St} {v0 : Int32} {q : Int32} (hm : mX9_isSpeed S v0 = some q) : sd_MI l D vwCl cA sd_nw (wX ad cA) yX9_isSpeed (Cond.code yX9_isSpeed cX9_isSpeed 1 (some .boolean) :: sd_big) rX9_isSpeed [.int v0] S (q, S) :=
  sd_ofI (by decide +kernel) (Nat.le_of_ble_eq_true rfl) (fun _ _ _ _ _ _ _ _ _ _ C0 h hl => bX9_isSpeed C0 h (lv_sub hl [0] rfl) hm)

def rX4_add : Room := { frames := 0, cells := 0, slots := 0, locals := 0 }
def mX4_add (v1 : Int32) (v2 : Int32) (S : St) : Option (Int32 × St) :=
  if (fI S 1) < 20 then
    (wr (fA S 0) 20 (fI S 1) v1).bind fun g2 =>
    (wr (fA (sA S 0 g2) 1) 20 (fI (sA S 0 g2) 1) v2).bind fun g3 =>
    (wr (fA (sA (sA S 0 g2) 1 g3) 2) 20 (fI (sA (sA S 0 g2) 1 g3) 1) 0).bind fun g4 =>
    some (((fI (sI (sA (sA (sA S 0 g2) 1 g3) 2 g4) 1 ((fI (sA (sA (sA S 0 g2) 1 g3) 2 g4) 1) + 1)) 1) - 1), (sI (sA (sA (sA S 0 g2) 1 g3) 2 g4) 1 ((fI (sA (sA (sA S 0 g2) 1 g3) 2 g4) 1) + 1)))
  else
    some ((-1), S)
set_option maxHeartbeats 4000000 in
set_option maxRecDepth 100000 in
theorem bX4_add {p : Program} {l : Launch} {e : Env} {s : State} {m : MethodId} {args : Array Value} {below : List Frame} {meth : Method} {c : Code} {D : va_G} {cA : ClassId} {ad : Nat → Nat} {A : Nat → Prop} {H : Heap} {locs : List Loc} {ls : Array Slot} {q : (Int32 × St)} {v1 : Int32} {v2 : Int32} {S : St} (C0 : sd_Cx RX4 cX4_add 3 (some .int) (Cond.code yX4_add cX4_add 3 (some .int) :: sd_big) p s m args meth c) (h : sd_Wd D vwCl cA sd_nw (wX ad cA) A s S H locs) (hl : lv_has ls 3 [(0, .ref (ad 2)), (1, .int v1), (2, .int v2)])  (hm : mX4_add v1 v2 S = some q) : W p l e rX4_add s m args below meth c H locs 0 0 (MQ below (sd_Qi D vwCl (wX ad cA) A q) args s 0 0 A) (F0 m 0 ls []) := by
  unfold mX4_add at hm
  have hx := C0.1
  have hb := C0.2.1
  refine lv_aload_n hx hb dX4_add_0 rfl (lv_at hl 0 rfl) ?_
  refine sd_get C0 h (C := RX4) (T := TX4) (N := 4) kcX4 2 (aX_2 ad cA _) rfl 3 (by decide) kfX4_21 (v := .int (fI S 1)) rfl dX4_add_1 ?_
  refine lv_bipush (v := 20) hx hb dX4_add_4 (by decide) ?_
  refine lv_icmp_lt (tgt := 11) hx hb dX4_add_6 (by decide) (fun c1 => ?_) (fun c1 => ?_)
  · replace hm := ip c1 hm
    refine lv_aload_n hx hb dX4_add_11 rfl (lv_at hl 0 rfl) ?_
    refine sd_get C0 h (C := RX4) (T := TX4) (N := 4) kcX4 2 (aX_2 ad cA _) rfl 0 (by decide) kfX4_9 (v := .ref (ad 3)) rfl dX4_add_12 ?_
    refine lv_aload_n hx hb dX4_add_15 rfl (lv_at hl 0 rfl) ?_
    refine sd_get C0 h (C := RX4) (T := TX4) (N := 4) kcX4 2 (aX_2 ad cA _) rfl 3 (by decide) kfX4_21 (v := .int (fI S 1)) rfl dX4_add_16 ?_
    refine lv_iload_n hx hb dX4_add_19 rfl (lv_at hl 1 rfl) ?_
    obtain ⟨g2, hg2, hm⟩ := bs hm
    refine sd_wr C0 h (S1 := (sA S 0 g2)) 3 (aX_3 ad cA _) hg2 (eX_3 ad cA _ _) dX4_add_20 (fun H locs h => ?_)
    refine lv_aload_n hx hb dX4_add_21 rfl (lv_at hl 0 rfl) ?_
    refine sd_get C0 h (C := RX4) (T := TX4) (N := 4) kcX4 2 (aX_2 ad cA _) rfl 1 (by decide) kfX4_15 (v := .ref (ad 4)) rfl dX4_add_22 ?_
    refine lv_aload_n hx hb dX4_add_25 rfl (lv_at hl 0 rfl) ?_
    refine sd_get C0 h (C := RX4) (T := TX4) (N := 4) kcX4 2 (aX_2 ad cA _) rfl 3 (by decide) kfX4_21 (v := .int (fI (sA S 0 g2) 1)) rfl dX4_add_26 ?_
    refine lv_iload_n hx hb dX4_add_29 rfl (lv_at hl 2 rfl) ?_
    obtain ⟨g3, hg3, hm⟩ := bs hm
    refine sd_wr C0 h (S1 := (sA (sA S 0 g2) 1 g3)) 4 (aX_4 ad cA _) hg3 (eX_4 ad cA _ _) dX4_add_30 (fun H locs h => ?_)
    refine lv_aload_n hx hb dX4_add_31 rfl (lv_at hl 0 rfl) ?_
    refine sd_get C0 h (C := RX4) (T := TX4) (N := 4) kcX4 2 (aX_2 ad cA _) rfl 2 (by decide) kfX4_18 (v := .ref (ad 5)) rfl dX4_add_32 ?_
    refine lv_aload_n hx hb dX4_add_35 rfl (lv_at hl 0 rfl) ?_
    refine sd_get C0 h (C := RX4) (T := TX4) (N := 4) kcX4 2 (aX_2 ad cA _) rfl 3 (by decide) kfX4_21 (v := .int (fI (sA (sA S 0 g2) 1 g3) 1)) rfl dX4_add_36 ?_
    refine lv_iconst (v := 0) hx hb dX4_add_39 (by decide) ?_
    obtain ⟨g4, hg4, hm⟩ := bs hm
    refine sd_wr C0 h (S1 := (sA (sA (sA S 0 g2) 1 g3) 2 g4)) 5 (aX_5 ad cA _) hg4 (eX_5 ad cA _ _) dX4_add_40 (fun H locs h => ?_)
    refine lv_aload_n hx hb dX4_add_41 rfl (lv_at hl 0 rfl) ?_
    refine lv_dup hx hb dX4_add_42 rfl ?_
    refine sd_get C0 h (C := RX4) (T := TX4) (N := 4) kcX4 2 (aX_2 ad cA _) rfl 3 (by decide) kfX4_21 (v := .int (fI (sA (sA (sA S 0 g2) 1 g3) 2 g4) 1)) rfl dX4_add_43 ?_
    refine lv_iconst (v := 1) hx hb dX4_add_46 (by decide) ?_
    refine lv_iadd hx hb dX4_add_47 ?_
    refine sd_put C0 h (C := RX4) (T := TX4) (N := 4) (S1 := (sI (sA (sA (sA S 0 g2) 1 g3) 2 g4) 1 ((fI (sA (sA (sA S 0 g2) 1 g3) 2 g4) 1) + 1))) kcX4 tyX4 tyX4_ok nmX4 2 (aX_2 ad cA _) rfl 3 (by decide) kfX4_21 rfl (ty := .int) (by decide +kernel) rfl rfl (Nat.le_of_ble_eq_true rfl) (eX_2_3 ad cA _ _) dX4_add_48 (fun H locs h => ?_)
    refine lv_aload_n hx hb dX4_add_51 rfl (lv_at hl 0 rfl) ?_
    refine sd_get C0 h (C := RX4) (T := TX4) (N := 4) kcX4 2 (aX_2 ad cA _) rfl 3 (by decide) kfX4_21 (v := .int (fI (sI (sA (sA (sA S 0 g2) 1 g3) 2 g4) 1 ((fI (sA (sA (sA S 0 g2) 1 g3) 2 g4) 1) + 1)) 1)) rfl dX4_add_52 ?_
    refine lv_iconst (v := 1) hx hb dX4_add_55 (by decide) ?_
    refine lv_isub hx hb dX4_add_56 ?_
    exact sd_iret C0 h (Option.some.inj hm) dX4_add_57
  · replace hm := iq c1 hm
    refine lv_iconst (v := (-1)) hx hb dX4_add_9 (by decide) ?_
    exact sd_iret C0 h (Option.some.inj hm) dX4_add_10
theorem tX4_add (l : Launch) (D : va_G) (cA : ClassId) (ad : Nat → Nat) {S : St} {v1 : Int32} {v2 : Int32} {q : (Int32 × St)} (hm : mX4_add v1 v2 S = some q) : sd_MI l D vwCl cA sd_nw (wX ad cA) yX4_add (Cond.code yX4_add cX4_add 3 (some .int) :: sd_big) rX4_add [.ref (ad 2), .int v1, .int v2] S q :=
  sd_ofI (by decide +kernel) (Nat.le_of_ble_eq_true rfl) (fun _ _ _ _ _ _ _ _ _ _ C0 h hl => bX4_add C0 h (lv_sub hl [0, 1, 2] rfl) hm)

def rJ9_min : Room := { frames := 0, cells := 0, slots := 0, locals := 0 }
def mJ9_min (S : St) (v0 : Int32) (v1 : Int32) : Option Int32 :=
  if v1 < v0 then
    some v1
  else
    some v0
set_option maxHeartbeats 4000000 in
set_option maxRecDepth 100000 in
theorem bJ9_min {p : Program} {l : Launch} {e : Env} {s : State} {m : MethodId} {args : Array Value} {below : List Frame} {meth : Method} {c : Code} {D : va_G} {cA : ClassId} {ad : Nat → Nat} {A : Nat → Prop} {H : Heap} {locs : List Loc} {ls : Array Slot} {q : Int32} {S : St} {v0 : Int32} {v1 : Int32} (C0 : sd_Cx RJ9 cJ9_min_7cf53 2 (some .int) (Cond.code yJ9_min_7cf53 cJ9_min_7cf53 2 (some .int) :: sd_big) p s m args meth c) (h : sd_Wd D vwCl cA sd_nw (wX ad cA) A s S H locs) (hl : lv_has ls 2 [(0, .int v0), (1, .int v1)])  (hm : mJ9_min S v0 v1 = some q) : W p l e rJ9_min s m args below meth c H locs 0 0 (MQ below (sd_Qi D vwCl (wX ad cA) A (q, S)) args s 0 0 A) (F0 m 0 ls []) := by
  unfold mJ9_min at hm
  have hx := C0.1
  have hb := C0.2.1
  refine lv_iload_n hx hb dJ9_min_7cf53_0 rfl (lv_at hl 0 rfl) ?_
  refine lv_iload_n hx hb dJ9_min_7cf53_1 rfl (lv_at hl 1 rfl) ?_
  refine lv_icmp_gt (tgt := 9) hx hb dJ9_min_7cf53_2 (by decide) (fun c1 => ?_) (fun c1 => ?_)
  · replace hm := ip c1 hm
    refine lv_iload_n hx hb dJ9_min_7cf53_9 rfl (lv_at hl 1 rfl) ?_
    exact sd_iret C0 h (congrArg (fun x => (x, S)) (Option.some.inj hm)) dJ9_min_7cf53_10
  · replace hm := iq c1 hm
    refine lv_iload_n hx hb dJ9_min_7cf53_5 rfl (lv_at hl 0 rfl) ?_
    refine lv_goto (tgt := 10) hx hb dJ9_min_7cf53_6 (by decide) ?_
    exact sd_iret C0 h (congrArg (fun x => (x, S)) (Option.some.inj hm)) dJ9_min_7cf53_10
theorem tJ9_min (l : Launch) (D : va_G) (cA : ClassId) (ad : Nat → Nat) {S : St} {v0 : Int32} {v1 : Int32} {q : Int32} (hm : mJ9_min S v0 v1 = some q) : sd_MI l D vwCl cA sd_nw (wX ad cA) yJ9_min_7cf53 (Cond.code yJ9_min_7cf53 cJ9_min_7cf53 2 (some .int) :: sd_big) rJ9_min [.int v0, .int v1] S (q, S) :=
  sd_ofIF (by decide +kernel) (Nat.le_of_ble_eq_true rfl) (fun _ _ _ _ _ _ _ _ _ _ C0 h hl => bJ9_min C0 h (lv_sub hl [0, 1] rfl) hm)

def rX0_add : Room := { frames := 1, cells := 0, slots := 0, locals := 21 }
def mX0_add (v1 : Int32) (v2 : Int32) (v3 : Int32) (S : St) : Option St :=
  (wr (fA S 34) 20 (fI S 5) v1).bind fun g1 =>
  (wr (fA (sA S 34 g1) 35) 20 (fI (sA S 34 g1) 5) v2).bind fun g2 =>
  (wr (fA (sA (sA S 34 g1) 35 g2) 36) 20 (fI (sA (sA S 34 g1) 35 g2) 5) v3).bind fun g3 =>
  (mJ9_min (sI (sA (sA (sA S 34 g1) 35 g2) 36 g3) 5 (((fI (sA (sA (sA S 34 g1) 35 g2) 36 g3) 5) + 1) - ((fI (sA (sA (sA S 34 g1) 35 g2) 36 g3) 5) + 1) / 20 * 20)) ((fI (sI (sA (sA (sA S 34 g1) 35 g2) 36 g3) 5 (((fI (sA (sA (sA S 34 g1) 35 g2) 36 g3) 5) + 1) - ((fI (sA (sA (sA S 34 g1) 35 g2) 36 g3) 5) + 1) / 20 * 20)) 6) + 1) 20).bind fun u4 =>
  some (sI (sI (sA (sA (sA S 34 g1) 35 g2) 36 g3) 5 (((fI (sA (sA (sA S 34 g1) 35 g2) 36 g3) 5) + 1) - ((fI (sA (sA (sA S 34 g1) 35 g2) 36 g3) 5) + 1) / 20 * 20)) 6 u4)
set_option maxHeartbeats 4000000 in
set_option maxRecDepth 100000 in
theorem bX0_add {p : Program} {l : Launch} {e : Env} {s : State} {m : MethodId} {args : Array Value} {below : List Frame} {meth : Method} {c : Code} {D : va_G} {cA : ClassId} {ad : Nat → Nat} {A : Nat → Prop} {H : Heap} {locs : List Loc} {ls : Array Slot} {q : St} {v1 : Int32} {v2 : Int32} {v3 : Int32} {S : St} (C0 : sd_Cx RX0 cX0_add 4 none (Cond.code yX0_add cX0_add 4 none :: sd_big) p s m args meth c) (h : sd_Wd D vwCl cA sd_nw (wX ad cA) A s S H locs) (hl : lv_has ls 4 [(0, .ref (ad 43)), (1, .int v1), (2, .int v2), (3, .int v3)])  (hm : mX0_add v1 v2 v3 S = some q) : W p l e rX0_add s m args below meth c H locs 0 0 (MQ below (sd_Qv D vwCl (wX ad cA) A q) args s 0 0 A) (F0 m 0 ls []) := by
  unfold mX0_add at hm
  have hx := C0.1
  have hb := C0.2.1
  refine lv_aload_n hx hb dX0_add_0 rfl (lv_at hl 0 rfl) ?_
  refine sd_get C0 h (C := RX0) (T := TX0) (N := 8) kcX0 43 (aX_43 ad cA _) rfl 0 (by decide) kfX0_9 (v := .ref (ad 44)) rfl dX0_add_1 ?_
  refine lv_aload_n hx hb dX0_add_4 rfl (lv_at hl 0 rfl) ?_
  refine sd_get C0 h (C := RX0) (T := TX0) (N := 8) kcX0 43 (aX_43 ad cA _) rfl 3 (by decide) kfX0_21 (v := .int (fI S 5)) rfl dX0_add_5 ?_
  refine lv_iload_n hx hb dX0_add_8 rfl (lv_at hl 1 rfl) ?_
  obtain ⟨g1, hg1, hm⟩ := bs hm
  refine sd_wr C0 h (S1 := (sA S 34 g1)) 44 (aX_44 ad cA _) hg1 (eX_44 ad cA _ _) dX0_add_9 (fun H locs h => ?_)
  refine lv_aload_n hx hb dX0_add_10 rfl (lv_at hl 0 rfl) ?_
  refine sd_get C0 h (C := RX0) (T := TX0) (N := 8) kcX0 43 (aX_43 ad cA _) rfl 1 (by decide) kfX0_15 (v := .ref (ad 45)) rfl dX0_add_11 ?_
  refine lv_aload_n hx hb dX0_add_14 rfl (lv_at hl 0 rfl) ?_
  refine sd_get C0 h (C := RX0) (T := TX0) (N := 8) kcX0 43 (aX_43 ad cA _) rfl 3 (by decide) kfX0_21 (v := .int (fI (sA S 34 g1) 5)) rfl dX0_add_15 ?_
  refine lv_iload_n hx hb dX0_add_18 rfl (lv_at hl 2 rfl) ?_
  obtain ⟨g2, hg2, hm⟩ := bs hm
  refine sd_wr C0 h (S1 := (sA (sA S 34 g1) 35 g2)) 45 (aX_45 ad cA _) hg2 (eX_45 ad cA _ _) dX0_add_19 (fun H locs h => ?_)
  refine lv_aload_n hx hb dX0_add_20 rfl (lv_at hl 0 rfl) ?_
  refine sd_get C0 h (C := RX0) (T := TX0) (N := 8) kcX0 43 (aX_43 ad cA _) rfl 2 (by decide) kfX0_18 (v := .ref (ad 46)) rfl dX0_add_21 ?_
  refine lv_aload_n hx hb dX0_add_24 rfl (lv_at hl 0 rfl) ?_
  refine sd_get C0 h (C := RX0) (T := TX0) (N := 8) kcX0 43 (aX_43 ad cA _) rfl 3 (by decide) kfX0_21 (v := .int (fI (sA (sA S 34 g1) 35 g2) 5)) rfl dX0_add_25 ?_
  refine lv_iload_n hx hb dX0_add_28 rfl (lv_at hl 3 rfl) ?_
  obtain ⟨g3, hg3, hm⟩ := bs hm
  refine sd_wr C0 h (S1 := (sA (sA (sA S 34 g1) 35 g2) 36 g3)) 46 (aX_46 ad cA _) hg3 (eX_46 ad cA _ _) dX0_add_29 (fun H locs h => ?_)
  refine lv_aload_n hx hb dX0_add_30 rfl (lv_at hl 0 rfl) ?_
  refine lv_aload_n hx hb dX0_add_31 rfl (lv_at hl 0 rfl) ?_
  refine sd_get C0 h (C := RX0) (T := TX0) (N := 8) kcX0 43 (aX_43 ad cA _) rfl 3 (by decide) kfX0_21 (v := .int (fI (sA (sA (sA S 34 g1) 35 g2) 36 g3) 5)) rfl dX0_add_32 ?_
  refine lv_iconst (v := 1) hx hb dX0_add_35 (by decide) ?_
  refine lv_iadd hx hb dX0_add_36 ?_
  refine lv_bipush (v := 20) hx hb dX0_add_37 (by decide) ?_
  refine lv_irem hx hb dX0_add_39 (by decide) ?_
  refine sd_put C0 h (C := RX0) (T := TX0) (N := 8) (S1 := (sI (sA (sA (sA S 34 g1) 35 g2) 36 g3) 5 (((fI (sA (sA (sA S 34 g1) 35 g2) 36 g3) 5) + 1) - ((fI (sA (sA (sA S 34 g1) 35 g2) 36 g3) 5) + 1) / 20 * 20))) kcX0 tyX0 tyX0_ok nmX0 43 (aX_43 ad cA _) rfl 3 (by decide) kfX0_21 rfl (ty := .int) (by decide +kernel) rfl rfl (Nat.le_of_ble_eq_true rfl) (eX_43_3 ad cA _ _) dX0_add_40 (fun H locs h => ?_)
  refine lv_aload_n hx hb dX0_add_43 rfl (lv_at hl 0 rfl) ?_
  refine lv_aload_n hx hb dX0_add_44 rfl (lv_at hl 0 rfl) ?_
  refine sd_get C0 h (C := RX0) (T := TX0) (N := 8) kcX0 43 (aX_43 ad cA _) rfl 4 (by decide) kfX0_25 (v := .int (fI (sI (sA (sA (sA S 34 g1) 35 g2) 36 g3) 5 (((fI (sA (sA (sA S 34 g1) 35 g2) 36 g3) 5) + 1) - ((fI (sA (sA (sA S 34 g1) 35 g2) 36 g3) 5) + 1) / 20 * 20)) 6)) rfl dX0_add_45 ?_
  refine lv_iconst (v := 1) hx hb dX0_add_48 (by decide) ?_
  refine lv_iadd hx hb dX0_add_49 ?_
  refine lv_bipush (v := 20) hx hb dX0_add_50 (by decide) ?_
  obtain ⟨u4, hu4, hm⟩ := bs hm
  refine sd_Si C0 h kYJ9_min_7cf53 kmX0_37 [.int ((fI (sI (sA (sA (sA S 34 g1) 35 g2) 36 g3) 5 (((fI (sA (sA (sA S 34 g1) 35 g2) 36 g3) 5) + 1) - ((fI (sA (sA (sA S 34 g1) 35 g2) 36 g3) 5) + 1) / 20 * 20)) 6) + 1), .int 20] (tJ9_min l D cA ad hu4) rfl hl.1 rfl (Nat.le_of_ble_eq_true rfl) (by decide) dX0_add_52 (by decide) (fun H locs h => ?_)
  refine sd_put C0 h (C := RX0) (T := TX0) (N := 8) (S1 := (sI (sI (sA (sA (sA S 34 g1) 35 g2) 36 g3) 5 (((fI (sA (sA (sA S 34 g1) 35 g2) 36 g3) 5) + 1) - ((fI (sA (sA (sA S 34 g1) 35 g2) 36 g3) 5) + 1) / 20 * 20)) 6 u4)) kcX0 tyX0 tyX0_ok nmX0 43 (aX_43 ad cA _) rfl 4 (by decide) kfX0_25 rfl (ty := .int) (by decide +kernel) rfl rfl (Nat.le_of_ble_eq_true rfl) (eX_43_4 ad cA _ _) dX0_add_55 (fun H locs h => ?_)
  exact sd_vret C0 h (Option.some.inj hm) dX0_add_58
theorem tX0_add (l : Launch) (D : va_G) (cA : ClassId) (ad : Nat → Nat) {S : St} {v1 : Int32} {v2 : Int32} {v3 : Int32} {q : St} (hm : mX0_add v1 v2 v3 S = some q) : sd_MV l D vwCl cA sd_nw (wX ad cA) yX0_add (Cond.code yX0_add cX0_add 4 none :: sd_big) rX0_add [.ref (ad 43), .int v1, .int v2, .int v3] S q :=
  sd_ofV (by decide +kernel) (Nat.le_of_ble_eq_true rfl) (fun _ _ _ _ _ _ _ _ _ _ C0 h hl => bX0_add C0 h (lv_sub hl [0, 1, 2, 3] rfl) hm)

def rX9_line : Room := { frames := 2, cells := 0, slots := 0, locals := 44 }
def mX9_line (v1 : Int32) (v2 : Int32) (S : St) : Option (Int32 × St) :=
  (mX9_isDay S v1).bind fun u1 =>
  if u1 = 0 then
    some ((-1), S)
  else
    (mX9_isSpeed S v2).bind fun u3 =>
    if u3 = 0 then
      some ((-1), S)
    else
      if (fI S 1) < 20 then
        (mX4_add v1 v2 S).bind fun u6 =>
        (mX0_add 0 u6.1 0 u6.2).bind fun u7 =>
        some (u6.1, u7)
      else
        some ((-1), S)
set_option maxHeartbeats 4000000 in
set_option maxRecDepth 100000 in
theorem bX9_line {p : Program} {l : Launch} {e : Env} {s : State} {m : MethodId} {args : Array Value} {below : List Frame} {meth : Method} {c : Code} {D : va_G} {cA : ClassId} {ad : Nat → Nat} {A : Nat → Prop} {H : Heap} {locs : List Loc} {ls : Array Slot} {q : (Int32 × St)} {v1 : Int32} {v2 : Int32} {S : St} (C0 : sd_Cx RX9 cX9_line 4 (some .int) (Cond.code yX9_line cX9_line 4 (some .int) :: sd_big) p s m args meth c) (h : sd_Wd D vwCl cA sd_nw (wX ad cA) A s S H locs) (hl : lv_has ls 4 [(0, .ref (ad 0)), (1, .int v1), (2, .int v2)])  (hm : mX9_line v1 v2 S = some q) : W p l e rX9_line s m args below meth c H locs 0 0 (MQ below (sd_Qi D vwCl (wX ad cA) A q) args s 0 0 A) (F0 m 0 ls []) := by
  unfold mX9_line at hm
  have hx := C0.1
  have hb := C0.2.1
  refine lv_iload_n hx hb dX9_line_0 rfl (lv_at hl 1 rfl) ?_
  obtain ⟨u1, hu1, hm⟩ := bs hm
  refine sd_Si C0 h kYX9_isDay kmX9_62 [.int v1] (tX9_isDay l D cA ad hu1) rfl hl.1 rfl (Nat.le_of_ble_eq_true rfl) (by decide) dX9_line_1 (by decide) (fun H locs h => ?_)
  refine lv_if_eq (tgt := 29) hx hb dX9_line_4 (by decide) (fun c2 => ?_) (fun c2 => ?_)
  · replace hm := ip c2 hm
    refine lv_iconst (v := (-1)) hx hb dX9_line_29 (by decide) ?_
    exact sd_iret C0 h (Option.some.inj hm) dX9_line_30
  · replace hm := iq c2 hm
    refine lv_iload_n hx hb dX9_line_7 rfl (lv_at hl 2 rfl) ?_
    obtain ⟨u3, hu3, hm⟩ := bs hm
    refine sd_Si C0 h kYX9_isSpeed kmX9_66 [.int v2] (tX9_isSpeed l D cA ad hu3) rfl hl.1 rfl (Nat.le_of_ble_eq_true rfl) (by decide) dX9_line_8 (by decide) (fun H locs h => ?_)
    refine lv_if_eq (tgt := 29) hx hb dX9_line_11 (by decide) (fun c4 => ?_) (fun c4 => ?_)
    · replace hm := ip c4 hm
      refine lv_iconst (v := (-1)) hx hb dX9_line_29 (by decide) ?_
      exact sd_iret C0 h (Option.some.inj hm) dX9_line_30
    · replace hm := iq c4 hm
      refine lv_aload_n hx hb dX9_line_14 rfl (lv_at hl 0 rfl) ?_
      refine sd_get C0 h (C := RX9) (T := TX9) (N := 8) kcX9 0 (aX_0 ad cA _) rfl 0 (by decide) kfX9_10 (v := .ref (ad 1)) rfl dX9_line_15 ?_
      refine sd_get C0 h (C := RX7) (T := TX7) (N := 4) kcX7 1 (aX_1 ad cA _) rfl 0 (by decide) kfX9_69 (v := .ref (ad 2)) rfl dX9_line_18 ?_
      refine sd_get C0 h (C := RX4) (T := TX4) (N := 4) kcX4 2 (aX_2 ad cA _) rfl 3 (by decide) kfX9_73 (v := .int (fI S 1)) rfl dX9_line_21 ?_
      refine lv_bipush (v := 20) hx hb dX9_line_24 (by decide) ?_
      refine lv_icmp_lt (tgt := 31) hx hb dX9_line_26 (by decide) (fun c5 => ?_) (fun c5 => ?_)
      · replace hm := ip c5 hm
        refine lv_aload_n hx hb dX9_line_31 rfl (lv_at hl 0 rfl) ?_
        refine sd_get C0 h (C := RX9) (T := TX9) (N := 8) kcX9 0 (aX_0 ad cA _) rfl 0 (by decide) kfX9_10 (v := .ref (ad 1)) rfl dX9_line_32 ?_
        refine sd_get C0 h (C := RX7) (T := TX7) (N := 4) kcX7 1 (aX_1 ad cA _) rfl 0 (by decide) kfX9_69 (v := .ref (ad 2)) rfl dX9_line_35 ?_
        refine lv_iload_n hx hb dX9_line_38 rfl (lv_at hl 1 rfl) ?_
        refine lv_iload_n hx hb dX9_line_39 rfl (lv_at hl 2 rfl) ?_
        obtain ⟨u6, hu6, hm⟩ := bs hm
        refine sd_Vi C0 h kYX4_add kmX9_79 2 (aX_2 ad cA _) rfl [.int v1, .int v2] (tX4_add l D cA ad hu6) rfl hl.1 rfl (Nat.le_of_ble_eq_true rfl) (by decide) dX9_line_40 (by decide) (fun H locs h => ?_)
        refine lv_istore_n (lv' := [(3, .int u6.1), (0, .ref (ad 0)), (1, .int v1), (2, .int v2)]) hx hb dX9_line_43 rfl hl (by decide) rfl (fun ls hl => ?_)
        refine lv_aload_n hx hb dX9_line_44 rfl (lv_at hl 1 rfl) ?_
        refine sd_get C0 h (C := RX9) (T := TX9) (N := 8) kcX9 0 (aX_0 ad cA _) rfl 2 (by decide) kfX9_22 (v := .ref (ad 43)) rfl dX9_line_45 ?_
        refine lv_iconst (v := 0) hx hb dX9_line_48 (by decide) ?_
        refine lv_iload_n hx hb dX9_line_49 rfl (lv_at hl 0 rfl) ?_
        refine lv_iconst (v := 0) hx hb dX9_line_50 (by decide) ?_
        obtain ⟨u7, hu7, hm⟩ := bs hm
        refine sd_Vv C0 h kYX0_add kmX9_83 43 (aX_43 ad cA _) rfl [.int 0, .int u6.1, .int 0] (tX0_add l D cA ad hu7) rfl hl.1 rfl (Nat.le_of_ble_eq_true rfl) (by decide) dX9_line_51 (by decide) (fun H locs h => ?_)
        refine lv_iload_n hx hb dX9_line_54 rfl (lv_at hl 0 rfl) ?_
        exact sd_iret C0 h (Option.some.inj hm) dX9_line_55
      · replace hm := iq c5 hm
        refine lv_iconst (v := (-1)) hx hb dX9_line_29 (by decide) ?_
        exact sd_iret C0 h (Option.some.inj hm) dX9_line_30
theorem tX9_line (l : Launch) (D : va_G) (cA : ClassId) (ad : Nat → Nat) {S : St} {v1 : Int32} {v2 : Int32} {q : (Int32 × St)} (hm : mX9_line v1 v2 S = some q) : sd_MI l D vwCl cA sd_nw (wX ad cA) yX9_line (Cond.code yX9_line cX9_line 4 (some .int) :: sd_big) rX9_line [.ref (ad 0), .int v1, .int v2] S q :=
  sd_ofI (by decide +kernel) (Nat.le_of_ble_eq_true rfl) (fun _ _ _ _ _ _ _ _ _ _ C0 h hl => bX9_line C0 h (lv_sub hl [0, 1, 2] rfl) hm)

def rX9_isMinute : Room := { frames := 1, cells := 0, slots := 0, locals := 22 }
def mX9_isMinute (S : St) (v0 : Int32) : Option Int32 :=
  (mX9_within S v0 0 1439).bind fun u1 =>
  zb u1 u1
set_option maxHeartbeats 4000000 in
set_option maxRecDepth 100000 in
theorem bX9_isMinute {p : Program} {l : Launch} {e : Env} {s : State} {m : MethodId} {args : Array Value} {below : List Frame} {meth : Method} {c : Code} {D : va_G} {cA : ClassId} {ad : Nat → Nat} {A : Nat → Prop} {H : Heap} {locs : List Loc} {ls : Array Slot} {q : Int32} {S : St} {v0 : Int32} (C0 : sd_Cx RX9 cX9_isMinute 1 (some .boolean) (Cond.code yX9_isMinute cX9_isMinute 1 (some .boolean) :: sd_big) p s m args meth c) (h : sd_Wd D vwCl cA sd_nw (wX ad cA) A s S H locs) (hl : lv_has ls 1 [(0, .int v0)])  (hm : mX9_isMinute S v0 = some q) : W p l e rX9_isMinute s m args below meth c H locs 0 0 (MQ below (sd_Qi D vwCl (wX ad cA) A (q, S)) args s 0 0 A) (F0 m 0 ls []) := by
  unfold mX9_isMinute at hm
  have hx := C0.1
  have hb := C0.2.1
  refine lv_iload_n hx hb dX9_isMinute_0 rfl (lv_at hl 0 rfl) ?_
  refine lv_iconst (v := 0) hx hb dX9_isMinute_1 (by decide) ?_
  refine lv_sipush (v := 1439) hx hb dX9_isMinute_2 (by decide) ?_
  obtain ⟨u1, hu1, hm⟩ := bs hm
  refine sd_Si C0 h kYX9_within kmX9_89 [.int v0, .int 0, .int 1439] (tX9_within l D cA ad hu1) rfl hl.1 rfl (Nat.le_of_ble_eq_true rfl) (by decide) dX9_isMinute_5 (by decide) (fun H locs h => ?_)
  obtain ⟨hz, hm⟩ := zb_some hm
  exact sd_zret C0 h (congrArg (fun x => (x, S)) hm) hz dX9_isMinute_8
theorem tX9_isMinute (l : Launch) (D : va_G) (cA : ClassId) (ad : Nat → Nat) {S : St} {v0 : Int32} {q : Int32} (hm : mX9_isMinute S v0 = some q) : sd_MI l D vwCl cA sd_nw (wX ad cA) yX9_isMinute (Cond.code yX9_isMinute cX9_isMinute 1 (some .boolean) :: sd_big) rX9_isMinute [.int v0] S (q, S) :=
  sd_ofI (by decide +kernel) (Nat.le_of_ble_eq_true rfl) (fun _ _ _ _ _ _ _ _ _ _ C0 h hl => bX9_isMinute C0 h (lv_sub hl [0] rfl) hm)

def rX8_rowOf : Room := { frames := 0, cells := 0, slots := 0, locals := 0 }
def mX8_rowOf_18b (z : Nat) (S : St) (rc18 : Int32 → Option Int32) (v2 : Int32) (v4 : Int32) (v5 : Int32) : Option Int32 :=
  if v4 ≤ v5 then
    some (-1)
  else
    (rd (fA S 4) 1200 v5).bind fun x2 =>
    if x2 = v2 then
      some v5
    else
      rc18 (v5 + 1)
set_option maxHeartbeats 4000000 in
set_option maxRecDepth 100000 in
theorem bX8_rowOf_18b {p : Program} {l : Launch} {e : Env} {s : State} {m : MethodId} {args : Array Value} {below : List Frame} {meth : Method} {c : Code} {D : va_G} {cA : ClassId} {ad : Nat → Nat} {A : Nat → Prop} {H : Heap} {locs : List Loc} {ls : Array Slot} {q : Int32} {z : Nat} {S : St} {rc18 : Int32 → Option Int32} {v2 : Int32} {v4 : Int32} {v5 : Int32} (C0 : sd_Cx RX8 cX8_rowOf 6 (some .int) (Cond.code yX8_rowOf cX8_rowOf 6 (some .int) :: sd_big) p s m args meth c) (h : sd_Wd D vwCl cA sd_nw (wX ad cA) A s S H locs) (hl : lv_has ls 6 [(0, .ref (ad 6)), (2, .int v2), (4, .int v4), (5, .int v5)]) (hrc18 : ∀ (v5 : Int32) (H : Heap) (locs : List Loc) (ls : Array Slot), sd_Wd D vwCl cA sd_nw (wX ad cA) A s S H locs → lv_has ls 6 [(0, .ref (ad 6)), (2, .int v2), (4, .int v4), (5, .int v5)] → rc18 v5 = some q → W p l e rX8_rowOf s m args below meth c H locs 0 0 (MQ below (sd_Qi D vwCl (wX ad cA) A (q, S)) args s 0 0 A) (F0 m 18 ls [])) (hm : mX8_rowOf_18b z S rc18 v2 v4 v5 = some q) : W p l e rX8_rowOf s m args below meth c H locs 0 0 (MQ below (sd_Qi D vwCl (wX ad cA) A (q, S)) args s 0 0 A) (F0 m 18 ls []) := by
  unfold mX8_rowOf_18b at hm
  have hx := C0.1
  have hb := C0.2.1
  refine lv_iload hx hb dX8_rowOf_18 (lv_at hl 3 rfl) ?_
  refine lv_iload hx hb dX8_rowOf_20 (lv_at hl 2 rfl) ?_
  refine lv_icmp_ge (tgt := 45) hx hb dX8_rowOf_22 (by decide) (fun c1 => ?_) (fun c1 => ?_)
  · replace hm := ip c1 hm
    refine lv_iconst (v := (-1)) hx hb dX8_rowOf_45 (by decide) ?_
    exact sd_iret C0 h (congrArg (fun x => (x, S)) (Option.some.inj hm)) dX8_rowOf_46
  · replace hm := iq c1 hm
    refine lv_aload_n hx hb dX8_rowOf_25 rfl (lv_at hl 0 rfl) ?_
    refine sd_get C0 h (C := RX8) (T := TX8) (N := 5) kcX8 6 (aX_6 ad cA _) rfl 1 (by decide) kfX8_15 (v := .ref (ad 8)) rfl dX8_rowOf_26 ?_
    refine lv_iload hx hb dX8_rowOf_29 (lv_at hl 3 rfl) ?_
    obtain ⟨x2, hx2, hm⟩ := bs hm
    refine sd_rd C0 h 8 (aX_8 ad cA _) hx2 dX8_rowOf_31 ?_
    refine lv_iload_n hx hb dX8_rowOf_32 rfl (lv_at hl 1 rfl) ?_
    refine lv_icmp_ne (tgt := 39) hx hb dX8_rowOf_33 (by decide) (fun c3 => ?_) (fun c3 => ?_)
    · replace hm := iq c3 hm
      refine lv_iinc (v := (v5 + 1)) (lv' := [(5, .int (v5 + 1)), (0, .ref (ad 6)), (2, .int v2), (4, .int v4)]) hx hb dX8_rowOf_39 hl (k := 3) rfl rfl (by decide) rfl (fun ls hl => ?_)
      refine lv_goto (tgt := 18) hx hb dX8_rowOf_42 (by decide) ?_
      exact hrc18 _ _ _ _ h (lv_sub hl [1, 2, 3, 0] rfl) hm
    · replace hm := ip c3 hm
      refine lv_iload hx hb dX8_rowOf_36 (lv_at hl 3 rfl) ?_
      exact sd_iret C0 h (congrArg (fun x => (x, S)) (Option.some.inj hm)) dX8_rowOf_38
def mX8_rowOf_18 (z : Nat) (S : St) (v2 : Int32) (v4 : Int32) : Nat → Int32 → Option Int32
  | 0, _ => none
  | n + 1, v5 => mX8_rowOf_18b z S (mX8_rowOf_18 z S v2 v4 n) v2 v4 v5
set_option maxHeartbeats 4000000 in
set_option maxRecDepth 100000 in
theorem lX8_rowOf_18 {p : Program} {l : Launch} {e : Env} {s : State} {m : MethodId} {args : Array Value} {below : List Frame} {meth : Method} {c : Code} {D : va_G} {cA : ClassId} {ad : Nat → Nat} {A : Nat → Prop} {q : Int32} {z : Nat} {S : St} {v2 : Int32} {v4 : Int32} (C0 : sd_Cx RX8 cX8_rowOf 6 (some .int) (Cond.code yX8_rowOf cX8_rowOf 6 (some .int) :: sd_big) p s m args meth c)  : ∀ (n : Nat) (v5 : Int32) (H : Heap) (locs : List Loc) (ls : Array Slot), sd_Wd D vwCl cA sd_nw (wX ad cA) A s S H locs → lv_has ls 6 [(0, .ref (ad 6)), (2, .int v2), (4, .int v4), (5, .int v5)] → mX8_rowOf_18 z S v2 v4 n v5 = some q → W p l e rX8_rowOf s m args below meth c H locs 0 0 (MQ below (sd_Qi D vwCl (wX ad cA) A (q, S)) args s 0 0 A) (F0 m 18 ls []) := by
  intro n
  induction n with
  | zero =>
    intro v5 H locs ls h hl hm
    exact nomatch (show none = some q from hm)
  | succ n ih =>
    intro v5 H locs ls h hl hm
    exact bX8_rowOf_18b C0 h hl ih hm
def mX8_rowOf (z : Nat) (S : St) (v1 : Int32) (v2 : Int32) : Option Int32 :=
  (rd (fA S 3) 100 v1).bind fun x1 =>
  mX8_rowOf_18 z S v2 ((v1 * 12) + x1) z (v1 * 12)
set_option maxHeartbeats 4000000 in
set_option maxRecDepth 100000 in
theorem bX8_rowOf {p : Program} {l : Launch} {e : Env} {s : State} {m : MethodId} {args : Array Value} {below : List Frame} {meth : Method} {c : Code} {D : va_G} {cA : ClassId} {ad : Nat → Nat} {A : Nat → Prop} {H : Heap} {locs : List Loc} {ls : Array Slot} {q : Int32} {z : Nat} {S : St} {v1 : Int32} {v2 : Int32} (C0 : sd_Cx RX8 cX8_rowOf 6 (some .int) (Cond.code yX8_rowOf cX8_rowOf 6 (some .int) :: sd_big) p s m args meth c) (h : sd_Wd D vwCl cA sd_nw (wX ad cA) A s S H locs) (hl : lv_has ls 6 [(0, .ref (ad 6)), (1, .int v1), (2, .int v2)])  (hm : mX8_rowOf z S v1 v2 = some q) : W p l e rX8_rowOf s m args below meth c H locs 0 0 (MQ below (sd_Qi D vwCl (wX ad cA) A (q, S)) args s 0 0 A) (F0 m 0 ls []) := by
  unfold mX8_rowOf at hm
  have hx := C0.1
  have hb := C0.2.1
  refine lv_iload_n hx hb dX8_rowOf_0 rfl (lv_at hl 1 rfl) ?_
  refine lv_bipush (v := 12) hx hb dX8_rowOf_1 (by decide) ?_
  refine lv_imul hx hb dX8_rowOf_3 ?_
  refine lv_istore_n (lv' := [(3, .int (v1 * 12)), (0, .ref (ad 6)), (1, .int v1), (2, .int v2)]) hx hb dX8_rowOf_4 rfl hl (by decide) rfl (fun ls hl => ?_)
  refine lv_iload_n hx hb dX8_rowOf_5 rfl (lv_at hl 0 rfl) ?_
  refine lv_aload_n hx hb dX8_rowOf_6 rfl (lv_at hl 1 rfl) ?_
  refine sd_get C0 h (C := RX8) (T := TX8) (N := 5) kcX8 6 (aX_6 ad cA _) rfl 0 (by decide) kfX8_9 (v := .ref (ad 7)) rfl dX8_rowOf_7 ?_
  refine lv_iload_n hx hb dX8_rowOf_10 rfl (lv_at hl 2 rfl) ?_
  obtain ⟨x1, hx1, hm⟩ := bs hm
  refine sd_rd C0 h 7 (aX_7 ad cA _) hx1 dX8_rowOf_11 ?_
  refine lv_iadd hx hb dX8_rowOf_12 ?_
  refine lv_istore (lv' := [(4, .int ((v1 * 12) + x1)), (3, .int (v1 * 12)), (0, .ref (ad 6)), (1, .int v1), (2, .int v2)]) hx hb dX8_rowOf_13 hl (by decide) rfl (fun ls hl => ?_)
  refine lv_iload_n hx hb dX8_rowOf_15 rfl (lv_at hl 1 rfl) ?_
  refine lv_istore (lv' := [(5, .int (v1 * 12)), (4, .int ((v1 * 12) + x1)), (3, .int (v1 * 12)), (0, .ref (ad 6)), (1, .int v1), (2, .int v2)]) hx hb dX8_rowOf_16 hl (by decide) rfl (fun ls hl => ?_)
  exact lX8_rowOf_18 C0 _ _ _ _ _ h (lv_sub hl [3, 5, 1, 0] rfl) hm
theorem tX8_rowOf (l : Launch) (D : va_G) (cA : ClassId) (ad : Nat → Nat) {z : Nat} {S : St} {v1 : Int32} {v2 : Int32} {q : Int32} (hm : mX8_rowOf z S v1 v2 = some q) : sd_MI l D vwCl cA sd_nw (wX ad cA) yX8_rowOf (Cond.code yX8_rowOf cX8_rowOf 6 (some .int) :: sd_big) rX8_rowOf [.ref (ad 6), .int v1, .int v2] S (q, S) :=
  sd_ofI (by decide +kernel) (Nat.le_of_ble_eq_true rfl) (fun _ _ _ _ _ _ _ _ _ _ C0 h hl => bX8_rowOf C0 h (lv_sub hl [0, 1, 2] rfl) hm)

def rX8_add : Room := { frames := 0, cells := 0, slots := 0, locals := 0 }
def mX8_add (v1 : Int32) (v2 : Int32) (v3 : Int32) (S : St) : Option St :=
  (rd (fA S 3) 100 v1).bind fun x1 =>
  if x1 < 12 then
    (rd (fA S 3) 100 v1).bind fun x3 =>
    (wr (fA S 4) 1200 ((v1 * 12) + x3) v2).bind fun g4 =>
    (wr (fA (sA S 4 g4) 5) 1200 ((v1 * 12) + x3) v3).bind fun g5 =>
    (rd (fA (sA (sA S 4 g4) 5 g5) 3) 100 v1).bind fun x6 =>
    (wr (fA (sA (sA S 4 g4) 5 g5) 3) 100 v1 (x6 + 1)).bind fun g7 =>
    some (sA (sA (sA S 4 g4) 5 g5) 3 g7)
  else
    some S
set_option maxHeartbeats 4000000 in
set_option maxRecDepth 100000 in
theorem bX8_add {p : Program} {l : Launch} {e : Env} {s : State} {m : MethodId} {args : Array Value} {below : List Frame} {meth : Method} {c : Code} {D : va_G} {cA : ClassId} {ad : Nat → Nat} {A : Nat → Prop} {H : Heap} {locs : List Loc} {ls : Array Slot} {q : St} {v1 : Int32} {v2 : Int32} {v3 : Int32} {S : St} (C0 : sd_Cx RX8 cX8_add 5 none (Cond.code yX8_add cX8_add 5 none :: sd_big) p s m args meth c) (h : sd_Wd D vwCl cA sd_nw (wX ad cA) A s S H locs) (hl : lv_has ls 5 [(0, .ref (ad 6)), (1, .int v1), (2, .int v2), (3, .int v3)])  (hm : mX8_add v1 v2 v3 S = some q) : W p l e rX8_add s m args below meth c H locs 0 0 (MQ below (sd_Qv D vwCl (wX ad cA) A q) args s 0 0 A) (F0 m 0 ls []) := by
  unfold mX8_add at hm
  have hx := C0.1
  have hb := C0.2.1
  refine lv_aload_n hx hb dX8_add_0 rfl (lv_at hl 0 rfl) ?_
  refine sd_get C0 h (C := RX8) (T := TX8) (N := 5) kcX8 6 (aX_6 ad cA _) rfl 0 (by decide) kfX8_9 (v := .ref (ad 7)) rfl dX8_add_1 ?_
  refine lv_iload_n hx hb dX8_add_4 rfl (lv_at hl 1 rfl) ?_
  obtain ⟨x1, hx1, hm⟩ := bs hm
  refine sd_rd C0 h 7 (aX_7 ad cA _) hx1 dX8_add_5 ?_
  refine lv_bipush (v := 12) hx hb dX8_add_6 (by decide) ?_
  refine lv_icmp_lt (tgt := 12) hx hb dX8_add_8 (by decide) (fun c2 => ?_) (fun c2 => ?_)
  · replace hm := ip c2 hm
    refine lv_iload_n hx hb dX8_add_12 rfl (lv_at hl 1 rfl) ?_
    refine lv_bipush (v := 12) hx hb dX8_add_13 (by decide) ?_
    refine lv_imul hx hb dX8_add_15 ?_
    refine lv_aload_n hx hb dX8_add_16 rfl (lv_at hl 0 rfl) ?_
    refine sd_get C0 h (C := RX8) (T := TX8) (N := 5) kcX8 6 (aX_6 ad cA _) rfl 0 (by decide) kfX8_9 (v := .ref (ad 7)) rfl dX8_add_17 ?_
    refine lv_iload_n hx hb dX8_add_20 rfl (lv_at hl 1 rfl) ?_
    obtain ⟨x3, hx3, hm⟩ := bs hm
    refine sd_rd C0 h 7 (aX_7 ad cA _) hx3 dX8_add_21 ?_
    refine lv_iadd hx hb dX8_add_22 ?_
    refine lv_istore (lv' := [(4, .int ((v1 * 12) + x3)), (0, .ref (ad 6)), (1, .int v1), (2, .int v2), (3, .int v3)]) hx hb dX8_add_23 hl (by decide) rfl (fun ls hl => ?_)
    refine lv_aload_n hx hb dX8_add_25 rfl (lv_at hl 1 rfl) ?_
    refine sd_get C0 h (C := RX8) (T := TX8) (N := 5) kcX8 6 (aX_6 ad cA _) rfl 1 (by decide) kfX8_15 (v := .ref (ad 8)) rfl dX8_add_26 ?_
    refine lv_iload hx hb dX8_add_29 (lv_at hl 0 rfl) ?_
    refine lv_iload_n hx hb dX8_add_31 rfl (lv_at hl 3 rfl) ?_
    obtain ⟨g4, hg4, hm⟩ := bs hm
    refine sd_wr C0 h (S1 := (sA S 4 g4)) 8 (aX_8 ad cA _) hg4 (eX_8 ad cA _ _) dX8_add_32 (fun H locs h => ?_)
    refine lv_aload_n hx hb dX8_add_33 rfl (lv_at hl 1 rfl) ?_
    refine sd_get C0 h (C := RX8) (T := TX8) (N := 5) kcX8 6 (aX_6 ad cA _) rfl 2 (by decide) kfX8_18 (v := .ref (ad 9)) rfl dX8_add_34 ?_
    refine lv_iload hx hb dX8_add_37 (lv_at hl 0 rfl) ?_
    refine lv_iload_n hx hb dX8_add_39 rfl (lv_at hl 4 rfl) ?_
    obtain ⟨g5, hg5, hm⟩ := bs hm
    refine sd_wr C0 h (S1 := (sA (sA S 4 g4) 5 g5)) 9 (aX_9 ad cA _) hg5 (eX_9 ad cA _ _) dX8_add_40 (fun H locs h => ?_)
    refine lv_aload_n hx hb dX8_add_41 rfl (lv_at hl 1 rfl) ?_
    refine sd_get C0 h (C := RX8) (T := TX8) (N := 5) kcX8 6 (aX_6 ad cA _) rfl 0 (by decide) kfX8_9 (v := .ref (ad 7)) rfl dX8_add_42 ?_
    refine lv_iload_n hx hb dX8_add_45 rfl (lv_at hl 2 rfl) ?_
    refine lv_dup2_11 hx hb dX8_add_46 rfl rfl ?_
    obtain ⟨x6, hx6, hm⟩ := bs hm
    refine sd_rd C0 h 7 (aX_7 ad cA _) hx6 dX8_add_47 ?_
    refine lv_iconst (v := 1) hx hb dX8_add_48 (by decide) ?_
    refine lv_iadd hx hb dX8_add_49 ?_
    obtain ⟨g7, hg7, hm⟩ := bs hm
    refine sd_wr C0 h (S1 := (sA (sA (sA S 4 g4) 5 g5) 3 g7)) 7 (aX_7 ad cA _) hg7 (eX_7 ad cA _ _) dX8_add_50 (fun H locs h => ?_)
    exact sd_vret C0 h (Option.some.inj hm) dX8_add_51
  · replace hm := iq c2 hm
    exact sd_vret C0 h (Option.some.inj hm) dX8_add_11
theorem tX8_add (l : Launch) (D : va_G) (cA : ClassId) (ad : Nat → Nat) {S : St} {v1 : Int32} {v2 : Int32} {v3 : Int32} {q : St} (hm : mX8_add v1 v2 v3 S = some q) : sd_MV l D vwCl cA sd_nw (wX ad cA) yX8_add (Cond.code yX8_add cX8_add 5 none :: sd_big) rX8_add [.ref (ad 6), .int v1, .int v2, .int v3] S q :=
  sd_ofV (by decide +kernel) (Nat.le_of_ble_eq_true rfl) (fun _ _ _ _ _ _ _ _ _ _ C0 h hl => bX8_add C0 h (lv_sub hl [0, 1, 2, 3] rfl) hm)

def rX9_tide : Room := { frames := 2, cells := 0, slots := 0, locals := 44 }
def mX9_tide (z : Nat) (v1 : Int32) (v2 : Int32) (v3 : Int32) (S : St) : Option (Int32 × St) :=
  (mX9_isDay S v1).bind fun u1 =>
  if u1 = 0 then
    some ((-1), S)
  else
    (mX9_isMinute S v2).bind fun u3 =>
    if u3 = 0 then
      some ((-1), S)
    else
      (mX9_within S v3 (-100) 200).bind fun u5 =>
      if u5 = 0 then
        some ((-1), S)
      else
        (mX8_rowOf z S v1 v2).bind fun u7 =>
        if u7 = (-1) then
          (rd (fA S 3) 100 v1).bind fun x9 =>
          if x9 < 12 then
            (mX8_add v1 v2 v3 S).bind fun u11 =>
            (mX0_add 1 v1 0 u11).bind fun u12 =>
            (rd (fA u12 3) 100 v1).bind fun x13 =>
            some (x13, u12)
          else
            some ((-1), S)
        else
          (rd (fA S 5) 1200 u7).bind fun x14 =>
          (mX0_add 2 u7 x14 S).bind fun u15 =>
          (wr (fA u15 5) 1200 u7 v3).bind fun g16 =>
          (rd (fA (sA u15 5 g16) 3) 100 v1).bind fun x17 =>
          some (x17, (sA u15 5 g16))
set_option maxHeartbeats 4000000 in
set_option maxRecDepth 100000 in
theorem bX9_tide {p : Program} {l : Launch} {e : Env} {s : State} {m : MethodId} {args : Array Value} {below : List Frame} {meth : Method} {c : Code} {D : va_G} {cA : ClassId} {ad : Nat → Nat} {A : Nat → Prop} {H : Heap} {locs : List Loc} {ls : Array Slot} {q : (Int32 × St)} {z : Nat} {v1 : Int32} {v2 : Int32} {v3 : Int32} {S : St} (C0 : sd_Cx RX9 cX9_tide 6 (some .int) (Cond.code yX9_tide cX9_tide 6 (some .int) :: sd_big) p s m args meth c) (h : sd_Wd D vwCl cA sd_nw (wX ad cA) A s S H locs) (hl : lv_has ls 6 [(0, .ref (ad 0)), (1, .int v1), (2, .int v2), (3, .int v3)])  (hm : mX9_tide z v1 v2 v3 S = some q) : W p l e rX9_tide s m args below meth c H locs 0 0 (MQ below (sd_Qi D vwCl (wX ad cA) A q) args s 0 0 A) (F0 m 0 ls []) := by
  unfold mX9_tide at hm
  have hx := C0.1
  have hb := C0.2.1
  refine lv_iload_n hx hb dX9_tide_0 rfl (lv_at hl 1 rfl) ?_
  obtain ⟨u1, hu1, hm⟩ := bs hm
  refine sd_Si C0 h kYX9_isDay kmX9_62 [.int v1] (tX9_isDay l D cA ad hu1) rfl hl.1 rfl (Nat.le_of_ble_eq_true rfl) (by decide) dX9_tide_1 (by decide) (fun H locs h => ?_)
  refine lv_if_eq (tgt := 26) hx hb dX9_tide_4 (by decide) (fun c2 => ?_) (fun c2 => ?_)
  · replace hm := ip c2 hm
    refine lv_iconst (v := (-1)) hx hb dX9_tide_26 (by decide) ?_
    exact sd_iret C0 h (Option.some.inj hm) dX9_tide_27
  · replace hm := iq c2 hm
    refine lv_iload_n hx hb dX9_tide_7 rfl (lv_at hl 2 rfl) ?_
    obtain ⟨u3, hu3, hm⟩ := bs hm
    refine sd_Si C0 h kYX9_isMinute kmX9_86 [.int v2] (tX9_isMinute l D cA ad hu3) rfl hl.1 rfl (Nat.le_of_ble_eq_true rfl) (by decide) dX9_tide_8 (by decide) (fun H locs h => ?_)
    refine lv_if_eq (tgt := 26) hx hb dX9_tide_11 (by decide) (fun c4 => ?_) (fun c4 => ?_)
    · replace hm := ip c4 hm
      refine lv_iconst (v := (-1)) hx hb dX9_tide_26 (by decide) ?_
      exact sd_iret C0 h (Option.some.inj hm) dX9_tide_27
    · replace hm := iq c4 hm
      refine lv_iload_n hx hb dX9_tide_14 rfl (lv_at hl 3 rfl) ?_
      refine lv_bipush (v := (-100)) hx hb dX9_tide_15 (by decide) ?_
      refine lv_sipush (v := 200) hx hb dX9_tide_17 (by decide) ?_
      obtain ⟨u5, hu5, hm⟩ := bs hm
      refine sd_Si C0 h kYX9_within kmX9_89 [.int v3, .int (-100), .int 200] (tX9_within l D cA ad hu5) rfl hl.1 rfl (Nat.le_of_ble_eq_true rfl) (by decide) dX9_tide_20 (by decide) (fun H locs h => ?_)
      refine lv_if_ne (tgt := 28) hx hb dX9_tide_23 (by decide) (fun c6 => ?_) (fun c6 => ?_)
      · replace hm := iq c6 hm
        refine lv_aload_n hx hb dX9_tide_28 rfl (lv_at hl 0 rfl) ?_
        refine sd_get C0 h (C := RX9) (T := TX9) (N := 8) kcX9 0 (aX_0 ad cA _) rfl 0 (by decide) kfX9_10 (v := .ref (ad 1)) rfl dX9_tide_29 ?_
        refine sd_get C0 h (C := RX7) (T := TX7) (N := 4) kcX7 1 (aX_1 ad cA _) rfl 1 (by decide) kfX9_93 (v := .ref (ad 6)) rfl dX9_tide_32 ?_
        refine lv_astore (lv' := [(4, .ref (ad 6)), (0, .ref (ad 0)), (1, .int v1), (2, .int v2), (3, .int v3)]) hx hb dX9_tide_35 hl (by decide) rfl (fun ls hl => ?_)
        refine lv_aload hx hb dX9_tide_37 (lv_at hl 0 rfl) ?_
        refine lv_iload_n hx hb dX9_tide_39 rfl (lv_at hl 2 rfl) ?_
        refine lv_iload_n hx hb dX9_tide_40 rfl (lv_at hl 3 rfl) ?_
        obtain ⟨u7, hu7, hm⟩ := bs hm
        refine sd_Vi C0 h kYX8_rowOf kmX9_97 6 (aX_6 ad cA _) rfl [.int v1, .int v2] (tX8_rowOf l D cA ad hu7) rfl hl.1 rfl (Nat.le_of_ble_eq_true rfl) (by decide) dX9_tide_41 (by decide) (fun H locs h => ?_)
        refine lv_istore (lv' := [(5, .int u7), (4, .ref (ad 6)), (0, .ref (ad 0)), (1, .int v1), (2, .int v2), (3, .int v3)]) hx hb dX9_tide_44 hl (by decide) rfl (fun ls hl => ?_)
        refine lv_iload hx hb dX9_tide_46 (lv_at hl 0 rfl) ?_
        refine lv_iconst (v := (-1)) hx hb dX9_tide_48 (by decide) ?_
        refine lv_icmp_eq (tgt := 87) hx hb dX9_tide_49 (by decide) (fun c8 => ?_) (fun c8 => ?_)
        · replace hm := ip c8 hm
          refine lv_aload hx hb dX9_tide_87 (lv_at hl 1 rfl) ?_
          refine sd_get C0 h (C := RX8) (T := TX8) (N := 5) kcX8 6 (aX_6 ad cA _) rfl 0 (by decide) kfX9_106 (v := .ref (ad 7)) rfl dX9_tide_89 ?_
          refine lv_iload_n hx hb dX9_tide_92 rfl (lv_at hl 3 rfl) ?_
          obtain ⟨x9, hx9, hm⟩ := bs hm
          refine sd_rd C0 h 7 (aX_7 ad cA _) hx9 dX9_tide_93 ?_
          refine lv_bipush (v := 12) hx hb dX9_tide_94 (by decide) ?_
          refine lv_icmp_lt (tgt := 101) hx hb dX9_tide_96 (by decide) (fun c10 => ?_) (fun c10 => ?_)
          · replace hm := ip c10 hm
            refine lv_aload hx hb dX9_tide_101 (lv_at hl 1 rfl) ?_
            refine lv_iload_n hx hb dX9_tide_103 rfl (lv_at hl 3 rfl) ?_
            refine lv_iload_n hx hb dX9_tide_104 rfl (lv_at hl 4 rfl) ?_
            refine lv_iload_n hx hb dX9_tide_105 rfl (lv_at hl 5 rfl) ?_
            obtain ⟨u11, hu11, hm⟩ := bs hm
            refine sd_Vv C0 h kYX8_add kmX9_109 6 (aX_6 ad cA _) rfl [.int v1, .int v2, .int v3] (tX8_add l D cA ad hu11) rfl hl.1 rfl (Nat.le_of_ble_eq_true rfl) (by decide) dX9_tide_106 (by decide) (fun H locs h => ?_)
            refine lv_aload_n hx hb dX9_tide_109 rfl (lv_at hl 2 rfl) ?_
            refine sd_get C0 h (C := RX9) (T := TX9) (N := 8) kcX9 0 (aX_0 ad cA _) rfl 2 (by decide) kfX9_22 (v := .ref (ad 43)) rfl dX9_tide_110 ?_
            refine lv_iconst (v := 1) hx hb dX9_tide_113 (by decide) ?_
            refine lv_iload_n hx hb dX9_tide_114 rfl (lv_at hl 3 rfl) ?_
            refine lv_iconst (v := 0) hx hb dX9_tide_115 (by decide) ?_
            obtain ⟨u12, hu12, hm⟩ := bs hm
            refine sd_Vv C0 h kYX0_add kmX9_83 43 (aX_43 ad cA _) rfl [.int 1, .int v1, .int 0] (tX0_add l D cA ad hu12) rfl hl.1 rfl (Nat.le_of_ble_eq_true rfl) (by decide) dX9_tide_116 (by decide) (fun H locs h => ?_)
            refine lv_aload hx hb dX9_tide_119 (lv_at hl 1 rfl) ?_
            refine sd_get C0 h (C := RX8) (T := TX8) (N := 5) kcX8 6 (aX_6 ad cA _) rfl 0 (by decide) kfX9_106 (v := .ref (ad 7)) rfl dX9_tide_121 ?_
            refine lv_iload_n hx hb dX9_tide_124 rfl (lv_at hl 3 rfl) ?_
            obtain ⟨x13, hx13, hm⟩ := bs hm
            refine sd_rd C0 h 7 (aX_7 ad cA _) hx13 dX9_tide_125 ?_
            exact sd_iret C0 h (Option.some.inj hm) dX9_tide_126
          · replace hm := iq c10 hm
            refine lv_iconst (v := (-1)) hx hb dX9_tide_99 (by decide) ?_
            exact sd_iret C0 h (Option.some.inj hm) dX9_tide_100
        · replace hm := iq c8 hm
          refine lv_aload_n hx hb dX9_tide_52 rfl (lv_at hl 2 rfl) ?_
          refine sd_get C0 h (C := RX9) (T := TX9) (N := 8) kcX9 0 (aX_0 ad cA _) rfl 2 (by decide) kfX9_22 (v := .ref (ad 43)) rfl dX9_tide_53 ?_
          refine lv_iconst (v := 2) hx hb dX9_tide_56 (by decide) ?_
          refine lv_iload hx hb dX9_tide_57 (lv_at hl 0 rfl) ?_
          refine lv_aload hx hb dX9_tide_59 (lv_at hl 1 rfl) ?_
          refine sd_get C0 h (C := RX8) (T := TX8) (N := 5) kcX8 6 (aX_6 ad cA _) rfl 2 (by decide) kfX9_102 (v := .ref (ad 9)) rfl dX9_tide_61 ?_
          refine lv_iload hx hb dX9_tide_64 (lv_at hl 0 rfl) ?_
          obtain ⟨x14, hx14, hm⟩ := bs hm
          refine sd_rd C0 h 9 (aX_9 ad cA _) hx14 dX9_tide_66 ?_
          obtain ⟨u15, hu15, hm⟩ := bs hm
          refine sd_Vv C0 h kYX0_add kmX9_83 43 (aX_43 ad cA _) rfl [.int 2, .int u7, .int x14] (tX0_add l D cA ad hu15) rfl hl.1 rfl (Nat.le_of_ble_eq_true rfl) (by decide) dX9_tide_67 (by decide) (fun H locs h => ?_)
          refine lv_aload hx hb dX9_tide_70 (lv_at hl 1 rfl) ?_
          refine sd_get C0 h (C := RX8) (T := TX8) (N := 5) kcX8 6 (aX_6 ad cA _) rfl 2 (by decide) kfX9_102 (v := .ref (ad 9)) rfl dX9_tide_72 ?_
          refine lv_iload hx hb dX9_tide_75 (lv_at hl 0 rfl) ?_
          refine lv_iload_n hx hb dX9_tide_77 rfl (lv_at hl 5 rfl) ?_
          obtain ⟨g16, hg16, hm⟩ := bs hm
          refine sd_wr C0 h (S1 := (sA u15 5 g16)) 9 (aX_9 ad cA _) hg16 (eX_9 ad cA _ _) dX9_tide_78 (fun H locs h => ?_)
          refine lv_aload hx hb dX9_tide_79 (lv_at hl 1 rfl) ?_
          refine sd_get C0 h (C := RX8) (T := TX8) (N := 5) kcX8 6 (aX_6 ad cA _) rfl 0 (by decide) kfX9_106 (v := .ref (ad 7)) rfl dX9_tide_81 ?_
          refine lv_iload_n hx hb dX9_tide_84 rfl (lv_at hl 3 rfl) ?_
          obtain ⟨x17, hx17, hm⟩ := bs hm
          refine sd_rd C0 h 7 (aX_7 ad cA _) hx17 dX9_tide_85 ?_
          exact sd_iret C0 h (Option.some.inj hm) dX9_tide_86
      · replace hm := ip c6 hm
        refine lv_iconst (v := (-1)) hx hb dX9_tide_26 (by decide) ?_
        exact sd_iret C0 h (Option.some.inj hm) dX9_tide_27
theorem tX9_tide (l : Launch) (D : va_G) (cA : ClassId) (ad : Nat → Nat) {z : Nat} {S : St} {v1 : Int32} {v2 : Int32} {v3 : Int32} {q : (Int32 × St)} (hm : mX9_tide z v1 v2 v3 S = some q) : sd_MI l D vwCl cA sd_nw (wX ad cA) yX9_tide (Cond.code yX9_tide cX9_tide 6 (some .int) :: sd_big) rX9_tide [.ref (ad 0), .int v1, .int v2, .int v3] S q :=
  sd_ofI (by decide +kernel) (Nat.le_of_ble_eq_true rfl) (fun _ _ _ _ _ _ _ _ _ _ C0 h hl => bX9_tide C0 h (lv_sub hl [0, 1, 2, 3] rfl) hm)

def rX4_has : Room := { frames := 0, cells := 0, slots := 0, locals := 0 }
def mX4_has (S : St) (v1 : Int32) : Option Int32 :=
  if v1 < 0 then
    some 0
  else
    if (fI S 1) ≤ v1 then
      some 0
    else
      some 1
set_option maxHeartbeats 4000000 in
set_option maxRecDepth 100000 in
theorem bX4_has {p : Program} {l : Launch} {e : Env} {s : State} {m : MethodId} {args : Array Value} {below : List Frame} {meth : Method} {c : Code} {D : va_G} {cA : ClassId} {ad : Nat → Nat} {A : Nat → Prop} {H : Heap} {locs : List Loc} {ls : Array Slot} {q : Int32} {S : St} {v1 : Int32} (C0 : sd_Cx RX4 cX4_has 2 (some .boolean) (Cond.code yX4_has cX4_has 2 (some .boolean) :: sd_big) p s m args meth c) (h : sd_Wd D vwCl cA sd_nw (wX ad cA) A s S H locs) (hl : lv_has ls 2 [(0, .ref (ad 2)), (1, .int v1)])  (hm : mX4_has S v1 = some q) : W p l e rX4_has s m args below meth c H locs 0 0 (MQ below (sd_Qi D vwCl (wX ad cA) A (q, S)) args s 0 0 A) (F0 m 0 ls []) := by
  unfold mX4_has at hm
  have hx := C0.1
  have hb := C0.2.1
  refine lv_iload_n hx hb dX4_has_0 rfl (lv_at hl 1 rfl) ?_
  refine lv_if_lt (tgt := 16) hx hb dX4_has_1 (by decide) (fun c1 => ?_) (fun c1 => ?_)
  · replace hm := ip c1 hm
    refine lv_iconst (v := 0) hx hb dX4_has_16 (by decide) ?_
    exact sd_zret C0 h (congrArg (fun x => (x, S)) (Option.some.inj hm)) rfl dX4_has_17
  · replace hm := iq c1 hm
    refine lv_iload_n hx hb dX4_has_4 rfl (lv_at hl 1 rfl) ?_
    refine lv_aload_n hx hb dX4_has_5 rfl (lv_at hl 0 rfl) ?_
    refine sd_get C0 h (C := RX4) (T := TX4) (N := 4) kcX4 2 (aX_2 ad cA _) rfl 3 (by decide) kfX4_21 (v := .int (fI S 1)) rfl dX4_has_6 ?_
    refine lv_icmp_ge (tgt := 16) hx hb dX4_has_9 (by decide) (fun c2 => ?_) (fun c2 => ?_)
    · replace hm := ip c2 hm
      refine lv_iconst (v := 0) hx hb dX4_has_16 (by decide) ?_
      exact sd_zret C0 h (congrArg (fun x => (x, S)) (Option.some.inj hm)) rfl dX4_has_17
    · replace hm := iq c2 hm
      refine lv_iconst (v := 1) hx hb dX4_has_12 (by decide) ?_
      refine lv_goto (tgt := 17) hx hb dX4_has_13 (by decide) ?_
      exact sd_zret C0 h (congrArg (fun x => (x, S)) (Option.some.inj hm)) rfl dX4_has_17
theorem tX4_has (l : Launch) (D : va_G) (cA : ClassId) (ad : Nat → Nat) {S : St} {v1 : Int32} {q : Int32} (hm : mX4_has S v1 = some q) : sd_MI l D vwCl cA sd_nw (wX ad cA) yX4_has (Cond.code yX4_has cX4_has 2 (some .boolean) :: sd_big) rX4_has [.ref (ad 2), .int v1] S (q, S) :=
  sd_ofI (by decide +kernel) (Nat.le_of_ble_eq_true rfl) (fun _ _ _ _ _ _ _ _ _ _ C0 h hl => bX4_has C0 h (lv_sub hl [0, 1] rfl) hm)

def rX9_speed : Room := { frames := 2, cells := 0, slots := 0, locals := 44 }
def mX9_speed (v1 : Int32) (v2 : Int32) (S : St) : Option (Int32 × St) :=
  (mX4_has S v1).bind fun u1 =>
  if u1 = 0 then
    some (0, S)
  else
    (mX9_isSpeed S v2).bind fun u3 =>
    if u3 = 0 then
      some (0, S)
    else
      (rd (fA S 1) 20 v1).bind fun x5 =>
      (mX0_add 3 v1 x5 S).bind fun u6 =>
      (wr (fA u6 1) 20 v1 v2).bind fun g7 =>
      some (1, (sA u6 1 g7))
set_option maxHeartbeats 4000000 in
set_option maxRecDepth 100000 in
theorem bX9_speed {p : Program} {l : Launch} {e : Env} {s : State} {m : MethodId} {args : Array Value} {below : List Frame} {meth : Method} {c : Code} {D : va_G} {cA : ClassId} {ad : Nat → Nat} {A : Nat → Prop} {H : Heap} {locs : List Loc} {ls : Array Slot} {q : (Int32 × St)} {v1 : Int32} {v2 : Int32} {S : St} (C0 : sd_Cx RX9 cX9_speed 3 (some .boolean) (Cond.code yX9_speed cX9_speed 3 (some .boolean) :: sd_big) p s m args meth c) (h : sd_Wd D vwCl cA sd_nw (wX ad cA) A s S H locs) (hl : lv_has ls 3 [(0, .ref (ad 0)), (1, .int v1), (2, .int v2)])  (hm : mX9_speed v1 v2 S = some q) : W p l e rX9_speed s m args below meth c H locs 0 0 (MQ below (sd_Qi D vwCl (wX ad cA) A q) args s 0 0 A) (F0 m 0 ls []) := by
  unfold mX9_speed at hm
  have hx := C0.1
  have hb := C0.2.1
  refine lv_aload_n hx hb dX9_speed_0 rfl (lv_at hl 0 rfl) ?_
  refine sd_get C0 h (C := RX9) (T := TX9) (N := 8) kcX9 0 (aX_0 ad cA _) rfl 0 (by decide) kfX9_10 (v := .ref (ad 1)) rfl dX9_speed_1 ?_
  refine sd_get C0 h (C := RX7) (T := TX7) (N := 4) kcX7 1 (aX_1 ad cA _) rfl 0 (by decide) kfX9_69 (v := .ref (ad 2)) rfl dX9_speed_4 ?_
  refine lv_iload_n hx hb dX9_speed_7 rfl (lv_at hl 1 rfl) ?_
  obtain ⟨u1, hu1, hm⟩ := bs hm
  refine sd_Vi C0 h kYX4_has kmX9_110 2 (aX_2 ad cA _) rfl [.int v1] (tX4_has l D cA ad hu1) rfl hl.1 rfl (Nat.le_of_ble_eq_true rfl) (by decide) dX9_speed_8 (by decide) (fun H locs h => ?_)
  refine lv_if_eq (tgt := 21) hx hb dX9_speed_11 (by decide) (fun c2 => ?_) (fun c2 => ?_)
  · replace hm := ip c2 hm
    refine lv_iconst (v := 0) hx hb dX9_speed_21 (by decide) ?_
    exact sd_zret C0 h (Option.some.inj hm) rfl dX9_speed_22
  · replace hm := iq c2 hm
    refine lv_iload_n hx hb dX9_speed_14 rfl (lv_at hl 2 rfl) ?_
    obtain ⟨u3, hu3, hm⟩ := bs hm
    refine sd_Si C0 h kYX9_isSpeed kmX9_66 [.int v2] (tX9_isSpeed l D cA ad hu3) rfl hl.1 rfl (Nat.le_of_ble_eq_true rfl) (by decide) dX9_speed_15 (by decide) (fun H locs h => ?_)
    refine lv_if_ne (tgt := 23) hx hb dX9_speed_18 (by decide) (fun c4 => ?_) (fun c4 => ?_)
    · replace hm := iq c4 hm
      refine lv_aload_n hx hb dX9_speed_23 rfl (lv_at hl 0 rfl) ?_
      refine sd_get C0 h (C := RX9) (T := TX9) (N := 8) kcX9 0 (aX_0 ad cA _) rfl 2 (by decide) kfX9_22 (v := .ref (ad 43)) rfl dX9_speed_24 ?_
      refine lv_iconst (v := 3) hx hb dX9_speed_27 (by decide) ?_
      refine lv_iload_n hx hb dX9_speed_28 rfl (lv_at hl 1 rfl) ?_
      refine lv_aload_n hx hb dX9_speed_29 rfl (lv_at hl 0 rfl) ?_
      refine sd_get C0 h (C := RX9) (T := TX9) (N := 8) kcX9 0 (aX_0 ad cA _) rfl 0 (by decide) kfX9_10 (v := .ref (ad 1)) rfl dX9_speed_30 ?_
      refine sd_get C0 h (C := RX7) (T := TX7) (N := 4) kcX7 1 (aX_1 ad cA _) rfl 0 (by decide) kfX9_69 (v := .ref (ad 2)) rfl dX9_speed_33 ?_
      refine sd_get C0 h (C := RX4) (T := TX4) (N := 4) kcX4 2 (aX_2 ad cA _) rfl 1 (by decide) kfX9_113 (v := .ref (ad 4)) rfl dX9_speed_36 ?_
      refine lv_iload_n hx hb dX9_speed_39 rfl (lv_at hl 1 rfl) ?_
      obtain ⟨x5, hx5, hm⟩ := bs hm
      refine sd_rd C0 h 4 (aX_4 ad cA _) hx5 dX9_speed_40 ?_
      obtain ⟨u6, hu6, hm⟩ := bs hm
      refine sd_Vv C0 h kYX0_add kmX9_83 43 (aX_43 ad cA _) rfl [.int 3, .int v1, .int x5] (tX0_add l D cA ad hu6) rfl hl.1 rfl (Nat.le_of_ble_eq_true rfl) (by decide) dX9_speed_41 (by decide) (fun H locs h => ?_)
      refine lv_aload_n hx hb dX9_speed_44 rfl (lv_at hl 0 rfl) ?_
      refine sd_get C0 h (C := RX9) (T := TX9) (N := 8) kcX9 0 (aX_0 ad cA _) rfl 0 (by decide) kfX9_10 (v := .ref (ad 1)) rfl dX9_speed_45 ?_
      refine sd_get C0 h (C := RX7) (T := TX7) (N := 4) kcX7 1 (aX_1 ad cA _) rfl 0 (by decide) kfX9_69 (v := .ref (ad 2)) rfl dX9_speed_48 ?_
      refine sd_get C0 h (C := RX4) (T := TX4) (N := 4) kcX4 2 (aX_2 ad cA _) rfl 1 (by decide) kfX9_113 (v := .ref (ad 4)) rfl dX9_speed_51 ?_
      refine lv_iload_n hx hb dX9_speed_54 rfl (lv_at hl 1 rfl) ?_
      refine lv_iload_n hx hb dX9_speed_55 rfl (lv_at hl 2 rfl) ?_
      obtain ⟨g7, hg7, hm⟩ := bs hm
      refine sd_wr C0 h (S1 := (sA u6 1 g7)) 4 (aX_4 ad cA _) hg7 (eX_4 ad cA _ _) dX9_speed_56 (fun H locs h => ?_)
      refine lv_iconst (v := 1) hx hb dX9_speed_57 (by decide) ?_
      exact sd_zret C0 h (Option.some.inj hm) rfl dX9_speed_58
    · replace hm := ip c4 hm
      refine lv_iconst (v := 0) hx hb dX9_speed_21 (by decide) ?_
      exact sd_zret C0 h (Option.some.inj hm) rfl dX9_speed_22
theorem tX9_speed (l : Launch) (D : va_G) (cA : ClassId) (ad : Nat → Nat) {S : St} {v1 : Int32} {v2 : Int32} {q : (Int32 × St)} (hm : mX9_speed v1 v2 S = some q) : sd_MI l D vwCl cA sd_nw (wX ad cA) yX9_speed (Cond.code yX9_speed cX9_speed 3 (some .boolean) :: sd_big) rX9_speed [.ref (ad 0), .int v1, .int v2] S q :=
  sd_ofI (by decide +kernel) (Nat.le_of_ble_eq_true rfl) (fun _ _ _ _ _ _ _ _ _ _ C0 h hl => bX9_speed C0 h (lv_sub hl [0, 1, 2] rfl) hm)

def rX9_shift : Room := { frames := 2, cells := 0, slots := 0, locals := 44 }
def mX9_shift (v1 : Int32) (v2 : Int32) (S : St) : Option (Int32 × St) :=
  (mX4_has S v1).bind fun u1 =>
  if u1 = 0 then
    some (0, S)
  else
    (mX9_within S v2 (-50) 50).bind fun u3 =>
    if u3 = 0 then
      some (0, S)
    else
      (rd (fA S 2) 20 v1).bind fun x5 =>
      (mX0_add 4 v1 x5 S).bind fun u6 =>
      (wr (fA u6 2) 20 v1 v2).bind fun g7 =>
      some (1, (sA u6 2 g7))
set_option maxHeartbeats 4000000 in
set_option maxRecDepth 100000 in
theorem bX9_shift {p : Program} {l : Launch} {e : Env} {s : State} {m : MethodId} {args : Array Value} {below : List Frame} {meth : Method} {c : Code} {D : va_G} {cA : ClassId} {ad : Nat → Nat} {A : Nat → Prop} {H : Heap} {locs : List Loc} {ls : Array Slot} {q : (Int32 × St)} {v1 : Int32} {v2 : Int32} {S : St} (C0 : sd_Cx RX9 cX9_shift 3 (some .boolean) (Cond.code yX9_shift cX9_shift 3 (some .boolean) :: sd_big) p s m args meth c) (h : sd_Wd D vwCl cA sd_nw (wX ad cA) A s S H locs) (hl : lv_has ls 3 [(0, .ref (ad 0)), (1, .int v1), (2, .int v2)])  (hm : mX9_shift v1 v2 S = some q) : W p l e rX9_shift s m args below meth c H locs 0 0 (MQ below (sd_Qi D vwCl (wX ad cA) A q) args s 0 0 A) (F0 m 0 ls []) := by
  unfold mX9_shift at hm
  have hx := C0.1
  have hb := C0.2.1
  refine lv_aload_n hx hb dX9_shift_0 rfl (lv_at hl 0 rfl) ?_
  refine sd_get C0 h (C := RX9) (T := TX9) (N := 8) kcX9 0 (aX_0 ad cA _) rfl 0 (by decide) kfX9_10 (v := .ref (ad 1)) rfl dX9_shift_1 ?_
  refine sd_get C0 h (C := RX7) (T := TX7) (N := 4) kcX7 1 (aX_1 ad cA _) rfl 0 (by decide) kfX9_69 (v := .ref (ad 2)) rfl dX9_shift_4 ?_
  refine lv_iload_n hx hb dX9_shift_7 rfl (lv_at hl 1 rfl) ?_
  obtain ⟨u1, hu1, hm⟩ := bs hm
  refine sd_Vi C0 h kYX4_has kmX9_110 2 (aX_2 ad cA _) rfl [.int v1] (tX4_has l D cA ad hu1) rfl hl.1 rfl (Nat.le_of_ble_eq_true rfl) (by decide) dX9_shift_8 (by decide) (fun H locs h => ?_)
  refine lv_if_eq (tgt := 25) hx hb dX9_shift_11 (by decide) (fun c2 => ?_) (fun c2 => ?_)
  · replace hm := ip c2 hm
    refine lv_iconst (v := 0) hx hb dX9_shift_25 (by decide) ?_
    exact sd_zret C0 h (Option.some.inj hm) rfl dX9_shift_26
  · replace hm := iq c2 hm
    refine lv_iload_n hx hb dX9_shift_14 rfl (lv_at hl 2 rfl) ?_
    refine lv_bipush (v := (-50)) hx hb dX9_shift_15 (by decide) ?_
    refine lv_bipush (v := 50) hx hb dX9_shift_17 (by decide) ?_
    obtain ⟨u3, hu3, hm⟩ := bs hm
    refine sd_Si C0 h kYX9_within kmX9_89 [.int v2, .int (-50), .int 50] (tX9_within l D cA ad hu3) rfl hl.1 rfl (Nat.le_of_ble_eq_true rfl) (by decide) dX9_shift_19 (by decide) (fun H locs h => ?_)
    refine lv_if_ne (tgt := 27) hx hb dX9_shift_22 (by decide) (fun c4 => ?_) (fun c4 => ?_)
    · replace hm := iq c4 hm
      refine lv_aload_n hx hb dX9_shift_27 rfl (lv_at hl 0 rfl) ?_
      refine sd_get C0 h (C := RX9) (T := TX9) (N := 8) kcX9 0 (aX_0 ad cA _) rfl 2 (by decide) kfX9_22 (v := .ref (ad 43)) rfl dX9_shift_28 ?_
      refine lv_iconst (v := 4) hx hb dX9_shift_31 (by decide) ?_
      refine lv_iload_n hx hb dX9_shift_32 rfl (lv_at hl 1 rfl) ?_
      refine lv_aload_n hx hb dX9_shift_33 rfl (lv_at hl 0 rfl) ?_
      refine sd_get C0 h (C := RX9) (T := TX9) (N := 8) kcX9 0 (aX_0 ad cA _) rfl 0 (by decide) kfX9_10 (v := .ref (ad 1)) rfl dX9_shift_34 ?_
      refine sd_get C0 h (C := RX7) (T := TX7) (N := 4) kcX7 1 (aX_1 ad cA _) rfl 0 (by decide) kfX9_69 (v := .ref (ad 2)) rfl dX9_shift_37 ?_
      refine sd_get C0 h (C := RX4) (T := TX4) (N := 4) kcX4 2 (aX_2 ad cA _) rfl 2 (by decide) kfX9_116 (v := .ref (ad 5)) rfl dX9_shift_40 ?_
      refine lv_iload_n hx hb dX9_shift_43 rfl (lv_at hl 1 rfl) ?_
      obtain ⟨x5, hx5, hm⟩ := bs hm
      refine sd_rd C0 h 5 (aX_5 ad cA _) hx5 dX9_shift_44 ?_
      obtain ⟨u6, hu6, hm⟩ := bs hm
      refine sd_Vv C0 h kYX0_add kmX9_83 43 (aX_43 ad cA _) rfl [.int 4, .int v1, .int x5] (tX0_add l D cA ad hu6) rfl hl.1 rfl (Nat.le_of_ble_eq_true rfl) (by decide) dX9_shift_45 (by decide) (fun H locs h => ?_)
      refine lv_aload_n hx hb dX9_shift_48 rfl (lv_at hl 0 rfl) ?_
      refine sd_get C0 h (C := RX9) (T := TX9) (N := 8) kcX9 0 (aX_0 ad cA _) rfl 0 (by decide) kfX9_10 (v := .ref (ad 1)) rfl dX9_shift_49 ?_
      refine sd_get C0 h (C := RX7) (T := TX7) (N := 4) kcX7 1 (aX_1 ad cA _) rfl 0 (by decide) kfX9_69 (v := .ref (ad 2)) rfl dX9_shift_52 ?_
      refine sd_get C0 h (C := RX4) (T := TX4) (N := 4) kcX4 2 (aX_2 ad cA _) rfl 2 (by decide) kfX9_116 (v := .ref (ad 5)) rfl dX9_shift_55 ?_
      refine lv_iload_n hx hb dX9_shift_58 rfl (lv_at hl 1 rfl) ?_
      refine lv_iload_n hx hb dX9_shift_59 rfl (lv_at hl 2 rfl) ?_
      obtain ⟨g7, hg7, hm⟩ := bs hm
      refine sd_wr C0 h (S1 := (sA u6 2 g7)) 5 (aX_5 ad cA _) hg7 (eX_5 ad cA _ _) dX9_shift_60 (fun H locs h => ?_)
      refine lv_iconst (v := 1) hx hb dX9_shift_61 (by decide) ?_
      exact sd_zret C0 h (Option.some.inj hm) rfl dX9_shift_62
    · replace hm := ip c4 hm
      refine lv_iconst (v := 0) hx hb dX9_shift_25 (by decide) ?_
      exact sd_zret C0 h (Option.some.inj hm) rfl dX9_shift_26
theorem tX9_shift (l : Launch) (D : va_G) (cA : ClassId) (ad : Nat → Nat) {S : St} {v1 : Int32} {v2 : Int32} {q : (Int32 × St)} (hm : mX9_shift v1 v2 S = some q) : sd_MI l D vwCl cA sd_nw (wX ad cA) yX9_shift (Cond.code yX9_shift cX9_shift 3 (some .boolean) :: sd_big) rX9_shift [.ref (ad 0), .int v1, .int v2] S q :=
  sd_ofI (by decide +kernel) (Nat.le_of_ble_eq_true rfl) (fun _ _ _ _ _ _ _ _ _ _ C0 h hl => bX9_shift C0 h (lv_sub hl [0, 1, 2] rfl) hm)

def rX9_isPlace : Room := { frames := 1, cells := 0, slots := 0, locals := 22 }
def mX9_isPlace (S : St) (v0 : Int32) (v1 : Int32) : Option Int32 :=
  (mX9_within S v0 0 255).bind fun u1 =>
  if u1 = 0 then
    some 0
  else
    (mX9_within S v1 0 255).bind fun u3 =>
    if u3 = 0 then
      some 0
    else
      some 1
set_option maxHeartbeats 4000000 in
set_option maxRecDepth 100000 in
theorem bX9_isPlace {p : Program} {l : Launch} {e : Env} {s : State} {m : MethodId} {args : Array Value} {below : List Frame} {meth : Method} {c : Code} {D : va_G} {cA : ClassId} {ad : Nat → Nat} {A : Nat → Prop} {H : Heap} {locs : List Loc} {ls : Array Slot} {q : Int32} {S : St} {v0 : Int32} {v1 : Int32} (C0 : sd_Cx RX9 cX9_isPlace 2 (some .boolean) (Cond.code yX9_isPlace cX9_isPlace 2 (some .boolean) :: sd_big) p s m args meth c) (h : sd_Wd D vwCl cA sd_nw (wX ad cA) A s S H locs) (hl : lv_has ls 2 [(0, .int v0), (1, .int v1)])  (hm : mX9_isPlace S v0 v1 = some q) : W p l e rX9_isPlace s m args below meth c H locs 0 0 (MQ below (sd_Qi D vwCl (wX ad cA) A (q, S)) args s 0 0 A) (F0 m 0 ls []) := by
  unfold mX9_isPlace at hm
  have hx := C0.1
  have hb := C0.2.1
  refine lv_iload_n hx hb dX9_isPlace_0 rfl (lv_at hl 0 rfl) ?_
  refine lv_iconst (v := 0) hx hb dX9_isPlace_1 (by decide) ?_
  refine lv_sipush (v := 255) hx hb dX9_isPlace_2 (by decide) ?_
  obtain ⟨u1, hu1, hm⟩ := bs hm
  refine sd_Si C0 h kYX9_within kmX9_89 [.int v0, .int 0, .int 255] (tX9_within l D cA ad hu1) rfl hl.1 rfl (Nat.le_of_ble_eq_true rfl) (by decide) dX9_isPlace_5 (by decide) (fun H locs h => ?_)
  refine lv_if_eq (tgt := 26) hx hb dX9_isPlace_8 (by decide) (fun c2 => ?_) (fun c2 => ?_)
  · replace hm := ip c2 hm
    refine lv_iconst (v := 0) hx hb dX9_isPlace_26 (by decide) ?_
    exact sd_zret C0 h (congrArg (fun x => (x, S)) (Option.some.inj hm)) rfl dX9_isPlace_27
  · replace hm := iq c2 hm
    refine lv_iload_n hx hb dX9_isPlace_11 rfl (lv_at hl 1 rfl) ?_
    refine lv_iconst (v := 0) hx hb dX9_isPlace_12 (by decide) ?_
    refine lv_sipush (v := 255) hx hb dX9_isPlace_13 (by decide) ?_
    obtain ⟨u3, hu3, hm⟩ := bs hm
    refine sd_Si C0 h kYX9_within kmX9_89 [.int v1, .int 0, .int 255] (tX9_within l D cA ad hu3) rfl hl.1 rfl (Nat.le_of_ble_eq_true rfl) (by decide) dX9_isPlace_16 (by decide) (fun H locs h => ?_)
    refine lv_if_eq (tgt := 26) hx hb dX9_isPlace_19 (by decide) (fun c4 => ?_) (fun c4 => ?_)
    · replace hm := ip c4 hm
      refine lv_iconst (v := 0) hx hb dX9_isPlace_26 (by decide) ?_
      exact sd_zret C0 h (congrArg (fun x => (x, S)) (Option.some.inj hm)) rfl dX9_isPlace_27
    · replace hm := iq c4 hm
      refine lv_iconst (v := 1) hx hb dX9_isPlace_22 (by decide) ?_
      refine lv_goto (tgt := 27) hx hb dX9_isPlace_23 (by decide) ?_
      exact sd_zret C0 h (congrArg (fun x => (x, S)) (Option.some.inj hm)) rfl dX9_isPlace_27
theorem tX9_isPlace (l : Launch) (D : va_G) (cA : ClassId) (ad : Nat → Nat) {S : St} {v0 : Int32} {v1 : Int32} {q : Int32} (hm : mX9_isPlace S v0 v1 = some q) : sd_MI l D vwCl cA sd_nw (wX ad cA) yX9_isPlace (Cond.code yX9_isPlace cX9_isPlace 2 (some .boolean) :: sd_big) rX9_isPlace [.int v0, .int v1] S (q, S) :=
  sd_ofI (by decide +kernel) (Nat.le_of_ble_eq_true rfl) (fun _ _ _ _ _ _ _ _ _ _ C0 h hl => bX9_isPlace C0 h (lv_sub hl [0, 1] rfl) hm)

def rX6_setOrigin : Room := { frames := 0, cells := 0, slots := 0, locals := 0 }
def mX6_setOrigin (v1 : Int32) (v2 : Int32) (v3 : Int32) (v4 : Int32) (S : St) : Option St :=
  (wr (fA S 10) 200 v1 v2).bind fun g1 =>
  (wr (fA (sA S 10 g1) 11) 200 v1 v3).bind fun g2 =>
  (wr (fA (sA (sA S 10 g1) 11 g2) 12) 200 v1 v4).bind fun g3 =>
  some (sA (sA (sA S 10 g1) 11 g2) 12 g3)
set_option maxHeartbeats 4000000 in
set_option maxRecDepth 100000 in
theorem bX6_setOrigin {p : Program} {l : Launch} {e : Env} {s : State} {m : MethodId} {args : Array Value} {below : List Frame} {meth : Method} {c : Code} {D : va_G} {cA : ClassId} {ad : Nat → Nat} {A : Nat → Prop} {H : Heap} {locs : List Loc} {ls : Array Slot} {q : St} {v1 : Int32} {v2 : Int32} {v3 : Int32} {v4 : Int32} {S : St} (C0 : sd_Cx RX6 cX6_setOrigin 5 none (Cond.code yX6_setOrigin cX6_setOrigin 5 none :: sd_big) p s m args meth c) (h : sd_Wd D vwCl cA sd_nw (wX ad cA) A s S H locs) (hl : lv_has ls 5 [(0, .ref (ad 10)), (1, .int v1), (2, .int v2), (3, .int v3), (4, .int v4)])  (hm : mX6_setOrigin v1 v2 v3 v4 S = some q) : W p l e rX6_setOrigin s m args below meth c H locs 0 0 (MQ below (sd_Qv D vwCl (wX ad cA) A q) args s 0 0 A) (F0 m 0 ls []) := by
  unfold mX6_setOrigin at hm
  have hx := C0.1
  have hb := C0.2.1
  refine lv_aload_n hx hb dX6_setOrigin_0 rfl (lv_at hl 0 rfl) ?_
  refine sd_get C0 h (C := RX6) (T := TX6) (N := 11) kcX6 10 (aX_10 ad cA _) rfl 4 (by decide) kfX6_24 (v := .ref (ad 15)) rfl dX6_setOrigin_1 ?_
  refine lv_iload_n hx hb dX6_setOrigin_4 rfl (lv_at hl 1 rfl) ?_
  refine lv_iload_n hx hb dX6_setOrigin_5 rfl (lv_at hl 2 rfl) ?_
  obtain ⟨g1, hg1, hm⟩ := bs hm
  refine sd_wr C0 h (S1 := (sA S 10 g1)) 15 (aX_15 ad cA _) hg1 (eX_15 ad cA _ _) dX6_setOrigin_6 (fun H locs h => ?_)
  refine lv_aload_n hx hb dX6_setOrigin_7 rfl (lv_at hl 0 rfl) ?_
  refine sd_get C0 h (C := RX6) (T := TX6) (N := 11) kcX6 10 (aX_10 ad cA _) rfl 5 (by decide) kfX6_27 (v := .ref (ad 16)) rfl dX6_setOrigin_8 ?_
  refine lv_iload_n hx hb dX6_setOrigin_11 rfl (lv_at hl 1 rfl) ?_
  refine lv_iload_n hx hb dX6_setOrigin_12 rfl (lv_at hl 3 rfl) ?_
  obtain ⟨g2, hg2, hm⟩ := bs hm
  refine sd_wr C0 h (S1 := (sA (sA S 10 g1) 11 g2)) 16 (aX_16 ad cA _) hg2 (eX_16 ad cA _ _) dX6_setOrigin_13 (fun H locs h => ?_)
  refine lv_aload_n hx hb dX6_setOrigin_14 rfl (lv_at hl 0 rfl) ?_
  refine sd_get C0 h (C := RX6) (T := TX6) (N := 11) kcX6 10 (aX_10 ad cA _) rfl 6 (by decide) kfX6_30 (v := .ref (ad 17)) rfl dX6_setOrigin_15 ?_
  refine lv_iload_n hx hb dX6_setOrigin_18 rfl (lv_at hl 1 rfl) ?_
  refine lv_iload hx hb dX6_setOrigin_19 (lv_at hl 4 rfl) ?_
  obtain ⟨g3, hg3, hm⟩ := bs hm
  refine sd_wr C0 h (S1 := (sA (sA (sA S 10 g1) 11 g2) 12 g3)) 17 (aX_17 ad cA _) hg3 (eX_17 ad cA _ _) dX6_setOrigin_21 (fun H locs h => ?_)
  exact sd_vret C0 h (Option.some.inj hm) dX6_setOrigin_22
theorem tX6_setOrigin (l : Launch) (D : va_G) (cA : ClassId) (ad : Nat → Nat) {S : St} {v1 : Int32} {v2 : Int32} {v3 : Int32} {v4 : Int32} {q : St} (hm : mX6_setOrigin v1 v2 v3 v4 S = some q) : sd_MV l D vwCl cA sd_nw (wX ad cA) yX6_setOrigin (Cond.code yX6_setOrigin cX6_setOrigin 5 none :: sd_big) rX6_setOrigin [.ref (ad 10), .int v1, .int v2, .int v3, .int v4] S q :=
  sd_ofV (by decide +kernel) (Nat.le_of_ble_eq_true rfl) (fun _ _ _ _ _ _ _ _ _ _ C0 h hl => bX6_setOrigin C0 h (lv_sub hl [0, 1, 2, 3, 4] rfl) hm)

def rX6_setSpan : Room := { frames := 0, cells := 0, slots := 0, locals := 0 }
def mX6_setSpan (v1 : Int32) (v2 : Int32) (v3 : Int32) (S : St) : Option St :=
  (wr (fA S 14) 200 v1 v2).bind fun g1 =>
  (wr (fA (sA S 14 g1) 15) 200 v1 v3).bind fun g2 =>
  some (sA (sA S 14 g1) 15 g2)
set_option maxHeartbeats 4000000 in
set_option maxRecDepth 100000 in
theorem bX6_setSpan {p : Program} {l : Launch} {e : Env} {s : State} {m : MethodId} {args : Array Value} {below : List Frame} {meth : Method} {c : Code} {D : va_G} {cA : ClassId} {ad : Nat → Nat} {A : Nat → Prop} {H : Heap} {locs : List Loc} {ls : Array Slot} {q : St} {v1 : Int32} {v2 : Int32} {v3 : Int32} {S : St} (C0 : sd_Cx RX6 cX6_setSpan 4 none (Cond.code yX6_setSpan cX6_setSpan 4 none :: sd_big) p s m args meth c) (h : sd_Wd D vwCl cA sd_nw (wX ad cA) A s S H locs) (hl : lv_has ls 4 [(0, .ref (ad 10)), (1, .int v1), (2, .int v2), (3, .int v3)])  (hm : mX6_setSpan v1 v2 v3 S = some q) : W p l e rX6_setSpan s m args below meth c H locs 0 0 (MQ below (sd_Qv D vwCl (wX ad cA) A q) args s 0 0 A) (F0 m 0 ls []) := by
  unfold mX6_setSpan at hm
  have hx := C0.1
  have hb := C0.2.1
  refine lv_aload_n hx hb dX6_setSpan_0 rfl (lv_at hl 0 rfl) ?_
  refine sd_get C0 h (C := RX6) (T := TX6) (N := 11) kcX6 10 (aX_10 ad cA _) rfl 8 (by decide) kfX6_36 (v := .ref (ad 19)) rfl dX6_setSpan_1 ?_
  refine lv_iload_n hx hb dX6_setSpan_4 rfl (lv_at hl 1 rfl) ?_
  refine lv_iload_n hx hb dX6_setSpan_5 rfl (lv_at hl 2 rfl) ?_
  obtain ⟨g1, hg1, hm⟩ := bs hm
  refine sd_wr C0 h (S1 := (sA S 14 g1)) 19 (aX_19 ad cA _) hg1 (eX_19 ad cA _ _) dX6_setSpan_6 (fun H locs h => ?_)
  refine lv_aload_n hx hb dX6_setSpan_7 rfl (lv_at hl 0 rfl) ?_
  refine sd_get C0 h (C := RX6) (T := TX6) (N := 11) kcX6 10 (aX_10 ad cA _) rfl 9 (by decide) kfX6_39 (v := .ref (ad 20)) rfl dX6_setSpan_8 ?_
  refine lv_iload_n hx hb dX6_setSpan_11 rfl (lv_at hl 1 rfl) ?_
  refine lv_iload_n hx hb dX6_setSpan_12 rfl (lv_at hl 3 rfl) ?_
  obtain ⟨g2, hg2, hm⟩ := bs hm
  refine sd_wr C0 h (S1 := (sA (sA S 14 g1) 15 g2)) 20 (aX_20 ad cA _) hg2 (eX_20 ad cA _ _) dX6_setSpan_13 (fun H locs h => ?_)
  exact sd_vret C0 h (Option.some.inj hm) dX6_setSpan_14
theorem tX6_setSpan (l : Launch) (D : va_G) (cA : ClassId) (ad : Nat → Nat) {S : St} {v1 : Int32} {v2 : Int32} {v3 : Int32} {q : St} (hm : mX6_setSpan v1 v2 v3 S = some q) : sd_MV l D vwCl cA sd_nw (wX ad cA) yX6_setSpan (Cond.code yX6_setSpan cX6_setSpan 4 none :: sd_big) rX6_setSpan [.ref (ad 10), .int v1, .int v2, .int v3] S q :=
  sd_ofV (by decide +kernel) (Nat.le_of_ble_eq_true rfl) (fun _ _ _ _ _ _ _ _ _ _ C0 h hl => bX6_setSpan C0 h (lv_sub hl [0, 1, 2, 3] rfl) hm)

def rX6_add : Room := { frames := 1, cells := 0, slots := 0, locals := 24 }
def mX6_add (v1 : Int32) (v2 : Int32) (v3 : Int32) (v4 : Int32) (S : St) : Option (Int32 × St) :=
  if (fI S 2) < 200 then
    (wr (fA S 6) 200 (fI S 2) v1).bind fun g2 =>
    (wr (fA (sA S 6 g2) 7) 200 (fI (sA S 6 g2) 2) v2).bind fun g3 =>
    (wr (fA (sA (sA S 6 g2) 7 g3) 8) 200 (fI (sA (sA S 6 g2) 7 g3) 2) v3).bind fun g4 =>
    (wr (fA (sA (sA (sA S 6 g2) 7 g3) 8 g4) 9) 200 (fI (sA (sA (sA S 6 g2) 7 g3) 8 g4) 2) v4).bind fun g5 =>
    (wr (fA (sA (sA (sA (sA S 6 g2) 7 g3) 8 g4) 9 g5) 13) 200 (fI (sA (sA (sA (sA S 6 g2) 7 g3) 8 g4) 9 g5) 2) 100).bind fun g6 =>
    (mX6_setOrigin (fI (sA (sA (sA (sA (sA S 6 g2) 7 g3) 8 g4) 9 g5) 13 g6) 2) 0 (-1) (-1) (sA (sA (sA (sA (sA S 6 g2) 7 g3) 8 g4) 9 g5) 13 g6)).bind fun u7 =>
    (mX6_setSpan (fI u7 2) 1 1 u7).bind fun u8 =>
    some (((fI (sI u8 2 ((fI u8 2) + 1)) 2) - 1), (sI u8 2 ((fI u8 2) + 1)))
  else
    some ((-1), S)
set_option maxHeartbeats 4000000 in
set_option maxRecDepth 100000 in
theorem bX6_add {p : Program} {l : Launch} {e : Env} {s : State} {m : MethodId} {args : Array Value} {below : List Frame} {meth : Method} {c : Code} {D : va_G} {cA : ClassId} {ad : Nat → Nat} {A : Nat → Prop} {H : Heap} {locs : List Loc} {ls : Array Slot} {q : (Int32 × St)} {v1 : Int32} {v2 : Int32} {v3 : Int32} {v4 : Int32} {S : St} (C0 : sd_Cx RX6 cX6_add 5 (some .int) (Cond.code yX6_add cX6_add 5 (some .int) :: sd_big) p s m args meth c) (h : sd_Wd D vwCl cA sd_nw (wX ad cA) A s S H locs) (hl : lv_has ls 5 [(0, .ref (ad 10)), (1, .int v1), (2, .int v2), (3, .int v3), (4, .int v4)])  (hm : mX6_add v1 v2 v3 v4 S = some q) : W p l e rX6_add s m args below meth c H locs 0 0 (MQ below (sd_Qi D vwCl (wX ad cA) A q) args s 0 0 A) (F0 m 0 ls []) := by
  unfold mX6_add at hm
  have hx := C0.1
  have hb := C0.2.1
  refine lv_aload_n hx hb dX6_add_0 rfl (lv_at hl 0 rfl) ?_
  refine sd_get C0 h (C := RX6) (T := TX6) (N := 11) kcX6 10 (aX_10 ad cA _) rfl 10 (by decide) kfX6_42 (v := .int (fI S 2)) rfl dX6_add_1 ?_
  refine lv_sipush (v := 200) hx hb dX6_add_4 (by decide) ?_
  refine lv_icmp_lt (tgt := 12) hx hb dX6_add_7 (by decide) (fun c1 => ?_) (fun c1 => ?_)
  · replace hm := ip c1 hm
    refine lv_aload_n hx hb dX6_add_12 rfl (lv_at hl 0 rfl) ?_
    refine sd_get C0 h (C := RX6) (T := TX6) (N := 11) kcX6 10 (aX_10 ad cA _) rfl 0 (by decide) kfX6_9 (v := .ref (ad 11)) rfl dX6_add_13 ?_
    refine lv_aload_n hx hb dX6_add_16 rfl (lv_at hl 0 rfl) ?_
    refine sd_get C0 h (C := RX6) (T := TX6) (N := 11) kcX6 10 (aX_10 ad cA _) rfl 10 (by decide) kfX6_42 (v := .int (fI S 2)) rfl dX6_add_17 ?_
    refine lv_iload_n hx hb dX6_add_20 rfl (lv_at hl 1 rfl) ?_
    obtain ⟨g2, hg2, hm⟩ := bs hm
    refine sd_wr C0 h (S1 := (sA S 6 g2)) 11 (aX_11 ad cA _) hg2 (eX_11 ad cA _ _) dX6_add_21 (fun H locs h => ?_)
    refine lv_aload_n hx hb dX6_add_22 rfl (lv_at hl 0 rfl) ?_
    refine sd_get C0 h (C := RX6) (T := TX6) (N := 11) kcX6 10 (aX_10 ad cA _) rfl 1 (by decide) kfX6_15 (v := .ref (ad 12)) rfl dX6_add_23 ?_
    refine lv_aload_n hx hb dX6_add_26 rfl (lv_at hl 0 rfl) ?_
    refine sd_get C0 h (C := RX6) (T := TX6) (N := 11) kcX6 10 (aX_10 ad cA _) rfl 10 (by decide) kfX6_42 (v := .int (fI (sA S 6 g2) 2)) rfl dX6_add_27 ?_
    refine lv_iload_n hx hb dX6_add_30 rfl (lv_at hl 2 rfl) ?_
    obtain ⟨g3, hg3, hm⟩ := bs hm
    refine sd_wr C0 h (S1 := (sA (sA S 6 g2) 7 g3)) 12 (aX_12 ad cA _) hg3 (eX_12 ad cA _ _) dX6_add_31 (fun H locs h => ?_)
    refine lv_aload_n hx hb dX6_add_32 rfl (lv_at hl 0 rfl) ?_
    refine sd_get C0 h (C := RX6) (T := TX6) (N := 11) kcX6 10 (aX_10 ad cA _) rfl 2 (by decide) kfX6_18 (v := .ref (ad 13)) rfl dX6_add_33 ?_
    refine lv_aload_n hx hb dX6_add_36 rfl (lv_at hl 0 rfl) ?_
    refine sd_get C0 h (C := RX6) (T := TX6) (N := 11) kcX6 10 (aX_10 ad cA _) rfl 10 (by decide) kfX6_42 (v := .int (fI (sA (sA S 6 g2) 7 g3) 2)) rfl dX6_add_37 ?_
    refine lv_iload_n hx hb dX6_add_40 rfl (lv_at hl 3 rfl) ?_
    obtain ⟨g4, hg4, hm⟩ := bs hm
    refine sd_wr C0 h (S1 := (sA (sA (sA S 6 g2) 7 g3) 8 g4)) 13 (aX_13 ad cA _) hg4 (eX_13 ad cA _ _) dX6_add_41 (fun H locs h => ?_)
    refine lv_aload_n hx hb dX6_add_42 rfl (lv_at hl 0 rfl) ?_
    refine sd_get C0 h (C := RX6) (T := TX6) (N := 11) kcX6 10 (aX_10 ad cA _) rfl 3 (by decide) kfX6_21 (v := .ref (ad 14)) rfl dX6_add_43 ?_
    refine lv_aload_n hx hb dX6_add_46 rfl (lv_at hl 0 rfl) ?_
    refine sd_get C0 h (C := RX6) (T := TX6) (N := 11) kcX6 10 (aX_10 ad cA _) rfl 10 (by decide) kfX6_42 (v := .int (fI (sA (sA (sA S 6 g2) 7 g3) 8 g4) 2)) rfl dX6_add_47 ?_
    refine lv_iload hx hb dX6_add_50 (lv_at hl 4 rfl) ?_
    obtain ⟨g5, hg5, hm⟩ := bs hm
    refine sd_wr C0 h (S1 := (sA (sA (sA (sA S 6 g2) 7 g3) 8 g4) 9 g5)) 14 (aX_14 ad cA _) hg5 (eX_14 ad cA _ _) dX6_add_52 (fun H locs h => ?_)
    refine lv_aload_n hx hb dX6_add_53 rfl (lv_at hl 0 rfl) ?_
    refine sd_get C0 h (C := RX6) (T := TX6) (N := 11) kcX6 10 (aX_10 ad cA _) rfl 7 (by decide) kfX6_33 (v := .ref (ad 18)) rfl dX6_add_54 ?_
    refine lv_aload_n hx hb dX6_add_57 rfl (lv_at hl 0 rfl) ?_
    refine sd_get C0 h (C := RX6) (T := TX6) (N := 11) kcX6 10 (aX_10 ad cA _) rfl 10 (by decide) kfX6_42 (v := .int (fI (sA (sA (sA (sA S 6 g2) 7 g3) 8 g4) 9 g5) 2)) rfl dX6_add_58 ?_
    refine lv_bipush (v := 100) hx hb dX6_add_61 (by decide) ?_
    obtain ⟨g6, hg6, hm⟩ := bs hm
    refine sd_wr C0 h (S1 := (sA (sA (sA (sA (sA S 6 g2) 7 g3) 8 g4) 9 g5) 13 g6)) 18 (aX_18 ad cA _) hg6 (eX_18 ad cA _ _) dX6_add_63 (fun H locs h => ?_)
    refine lv_aload_n hx hb dX6_add_64 rfl (lv_at hl 0 rfl) ?_
    refine lv_aload_n hx hb dX6_add_65 rfl (lv_at hl 0 rfl) ?_
    refine sd_get C0 h (C := RX6) (T := TX6) (N := 11) kcX6 10 (aX_10 ad cA _) rfl 10 (by decide) kfX6_42 (v := .int (fI (sA (sA (sA (sA (sA S 6 g2) 7 g3) 8 g4) 9 g5) 13 g6) 2)) rfl dX6_add_66 ?_
    refine lv_iconst (v := 0) hx hb dX6_add_69 (by decide) ?_
    refine lv_iconst (v := (-1)) hx hb dX6_add_70 (by decide) ?_
    refine lv_iconst (v := (-1)) hx hb dX6_add_71 (by decide) ?_
    obtain ⟨u7, hu7, hm⟩ := bs hm
    refine sd_Vv C0 h kYX6_setOrigin kmX6_46 10 (aX_10 ad cA _) rfl [.int (fI (sA (sA (sA (sA (sA S 6 g2) 7 g3) 8 g4) 9 g5) 13 g6) 2), .int 0, .int (-1), .int (-1)] (tX6_setOrigin l D cA ad hu7) rfl hl.1 rfl (Nat.le_of_ble_eq_true rfl) (by decide) dX6_add_72 (by decide) (fun H locs h => ?_)
    refine lv_aload_n hx hb dX6_add_75 rfl (lv_at hl 0 rfl) ?_
    refine lv_aload_n hx hb dX6_add_76 rfl (lv_at hl 0 rfl) ?_
    refine sd_get C0 h (C := RX6) (T := TX6) (N := 11) kcX6 10 (aX_10 ad cA _) rfl 10 (by decide) kfX6_42 (v := .int (fI u7 2)) rfl dX6_add_77 ?_
    refine lv_iconst (v := 1) hx hb dX6_add_80 (by decide) ?_
    refine lv_iconst (v := 1) hx hb dX6_add_81 (by decide) ?_
    obtain ⟨u8, hu8, hm⟩ := bs hm
    refine sd_Vv C0 h kYX6_setSpan kmX6_50 10 (aX_10 ad cA _) rfl [.int (fI u7 2), .int 1, .int 1] (tX6_setSpan l D cA ad hu8) rfl hl.1 rfl (Nat.le_of_ble_eq_true rfl) (by decide) dX6_add_82 (by decide) (fun H locs h => ?_)
    refine lv_aload_n hx hb dX6_add_85 rfl (lv_at hl 0 rfl) ?_
    refine lv_dup hx hb dX6_add_86 rfl ?_
    refine sd_get C0 h (C := RX6) (T := TX6) (N := 11) kcX6 10 (aX_10 ad cA _) rfl 10 (by decide) kfX6_42 (v := .int (fI u8 2)) rfl dX6_add_87 ?_
    refine lv_iconst (v := 1) hx hb dX6_add_90 (by decide) ?_
    refine lv_iadd hx hb dX6_add_91 ?_
    refine sd_put C0 h (C := RX6) (T := TX6) (N := 11) (S1 := (sI u8 2 ((fI u8 2) + 1))) kcX6 tyX6 tyX6_ok nmX6 10 (aX_10 ad cA _) rfl 10 (by decide) kfX6_42 rfl (ty := .int) (by decide +kernel) rfl rfl (Nat.le_of_ble_eq_true rfl) (eX_10_10 ad cA _ _) dX6_add_92 (fun H locs h => ?_)
    refine lv_aload_n hx hb dX6_add_95 rfl (lv_at hl 0 rfl) ?_
    refine sd_get C0 h (C := RX6) (T := TX6) (N := 11) kcX6 10 (aX_10 ad cA _) rfl 10 (by decide) kfX6_42 (v := .int (fI (sI u8 2 ((fI u8 2) + 1)) 2)) rfl dX6_add_96 ?_
    refine lv_iconst (v := 1) hx hb dX6_add_99 (by decide) ?_
    refine lv_isub hx hb dX6_add_100 ?_
    exact sd_iret C0 h (Option.some.inj hm) dX6_add_101
  · replace hm := iq c1 hm
    refine lv_iconst (v := (-1)) hx hb dX6_add_10 (by decide) ?_
    exact sd_iret C0 h (Option.some.inj hm) dX6_add_11
theorem tX6_add (l : Launch) (D : va_G) (cA : ClassId) (ad : Nat → Nat) {S : St} {v1 : Int32} {v2 : Int32} {v3 : Int32} {v4 : Int32} {q : (Int32 × St)} (hm : mX6_add v1 v2 v3 v4 S = some q) : sd_MI l D vwCl cA sd_nw (wX ad cA) yX6_add (Cond.code yX6_add cX6_add 5 (some .int) :: sd_big) rX6_add [.ref (ad 10), .int v1, .int v2, .int v3, .int v4] S q :=
  sd_ofI (by decide +kernel) (Nat.le_of_ble_eq_true rfl) (fun _ _ _ _ _ _ _ _ _ _ C0 h hl => bX6_add C0 h (lv_sub hl [0, 1, 2, 3, 4] rfl) hm)

def rX9_addSounding : Room := { frames := 2, cells := 0, slots := 0, locals := 48 }
def mX9_addSounding (v1 : Int32) (v2 : Int32) (v3 : Int32) (v4 : Int32) (S : St) : Option (Int32 × St) :=
  if (fI S 2) < 200 then
    (mX6_add v1 v2 v3 v4 S).bind fun u2 =>
    (mX0_add 5 u2.1 0 u2.2).bind fun u3 =>
    some (u2.1, u3)
  else
    some ((-1), S)
set_option maxHeartbeats 4000000 in
set_option maxRecDepth 100000 in
theorem bX9_addSounding {p : Program} {l : Launch} {e : Env} {s : State} {m : MethodId} {args : Array Value} {below : List Frame} {meth : Method} {c : Code} {D : va_G} {cA : ClassId} {ad : Nat → Nat} {A : Nat → Prop} {H : Heap} {locs : List Loc} {ls : Array Slot} {q : (Int32 × St)} {v1 : Int32} {v2 : Int32} {v3 : Int32} {v4 : Int32} {S : St} (C0 : sd_Cx RX9 cX9_addSounding 6 (some .int) (Cond.code yX9_addSounding cX9_addSounding 6 (some .int) :: sd_big) p s m args meth c) (h : sd_Wd D vwCl cA sd_nw (wX ad cA) A s S H locs) (hl : lv_has ls 6 [(0, .ref (ad 0)), (1, .int v1), (2, .int v2), (3, .int v3), (4, .int v4)])  (hm : mX9_addSounding v1 v2 v3 v4 S = some q) : W p l e rX9_addSounding s m args below meth c H locs 0 0 (MQ below (sd_Qi D vwCl (wX ad cA) A q) args s 0 0 A) (F0 m 0 ls []) := by
  unfold mX9_addSounding at hm
  have hx := C0.1
  have hb := C0.2.1
  refine lv_aload_n hx hb dX9_addSounding_0 rfl (lv_at hl 0 rfl) ?_
  refine sd_get C0 h (C := RX9) (T := TX9) (N := 8) kcX9 0 (aX_0 ad cA _) rfl 0 (by decide) kfX9_10 (v := .ref (ad 1)) rfl dX9_addSounding_1 ?_
  refine sd_get C0 h (C := RX7) (T := TX7) (N := 4) kcX7 1 (aX_1 ad cA _) rfl 2 (by decide) kfX9_131 (v := .ref (ad 10)) rfl dX9_addSounding_4 ?_
  refine sd_get C0 h (C := RX6) (T := TX6) (N := 11) kcX6 10 (aX_10 ad cA _) rfl 10 (by decide) kfX9_152 (v := .int (fI S 2)) rfl dX9_addSounding_7 ?_
  refine lv_sipush (v := 200) hx hb dX9_addSounding_10 (by decide) ?_
  refine lv_icmp_lt (tgt := 18) hx hb dX9_addSounding_13 (by decide) (fun c1 => ?_) (fun c1 => ?_)
  · replace hm := ip c1 hm
    refine lv_aload_n hx hb dX9_addSounding_18 rfl (lv_at hl 0 rfl) ?_
    refine sd_get C0 h (C := RX9) (T := TX9) (N := 8) kcX9 0 (aX_0 ad cA _) rfl 0 (by decide) kfX9_10 (v := .ref (ad 1)) rfl dX9_addSounding_19 ?_
    refine sd_get C0 h (C := RX7) (T := TX7) (N := 4) kcX7 1 (aX_1 ad cA _) rfl 2 (by decide) kfX9_131 (v := .ref (ad 10)) rfl dX9_addSounding_22 ?_
    refine lv_iload_n hx hb dX9_addSounding_25 rfl (lv_at hl 1 rfl) ?_
    refine lv_iload_n hx hb dX9_addSounding_26 rfl (lv_at hl 2 rfl) ?_
    refine lv_iload_n hx hb dX9_addSounding_27 rfl (lv_at hl 3 rfl) ?_
    refine lv_iload hx hb dX9_addSounding_28 (lv_at hl 4 rfl) ?_
    obtain ⟨u2, hu2, hm⟩ := bs hm
    refine sd_Vi C0 h kYX6_add kmX9_303 10 (aX_10 ad cA _) rfl [.int v1, .int v2, .int v3, .int v4] (tX6_add l D cA ad hu2) rfl hl.1 rfl (Nat.le_of_ble_eq_true rfl) (by decide) dX9_addSounding_30 (by decide) (fun H locs h => ?_)
    refine lv_istore (lv' := [(5, .int u2.1), (0, .ref (ad 0)), (1, .int v1), (2, .int v2), (3, .int v3), (4, .int v4)]) hx hb dX9_addSounding_33 hl (by decide) rfl (fun ls hl => ?_)
    refine lv_aload_n hx hb dX9_addSounding_35 rfl (lv_at hl 1 rfl) ?_
    refine sd_get C0 h (C := RX9) (T := TX9) (N := 8) kcX9 0 (aX_0 ad cA _) rfl 2 (by decide) kfX9_22 (v := .ref (ad 43)) rfl dX9_addSounding_36 ?_
    refine lv_iconst (v := 5) hx hb dX9_addSounding_39 (by decide) ?_
    refine lv_iload hx hb dX9_addSounding_40 (lv_at hl 0 rfl) ?_
    refine lv_iconst (v := 0) hx hb dX9_addSounding_42 (by decide) ?_
    obtain ⟨u3, hu3, hm⟩ := bs hm
    refine sd_Vv C0 h kYX0_add kmX9_83 43 (aX_43 ad cA _) rfl [.int 5, .int u2.1, .int 0] (tX0_add l D cA ad hu3) rfl hl.1 rfl (Nat.le_of_ble_eq_true rfl) (by decide) dX9_addSounding_43 (by decide) (fun H locs h => ?_)
    refine lv_iload hx hb dX9_addSounding_46 (lv_at hl 0 rfl) ?_
    exact sd_iret C0 h (Option.some.inj hm) dX9_addSounding_48
  · replace hm := iq c1 hm
    refine lv_iconst (v := (-1)) hx hb dX9_addSounding_16 (by decide) ?_
    exact sd_iret C0 h (Option.some.inj hm) dX9_addSounding_17
theorem tX9_addSounding (l : Launch) (D : va_G) (cA : ClassId) (ad : Nat → Nat) {S : St} {v1 : Int32} {v2 : Int32} {v3 : Int32} {v4 : Int32} {q : (Int32 × St)} (hm : mX9_addSounding v1 v2 v3 v4 S = some q) : sd_MI l D vwCl cA sd_nw (wX ad cA) yX9_addSounding (Cond.code yX9_addSounding cX9_addSounding 6 (some .int) :: sd_big) rX9_addSounding [.ref (ad 0), .int v1, .int v2, .int v3, .int v4] S q :=
  sd_ofI (by decide +kernel) (Nat.le_of_ble_eq_true rfl) (fun _ _ _ _ _ _ _ _ _ _ C0 h hl => bX9_addSounding C0 h (lv_sub hl [0, 1, 2, 3, 4] rfl) hm)

def rX9_addOfLine : Room := { frames := 3, cells := 0, slots := 0, locals := 73 }
def mX9_addOfLine (v1 : Int32) (v2 : Int32) (v3 : Int32) (v4 : Int32) (v5 : Int32) (v6 : Int32) (S : St) : Option (Int32 × St) :=
  (mX4_has S v2).bind fun u1 =>
  if u1 = 0 then
    some ((-1), S)
  else
    (mX9_isMinute S v3).bind fun u3 =>
    if u3 = 0 then
      some ((-1), S)
    else
      (mX9_isPlace S v4 v5).bind fun u5 =>
      if u5 = 0 then
        some ((-1), S)
      else
        (mX9_addSounding v1 v4 v5 v6 S).bind fun u7 =>
        if u7.1 = (-1) then
          some (u7.1, u7.2)
        else
          (rd (fA u7.2 0) 20 v2).bind fun x9 =>
          (mX6_setOrigin u7.1 x9 v2 v3 u7.2).bind fun u10 =>
          some (u7.1, u10)
set_option maxHeartbeats 4000000 in
set_option maxRecDepth 100000 in
theorem bX9_addOfLine {p : Program} {l : Launch} {e : Env} {s : State} {m : MethodId} {args : Array Value} {below : List Frame} {meth : Method} {c : Code} {D : va_G} {cA : ClassId} {ad : Nat → Nat} {A : Nat → Prop} {H : Heap} {locs : List Loc} {ls : Array Slot} {q : (Int32 × St)} {v1 : Int32} {v2 : Int32} {v3 : Int32} {v4 : Int32} {v5 : Int32} {v6 : Int32} {S : St} (C0 : sd_Cx RX9 cX9_addOfLine 8 (some .int) (Cond.code yX9_addOfLine cX9_addOfLine 8 (some .int) :: sd_big) p s m args meth c) (h : sd_Wd D vwCl cA sd_nw (wX ad cA) A s S H locs) (hl : lv_has ls 8 [(0, .ref (ad 0)), (1, .int v1), (2, .int v2), (3, .int v3), (4, .int v4), (5, .int v5), (6, .int v6)])  (hm : mX9_addOfLine v1 v2 v3 v4 v5 v6 S = some q) : W p l e rX9_addOfLine s m args below meth c H locs 0 0 (MQ below (sd_Qi D vwCl (wX ad cA) A q) args s 0 0 A) (F0 m 0 ls []) := by
  unfold mX9_addOfLine at hm
  have hx := C0.1
  have hb := C0.2.1
  refine lv_aload_n hx hb dX9_addOfLine_0 rfl (lv_at hl 0 rfl) ?_
  refine sd_get C0 h (C := RX9) (T := TX9) (N := 8) kcX9 0 (aX_0 ad cA _) rfl 0 (by decide) kfX9_10 (v := .ref (ad 1)) rfl dX9_addOfLine_1 ?_
  refine sd_get C0 h (C := RX7) (T := TX7) (N := 4) kcX7 1 (aX_1 ad cA _) rfl 0 (by decide) kfX9_69 (v := .ref (ad 2)) rfl dX9_addOfLine_4 ?_
  refine lv_iload_n hx hb dX9_addOfLine_7 rfl (lv_at hl 2 rfl) ?_
  obtain ⟨u1, hu1, hm⟩ := bs hm
  refine sd_Vi C0 h kYX4_has kmX9_110 2 (aX_2 ad cA _) rfl [.int v2] (tX4_has l D cA ad hu1) rfl hl.1 rfl (Nat.le_of_ble_eq_true rfl) (by decide) dX9_addOfLine_8 (by decide) (fun H locs h => ?_)
  refine lv_if_eq (tgt := 31) hx hb dX9_addOfLine_11 (by decide) (fun c2 => ?_) (fun c2 => ?_)
  · replace hm := ip c2 hm
    refine lv_iconst (v := (-1)) hx hb dX9_addOfLine_31 (by decide) ?_
    exact sd_iret C0 h (Option.some.inj hm) dX9_addOfLine_32
  · replace hm := iq c2 hm
    refine lv_iload_n hx hb dX9_addOfLine_14 rfl (lv_at hl 3 rfl) ?_
    obtain ⟨u3, hu3, hm⟩ := bs hm
    refine sd_Si C0 h kYX9_isMinute kmX9_86 [.int v3] (tX9_isMinute l D cA ad hu3) rfl hl.1 rfl (Nat.le_of_ble_eq_true rfl) (by decide) dX9_addOfLine_15 (by decide) (fun H locs h => ?_)
    refine lv_if_eq (tgt := 31) hx hb dX9_addOfLine_18 (by decide) (fun c4 => ?_) (fun c4 => ?_)
    · replace hm := ip c4 hm
      refine lv_iconst (v := (-1)) hx hb dX9_addOfLine_31 (by decide) ?_
      exact sd_iret C0 h (Option.some.inj hm) dX9_addOfLine_32
    · replace hm := iq c4 hm
      refine lv_iload hx hb dX9_addOfLine_21 (lv_at hl 4 rfl) ?_
      refine lv_iload hx hb dX9_addOfLine_23 (lv_at hl 5 rfl) ?_
      obtain ⟨u5, hu5, hm⟩ := bs hm
      refine sd_Si C0 h kYX9_isPlace kmX9_127 [.int v4, .int v5] (tX9_isPlace l D cA ad hu5) rfl hl.1 rfl (Nat.le_of_ble_eq_true rfl) (by decide) dX9_addOfLine_25 (by decide) (fun H locs h => ?_)
      refine lv_if_ne (tgt := 33) hx hb dX9_addOfLine_28 (by decide) (fun c6 => ?_) (fun c6 => ?_)
      · replace hm := iq c6 hm
        refine lv_aload_n hx hb dX9_addOfLine_33 rfl (lv_at hl 0 rfl) ?_
        refine lv_iload_n hx hb dX9_addOfLine_34 rfl (lv_at hl 1 rfl) ?_
        refine lv_iload hx hb dX9_addOfLine_35 (lv_at hl 4 rfl) ?_
        refine lv_iload hx hb dX9_addOfLine_37 (lv_at hl 5 rfl) ?_
        refine lv_iload hx hb dX9_addOfLine_39 (lv_at hl 6 rfl) ?_
        obtain ⟨u7, hu7, hm⟩ := bs hm
        refine sd_Vi C0 h kYX9_addSounding kmX9_140 0 (aX_0 ad cA _) rfl [.int v1, .int v4, .int v5, .int v6] (tX9_addSounding l D cA ad hu7) rfl hl.1 rfl (Nat.le_of_ble_eq_true rfl) (by decide) dX9_addOfLine_41 (by decide) (fun H locs h => ?_)
        refine lv_istore (lv' := [(7, .int u7.1), (0, .ref (ad 0)), (1, .int v1), (2, .int v2), (3, .int v3), (4, .int v4), (5, .int v5), (6, .int v6)]) hx hb dX9_addOfLine_44 hl (by decide) rfl (fun ls hl => ?_)
        refine lv_iload hx hb dX9_addOfLine_46 (lv_at hl 0 rfl) ?_
        refine lv_iconst (v := (-1)) hx hb dX9_addOfLine_48 (by decide) ?_
        refine lv_icmp_eq (tgt := 78) hx hb dX9_addOfLine_49 (by decide) (fun c8 => ?_) (fun c8 => ?_)
        · replace hm := ip c8 hm
          refine lv_iload hx hb dX9_addOfLine_78 (lv_at hl 0 rfl) ?_
          exact sd_iret C0 h (Option.some.inj hm) dX9_addOfLine_80
        · replace hm := iq c8 hm
          refine lv_aload_n hx hb dX9_addOfLine_52 rfl (lv_at hl 1 rfl) ?_
          refine sd_get C0 h (C := RX9) (T := TX9) (N := 8) kcX9 0 (aX_0 ad cA _) rfl 0 (by decide) kfX9_10 (v := .ref (ad 1)) rfl dX9_addOfLine_53 ?_
          refine sd_get C0 h (C := RX7) (T := TX7) (N := 4) kcX7 1 (aX_1 ad cA _) rfl 2 (by decide) kfX9_131 (v := .ref (ad 10)) rfl dX9_addOfLine_56 ?_
          refine lv_iload hx hb dX9_addOfLine_59 (lv_at hl 0 rfl) ?_
          refine lv_aload_n hx hb dX9_addOfLine_61 rfl (lv_at hl 1 rfl) ?_
          refine sd_get C0 h (C := RX9) (T := TX9) (N := 8) kcX9 0 (aX_0 ad cA _) rfl 0 (by decide) kfX9_10 (v := .ref (ad 1)) rfl dX9_addOfLine_62 ?_
          refine sd_get C0 h (C := RX7) (T := TX7) (N := 4) kcX7 1 (aX_1 ad cA _) rfl 0 (by decide) kfX9_69 (v := .ref (ad 2)) rfl dX9_addOfLine_65 ?_
          refine sd_get C0 h (C := RX4) (T := TX4) (N := 4) kcX4 2 (aX_2 ad cA _) rfl 0 (by decide) kfX9_185 (v := .ref (ad 3)) rfl dX9_addOfLine_68 ?_
          refine lv_iload_n hx hb dX9_addOfLine_71 rfl (lv_at hl 3 rfl) ?_
          obtain ⟨x9, hx9, hm⟩ := bs hm
          refine sd_rd C0 h 3 (aX_3 ad cA _) hx9 dX9_addOfLine_72 ?_
          refine lv_iload_n hx hb dX9_addOfLine_73 rfl (lv_at hl 3 rfl) ?_
          refine lv_iload_n hx hb dX9_addOfLine_74 rfl (lv_at hl 4 rfl) ?_
          obtain ⟨u10, hu10, hm⟩ := bs hm
          refine sd_Vv C0 h kYX6_setOrigin kmX9_144 10 (aX_10 ad cA _) rfl [.int u7.1, .int x9, .int v2, .int v3] (tX6_setOrigin l D cA ad hu10) rfl hl.1 rfl (Nat.le_of_ble_eq_true rfl) (by decide) dX9_addOfLine_75 (by decide) (fun H locs h => ?_)
          refine lv_iload hx hb dX9_addOfLine_78 (lv_at hl 0 rfl) ?_
          exact sd_iret C0 h (Option.some.inj hm) dX9_addOfLine_80
      · replace hm := ip c6 hm
        refine lv_iconst (v := (-1)) hx hb dX9_addOfLine_31 (by decide) ?_
        exact sd_iret C0 h (Option.some.inj hm) dX9_addOfLine_32
theorem tX9_addOfLine (l : Launch) (D : va_G) (cA : ClassId) (ad : Nat → Nat) {S : St} {v1 : Int32} {v2 : Int32} {v3 : Int32} {v4 : Int32} {v5 : Int32} {v6 : Int32} {q : (Int32 × St)} (hm : mX9_addOfLine v1 v2 v3 v4 v5 v6 S = some q) : sd_MI l D vwCl cA sd_nw (wX ad cA) yX9_addOfLine (Cond.code yX9_addOfLine cX9_addOfLine 8 (some .int) :: sd_big) rX9_addOfLine [.ref (ad 0), .int v1, .int v2, .int v3, .int v4, .int v5, .int v6] S q :=
  sd_ofI (by decide +kernel) (Nat.le_of_ble_eq_true rfl) (fun _ _ _ _ _ _ _ _ _ _ C0 h hl => bX9_addOfLine C0 h (lv_sub hl [0, 1, 2, 3, 4, 5, 6] rfl) hm)

def rX9_lead : Room := { frames := 4, cells := 0, slots := 0, locals := 100 }
def mX9_lead (v1 : Int32) (v2 : Int32) (v3 : Int32) (v4 : Int32) (v5 : Int32) (S : St) : Option (Int32 × St) :=
  (mX9_within S v5 0 9999).bind fun u1 =>
  if u1 = 0 then
    some ((-1), S)
  else
    (mX9_addOfLine 0 v1 v2 v3 v4 v5 S).bind fun u3 =>
    some (u3.1, u3.2)
set_option maxHeartbeats 4000000 in
set_option maxRecDepth 100000 in
theorem bX9_lead {p : Program} {l : Launch} {e : Env} {s : State} {m : MethodId} {args : Array Value} {below : List Frame} {meth : Method} {c : Code} {D : va_G} {cA : ClassId} {ad : Nat → Nat} {A : Nat → Prop} {H : Heap} {locs : List Loc} {ls : Array Slot} {q : (Int32 × St)} {v1 : Int32} {v2 : Int32} {v3 : Int32} {v4 : Int32} {v5 : Int32} {S : St} (C0 : sd_Cx RX9 cX9_lead 6 (some .int) (Cond.code yX9_lead cX9_lead 6 (some .int) :: sd_big) p s m args meth c) (h : sd_Wd D vwCl cA sd_nw (wX ad cA) A s S H locs) (hl : lv_has ls 6 [(0, .ref (ad 0)), (1, .int v1), (2, .int v2), (3, .int v3), (4, .int v4), (5, .int v5)])  (hm : mX9_lead v1 v2 v3 v4 v5 S = some q) : W p l e rX9_lead s m args below meth c H locs 0 0 (MQ below (sd_Qi D vwCl (wX ad cA) A q) args s 0 0 A) (F0 m 0 ls []) := by
  unfold mX9_lead at hm
  have hx := C0.1
  have hb := C0.2.1
  refine lv_iload hx hb dX9_lead_0 (lv_at hl 5 rfl) ?_
  refine lv_iconst (v := 0) hx hb dX9_lead_2 (by decide) ?_
  refine lv_sipush (v := 9999) hx hb dX9_lead_3 (by decide) ?_
  obtain ⟨u1, hu1, hm⟩ := bs hm
  refine sd_Si C0 h kYX9_within kmX9_89 [.int v5, .int 0, .int 9999] (tX9_within l D cA ad hu1) rfl hl.1 rfl (Nat.le_of_ble_eq_true rfl) (by decide) dX9_lead_6 (by decide) (fun H locs h => ?_)
  refine lv_if_ne (tgt := 14) hx hb dX9_lead_9 (by decide) (fun c2 => ?_) (fun c2 => ?_)
  · replace hm := iq c2 hm
    refine lv_aload_n hx hb dX9_lead_14 rfl (lv_at hl 0 rfl) ?_
    refine lv_iconst (v := 0) hx hb dX9_lead_15 (by decide) ?_
    refine lv_iload_n hx hb dX9_lead_16 rfl (lv_at hl 1 rfl) ?_
    refine lv_iload_n hx hb dX9_lead_17 rfl (lv_at hl 2 rfl) ?_
    refine lv_iload_n hx hb dX9_lead_18 rfl (lv_at hl 3 rfl) ?_
    refine lv_iload hx hb dX9_lead_19 (lv_at hl 4 rfl) ?_
    refine lv_iload hx hb dX9_lead_21 (lv_at hl 5 rfl) ?_
    obtain ⟨u3, hu3, hm⟩ := bs hm
    refine sd_Vi C0 h kYX9_addOfLine kmX9_119 0 (aX_0 ad cA _) rfl [.int 0, .int v1, .int v2, .int v3, .int v4, .int v5] (tX9_addOfLine l D cA ad hu3) rfl hl.1 rfl (Nat.le_of_ble_eq_true rfl) (by decide) dX9_lead_23 (by decide) (fun H locs h => ?_)
    exact sd_iret C0 h (Option.some.inj hm) dX9_lead_26
  · replace hm := ip c2 hm
    refine lv_iconst (v := (-1)) hx hb dX9_lead_12 (by decide) ?_
    exact sd_iret C0 h (Option.some.inj hm) dX9_lead_13
theorem tX9_lead (l : Launch) (D : va_G) (cA : ClassId) (ad : Nat → Nat) {S : St} {v1 : Int32} {v2 : Int32} {v3 : Int32} {v4 : Int32} {v5 : Int32} {q : (Int32 × St)} (hm : mX9_lead v1 v2 v3 v4 v5 S = some q) : sd_MI l D vwCl cA sd_nw (wX ad cA) yX9_lead (Cond.code yX9_lead cX9_lead 6 (some .int) :: sd_big) rX9_lead [.ref (ad 0), .int v1, .int v2, .int v3, .int v4, .int v5] S q :=
  sd_ofI (by decide +kernel) (Nat.le_of_ble_eq_true rfl) (fun _ _ _ _ _ _ _ _ _ _ C0 h hl => bX9_lead C0 h (lv_sub hl [0, 1, 2, 3, 4, 5] rfl) hm)

def rX9_cutFloat : Room := { frames := 0, cells := 0, slots := 0, locals := 0 }
def mX9_cutFloat (S : St) (v0 : Int32) : Option Int32 :=
  if 0 ≤ ((((v0.toUInt32 >>> ((23 : Int32).toUInt32 &&& Int32.toUInt32 31)).toInt32) &&& 255) - 127) then
    if ((((v0.toUInt32 >>> ((23 : Int32).toUInt32 &&& Int32.toUInt32 31)).toInt32) &&& 255) - 127) ≤ 14 then
      if 0 ≤ v0 then
        some (((v0 &&& 8388607) ||| 8388608) >>> ((23 - ((((v0.toUInt32 >>> ((23 : Int32).toUInt32 &&& Int32.toUInt32 31)).toInt32) &&& 255) - 127)) &&& 31))
      else
        some (-(((v0 &&& 8388607) ||| 8388608) >>> ((23 - ((((v0.toUInt32 >>> ((23 : Int32).toUInt32 &&& Int32.toUInt32 31)).toInt32) &&& 255) - 127)) &&& 31)))
    else
      some (-1)
  else
    some 0
set_option maxHeartbeats 4000000 in
set_option maxRecDepth 100000 in
theorem bX9_cutFloat {p : Program} {l : Launch} {e : Env} {s : State} {m : MethodId} {args : Array Value} {below : List Frame} {meth : Method} {c : Code} {D : va_G} {cA : ClassId} {ad : Nat → Nat} {A : Nat → Prop} {H : Heap} {locs : List Loc} {ls : Array Slot} {q : Int32} {S : St} {v0 : Int32} (C0 : sd_Cx RX9 cX9_cutFloat 3 (some .int) (Cond.code yX9_cutFloat cX9_cutFloat 3 (some .int) :: sd_big) p s m args meth c) (h : sd_Wd D vwCl cA sd_nw (wX ad cA) A s S H locs) (hl : lv_has ls 3 [(0, .int v0)])  (hm : mX9_cutFloat S v0 = some q) : W p l e rX9_cutFloat s m args below meth c H locs 0 0 (MQ below (sd_Qi D vwCl (wX ad cA) A (q, S)) args s 0 0 A) (F0 m 0 ls []) := by
  unfold mX9_cutFloat at hm
  have hx := C0.1
  have hb := C0.2.1
  refine lv_iload_n hx hb dX9_cutFloat_0 rfl (lv_at hl 0 rfl) ?_
  refine lv_bipush (v := 23) hx hb dX9_cutFloat_1 (by decide) ?_
  refine lv_iushr hx hb dX9_cutFloat_3 (v := (v0.toUInt32 >>> ((23 : Int32).toUInt32 &&& Int32.toUInt32 31)).toInt32) rfl ?_
  refine lv_sipush (v := 255) hx hb dX9_cutFloat_4 (by decide) ?_
  refine lv_iand hx hb dX9_cutFloat_7 ?_
  refine lv_bipush (v := 127) hx hb dX9_cutFloat_8 (by decide) ?_
  refine lv_isub hx hb dX9_cutFloat_10 ?_
  refine lv_istore_n (lv' := [(1, .int ((((v0.toUInt32 >>> ((23 : Int32).toUInt32 &&& Int32.toUInt32 31)).toInt32) &&& 255) - 127)), (0, .int v0)]) hx hb dX9_cutFloat_11 rfl hl (by decide) rfl (fun ls hl => ?_)
  refine lv_iload_n hx hb dX9_cutFloat_12 rfl (lv_at hl 0 rfl) ?_
  refine lv_if_ge (tgt := 18) hx hb dX9_cutFloat_13 (by decide) (fun c1 => ?_) (fun c1 => ?_)
  · replace hm := ip c1 hm
    refine lv_iload_n hx hb dX9_cutFloat_18 rfl (lv_at hl 0 rfl) ?_
    refine lv_bipush (v := 14) hx hb dX9_cutFloat_19 (by decide) ?_
    refine lv_icmp_le (tgt := 26) hx hb dX9_cutFloat_21 (by decide) (fun c2 => ?_) (fun c2 => ?_)
    · replace hm := ip c2 hm
      refine lv_iload_n hx hb dX9_cutFloat_26 rfl (lv_at hl 1 rfl) ?_
      refine lv_ldcw (v := 8388607) hx hb C0.2.2.2.1 (C0.2.2.2.2.1 _ (List.mem_cons_of_mem _ kkX9_312)) dX9_cutFloat_27 ?_
      refine lv_iand hx hb dX9_cutFloat_30 ?_
      refine lv_ldcw (v := 8388608) hx hb C0.2.2.2.1 (C0.2.2.2.2.1 _ (List.mem_cons_of_mem _ kkX9_313)) dX9_cutFloat_31 ?_
      refine lv_ior hx hb dX9_cutFloat_34 ?_
      refine lv_bipush (v := 23) hx hb dX9_cutFloat_35 (by decide) ?_
      refine lv_iload_n hx hb dX9_cutFloat_37 rfl (lv_at hl 0 rfl) ?_
      refine lv_isub hx hb dX9_cutFloat_38 ?_
      refine lv_ishr hx hb dX9_cutFloat_39 ?_
      refine lv_istore_n (lv' := [(2, .int (((v0 &&& 8388607) ||| 8388608) >>> ((23 - ((((v0.toUInt32 >>> ((23 : Int32).toUInt32 &&& Int32.toUInt32 31)).toInt32) &&& 255) - 127)) &&& 31))), (1, .int ((((v0.toUInt32 >>> ((23 : Int32).toUInt32 &&& Int32.toUInt32 31)).toInt32) &&& 255) - 127)), (0, .int v0)]) hx hb dX9_cutFloat_40 rfl hl (by decide) rfl (fun ls hl => ?_)
      refine lv_iload_n hx hb dX9_cutFloat_41 rfl (lv_at hl 2 rfl) ?_
      refine lv_if_ge (tgt := 50) hx hb dX9_cutFloat_42 (by decide) (fun c3 => ?_) (fun c3 => ?_)
      · replace hm := ip c3 hm
        refine lv_iload_n hx hb dX9_cutFloat_50 rfl (lv_at hl 0 rfl) ?_
        exact sd_iret C0 h (congrArg (fun x => (x, S)) (Option.some.inj hm)) dX9_cutFloat_51
      · replace hm := iq c3 hm
        refine lv_iload_n hx hb dX9_cutFloat_45 rfl (lv_at hl 0 rfl) ?_
        refine lv_ineg hx hb dX9_cutFloat_46 ?_
        refine lv_goto (tgt := 51) hx hb dX9_cutFloat_47 (by decide) ?_
        exact sd_iret C0 h (congrArg (fun x => (x, S)) (Option.some.inj hm)) dX9_cutFloat_51
    · replace hm := iq c2 hm
      refine lv_iconst (v := (-1)) hx hb dX9_cutFloat_24 (by decide) ?_
      exact sd_iret C0 h (congrArg (fun x => (x, S)) (Option.some.inj hm)) dX9_cutFloat_25
  · replace hm := iq c1 hm
    refine lv_iconst (v := 0) hx hb dX9_cutFloat_16 (by decide) ?_
    exact sd_iret C0 h (congrArg (fun x => (x, S)) (Option.some.inj hm)) dX9_cutFloat_17
theorem tX9_cutFloat (l : Launch) (D : va_G) (cA : ClassId) (ad : Nat → Nat) {S : St} {v0 : Int32} {q : Int32} (hm : mX9_cutFloat S v0 = some q) : sd_MI l D vwCl cA sd_nw (wX ad cA) yX9_cutFloat (Cond.code yX9_cutFloat cX9_cutFloat 3 (some .int) :: sd_big) rX9_cutFloat [.int v0] S (q, S) :=
  sd_ofI (by decide +kernel) (Nat.le_of_ble_eq_true rfl) (fun _ _ _ _ _ _ _ _ _ _ C0 h hl => bX9_cutFloat C0 h (lv_sub hl [0] rfl) hm)

def rX9_echo : Room := { frames := 4, cells := 0, slots := 0, locals := 100 }
def mX9_echo (v1 : Int32) (v2 : Int32) (v3 : Int32) (v4 : Int32) (v5 : Int32) (S : St) : Option (Int32 × St) :=
  (mX9_cutFloat S v5).bind fun u1 =>
  (mX9_within S u1 0 19999).bind fun u2 =>
  if u2 = 0 then
    some ((-1), S)
  else
    (mX9_addOfLine 1 v1 v2 v3 v4 u1 S).bind fun u4 =>
    some (u4.1, u4.2)
set_option maxHeartbeats 4000000 in
set_option maxRecDepth 100000 in
theorem bX9_echo {p : Program} {l : Launch} {e : Env} {s : State} {m : MethodId} {args : Array Value} {below : List Frame} {meth : Method} {c : Code} {D : va_G} {cA : ClassId} {ad : Nat → Nat} {A : Nat → Prop} {H : Heap} {locs : List Loc} {ls : Array Slot} {q : (Int32 × St)} {v1 : Int32} {v2 : Int32} {v3 : Int32} {v4 : Int32} {v5 : Int32} {S : St} (C0 : sd_Cx RX9 cX9_echo 7 (some .int) (Cond.code yX9_echo cX9_echo 7 (some .int) :: sd_big) p s m args meth c) (h : sd_Wd D vwCl cA sd_nw (wX ad cA) A s S H locs) (hl : lv_has ls 7 [(0, .ref (ad 0)), (1, .int v1), (2, .int v2), (3, .int v3), (4, .int v4), (5, .int v5)])  (hm : mX9_echo v1 v2 v3 v4 v5 S = some q) : W p l e rX9_echo s m args below meth c H locs 0 0 (MQ below (sd_Qi D vwCl (wX ad cA) A q) args s 0 0 A) (F0 m 0 ls []) := by
  unfold mX9_echo at hm
  have hx := C0.1
  have hb := C0.2.1
  refine lv_iload hx hb dX9_echo_0 (lv_at hl 5 rfl) ?_
  obtain ⟨u1, hu1, hm⟩ := bs hm
  refine sd_Si C0 h kYX9_cutFloat kmX9_123 [.int v5] (tX9_cutFloat l D cA ad hu1) rfl hl.1 rfl (Nat.le_of_ble_eq_true rfl) (by decide) dX9_echo_2 (by decide) (fun H locs h => ?_)
  refine lv_istore (lv' := [(6, .int u1), (0, .ref (ad 0)), (1, .int v1), (2, .int v2), (3, .int v3), (4, .int v4), (5, .int v5)]) hx hb dX9_echo_5 hl (by decide) rfl (fun ls hl => ?_)
  refine lv_iload hx hb dX9_echo_7 (lv_at hl 0 rfl) ?_
  refine lv_iconst (v := 0) hx hb dX9_echo_9 (by decide) ?_
  refine lv_sipush (v := 19999) hx hb dX9_echo_10 (by decide) ?_
  obtain ⟨u2, hu2, hm⟩ := bs hm
  refine sd_Si C0 h kYX9_within kmX9_89 [.int u1, .int 0, .int 19999] (tX9_within l D cA ad hu2) rfl hl.1 rfl (Nat.le_of_ble_eq_true rfl) (by decide) dX9_echo_13 (by decide) (fun H locs h => ?_)
  refine lv_if_ne (tgt := 21) hx hb dX9_echo_16 (by decide) (fun c3 => ?_) (fun c3 => ?_)
  · replace hm := iq c3 hm
    refine lv_aload_n hx hb dX9_echo_21 rfl (lv_at hl 1 rfl) ?_
    refine lv_iconst (v := 1) hx hb dX9_echo_22 (by decide) ?_
    refine lv_iload_n hx hb dX9_echo_23 rfl (lv_at hl 2 rfl) ?_
    refine lv_iload_n hx hb dX9_echo_24 rfl (lv_at hl 3 rfl) ?_
    refine lv_iload_n hx hb dX9_echo_25 rfl (lv_at hl 4 rfl) ?_
    refine lv_iload hx hb dX9_echo_26 (lv_at hl 5 rfl) ?_
    refine lv_iload hx hb dX9_echo_28 (lv_at hl 0 rfl) ?_
    obtain ⟨u4, hu4, hm⟩ := bs hm
    refine sd_Vi C0 h kYX9_addOfLine kmX9_119 0 (aX_0 ad cA _) rfl [.int 1, .int v1, .int v2, .int v3, .int v4, .int u1] (tX9_addOfLine l D cA ad hu4) rfl hl.1 rfl (Nat.le_of_ble_eq_true rfl) (by decide) dX9_echo_30 (by decide) (fun H locs h => ?_)
    exact sd_iret C0 h (Option.some.inj hm) dX9_echo_33
  · replace hm := ip c3 hm
    refine lv_iconst (v := (-1)) hx hb dX9_echo_19 (by decide) ?_
    exact sd_iret C0 h (Option.some.inj hm) dX9_echo_20
theorem tX9_echo (l : Launch) (D : va_G) (cA : ClassId) (ad : Nat → Nat) {S : St} {v1 : Int32} {v2 : Int32} {v3 : Int32} {v4 : Int32} {v5 : Int32} {q : (Int32 × St)} (hm : mX9_echo v1 v2 v3 v4 v5 S = some q) : sd_MI l D vwCl cA sd_nw (wX ad cA) yX9_echo (Cond.code yX9_echo cX9_echo 7 (some .int) :: sd_big) rX9_echo [.ref (ad 0), .int v1, .int v2, .int v3, .int v4, .int v5] S q :=
  sd_ofI (by decide +kernel) (Nat.le_of_ble_eq_true rfl) (fun _ _ _ _ _ _ _ _ _ _ C0 h hl => bX9_echo C0 h (lv_sub hl [0, 1, 2, 3, 4, 5] rfl) hm)

def rX9_sweep : Room := { frames := 4, cells := 0, slots := 0, locals := 100 }
def mX9_sweep (v1 : Int32) (v2 : Int32) (v3 : Int32) (v4 : Int32) (v5 : Int32) (v6 : Int32) (v7 : Int32) (S : St) : Option (Int32 × St) :=
  (mX9_isPlace S v3 v4).bind fun u1 =>
  if u1 = 0 then
    some ((-1), S)
  else
    (mX9_within S v5 1 (256 - v3)).bind fun u3 =>
    if u3 = 0 then
      some ((-1), S)
    else
      (mX9_within S v6 1 (256 - v4)).bind fun u5 =>
      if u5 = 0 then
        some ((-1), S)
      else
        (mX9_within S v7 0 9999).bind fun u7 =>
        if u7 = 0 then
          some ((-1), S)
        else
          (mX9_addOfLine 2 v1 v2 v3 v4 v7 S).bind fun u9 =>
          if u9.1 = (-1) then
            some (u9.1, u9.2)
          else
            (mX6_setSpan u9.1 v5 v6 u9.2).bind fun u11 =>
            some (u9.1, u11)
set_option maxHeartbeats 4000000 in
set_option maxRecDepth 100000 in
theorem bX9_sweep {p : Program} {l : Launch} {e : Env} {s : State} {m : MethodId} {args : Array Value} {below : List Frame} {meth : Method} {c : Code} {D : va_G} {cA : ClassId} {ad : Nat → Nat} {A : Nat → Prop} {H : Heap} {locs : List Loc} {ls : Array Slot} {q : (Int32 × St)} {v1 : Int32} {v2 : Int32} {v3 : Int32} {v4 : Int32} {v5 : Int32} {v6 : Int32} {v7 : Int32} {S : St} (C0 : sd_Cx RX9 cX9_sweep 9 (some .int) (Cond.code yX9_sweep cX9_sweep 9 (some .int) :: sd_big) p s m args meth c) (h : sd_Wd D vwCl cA sd_nw (wX ad cA) A s S H locs) (hl : lv_has ls 9 [(0, .ref (ad 0)), (1, .int v1), (2, .int v2), (3, .int v3), (4, .int v4), (5, .int v5), (6, .int v6), (7, .int v7)])  (hm : mX9_sweep v1 v2 v3 v4 v5 v6 v7 S = some q) : W p l e rX9_sweep s m args below meth c H locs 0 0 (MQ below (sd_Qi D vwCl (wX ad cA) A q) args s 0 0 A) (F0 m 0 ls []) := by
  unfold mX9_sweep at hm
  have hx := C0.1
  have hb := C0.2.1
  refine lv_iload_n hx hb dX9_sweep_0 rfl (lv_at hl 3 rfl) ?_
  refine lv_iload hx hb dX9_sweep_1 (lv_at hl 4 rfl) ?_
  obtain ⟨u1, hu1, hm⟩ := bs hm
  refine sd_Si C0 h kYX9_isPlace kmX9_127 [.int v3, .int v4] (tX9_isPlace l D cA ad hu1) rfl hl.1 rfl (Nat.le_of_ble_eq_true rfl) (by decide) dX9_sweep_3 (by decide) (fun H locs h => ?_)
  refine lv_if_eq (tgt := 38) hx hb dX9_sweep_6 (by decide) (fun c2 => ?_) (fun c2 => ?_)
  · replace hm := ip c2 hm
    refine lv_iconst (v := (-1)) hx hb dX9_sweep_38 (by decide) ?_
    exact sd_iret C0 h (Option.some.inj hm) dX9_sweep_39
  · replace hm := iq c2 hm
    refine lv_iload hx hb dX9_sweep_9 (lv_at hl 5 rfl) ?_
    refine lv_iconst (v := 1) hx hb dX9_sweep_11 (by decide) ?_
    refine lv_sipush (v := 256) hx hb dX9_sweep_12 (by decide) ?_
    refine lv_iload_n hx hb dX9_sweep_15 rfl (lv_at hl 3 rfl) ?_
    refine lv_isub hx hb dX9_sweep_16 ?_
    obtain ⟨u3, hu3, hm⟩ := bs hm
    refine sd_Si C0 h kYX9_within kmX9_89 [.int v5, .int 1, .int (256 - v3)] (tX9_within l D cA ad hu3) rfl hl.1 rfl (Nat.le_of_ble_eq_true rfl) (by decide) dX9_sweep_17 (by decide) (fun H locs h => ?_)
    refine lv_if_eq (tgt := 38) hx hb dX9_sweep_20 (by decide) (fun c4 => ?_) (fun c4 => ?_)
    · replace hm := ip c4 hm
      refine lv_iconst (v := (-1)) hx hb dX9_sweep_38 (by decide) ?_
      exact sd_iret C0 h (Option.some.inj hm) dX9_sweep_39
    · replace hm := iq c4 hm
      refine lv_iload hx hb dX9_sweep_23 (lv_at hl 6 rfl) ?_
      refine lv_iconst (v := 1) hx hb dX9_sweep_25 (by decide) ?_
      refine lv_sipush (v := 256) hx hb dX9_sweep_26 (by decide) ?_
      refine lv_iload hx hb dX9_sweep_29 (lv_at hl 4 rfl) ?_
      refine lv_isub hx hb dX9_sweep_31 ?_
      obtain ⟨u5, hu5, hm⟩ := bs hm
      refine sd_Si C0 h kYX9_within kmX9_89 [.int v6, .int 1, .int (256 - v4)] (tX9_within l D cA ad hu5) rfl hl.1 rfl (Nat.le_of_ble_eq_true rfl) (by decide) dX9_sweep_32 (by decide) (fun H locs h => ?_)
      refine lv_if_ne (tgt := 40) hx hb dX9_sweep_35 (by decide) (fun c6 => ?_) (fun c6 => ?_)
      · replace hm := iq c6 hm
        refine lv_iload hx hb dX9_sweep_40 (lv_at hl 7 rfl) ?_
        refine lv_iconst (v := 0) hx hb dX9_sweep_42 (by decide) ?_
        refine lv_sipush (v := 9999) hx hb dX9_sweep_43 (by decide) ?_
        obtain ⟨u7, hu7, hm⟩ := bs hm
        refine sd_Si C0 h kYX9_within kmX9_89 [.int v7, .int 0, .int 9999] (tX9_within l D cA ad hu7) rfl hl.1 rfl (Nat.le_of_ble_eq_true rfl) (by decide) dX9_sweep_46 (by decide) (fun H locs h => ?_)
        refine lv_if_ne (tgt := 54) hx hb dX9_sweep_49 (by decide) (fun c8 => ?_) (fun c8 => ?_)
        · replace hm := iq c8 hm
          refine lv_aload_n hx hb dX9_sweep_54 rfl (lv_at hl 0 rfl) ?_
          refine lv_iconst (v := 2) hx hb dX9_sweep_55 (by decide) ?_
          refine lv_iload_n hx hb dX9_sweep_56 rfl (lv_at hl 1 rfl) ?_
          refine lv_iload_n hx hb dX9_sweep_57 rfl (lv_at hl 2 rfl) ?_
          refine lv_iload_n hx hb dX9_sweep_58 rfl (lv_at hl 3 rfl) ?_
          refine lv_iload hx hb dX9_sweep_59 (lv_at hl 4 rfl) ?_
          refine lv_iload hx hb dX9_sweep_61 (lv_at hl 7 rfl) ?_
          obtain ⟨u9, hu9, hm⟩ := bs hm
          refine sd_Vi C0 h kYX9_addOfLine kmX9_119 0 (aX_0 ad cA _) rfl [.int 2, .int v1, .int v2, .int v3, .int v4, .int v7] (tX9_addOfLine l D cA ad hu9) rfl hl.1 rfl (Nat.le_of_ble_eq_true rfl) (by decide) dX9_sweep_63 (by decide) (fun H locs h => ?_)
          refine lv_istore (lv' := [(8, .int u9.1), (0, .ref (ad 0)), (1, .int v1), (2, .int v2), (3, .int v3), (4, .int v4), (5, .int v5), (6, .int v6), (7, .int v7)]) hx hb dX9_sweep_66 hl (by decide) rfl (fun ls hl => ?_)
          refine lv_iload hx hb dX9_sweep_68 (lv_at hl 0 rfl) ?_
          refine lv_iconst (v := (-1)) hx hb dX9_sweep_70 (by decide) ?_
          refine lv_icmp_eq (tgt := 90) hx hb dX9_sweep_71 (by decide) (fun c10 => ?_) (fun c10 => ?_)
          · replace hm := ip c10 hm
            refine lv_iload hx hb dX9_sweep_90 (lv_at hl 0 rfl) ?_
            exact sd_iret C0 h (Option.some.inj hm) dX9_sweep_92
          · replace hm := iq c10 hm
            refine lv_aload_n hx hb dX9_sweep_74 rfl (lv_at hl 1 rfl) ?_
            refine sd_get C0 h (C := RX9) (T := TX9) (N := 8) kcX9 0 (aX_0 ad cA _) rfl 0 (by decide) kfX9_10 (v := .ref (ad 1)) rfl dX9_sweep_75 ?_
            refine sd_get C0 h (C := RX7) (T := TX7) (N := 4) kcX7 1 (aX_1 ad cA _) rfl 2 (by decide) kfX9_131 (v := .ref (ad 10)) rfl dX9_sweep_78 ?_
            refine lv_iload hx hb dX9_sweep_81 (lv_at hl 0 rfl) ?_
            refine lv_iload hx hb dX9_sweep_83 (lv_at hl 6 rfl) ?_
            refine lv_iload hx hb dX9_sweep_85 (lv_at hl 7 rfl) ?_
            obtain ⟨u11, hu11, hm⟩ := bs hm
            refine sd_Vv C0 h kYX6_setSpan kmX9_135 10 (aX_10 ad cA _) rfl [.int u9.1, .int v5, .int v6] (tX6_setSpan l D cA ad hu11) rfl hl.1 rfl (Nat.le_of_ble_eq_true rfl) (by decide) dX9_sweep_87 (by decide) (fun H locs h => ?_)
            refine lv_iload hx hb dX9_sweep_90 (lv_at hl 0 rfl) ?_
            exact sd_iret C0 h (Option.some.inj hm) dX9_sweep_92
        · replace hm := ip c8 hm
          refine lv_iconst (v := (-1)) hx hb dX9_sweep_52 (by decide) ?_
          exact sd_iret C0 h (Option.some.inj hm) dX9_sweep_53
      · replace hm := ip c6 hm
        refine lv_iconst (v := (-1)) hx hb dX9_sweep_38 (by decide) ?_
        exact sd_iret C0 h (Option.some.inj hm) dX9_sweep_39
theorem tX9_sweep (l : Launch) (D : va_G) (cA : ClassId) (ad : Nat → Nat) {S : St} {v1 : Int32} {v2 : Int32} {v3 : Int32} {v4 : Int32} {v5 : Int32} {v6 : Int32} {v7 : Int32} {q : (Int32 × St)} (hm : mX9_sweep v1 v2 v3 v4 v5 v6 v7 S = some q) : sd_MI l D vwCl cA sd_nw (wX ad cA) yX9_sweep (Cond.code yX9_sweep cX9_sweep 9 (some .int) :: sd_big) rX9_sweep [.ref (ad 0), .int v1, .int v2, .int v3, .int v4, .int v5, .int v6, .int v7] S q :=
  sd_ofI (by decide +kernel) (Nat.le_of_ble_eq_true rfl) (fun _ _ _ _ _ _ _ _ _ _ C0 h hl => bX9_sweep C0 h (lv_sub hl [0, 1, 2, 3, 4, 5, 6, 7] rfl) hm)

def rX9_notice : Room := { frames := 3, cells := 0, slots := 0, locals := 73 }
def mX9_notice_53 (v1 : Int32) (v2 : Int32) (v3 : Int32) (v4 : Int32) (v5 : Int32) (t0 : Int32) (S : St) : Option (Int32 × St) :=
  if t0 = 0 then
    some ((-1), S)
  else
    (mX9_addSounding v1 v3 v4 v5 S).bind fun u2 =>
    if u2.1 = (-1) then
      some (u2.1, u2.2)
    else
      (mX6_setOrigin u2.1 v2 (-1) (-1) u2.2).bind fun u4 =>
      some (u2.1, u4)
set_option maxHeartbeats 4000000 in
set_option maxRecDepth 100000 in
theorem bX9_notice_53 {p : Program} {l : Launch} {e : Env} {s : State} {m : MethodId} {args : Array Value} {below : List Frame} {meth : Method} {c : Code} {D : va_G} {cA : ClassId} {ad : Nat → Nat} {A : Nat → Prop} {H : Heap} {locs : List Loc} {ls : Array Slot} {q : (Int32 × St)} {v1 : Int32} {v2 : Int32} {v3 : Int32} {v4 : Int32} {v5 : Int32} {t0 : Int32} {S : St} (C0 : sd_Cx RX9 cX9_notice 8 (some .int) (Cond.code yX9_notice cX9_notice 8 (some .int) :: sd_big) p s m args meth c) (h : sd_Wd D vwCl cA sd_nw (wX ad cA) A s S H locs) (hl : lv_has ls 8 [(0, .ref (ad 0)), (1, .int v1), (2, .int v2), (3, .int v3), (4, .int v4), (5, .int v5)])  (hm : mX9_notice_53 v1 v2 v3 v4 v5 t0 S = some q) : W p l e rX9_notice s m args below meth c H locs 0 0 (MQ below (sd_Qi D vwCl (wX ad cA) A q) args s 0 0 A) (F0 m 53 ls [.int t0]) := by
  unfold mX9_notice_53 at hm
  have hx := C0.1
  have hb := C0.2.1
  refine lv_istore (lv' := [(6, .int t0), (0, .ref (ad 0)), (1, .int v1), (2, .int v2), (3, .int v3), (4, .int v4), (5, .int v5)]) hx hb dX9_notice_53 hl (by decide) rfl (fun ls hl => ?_)
  refine lv_iload hx hb dX9_notice_55 (lv_at hl 0 rfl) ?_
  refine lv_if_ne (tgt := 62) hx hb dX9_notice_57 (by decide) (fun c1 => ?_) (fun c1 => ?_)
  · replace hm := iq c1 hm
    refine lv_aload_n hx hb dX9_notice_62 rfl (lv_at hl 1 rfl) ?_
    refine lv_iload_n hx hb dX9_notice_63 rfl (lv_at hl 2 rfl) ?_
    refine lv_iload_n hx hb dX9_notice_64 rfl (lv_at hl 4 rfl) ?_
    refine lv_iload hx hb dX9_notice_65 (lv_at hl 5 rfl) ?_
    refine lv_iload hx hb dX9_notice_67 (lv_at hl 6 rfl) ?_
    obtain ⟨u2, hu2, hm⟩ := bs hm
    refine sd_Vi C0 h kYX9_addSounding kmX9_140 0 (aX_0 ad cA _) rfl [.int v1, .int v3, .int v4, .int v5] (tX9_addSounding l D cA ad hu2) rfl hl.1 rfl (Nat.le_of_ble_eq_true rfl) (by decide) dX9_notice_69 (by decide) (fun H locs h => ?_)
    refine lv_istore (lv' := [(7, .int u2.1), (6, .int t0), (0, .ref (ad 0)), (1, .int v1), (2, .int v2), (3, .int v3), (4, .int v4), (5, .int v5)]) hx hb dX9_notice_72 hl (by decide) rfl (fun ls hl => ?_)
    refine lv_iload hx hb dX9_notice_74 (lv_at hl 0 rfl) ?_
    refine lv_iconst (v := (-1)) hx hb dX9_notice_76 (by decide) ?_
    refine lv_icmp_eq (tgt := 95) hx hb dX9_notice_77 (by decide) (fun c3 => ?_) (fun c3 => ?_)
    · replace hm := ip c3 hm
      refine lv_iload hx hb dX9_notice_95 (lv_at hl 0 rfl) ?_
      exact sd_iret C0 h (Option.some.inj hm) dX9_notice_97
    · replace hm := iq c3 hm
      refine lv_aload_n hx hb dX9_notice_80 rfl (lv_at hl 2 rfl) ?_
      refine sd_get C0 h (C := RX9) (T := TX9) (N := 8) kcX9 0 (aX_0 ad cA _) rfl 0 (by decide) kfX9_10 (v := .ref (ad 1)) rfl dX9_notice_81 ?_
      refine sd_get C0 h (C := RX7) (T := TX7) (N := 4) kcX7 1 (aX_1 ad cA _) rfl 2 (by decide) kfX9_131 (v := .ref (ad 10)) rfl dX9_notice_84 ?_
      refine lv_iload hx hb dX9_notice_87 (lv_at hl 0 rfl) ?_
      refine lv_iload_n hx hb dX9_notice_89 rfl (lv_at hl 4 rfl) ?_
      refine lv_iconst (v := (-1)) hx hb dX9_notice_90 (by decide) ?_
      refine lv_iconst (v := (-1)) hx hb dX9_notice_91 (by decide) ?_
      obtain ⟨u4, hu4, hm⟩ := bs hm
      refine sd_Vv C0 h kYX6_setOrigin kmX9_144 10 (aX_10 ad cA _) rfl [.int u2.1, .int v2, .int (-1), .int (-1)] (tX6_setOrigin l D cA ad hu4) rfl hl.1 rfl (Nat.le_of_ble_eq_true rfl) (by decide) dX9_notice_92 (by decide) (fun H locs h => ?_)
      refine lv_iload hx hb dX9_notice_95 (lv_at hl 0 rfl) ?_
      exact sd_iret C0 h (Option.some.inj hm) dX9_notice_97
  · replace hm := ip c1 hm
    refine lv_iconst (v := (-1)) hx hb dX9_notice_60 (by decide) ?_
    exact sd_iret C0 h (Option.some.inj hm) dX9_notice_61
def mX9_notice (v1 : Int32) (v2 : Int32) (v3 : Int32) (v4 : Int32) (v5 : Int32) (S : St) : Option (Int32 × St) :=
  (mX9_within S v1 3 5).bind fun u1 =>
  if u1 = 0 then
    some ((-1), S)
  else
    (mX9_isDay S v2).bind fun u3 =>
    if u3 = 0 then
      some ((-1), S)
    else
      (mX9_isPlace S v3 v4).bind fun u5 =>
      if u5 = 0 then
        some ((-1), S)
      else
        if v1 = 4 then
          (mX9_within S v5 (-200) (-1)).bind fun u9 =>
          mX9_notice_53 v1 v2 v3 v4 v5 u9 S
        else
          (mX9_within S v5 0 9999).bind fun u8 =>
          mX9_notice_53 v1 v2 v3 v4 v5 u8 S
set_option maxHeartbeats 4000000 in
set_option maxRecDepth 100000 in
theorem bX9_notice {p : Program} {l : Launch} {e : Env} {s : State} {m : MethodId} {args : Array Value} {below : List Frame} {meth : Method} {c : Code} {D : va_G} {cA : ClassId} {ad : Nat → Nat} {A : Nat → Prop} {H : Heap} {locs : List Loc} {ls : Array Slot} {q : (Int32 × St)} {v1 : Int32} {v2 : Int32} {v3 : Int32} {v4 : Int32} {v5 : Int32} {S : St} (C0 : sd_Cx RX9 cX9_notice 8 (some .int) (Cond.code yX9_notice cX9_notice 8 (some .int) :: sd_big) p s m args meth c) (h : sd_Wd D vwCl cA sd_nw (wX ad cA) A s S H locs) (hl : lv_has ls 8 [(0, .ref (ad 0)), (1, .int v1), (2, .int v2), (3, .int v3), (4, .int v4), (5, .int v5)])  (hm : mX9_notice v1 v2 v3 v4 v5 S = some q) : W p l e rX9_notice s m args below meth c H locs 0 0 (MQ below (sd_Qi D vwCl (wX ad cA) A q) args s 0 0 A) (F0 m 0 ls []) := by
  unfold mX9_notice at hm
  have hx := C0.1
  have hb := C0.2.1
  refine lv_iload_n hx hb dX9_notice_0 rfl (lv_at hl 1 rfl) ?_
  refine lv_iconst (v := 3) hx hb dX9_notice_1 (by decide) ?_
  refine lv_iconst (v := 5) hx hb dX9_notice_2 (by decide) ?_
  obtain ⟨u1, hu1, hm⟩ := bs hm
  refine sd_Si C0 h kYX9_within kmX9_89 [.int v1, .int 3, .int 5] (tX9_within l D cA ad hu1) rfl hl.1 rfl (Nat.le_of_ble_eq_true rfl) (by decide) dX9_notice_3 (by decide) (fun H locs h => ?_)
  refine lv_if_eq (tgt := 25) hx hb dX9_notice_6 (by decide) (fun c2 => ?_) (fun c2 => ?_)
  · replace hm := ip c2 hm
    refine lv_iconst (v := (-1)) hx hb dX9_notice_25 (by decide) ?_
    exact sd_iret C0 h (Option.some.inj hm) dX9_notice_26
  · replace hm := iq c2 hm
    refine lv_iload_n hx hb dX9_notice_9 rfl (lv_at hl 2 rfl) ?_
    obtain ⟨u3, hu3, hm⟩ := bs hm
    refine sd_Si C0 h kYX9_isDay kmX9_62 [.int v2] (tX9_isDay l D cA ad hu3) rfl hl.1 rfl (Nat.le_of_ble_eq_true rfl) (by decide) dX9_notice_10 (by decide) (fun H locs h => ?_)
    refine lv_if_eq (tgt := 25) hx hb dX9_notice_13 (by decide) (fun c4 => ?_) (fun c4 => ?_)
    · replace hm := ip c4 hm
      refine lv_iconst (v := (-1)) hx hb dX9_notice_25 (by decide) ?_
      exact sd_iret C0 h (Option.some.inj hm) dX9_notice_26
    · replace hm := iq c4 hm
      refine lv_iload_n hx hb dX9_notice_16 rfl (lv_at hl 3 rfl) ?_
      refine lv_iload hx hb dX9_notice_17 (lv_at hl 4 rfl) ?_
      obtain ⟨u5, hu5, hm⟩ := bs hm
      refine sd_Si C0 h kYX9_isPlace kmX9_127 [.int v3, .int v4] (tX9_isPlace l D cA ad hu5) rfl hl.1 rfl (Nat.le_of_ble_eq_true rfl) (by decide) dX9_notice_19 (by decide) (fun H locs h => ?_)
      refine lv_if_ne (tgt := 27) hx hb dX9_notice_22 (by decide) (fun c6 => ?_) (fun c6 => ?_)
      · replace hm := iq c6 hm
        refine lv_iload_n hx hb dX9_notice_27 rfl (lv_at hl 1 rfl) ?_
        refine lv_iconst (v := 4) hx hb dX9_notice_28 (by decide) ?_
        refine lv_icmp_ne (tgt := 44) hx hb dX9_notice_29 (by decide) (fun c7 => ?_) (fun c7 => ?_)
        · replace hm := iq c7 hm
          refine lv_iload hx hb dX9_notice_44 (lv_at hl 5 rfl) ?_
          refine lv_iconst (v := 0) hx hb dX9_notice_46 (by decide) ?_
          refine lv_sipush (v := 9999) hx hb dX9_notice_47 (by decide) ?_
          obtain ⟨u8, hu8, hm⟩ := bs hm
          refine sd_Si C0 h kYX9_within kmX9_89 [.int v5, .int 0, .int 9999] (tX9_within l D cA ad hu8) rfl hl.1 rfl (Nat.le_of_ble_eq_true rfl) (by decide) dX9_notice_50 (by decide) (fun H locs h => ?_)
          exact bX9_notice_53 C0 h (lv_sub hl [0, 1, 2, 3, 4, 5] rfl) hm
        · replace hm := ip c7 hm
          refine lv_iload hx hb dX9_notice_32 (lv_at hl 5 rfl) ?_
          refine lv_sipush (v := (-200)) hx hb dX9_notice_34 (by decide) ?_
          refine lv_iconst (v := (-1)) hx hb dX9_notice_37 (by decide) ?_
          obtain ⟨u9, hu9, hm⟩ := bs hm
          refine sd_Si C0 h kYX9_within kmX9_89 [.int v5, .int (-200), .int (-1)] (tX9_within l D cA ad hu9) rfl hl.1 rfl (Nat.le_of_ble_eq_true rfl) (by decide) dX9_notice_38 (by decide) (fun H locs h => ?_)
          refine lv_goto (tgt := 53) hx hb dX9_notice_41 (by decide) ?_
          exact bX9_notice_53 C0 h (lv_sub hl [0, 1, 2, 3, 4, 5] rfl) hm
      · replace hm := ip c6 hm
        refine lv_iconst (v := (-1)) hx hb dX9_notice_25 (by decide) ?_
        exact sd_iret C0 h (Option.some.inj hm) dX9_notice_26
theorem tX9_notice (l : Launch) (D : va_G) (cA : ClassId) (ad : Nat → Nat) {S : St} {v1 : Int32} {v2 : Int32} {v3 : Int32} {v4 : Int32} {v5 : Int32} {q : (Int32 × St)} (hm : mX9_notice v1 v2 v3 v4 v5 S = some q) : sd_MI l D vwCl cA sd_nw (wX ad cA) yX9_notice (Cond.code yX9_notice cX9_notice 8 (some .int) :: sd_big) rX9_notice [.ref (ad 0), .int v1, .int v2, .int v3, .int v4, .int v5] S q :=
  sd_ofI (by decide +kernel) (Nat.le_of_ble_eq_true rfl) (fun _ _ _ _ _ _ _ _ _ _ C0 h hl => bX9_notice C0 h (lv_sub hl [0, 1, 2, 3, 4, 5] rfl) hm)

def rX6_has : Room := { frames := 0, cells := 0, slots := 0, locals := 0 }
def mX6_has (S : St) (v1 : Int32) : Option Int32 :=
  if v1 < 0 then
    some 0
  else
    if (fI S 2) ≤ v1 then
      some 0
    else
      some 1
set_option maxHeartbeats 4000000 in
set_option maxRecDepth 100000 in
theorem bX6_has {p : Program} {l : Launch} {e : Env} {s : State} {m : MethodId} {args : Array Value} {below : List Frame} {meth : Method} {c : Code} {D : va_G} {cA : ClassId} {ad : Nat → Nat} {A : Nat → Prop} {H : Heap} {locs : List Loc} {ls : Array Slot} {q : Int32} {S : St} {v1 : Int32} (C0 : sd_Cx RX6 cX6_has 2 (some .boolean) (Cond.code yX6_has cX6_has 2 (some .boolean) :: sd_big) p s m args meth c) (h : sd_Wd D vwCl cA sd_nw (wX ad cA) A s S H locs) (hl : lv_has ls 2 [(0, .ref (ad 10)), (1, .int v1)])  (hm : mX6_has S v1 = some q) : W p l e rX6_has s m args below meth c H locs 0 0 (MQ below (sd_Qi D vwCl (wX ad cA) A (q, S)) args s 0 0 A) (F0 m 0 ls []) := by
  unfold mX6_has at hm
  have hx := C0.1
  have hb := C0.2.1
  refine lv_iload_n hx hb dX6_has_0 rfl (lv_at hl 1 rfl) ?_
  refine lv_if_lt (tgt := 16) hx hb dX6_has_1 (by decide) (fun c1 => ?_) (fun c1 => ?_)
  · replace hm := ip c1 hm
    refine lv_iconst (v := 0) hx hb dX6_has_16 (by decide) ?_
    exact sd_zret C0 h (congrArg (fun x => (x, S)) (Option.some.inj hm)) rfl dX6_has_17
  · replace hm := iq c1 hm
    refine lv_iload_n hx hb dX6_has_4 rfl (lv_at hl 1 rfl) ?_
    refine lv_aload_n hx hb dX6_has_5 rfl (lv_at hl 0 rfl) ?_
    refine sd_get C0 h (C := RX6) (T := TX6) (N := 11) kcX6 10 (aX_10 ad cA _) rfl 10 (by decide) kfX6_42 (v := .int (fI S 2)) rfl dX6_has_6 ?_
    refine lv_icmp_ge (tgt := 16) hx hb dX6_has_9 (by decide) (fun c2 => ?_) (fun c2 => ?_)
    · replace hm := ip c2 hm
      refine lv_iconst (v := 0) hx hb dX6_has_16 (by decide) ?_
      exact sd_zret C0 h (congrArg (fun x => (x, S)) (Option.some.inj hm)) rfl dX6_has_17
    · replace hm := iq c2 hm
      refine lv_iconst (v := 1) hx hb dX6_has_12 (by decide) ?_
      refine lv_goto (tgt := 17) hx hb dX6_has_13 (by decide) ?_
      exact sd_zret C0 h (congrArg (fun x => (x, S)) (Option.some.inj hm)) rfl dX6_has_17
theorem tX6_has (l : Launch) (D : va_G) (cA : ClassId) (ad : Nat → Nat) {S : St} {v1 : Int32} {q : Int32} (hm : mX6_has S v1 = some q) : sd_MI l D vwCl cA sd_nw (wX ad cA) yX6_has (Cond.code yX6_has cX6_has 2 (some .boolean) :: sd_big) rX6_has [.ref (ad 10), .int v1] S (q, S) :=
  sd_ofI (by decide +kernel) (Nat.le_of_ble_eq_true rfl) (fun _ _ _ _ _ _ _ _ _ _ C0 h hl => bX6_has C0 h (lv_sub hl [0, 1] rfl) hm)

def rX9_gone : Room := { frames := 2, cells := 0, slots := 0, locals := 44 }
def mX9_gone (v1 : Int32) (v2 : Int32) (S : St) : Option (Int32 × St) :=
  (mX6_has S v1).bind fun u1 =>
  if u1 = 0 then
    some (0, S)
  else
    (mX9_within S v2 0 100).bind fun u3 =>
    if u3 = 0 then
      some (0, S)
    else
      (rd (fA S 13) 200 v1).bind fun x5 =>
      if x5 = v2 then
        some (0, S)
      else
        (rd (fA S 13) 200 v1).bind fun x7 =>
        (mX0_add 6 v1 x7 S).bind fun u8 =>
        (wr (fA u8 13) 200 v1 v2).bind fun g9 =>
        some (1, (sA u8 13 g9))
set_option maxHeartbeats 4000000 in
set_option maxRecDepth 100000 in
theorem bX9_gone {p : Program} {l : Launch} {e : Env} {s : State} {m : MethodId} {args : Array Value} {below : List Frame} {meth : Method} {c : Code} {D : va_G} {cA : ClassId} {ad : Nat → Nat} {A : Nat → Prop} {H : Heap} {locs : List Loc} {ls : Array Slot} {q : (Int32 × St)} {v1 : Int32} {v2 : Int32} {S : St} (C0 : sd_Cx RX9 cX9_gone 4 (some .boolean) (Cond.code yX9_gone cX9_gone 4 (some .boolean) :: sd_big) p s m args meth c) (h : sd_Wd D vwCl cA sd_nw (wX ad cA) A s S H locs) (hl : lv_has ls 4 [(0, .ref (ad 0)), (1, .int v1), (2, .int v2)])  (hm : mX9_gone v1 v2 S = some q) : W p l e rX9_gone s m args below meth c H locs 0 0 (MQ below (sd_Qi D vwCl (wX ad cA) A q) args s 0 0 A) (F0 m 0 ls []) := by
  unfold mX9_gone at hm
  have hx := C0.1
  have hb := C0.2.1
  refine lv_aload_n hx hb dX9_gone_0 rfl (lv_at hl 0 rfl) ?_
  refine sd_get C0 h (C := RX9) (T := TX9) (N := 8) kcX9 0 (aX_0 ad cA _) rfl 0 (by decide) kfX9_10 (v := .ref (ad 1)) rfl dX9_gone_1 ?_
  refine sd_get C0 h (C := RX7) (T := TX7) (N := 4) kcX7 1 (aX_1 ad cA _) rfl 2 (by decide) kfX9_131 (v := .ref (ad 10)) rfl dX9_gone_4 ?_
  refine lv_astore_n (lv' := [(3, .ref (ad 10)), (0, .ref (ad 0)), (1, .int v1), (2, .int v2)]) hx hb dX9_gone_7 rfl hl (by decide) rfl (fun ls hl => ?_)
  refine lv_aload_n hx hb dX9_gone_8 rfl (lv_at hl 0 rfl) ?_
  refine lv_iload_n hx hb dX9_gone_9 rfl (lv_at hl 2 rfl) ?_
  obtain ⟨u1, hu1, hm⟩ := bs hm
  refine sd_Vi C0 h kYX6_has kmX9_148 10 (aX_10 ad cA _) rfl [.int v1] (tX6_has l D cA ad hu1) rfl hl.1 rfl (Nat.le_of_ble_eq_true rfl) (by decide) dX9_gone_10 (by decide) (fun H locs h => ?_)
  refine lv_if_eq (tgt := 36) hx hb dX9_gone_13 (by decide) (fun c2 => ?_) (fun c2 => ?_)
  · replace hm := ip c2 hm
    refine lv_iconst (v := 0) hx hb dX9_gone_36 (by decide) ?_
    exact sd_zret C0 h (Option.some.inj hm) rfl dX9_gone_37
  · replace hm := iq c2 hm
    refine lv_iload_n hx hb dX9_gone_16 rfl (lv_at hl 3 rfl) ?_
    refine lv_iconst (v := 0) hx hb dX9_gone_17 (by decide) ?_
    refine lv_bipush (v := 100) hx hb dX9_gone_18 (by decide) ?_
    obtain ⟨u3, hu3, hm⟩ := bs hm
    refine sd_Si C0 h kYX9_within kmX9_89 [.int v2, .int 0, .int 100] (tX9_within l D cA ad hu3) rfl hl.1 rfl (Nat.le_of_ble_eq_true rfl) (by decide) dX9_gone_20 (by decide) (fun H locs h => ?_)
    refine lv_if_eq (tgt := 36) hx hb dX9_gone_23 (by decide) (fun c4 => ?_) (fun c4 => ?_)
    · replace hm := ip c4 hm
      refine lv_iconst (v := 0) hx hb dX9_gone_36 (by decide) ?_
      exact sd_zret C0 h (Option.some.inj hm) rfl dX9_gone_37
    · replace hm := iq c4 hm
      refine lv_aload_n hx hb dX9_gone_26 rfl (lv_at hl 0 rfl) ?_
      refine sd_get C0 h (C := RX6) (T := TX6) (N := 11) kcX6 10 (aX_10 ad cA _) rfl 7 (by decide) kfX9_149 (v := .ref (ad 18)) rfl dX9_gone_27 ?_
      refine lv_iload_n hx hb dX9_gone_30 rfl (lv_at hl 2 rfl) ?_
      obtain ⟨x5, hx5, hm⟩ := bs hm
      refine sd_rd C0 h 18 (aX_18 ad cA _) hx5 dX9_gone_31 ?_
      refine lv_iload_n hx hb dX9_gone_32 rfl (lv_at hl 3 rfl) ?_
      refine lv_icmp_ne (tgt := 38) hx hb dX9_gone_33 (by decide) (fun c6 => ?_) (fun c6 => ?_)
      · replace hm := iq c6 hm
        refine lv_aload_n hx hb dX9_gone_38 rfl (lv_at hl 1 rfl) ?_
        refine sd_get C0 h (C := RX9) (T := TX9) (N := 8) kcX9 0 (aX_0 ad cA _) rfl 2 (by decide) kfX9_22 (v := .ref (ad 43)) rfl dX9_gone_39 ?_
        refine lv_bipush (v := 6) hx hb dX9_gone_42 (by decide) ?_
        refine lv_iload_n hx hb dX9_gone_44 rfl (lv_at hl 2 rfl) ?_
        refine lv_aload_n hx hb dX9_gone_45 rfl (lv_at hl 0 rfl) ?_
        refine sd_get C0 h (C := RX6) (T := TX6) (N := 11) kcX6 10 (aX_10 ad cA _) rfl 7 (by decide) kfX9_149 (v := .ref (ad 18)) rfl dX9_gone_46 ?_
        refine lv_iload_n hx hb dX9_gone_49 rfl (lv_at hl 2 rfl) ?_
        obtain ⟨x7, hx7, hm⟩ := bs hm
        refine sd_rd C0 h 18 (aX_18 ad cA _) hx7 dX9_gone_50 ?_
        obtain ⟨u8, hu8, hm⟩ := bs hm
        refine sd_Vv C0 h kYX0_add kmX9_83 43 (aX_43 ad cA _) rfl [.int 6, .int v1, .int x7] (tX0_add l D cA ad hu8) rfl hl.1 rfl (Nat.le_of_ble_eq_true rfl) (by decide) dX9_gone_51 (by decide) (fun H locs h => ?_)
        refine lv_aload_n hx hb dX9_gone_54 rfl (lv_at hl 0 rfl) ?_
        refine sd_get C0 h (C := RX6) (T := TX6) (N := 11) kcX6 10 (aX_10 ad cA _) rfl 7 (by decide) kfX9_149 (v := .ref (ad 18)) rfl dX9_gone_55 ?_
        refine lv_iload_n hx hb dX9_gone_58 rfl (lv_at hl 2 rfl) ?_
        refine lv_iload_n hx hb dX9_gone_59 rfl (lv_at hl 3 rfl) ?_
        obtain ⟨g9, hg9, hm⟩ := bs hm
        refine sd_wr C0 h (S1 := (sA u8 13 g9)) 18 (aX_18 ad cA _) hg9 (eX_18 ad cA _ _) dX9_gone_60 (fun H locs h => ?_)
        refine lv_iconst (v := 1) hx hb dX9_gone_61 (by decide) ?_
        exact sd_zret C0 h (Option.some.inj hm) rfl dX9_gone_62
      · replace hm := ip c6 hm
        refine lv_iconst (v := 0) hx hb dX9_gone_36 (by decide) ?_
        exact sd_zret C0 h (Option.some.inj hm) rfl dX9_gone_37
theorem tX9_gone (l : Launch) (D : va_G) (cA : ClassId) (ad : Nat → Nat) {S : St} {v1 : Int32} {v2 : Int32} {q : (Int32 × St)} (hm : mX9_gone v1 v2 S = some q) : sd_MI l D vwCl cA sd_nw (wX ad cA) yX9_gone (Cond.code yX9_gone cX9_gone 4 (some .boolean) :: sd_big) rX9_gone [.ref (ad 0), .int v1, .int v2] S q :=
  sd_ofI (by decide +kernel) (Nat.le_of_ble_eq_true rfl) (fun _ _ _ _ _ _ _ _ _ _ C0 h hl => bX9_gone C0 h (lv_sub hl [0, 1, 2] rfl) hm)

def rJ9_max : Room := { frames := 0, cells := 0, slots := 0, locals := 0 }
def mJ9_max (S : St) (v0 : Int32) (v1 : Int32) : Option Int32 :=
  if v0 < v1 then
    some v1
  else
    some v0
set_option maxHeartbeats 4000000 in
set_option maxRecDepth 100000 in
theorem bJ9_max {p : Program} {l : Launch} {e : Env} {s : State} {m : MethodId} {args : Array Value} {below : List Frame} {meth : Method} {c : Code} {D : va_G} {cA : ClassId} {ad : Nat → Nat} {A : Nat → Prop} {H : Heap} {locs : List Loc} {ls : Array Slot} {q : Int32} {S : St} {v0 : Int32} {v1 : Int32} (C0 : sd_Cx RJ9 cJ9_max_7cf53 2 (some .int) (Cond.code yJ9_max_7cf53 cJ9_max_7cf53 2 (some .int) :: sd_big) p s m args meth c) (h : sd_Wd D vwCl cA sd_nw (wX ad cA) A s S H locs) (hl : lv_has ls 2 [(0, .int v0), (1, .int v1)])  (hm : mJ9_max S v0 v1 = some q) : W p l e rJ9_max s m args below meth c H locs 0 0 (MQ below (sd_Qi D vwCl (wX ad cA) A (q, S)) args s 0 0 A) (F0 m 0 ls []) := by
  unfold mJ9_max at hm
  have hx := C0.1
  have hb := C0.2.1
  refine lv_iload_n hx hb dJ9_max_7cf53_0 rfl (lv_at hl 0 rfl) ?_
  refine lv_iload_n hx hb dJ9_max_7cf53_1 rfl (lv_at hl 1 rfl) ?_
  refine lv_icmp_lt (tgt := 9) hx hb dJ9_max_7cf53_2 (by decide) (fun c1 => ?_) (fun c1 => ?_)
  · replace hm := ip c1 hm
    refine lv_iload_n hx hb dJ9_max_7cf53_9 rfl (lv_at hl 1 rfl) ?_
    exact sd_iret C0 h (congrArg (fun x => (x, S)) (Option.some.inj hm)) dJ9_max_7cf53_10
  · replace hm := iq c1 hm
    refine lv_iload_n hx hb dJ9_max_7cf53_5 rfl (lv_at hl 0 rfl) ?_
    refine lv_goto (tgt := 10) hx hb dJ9_max_7cf53_6 (by decide) ?_
    exact sd_iret C0 h (congrArg (fun x => (x, S)) (Option.some.inj hm)) dJ9_max_7cf53_10
theorem tJ9_max (l : Launch) (D : va_G) (cA : ClassId) (ad : Nat → Nat) {S : St} {v0 : Int32} {v1 : Int32} {q : Int32} (hm : mJ9_max S v0 v1 = some q) : sd_MI l D vwCl cA sd_nw (wX ad cA) yJ9_max_7cf53 (Cond.code yJ9_max_7cf53 cJ9_max_7cf53 2 (some .int) :: sd_big) rJ9_max [.int v0, .int v1] S (q, S) :=
  sd_ofIF (by decide +kernel) (Nat.le_of_ble_eq_true rfl) (fun _ _ _ _ _ _ _ _ _ _ C0 h hl => bJ9_max C0 h (lv_sub hl [0, 1] rfl) hm)

def rX8_seek : Room := { frames := 1, cells := 0, slots := 0, locals := 21 }
def mX8_seek_101 (z : Nat) (v2 : Int32) (v3 : Int32) (v4 : Int32) (S : St) : Option (Int32 × St) :=
  if v3 = (-1) then
    some (0, S)
  else
    if v4 = (-1) then
      some (0, S)
    else
      (rd (fA S 4) 1200 v4).bind fun x3 =>
      (rd (fA S 4) 1200 v3).bind fun x4 =>
      (mJ9_max S 1 (x3 - x4)).bind fun u5 =>
      (rd (fA (sL S 1 ((u5).toInt64)) 5) 1200 v4).bind fun x6 =>
      (rd (fA (sL S 1 ((u5).toInt64)) 5) 1200 v3).bind fun x7 =>
      (rd (fA (sL S 1 ((u5).toInt64)) 5) 1200 v3).bind fun x8 =>
      (rd (fA (sL S 1 ((u5).toInt64)) 4) 1200 v3).bind fun x9 =>
      some (1, (sL (sL S 1 ((u5).toInt64)) 0 (((x8).toInt64 * (fL (sL S 1 ((u5).toInt64)) 1)) + (((x6 - x7)).toInt64 * ((v2 - x9)).toInt64))))
set_option maxHeartbeats 4000000 in
set_option maxRecDepth 100000 in
theorem bX8_seek_101 {p : Program} {l : Launch} {e : Env} {s : State} {m : MethodId} {args : Array Value} {below : List Frame} {meth : Method} {c : Code} {D : va_G} {cA : ClassId} {ad : Nat → Nat} {A : Nat → Prop} {H : Heap} {locs : List Loc} {ls : Array Slot} {q : (Int32 × St)} {z : Nat} {v2 : Int32} {v3 : Int32} {v4 : Int32} {S : St} (C0 : sd_Cx RX8 cX8_seek 9 (some .boolean) (Cond.code yX8_seek cX8_seek 9 (some .boolean) :: sd_big) p s m args meth c) (h : sd_Wd D vwCl cA sd_nw (wX ad cA) A s S H locs) (hl : lv_has ls 9 [(0, .ref (ad 6)), (2, .int v2), (3, .int v3), (4, .int v4)])  (hm : mX8_seek_101 z v2 v3 v4 S = some q) : W p l e rX8_seek s m args below meth c H locs 0 0 (MQ below (sd_Qi D vwCl (wX ad cA) A q) args s 0 0 A) (F0 m 101 ls []) := by
  unfold mX8_seek_101 at hm
  have hx := C0.1
  have hb := C0.2.1
  refine lv_iload_n hx hb dX8_seek_101 rfl (lv_at hl 2 rfl) ?_
  refine lv_iconst (v := (-1)) hx hb dX8_seek_102 (by decide) ?_
  refine lv_icmp_eq (tgt := 112) hx hb dX8_seek_103 (by decide) (fun c1 => ?_) (fun c1 => ?_)
  · replace hm := ip c1 hm
    refine lv_iconst (v := 0) hx hb dX8_seek_112 (by decide) ?_
    exact sd_zret C0 h (Option.some.inj hm) rfl dX8_seek_113
  · replace hm := iq c1 hm
    refine lv_iload hx hb dX8_seek_106 (lv_at hl 3 rfl) ?_
    refine lv_iconst (v := (-1)) hx hb dX8_seek_108 (by decide) ?_
    refine lv_icmp_ne (tgt := 114) hx hb dX8_seek_109 (by decide) (fun c2 => ?_) (fun c2 => ?_)
    · replace hm := iq c2 hm
      refine lv_aload_n hx hb dX8_seek_114 rfl (lv_at hl 0 rfl) ?_
      refine lv_iconst (v := 1) hx hb dX8_seek_115 (by decide) ?_
      refine lv_aload_n hx hb dX8_seek_116 rfl (lv_at hl 0 rfl) ?_
      refine sd_get C0 h (C := RX8) (T := TX8) (N := 5) kcX8 6 (aX_6 ad cA _) rfl 1 (by decide) kfX8_15 (v := .ref (ad 8)) rfl dX8_seek_117 ?_
      refine lv_iload hx hb dX8_seek_120 (lv_at hl 3 rfl) ?_
      obtain ⟨x3, hx3, hm⟩ := bs hm
      refine sd_rd C0 h 8 (aX_8 ad cA _) hx3 dX8_seek_122 ?_
      refine lv_aload_n hx hb dX8_seek_123 rfl (lv_at hl 0 rfl) ?_
      refine sd_get C0 h (C := RX8) (T := TX8) (N := 5) kcX8 6 (aX_6 ad cA _) rfl 1 (by decide) kfX8_15 (v := .ref (ad 8)) rfl dX8_seek_124 ?_
      refine lv_iload_n hx hb dX8_seek_127 rfl (lv_at hl 2 rfl) ?_
      obtain ⟨x4, hx4, hm⟩ := bs hm
      refine sd_rd C0 h 8 (aX_8 ad cA _) hx4 dX8_seek_128 ?_
      refine lv_isub hx hb dX8_seek_129 ?_
      obtain ⟨u5, hu5, hm⟩ := bs hm
      refine sd_Si C0 h kYJ9_max_7cf53 kmX8_28 [.int 1, .int (x3 - x4)] (tJ9_max l D cA ad hu5) rfl hl.1 rfl (Nat.le_of_ble_eq_true rfl) (by decide) dX8_seek_130 (by decide) (fun H locs h => ?_)
      refine lv_i2l hx hb dX8_seek_133 (v := (u5).toInt64) rfl ?_
      refine sd_put C0 h (C := RX8) (T := TX8) (N := 5) (S1 := (sL S 1 ((u5).toInt64))) kcX8 tyX8 tyX8_ok nmX8 6 (aX_6 ad cA _) rfl 4 (by decide) kfX8_25 rfl (ty := .long) (by decide +kernel) rfl rfl (Nat.le_of_ble_eq_true rfl) (eX_6_4 ad cA _ _) dX8_seek_134 (fun H locs h => ?_)
      refine lv_aload_n hx hb dX8_seek_137 rfl (lv_at hl 0 rfl) ?_
      refine sd_get C0 h (C := RX8) (T := TX8) (N := 5) kcX8 6 (aX_6 ad cA _) rfl 2 (by decide) kfX8_18 (v := .ref (ad 9)) rfl dX8_seek_138 ?_
      refine lv_iload hx hb dX8_seek_141 (lv_at hl 3 rfl) ?_
      obtain ⟨x6, hx6, hm⟩ := bs hm
      refine sd_rd C0 h 9 (aX_9 ad cA _) hx6 dX8_seek_143 ?_
      refine lv_aload_n hx hb dX8_seek_144 rfl (lv_at hl 0 rfl) ?_
      refine sd_get C0 h (C := RX8) (T := TX8) (N := 5) kcX8 6 (aX_6 ad cA _) rfl 2 (by decide) kfX8_18 (v := .ref (ad 9)) rfl dX8_seek_145 ?_
      refine lv_iload_n hx hb dX8_seek_148 rfl (lv_at hl 2 rfl) ?_
      obtain ⟨x7, hx7, hm⟩ := bs hm
      refine sd_rd C0 h 9 (aX_9 ad cA _) hx7 dX8_seek_149 ?_
      refine lv_isub hx hb dX8_seek_150 ?_
      refine lv_i2l hx hb dX8_seek_151 (v := ((x6 - x7)).toInt64) rfl ?_
      refine lv_lstore (lv' := [(7, .long ((x6 - x7)).toInt64), (0, .ref (ad 6)), (2, .int v2), (3, .int v3), (4, .int v4)]) hx hb dX8_seek_152 hl (by decide) rfl (fun ls hl => ?_)
      refine lv_aload_n hx hb dX8_seek_154 rfl (lv_at hl 1 rfl) ?_
      refine lv_aload_n hx hb dX8_seek_155 rfl (lv_at hl 1 rfl) ?_
      refine sd_get C0 h (C := RX8) (T := TX8) (N := 5) kcX8 6 (aX_6 ad cA _) rfl 2 (by decide) kfX8_18 (v := .ref (ad 9)) rfl dX8_seek_156 ?_
      refine lv_iload_n hx hb dX8_seek_159 rfl (lv_at hl 3 rfl) ?_
      obtain ⟨x8, hx8, hm⟩ := bs hm
      refine sd_rd C0 h 9 (aX_9 ad cA _) hx8 dX8_seek_160 ?_
      refine lv_i2l hx hb dX8_seek_161 (v := (x8).toInt64) rfl ?_
      refine lv_aload_n hx hb dX8_seek_162 rfl (lv_at hl 1 rfl) ?_
      refine sd_get C0 h (C := RX8) (T := TX8) (N := 5) kcX8 6 (aX_6 ad cA _) rfl 4 (by decide) kfX8_25 (v := .long (fL (sL S 1 ((u5).toInt64)) 1)) rfl dX8_seek_163 ?_
      refine lv_lmul hx hb dX8_seek_166 ?_
      refine lv_lload hx hb dX8_seek_167 (lv_at hl 0 rfl) ?_
      refine lv_iload_n hx hb dX8_seek_169 rfl (lv_at hl 2 rfl) ?_
      refine lv_aload_n hx hb dX8_seek_170 rfl (lv_at hl 1 rfl) ?_
      refine sd_get C0 h (C := RX8) (T := TX8) (N := 5) kcX8 6 (aX_6 ad cA _) rfl 1 (by decide) kfX8_15 (v := .ref (ad 8)) rfl dX8_seek_171 ?_
      refine lv_iload_n hx hb dX8_seek_174 rfl (lv_at hl 3 rfl) ?_
      obtain ⟨x9, hx9, hm⟩ := bs hm
      refine sd_rd C0 h 8 (aX_8 ad cA _) hx9 dX8_seek_175 ?_
      refine lv_isub hx hb dX8_seek_176 ?_
      refine lv_i2l hx hb dX8_seek_177 (v := ((v2 - x9)).toInt64) rfl ?_
      refine lv_lmul hx hb dX8_seek_178 ?_
      refine lv_ladd hx hb dX8_seek_179 ?_
      refine sd_put C0 h (C := RX8) (T := TX8) (N := 5) (S1 := (sL (sL S 1 ((u5).toInt64)) 0 (((x8).toInt64 * (fL (sL S 1 ((u5).toInt64)) 1)) + (((x6 - x7)).toInt64 * ((v2 - x9)).toInt64)))) kcX8 tyX8 tyX8_ok nmX8 6 (aX_6 ad cA _) rfl 3 (by decide) kfX8_21 rfl (ty := .long) (by decide +kernel) rfl rfl (Nat.le_of_ble_eq_true rfl) (eX_6_3 ad cA _ _) dX8_seek_180 (fun H locs h => ?_)
      refine lv_iconst (v := 1) hx hb dX8_seek_183 (by decide) ?_
      exact sd_zret C0 h (Option.some.inj hm) rfl dX8_seek_184
    · replace hm := ip c2 hm
      refine lv_iconst (v := 0) hx hb dX8_seek_112 (by decide) ?_
      exact sd_zret C0 h (Option.some.inj hm) rfl dX8_seek_113
def mX8_seek_67 (z : Nat) (rc26 : Int32 → Int32 → Int32 → St → Option (Int32 × St)) (v2 : Int32) (v3 : Int32) (v4 : Int32) (v6 : Int32) (v7 : Int32) (v8 : Int32) (S : St) : Option (Int32 × St) :=
  if v8 < v2 then
    rc26 v3 v4 (v7 + 1) S
  else
    if v4 = (-1) then
      rc26 v3 v7 (v7 + 1) S
    else
      (rd (fA S 4) 1200 v4).bind fun x3 =>
      if x3 ≤ v8 then
        rc26 v3 v4 (v7 + 1) S
      else
        rc26 v3 v7 (v7 + 1) S
set_option maxHeartbeats 4000000 in
set_option maxRecDepth 100000 in
theorem bX8_seek_67 {p : Program} {l : Launch} {e : Env} {s : State} {m : MethodId} {args : Array Value} {below : List Frame} {meth : Method} {c : Code} {D : va_G} {cA : ClassId} {ad : Nat → Nat} {A : Nat → Prop} {H : Heap} {locs : List Loc} {ls : Array Slot} {q : (Int32 × St)} {z : Nat} {rc26 : Int32 → Int32 → Int32 → St → Option (Int32 × St)} {v2 : Int32} {v3 : Int32} {v4 : Int32} {v6 : Int32} {v7 : Int32} {v8 : Int32} {S : St} (C0 : sd_Cx RX8 cX8_seek 9 (some .boolean) (Cond.code yX8_seek cX8_seek 9 (some .boolean) :: sd_big) p s m args meth c) (h : sd_Wd D vwCl cA sd_nw (wX ad cA) A s S H locs) (hl : lv_has ls 9 [(0, .ref (ad 6)), (2, .int v2), (3, .int v3), (4, .int v4), (6, .int v6), (7, .int v7), (8, .int v8)]) (hrc26 : ∀ (v3 : Int32) (v4 : Int32) (v7 : Int32) (S : St) (H : Heap) (locs : List Loc) (ls : Array Slot), sd_Wd D vwCl cA sd_nw (wX ad cA) A s S H locs → lv_has ls 9 [(0, .ref (ad 6)), (2, .int v2), (3, .int v3), (4, .int v4), (6, .int v6), (7, .int v7)] → rc26 v3 v4 v7 S = some q → W p l e rX8_seek s m args below meth c H locs 0 0 (MQ below (sd_Qi D vwCl (wX ad cA) A q) args s 0 0 A) (F0 m 26 ls [])) (hm : mX8_seek_67 z rc26 v2 v3 v4 v6 v7 v8 S = some q) : W p l e rX8_seek s m args below meth c H locs 0 0 (MQ below (sd_Qi D vwCl (wX ad cA) A q) args s 0 0 A) (F0 m 67 ls []) := by
  unfold mX8_seek_67 at hm
  have hx := C0.1
  have hb := C0.2.1
  refine lv_iload hx hb dX8_seek_67 (lv_at hl 6 rfl) ?_
  refine lv_iload_n hx hb dX8_seek_69 rfl (lv_at hl 1 rfl) ?_
  refine lv_icmp_lt (tgt := 95) hx hb dX8_seek_70 (by decide) (fun c1 => ?_) (fun c1 => ?_)
  · replace hm := ip c1 hm
    refine lv_iinc (v := (v7 + 1)) (lv' := [(7, .int (v7 + 1)), (0, .ref (ad 6)), (2, .int v2), (3, .int v3), (4, .int v4), (6, .int v6), (8, .int v8)]) hx hb dX8_seek_95 hl (k := 5) rfl rfl (by decide) rfl (fun ls hl => ?_)
    refine lv_goto (tgt := 26) hx hb dX8_seek_98 (by decide) ?_
    exact hrc26 _ _ _ _ _ _ _ h (lv_sub hl [1, 2, 3, 4, 5, 0] rfl) hm
  · replace hm := iq c1 hm
    refine lv_iload hx hb dX8_seek_73 (lv_at hl 3 rfl) ?_
    refine lv_iconst (v := (-1)) hx hb dX8_seek_75 (by decide) ?_
    refine lv_icmp_eq (tgt := 91) hx hb dX8_seek_76 (by decide) (fun c2 => ?_) (fun c2 => ?_)
    · replace hm := ip c2 hm
      refine lv_iload hx hb dX8_seek_91 (lv_at hl 5 rfl) ?_
      refine lv_istore (lv' := [(4, .int v7), (0, .ref (ad 6)), (2, .int v2), (3, .int v3), (6, .int v6), (7, .int v7), (8, .int v8)]) hx hb dX8_seek_93 hl (by decide) rfl (fun ls hl => ?_)
      refine lv_iinc (v := (v7 + 1)) (lv' := [(7, .int (v7 + 1)), (4, .int v7), (0, .ref (ad 6)), (2, .int v2), (3, .int v3), (6, .int v6), (8, .int v8)]) hx hb dX8_seek_95 hl (k := 5) rfl rfl (by decide) rfl (fun ls hl => ?_)
      refine lv_goto (tgt := 26) hx hb dX8_seek_98 (by decide) ?_
      exact hrc26 _ _ _ _ _ _ _ h (lv_sub hl [2, 3, 4, 1, 5, 0] rfl) hm
    · replace hm := iq c2 hm
      refine lv_iload hx hb dX8_seek_79 (lv_at hl 6 rfl) ?_
      refine lv_aload_n hx hb dX8_seek_81 rfl (lv_at hl 0 rfl) ?_
      refine sd_get C0 h (C := RX8) (T := TX8) (N := 5) kcX8 6 (aX_6 ad cA _) rfl 1 (by decide) kfX8_15 (v := .ref (ad 8)) rfl dX8_seek_82 ?_
      refine lv_iload hx hb dX8_seek_85 (lv_at hl 3 rfl) ?_
      obtain ⟨x3, hx3, hm⟩ := bs hm
      refine sd_rd C0 h 8 (aX_8 ad cA _) hx3 dX8_seek_87 ?_
      refine lv_icmp_ge (tgt := 95) hx hb dX8_seek_88 (by decide) (fun c4 => ?_) (fun c4 => ?_)
      · replace hm := ip c4 hm
        refine lv_iinc (v := (v7 + 1)) (lv' := [(7, .int (v7 + 1)), (0, .ref (ad 6)), (2, .int v2), (3, .int v3), (4, .int v4), (6, .int v6), (8, .int v8)]) hx hb dX8_seek_95 hl (k := 5) rfl rfl (by decide) rfl (fun ls hl => ?_)
        refine lv_goto (tgt := 26) hx hb dX8_seek_98 (by decide) ?_
        exact hrc26 _ _ _ _ _ _ _ h (lv_sub hl [1, 2, 3, 4, 5, 0] rfl) hm
      · replace hm := iq c4 hm
        refine lv_iload hx hb dX8_seek_91 (lv_at hl 5 rfl) ?_
        refine lv_istore (lv' := [(4, .int v7), (0, .ref (ad 6)), (2, .int v2), (3, .int v3), (6, .int v6), (7, .int v7), (8, .int v8)]) hx hb dX8_seek_93 hl (by decide) rfl (fun ls hl => ?_)
        refine lv_iinc (v := (v7 + 1)) (lv' := [(7, .int (v7 + 1)), (4, .int v7), (0, .ref (ad 6)), (2, .int v2), (3, .int v3), (6, .int v6), (8, .int v8)]) hx hb dX8_seek_95 hl (k := 5) rfl rfl (by decide) rfl (fun ls hl => ?_)
        refine lv_goto (tgt := 26) hx hb dX8_seek_98 (by decide) ?_
        exact hrc26 _ _ _ _ _ _ _ h (lv_sub hl [2, 3, 4, 1, 5, 0] rfl) hm
def mX8_seek_26b (z : Nat) (rc26 : Int32 → Int32 → Int32 → St → Option (Int32 × St)) (v2 : Int32) (v6 : Int32) (v3 : Int32) (v4 : Int32) (v7 : Int32) (S : St) : Option (Int32 × St) :=
  if v6 ≤ v7 then
    mX8_seek_101 z v2 v3 v4 S
  else
    (rd (fA S 4) 1200 v7).bind fun x2 =>
    if v2 < x2 then
      mX8_seek_67 z rc26 v2 v3 v4 v6 v7 x2 S
    else
      if v3 = (-1) then
        mX8_seek_67 z rc26 v2 v7 v4 v6 v7 x2 S
      else
        (rd (fA S 4) 1200 v3).bind fun x5 =>
        if x2 ≤ x5 then
          mX8_seek_67 z rc26 v2 v3 v4 v6 v7 x2 S
        else
          mX8_seek_67 z rc26 v2 v7 v4 v6 v7 x2 S
set_option maxHeartbeats 4000000 in
set_option maxRecDepth 100000 in
theorem bX8_seek_26b {p : Program} {l : Launch} {e : Env} {s : State} {m : MethodId} {args : Array Value} {below : List Frame} {meth : Method} {c : Code} {D : va_G} {cA : ClassId} {ad : Nat → Nat} {A : Nat → Prop} {H : Heap} {locs : List Loc} {ls : Array Slot} {q : (Int32 × St)} {z : Nat} {rc26 : Int32 → Int32 → Int32 → St → Option (Int32 × St)} {v2 : Int32} {v6 : Int32} {v3 : Int32} {v4 : Int32} {v7 : Int32} {S : St} (C0 : sd_Cx RX8 cX8_seek 9 (some .boolean) (Cond.code yX8_seek cX8_seek 9 (some .boolean) :: sd_big) p s m args meth c) (h : sd_Wd D vwCl cA sd_nw (wX ad cA) A s S H locs) (hl : lv_has ls 9 [(0, .ref (ad 6)), (2, .int v2), (3, .int v3), (4, .int v4), (6, .int v6), (7, .int v7)]) (hrc26 : ∀ (v3 : Int32) (v4 : Int32) (v7 : Int32) (S : St) (H : Heap) (locs : List Loc) (ls : Array Slot), sd_Wd D vwCl cA sd_nw (wX ad cA) A s S H locs → lv_has ls 9 [(0, .ref (ad 6)), (2, .int v2), (3, .int v3), (4, .int v4), (6, .int v6), (7, .int v7)] → rc26 v3 v4 v7 S = some q → W p l e rX8_seek s m args below meth c H locs 0 0 (MQ below (sd_Qi D vwCl (wX ad cA) A q) args s 0 0 A) (F0 m 26 ls [])) (hm : mX8_seek_26b z rc26 v2 v6 v3 v4 v7 S = some q) : W p l e rX8_seek s m args below meth c H locs 0 0 (MQ below (sd_Qi D vwCl (wX ad cA) A q) args s 0 0 A) (F0 m 26 ls []) := by
  unfold mX8_seek_26b at hm
  have hx := C0.1
  have hb := C0.2.1
  refine lv_iload hx hb dX8_seek_26 (lv_at hl 5 rfl) ?_
  refine lv_iload hx hb dX8_seek_28 (lv_at hl 4 rfl) ?_
  refine lv_icmp_ge (tgt := 101) hx hb dX8_seek_30 (by decide) (fun c1 => ?_) (fun c1 => ?_)
  · replace hm := ip c1 hm
    exact bX8_seek_101 C0 h (lv_sub hl [0, 1, 2, 3] rfl) hm
  · replace hm := iq c1 hm
    refine lv_aload_n hx hb dX8_seek_33 rfl (lv_at hl 0 rfl) ?_
    refine sd_get C0 h (C := RX8) (T := TX8) (N := 5) kcX8 6 (aX_6 ad cA _) rfl 1 (by decide) kfX8_15 (v := .ref (ad 8)) rfl dX8_seek_34 ?_
    refine lv_iload hx hb dX8_seek_37 (lv_at hl 5 rfl) ?_
    obtain ⟨x2, hx2, hm⟩ := bs hm
    refine sd_rd C0 h 8 (aX_8 ad cA _) hx2 dX8_seek_39 ?_
    refine lv_istore (lv' := [(8, .int x2), (0, .ref (ad 6)), (2, .int v2), (3, .int v3), (4, .int v4), (6, .int v6), (7, .int v7)]) hx hb dX8_seek_40 hl (by decide) rfl (fun ls hl => ?_)
    refine lv_iload hx hb dX8_seek_42 (lv_at hl 0 rfl) ?_
    refine lv_iload_n hx hb dX8_seek_44 rfl (lv_at hl 2 rfl) ?_
    refine lv_icmp_gt (tgt := 67) hx hb dX8_seek_45 (by decide) (fun c3 => ?_) (fun c3 => ?_)
    · replace hm := ip c3 hm
      exact bX8_seek_67 C0 h (lv_sub hl [1, 2, 3, 4, 5, 6, 0] rfl) hrc26 hm
    · replace hm := iq c3 hm
      refine lv_iload_n hx hb dX8_seek_48 rfl (lv_at hl 3 rfl) ?_
      refine lv_iconst (v := (-1)) hx hb dX8_seek_49 (by decide) ?_
      refine lv_icmp_eq (tgt := 64) hx hb dX8_seek_50 (by decide) (fun c4 => ?_) (fun c4 => ?_)
      · replace hm := ip c4 hm
        refine lv_iload hx hb dX8_seek_64 (lv_at hl 6 rfl) ?_
        refine lv_istore_n (lv' := [(3, .int v7), (8, .int x2), (0, .ref (ad 6)), (2, .int v2), (4, .int v4), (6, .int v6), (7, .int v7)]) hx hb dX8_seek_66 rfl hl (by decide) rfl (fun ls hl => ?_)
        exact bX8_seek_67 C0 h (lv_sub hl [2, 3, 0, 4, 5, 6, 1] rfl) hrc26 hm
      · replace hm := iq c4 hm
        refine lv_iload hx hb dX8_seek_53 (lv_at hl 0 rfl) ?_
        refine lv_aload_n hx hb dX8_seek_55 rfl (lv_at hl 1 rfl) ?_
        refine sd_get C0 h (C := RX8) (T := TX8) (N := 5) kcX8 6 (aX_6 ad cA _) rfl 1 (by decide) kfX8_15 (v := .ref (ad 8)) rfl dX8_seek_56 ?_
        refine lv_iload_n hx hb dX8_seek_59 rfl (lv_at hl 3 rfl) ?_
        obtain ⟨x5, hx5, hm⟩ := bs hm
        refine sd_rd C0 h 8 (aX_8 ad cA _) hx5 dX8_seek_60 ?_
        refine lv_icmp_le (tgt := 67) hx hb dX8_seek_61 (by decide) (fun c6 => ?_) (fun c6 => ?_)
        · replace hm := ip c6 hm
          exact bX8_seek_67 C0 h (lv_sub hl [1, 2, 3, 4, 5, 6, 0] rfl) hrc26 hm
        · replace hm := iq c6 hm
          refine lv_iload hx hb dX8_seek_64 (lv_at hl 6 rfl) ?_
          refine lv_istore_n (lv' := [(3, .int v7), (8, .int x2), (0, .ref (ad 6)), (2, .int v2), (4, .int v4), (6, .int v6), (7, .int v7)]) hx hb dX8_seek_66 rfl hl (by decide) rfl (fun ls hl => ?_)
          exact bX8_seek_67 C0 h (lv_sub hl [2, 3, 0, 4, 5, 6, 1] rfl) hrc26 hm
def mX8_seek_26 (z : Nat) (v2 : Int32) (v6 : Int32) : Nat → Int32 → Int32 → Int32 → St → Option (Int32 × St)
  | 0, _, _, _, _ => none
  | n + 1, v3, v4, v7, S => mX8_seek_26b z (mX8_seek_26 z v2 v6 n) v2 v6 v3 v4 v7 S
set_option maxHeartbeats 4000000 in
set_option maxRecDepth 100000 in
theorem lX8_seek_26 {p : Program} {l : Launch} {e : Env} {s : State} {m : MethodId} {args : Array Value} {below : List Frame} {meth : Method} {c : Code} {D : va_G} {cA : ClassId} {ad : Nat → Nat} {A : Nat → Prop} {q : (Int32 × St)} {z : Nat} {v2 : Int32} {v6 : Int32} (C0 : sd_Cx RX8 cX8_seek 9 (some .boolean) (Cond.code yX8_seek cX8_seek 9 (some .boolean) :: sd_big) p s m args meth c)  : ∀ (n : Nat) (v3 : Int32) (v4 : Int32) (v7 : Int32) (S : St) (H : Heap) (locs : List Loc) (ls : Array Slot), sd_Wd D vwCl cA sd_nw (wX ad cA) A s S H locs → lv_has ls 9 [(0, .ref (ad 6)), (2, .int v2), (3, .int v3), (4, .int v4), (6, .int v6), (7, .int v7)] → mX8_seek_26 z v2 v6 n v3 v4 v7 S = some q → W p l e rX8_seek s m args below meth c H locs 0 0 (MQ below (sd_Qi D vwCl (wX ad cA) A q) args s 0 0 A) (F0 m 26 ls []) := by
  intro n
  induction n with
  | zero =>
    intro v3 v4 v7 S H locs ls h hl hm
    exact nomatch (show none = some q from hm)
  | succ n ih =>
    intro v3 v4 v7 S H locs ls h hl hm
    exact bX8_seek_26b C0 h hl ih hm
def mX8_seek (z : Nat) (v1 : Int32) (v2 : Int32) (S : St) : Option (Int32 × St) :=
  (rd (fA S 3) 100 v1).bind fun x1 =>
  mX8_seek_26 z v2 ((v1 * 12) + x1) z (-1) (-1) (v1 * 12) S
set_option maxHeartbeats 4000000 in
set_option maxRecDepth 100000 in
theorem bX8_seek {p : Program} {l : Launch} {e : Env} {s : State} {m : MethodId} {args : Array Value} {below : List Frame} {meth : Method} {c : Code} {D : va_G} {cA : ClassId} {ad : Nat → Nat} {A : Nat → Prop} {H : Heap} {locs : List Loc} {ls : Array Slot} {q : (Int32 × St)} {z : Nat} {v1 : Int32} {v2 : Int32} {S : St} (C0 : sd_Cx RX8 cX8_seek 9 (some .boolean) (Cond.code yX8_seek cX8_seek 9 (some .boolean) :: sd_big) p s m args meth c) (h : sd_Wd D vwCl cA sd_nw (wX ad cA) A s S H locs) (hl : lv_has ls 9 [(0, .ref (ad 6)), (1, .int v1), (2, .int v2)])  (hm : mX8_seek z v1 v2 S = some q) : W p l e rX8_seek s m args below meth c H locs 0 0 (MQ below (sd_Qi D vwCl (wX ad cA) A q) args s 0 0 A) (F0 m 0 ls []) := by
  unfold mX8_seek at hm
  have hx := C0.1
  have hb := C0.2.1
  refine lv_iconst (v := (-1)) hx hb dX8_seek_0 (by decide) ?_
  refine lv_istore_n (lv' := [(3, .int (-1)), (0, .ref (ad 6)), (1, .int v1), (2, .int v2)]) hx hb dX8_seek_1 rfl hl (by decide) rfl (fun ls hl => ?_)
  refine lv_iconst (v := (-1)) hx hb dX8_seek_2 (by decide) ?_
  refine lv_istore (lv' := [(4, .int (-1)), (3, .int (-1)), (0, .ref (ad 6)), (1, .int v1), (2, .int v2)]) hx hb dX8_seek_3 hl (by decide) rfl (fun ls hl => ?_)
  refine lv_iload_n hx hb dX8_seek_5 rfl (lv_at hl 3 rfl) ?_
  refine lv_bipush (v := 12) hx hb dX8_seek_6 (by decide) ?_
  refine lv_imul hx hb dX8_seek_8 ?_
  refine lv_istore (lv' := [(5, .int (v1 * 12)), (4, .int (-1)), (3, .int (-1)), (0, .ref (ad 6)), (1, .int v1), (2, .int v2)]) hx hb dX8_seek_9 hl (by decide) rfl (fun ls hl => ?_)
  refine lv_iload hx hb dX8_seek_11 (lv_at hl 0 rfl) ?_
  refine lv_aload_n hx hb dX8_seek_13 rfl (lv_at hl 3 rfl) ?_
  refine sd_get C0 h (C := RX8) (T := TX8) (N := 5) kcX8 6 (aX_6 ad cA _) rfl 0 (by decide) kfX8_9 (v := .ref (ad 7)) rfl dX8_seek_14 ?_
  refine lv_iload_n hx hb dX8_seek_17 rfl (lv_at hl 4 rfl) ?_
  obtain ⟨x1, hx1, hm⟩ := bs hm
  refine sd_rd C0 h 7 (aX_7 ad cA _) hx1 dX8_seek_18 ?_
  refine lv_iadd hx hb dX8_seek_19 ?_
  refine lv_istore (lv' := [(6, .int ((v1 * 12) + x1)), (5, .int (v1 * 12)), (4, .int (-1)), (3, .int (-1)), (0, .ref (ad 6)), (1, .int v1), (2, .int v2)]) hx hb dX8_seek_20 hl (by decide) rfl (fun ls hl => ?_)
  refine lv_iload hx hb dX8_seek_22 (lv_at hl 1 rfl) ?_
  refine lv_istore (lv' := [(7, .int (v1 * 12)), (6, .int ((v1 * 12) + x1)), (5, .int (v1 * 12)), (4, .int (-1)), (3, .int (-1)), (0, .ref (ad 6)), (1, .int v1), (2, .int v2)]) hx hb dX8_seek_24 hl (by decide) rfl (fun ls hl => ?_)
  exact lX8_seek_26 C0 _ _ _ _ _ _ _ _ h (lv_sub hl [5, 7, 4, 3, 1, 0] rfl) hm
theorem tX8_seek (l : Launch) (D : va_G) (cA : ClassId) (ad : Nat → Nat) {z : Nat} {S : St} {v1 : Int32} {v2 : Int32} {q : (Int32 × St)} (hm : mX8_seek z v1 v2 S = some q) : sd_MI l D vwCl cA sd_nw (wX ad cA) yX8_seek (Cond.code yX8_seek cX8_seek 9 (some .boolean) :: sd_big) rX8_seek [.ref (ad 6), .int v1, .int v2] S q :=
  sd_ofI (by decide +kernel) (Nat.le_of_ble_eq_true rfl) (fun _ _ _ _ _ _ _ _ _ _ C0 h hl => bX8_seek C0 h (lv_sub hl [0, 1, 2] rfl) hm)

def rJ9_floorDiv : Room := { frames := 0, cells := 0, slots := 0, locals := 0 }
def mJ9_floorDiv (S : St) (w0 : Int64) (w2 : Int64) : Option Int64 :=
  if w2 = 0 then none else
  if 0 ≤ (lg_cmp (w0 ^^^ w2) 0) then
    some (w0 / w2)
  else
    if (lg_cmp ((w0 / w2) * w2) w0) = 0 then
      some (w0 / w2)
    else
      some ((w0 / w2) - 1)
set_option maxHeartbeats 4000000 in
set_option maxRecDepth 100000 in
theorem bJ9_floorDiv {p : Program} {l : Launch} {e : Env} {s : State} {m : MethodId} {args : Array Value} {below : List Frame} {meth : Method} {c : Code} {D : va_G} {cA : ClassId} {ad : Nat → Nat} {A : Nat → Prop} {H : Heap} {locs : List Loc} {ls : Array Slot} {q : Int64} {S : St} {w0 : Int64} {w2 : Int64} (C0 : sd_Cx RJ9 cJ9_floorDiv_f86c9 6 (some .long) (Cond.code yJ9_floorDiv_f86c9 cJ9_floorDiv_f86c9 6 (some .long) :: sd_big) p s m args meth c) (h : sd_Wd D vwCl cA sd_nw (wX ad cA) A s S H locs) (hl : lv_has ls 6 [(0, .long w0), (2, .long w2)])  (hm : mJ9_floorDiv S w0 w2 = some q) : W p l e rJ9_floorDiv s m args below meth c H locs 0 0 (MQ below (sd_Ql D vwCl (wX ad cA) A (q, S)) args s 0 0 A) (F0 m 0 ls []) := by
  unfold mJ9_floorDiv at hm
  have hx := C0.1
  have hb := C0.2.1
  refine lv_lload_n hx hb dJ9_floorDiv_f86c9_0 rfl (lv_at hl 0 rfl) ?_
  refine lv_lload_n hx hb dJ9_floorDiv_f86c9_1 rfl (lv_at hl 1 rfl) ?_
  obtain ⟨n1, hm⟩ := dv hm
  refine lv_ldiv hx hb dJ9_floorDiv_f86c9_2 n1 ?_
  refine lv_lstore (lv' := [(4, .long (w0 / w2)), (0, .long w0), (2, .long w2)]) hx hb dJ9_floorDiv_f86c9_3 hl (by decide) rfl (fun ls hl => ?_)
  refine lv_lload_n hx hb dJ9_floorDiv_f86c9_5 rfl (lv_at hl 1 rfl) ?_
  refine lv_lload_n hx hb dJ9_floorDiv_f86c9_6 rfl (lv_at hl 2 rfl) ?_
  refine lv_lxor hx hb dJ9_floorDiv_f86c9_7 ?_
  refine lv_lconst (v := 0) hx hb dJ9_floorDiv_f86c9_8 (by decide) ?_
  refine W.lcmp hx hb dJ9_floorDiv_f86c9_9 ?_
  refine lv_if_ge (tgt := 27) hx hb dJ9_floorDiv_f86c9_10 (by decide) (fun c2 => ?_) (fun c2 => ?_)
  · replace hm := ip c2 hm
    refine lv_lload hx hb dJ9_floorDiv_f86c9_27 (lv_at hl 0 rfl) ?_
    exact sd_lret C0 h (congrArg (fun x => (x, S)) (Option.some.inj hm)) dJ9_floorDiv_f86c9_29
  · replace hm := iq c2 hm
    refine lv_lload hx hb dJ9_floorDiv_f86c9_13 (lv_at hl 0 rfl) ?_
    refine lv_lload_n hx hb dJ9_floorDiv_f86c9_15 rfl (lv_at hl 2 rfl) ?_
    refine lv_lmul hx hb dJ9_floorDiv_f86c9_16 ?_
    refine lv_lload_n hx hb dJ9_floorDiv_f86c9_17 rfl (lv_at hl 1 rfl) ?_
    refine W.lcmp hx hb dJ9_floorDiv_f86c9_18 ?_
    refine lv_if_eq (tgt := 27) hx hb dJ9_floorDiv_f86c9_19 (by decide) (fun c3 => ?_) (fun c3 => ?_)
    · replace hm := ip c3 hm
      refine lv_lload hx hb dJ9_floorDiv_f86c9_27 (lv_at hl 0 rfl) ?_
      exact sd_lret C0 h (congrArg (fun x => (x, S)) (Option.some.inj hm)) dJ9_floorDiv_f86c9_29
    · replace hm := iq c3 hm
      refine lv_lload hx hb dJ9_floorDiv_f86c9_22 (lv_at hl 0 rfl) ?_
      refine lv_lconst (v := 1) hx hb dJ9_floorDiv_f86c9_24 (by decide) ?_
      refine lv_lsub hx hb dJ9_floorDiv_f86c9_25 ?_
      exact sd_lret C0 h (congrArg (fun x => (x, S)) (Option.some.inj hm)) dJ9_floorDiv_f86c9_26
theorem tJ9_floorDiv (l : Launch) (D : va_G) (cA : ClassId) (ad : Nat → Nat) {S : St} {w0 : Int64} {w2 : Int64} {q : Int64} (hm : mJ9_floorDiv S w0 w2 = some q) : sd_ML l D vwCl cA sd_nw (wX ad cA) yJ9_floorDiv_f86c9 (Cond.code yJ9_floorDiv_f86c9 cJ9_floorDiv_f86c9 6 (some .long) :: sd_big) rJ9_floorDiv [.long w0, .long w2] S (q, S) :=
  sd_ofLF (by decide +kernel) (Nat.le_of_ble_eq_true rfl) (fun _ _ _ _ _ _ _ _ _ _ C0 h hl => bJ9_floorDiv C0 h (lv_sub hl [0, 1] rfl) hm)

def rX9_floorOf : Room := { frames := 1, cells := 0, slots := 0, locals := 25 }
def mX9_floorOf (S : St) (w0 : Int64) (w2 : Int64) : Option Int64 :=
  if (lg_cmp w2 0) ≤ 0 then
    some 0
  else
    (mJ9_floorDiv S w0 w2).bind fun u2 =>
    some u2
set_option maxHeartbeats 4000000 in
set_option maxRecDepth 100000 in
theorem bX9_floorOf {p : Program} {l : Launch} {e : Env} {s : State} {m : MethodId} {args : Array Value} {below : List Frame} {meth : Method} {c : Code} {D : va_G} {cA : ClassId} {ad : Nat → Nat} {A : Nat → Prop} {H : Heap} {locs : List Loc} {ls : Array Slot} {q : Int64} {S : St} {w0 : Int64} {w2 : Int64} (C0 : sd_Cx RX9 cX9_floorOf 4 (some .long) (Cond.code yX9_floorOf cX9_floorOf 4 (some .long) :: sd_big) p s m args meth c) (h : sd_Wd D vwCl cA sd_nw (wX ad cA) A s S H locs) (hl : lv_has ls 4 [(0, .long w0), (2, .long w2)])  (hm : mX9_floorOf S w0 w2 = some q) : W p l e rX9_floorOf s m args below meth c H locs 0 0 (MQ below (sd_Ql D vwCl (wX ad cA) A (q, S)) args s 0 0 A) (F0 m 0 ls []) := by
  unfold mX9_floorOf at hm
  have hx := C0.1
  have hb := C0.2.1
  refine lv_lload_n hx hb dX9_floorOf_0 rfl (lv_at hl 1 rfl) ?_
  refine lv_lconst (v := 0) hx hb dX9_floorOf_1 (by decide) ?_
  refine W.lcmp hx hb dX9_floorOf_2 ?_
  refine lv_if_le (tgt := 14) hx hb dX9_floorOf_3 (by decide) (fun c1 => ?_) (fun c1 => ?_)
  · replace hm := ip c1 hm
    refine lv_lconst (v := 0) hx hb dX9_floorOf_14 (by decide) ?_
    exact sd_lret C0 h (congrArg (fun x => (x, S)) (Option.some.inj hm)) dX9_floorOf_15
  · replace hm := iq c1 hm
    refine lv_lload_n hx hb dX9_floorOf_6 rfl (lv_at hl 0 rfl) ?_
    refine lv_lload_n hx hb dX9_floorOf_7 rfl (lv_at hl 1 rfl) ?_
    obtain ⟨u2, hu2, hm⟩ := bs hm
    refine sd_Sl C0 h kYJ9_floorDiv_f86c9 kmX9_307 [.long w0, .long w2] (tJ9_floorDiv l D cA ad hu2) rfl hl.1 rfl (Nat.le_of_ble_eq_true rfl) (by decide) dX9_floorOf_8 (by decide) (fun H locs h => ?_)
    refine lv_goto (tgt := 15) hx hb dX9_floorOf_11 (by decide) ?_
    exact sd_lret C0 h (congrArg (fun x => (x, S)) (Option.some.inj hm)) dX9_floorOf_15
theorem tX9_floorOf (l : Launch) (D : va_G) (cA : ClassId) (ad : Nat → Nat) {S : St} {w0 : Int64} {w2 : Int64} {q : Int64} (hm : mX9_floorOf S w0 w2 = some q) : sd_ML l D vwCl cA sd_nw (wX ad cA) yX9_floorOf (Cond.code yX9_floorOf cX9_floorOf 4 (some .long) :: sd_big) rX9_floorOf [.long w0, .long w2] S (q, S) :=
  sd_ofL (by decide +kernel) (Nat.le_of_ble_eq_true rfl) (fun _ _ _ _ _ _ _ _ _ _ C0 h hl => bX9_floorOf C0 h (lv_sub hl [0, 1] rfl) hm)
