def rX7_copyFrom_X22 : Room := { frames := 2, cells := 0, slots := 0, locals := 61 }
def mX7_copyFrom_X22 (S : St) : Option St :=
  (mX4_copyFrom_X23 S).bind fun u1 =>
  (mX8_copyFrom_X27 u1).bind fun u2 =>
  (mX6_copyFrom_X31 u2).bind fun u3 =>
  some u3
set_option maxHeartbeats 4000000 in
set_option maxRecDepth 100000 in
theorem bX7_copyFrom_X22 {p : Program} {l : Launch} {e : Env} {s : State} {m : MethodId} {args : Array Value} {below : List Frame} {meth : Method} {c : Code} {D : va_G} {cA : ClassId} {ad : Nat → Nat} {A : Nat → Prop} {H : Heap} {locs : List Loc} {ls : Array Slot} {q : St} {S : St} (C0 : sd_Cx RX7 cX7_copyFrom 2 none (Cond.code yX7_copyFrom cX7_copyFrom 2 none :: sd_big) p s m args meth c) (h : sd_Wd D vwCl cA sd_nw (wX ad cA) A s S H locs) (hl : lv_has ls 2 [(0, .ref (ad 22)), (1, .ref (ad 1))])  (hm : mX7_copyFrom_X22 S = some q) : W p l e rX7_copyFrom_X22 s m args below meth c H locs 0 0 (MQ below (sd_Qv D vwCl (wX ad cA) A q) args s 0 0 A) (F0 m 0 ls []) := by
  unfold mX7_copyFrom_X22 at hm
  have hx := C0.1
  have hb := C0.2.1
  refine lv_aload_n hx hb dX7_copyFrom_0 rfl (lv_at hl 0 rfl) ?_
  refine sd_get C0 h (C := RX7) (T := TX7) (N := 4) kcX7 22 (aX_22 ad cA _) rfl 0 (by decide) kfX7_12 (v := .ref (ad 23)) rfl dX7_copyFrom_1 ?_
  refine lv_aload_n hx hb dX7_copyFrom_4 rfl (lv_at hl 1 rfl) ?_
  refine sd_get C0 h (C := RX7) (T := TX7) (N := 4) kcX7 1 (aX_1 ad cA _) rfl 0 (by decide) kfX7_12 (v := .ref (ad 2)) rfl dX7_copyFrom_5 ?_
  obtain ⟨u1, hu1, hm⟩ := bs hm
  refine sd_Vv C0 h kYX4_copyFrom kmX7_88 23 (aX_23 ad cA _) rfl [.ref (ad 2)] (tX4_copyFrom_X23 l D cA ad hu1) rfl hl.1 rfl (Nat.le_of_ble_eq_true rfl) (by decide) dX7_copyFrom_8 (by decide) (fun H locs h => ?_)
  refine lv_aload_n hx hb dX7_copyFrom_11 rfl (lv_at hl 0 rfl) ?_
  refine sd_get C0 h (C := RX7) (T := TX7) (N := 4) kcX7 22 (aX_22 ad cA _) rfl 1 (by decide) kfX7_21 (v := .ref (ad 27)) rfl dX7_copyFrom_12 ?_
  refine lv_aload_n hx hb dX7_copyFrom_15 rfl (lv_at hl 1 rfl) ?_
  refine sd_get C0 h (C := RX7) (T := TX7) (N := 4) kcX7 1 (aX_1 ad cA _) rfl 1 (by decide) kfX7_21 (v := .ref (ad 6)) rfl dX7_copyFrom_16 ?_
  obtain ⟨u2, hu2, hm⟩ := bs hm
  refine sd_Vv C0 h kYX8_copyFrom kmX7_92 27 (aX_27 ad cA _) rfl [.ref (ad 6)] (tX8_copyFrom_X27 l D cA ad hu2) rfl hl.1 rfl (Nat.le_of_ble_eq_true rfl) (by decide) dX7_copyFrom_19 (by decide) (fun H locs h => ?_)
  refine lv_aload_n hx hb dX7_copyFrom_22 rfl (lv_at hl 0 rfl) ?_
  refine sd_get C0 h (C := RX7) (T := TX7) (N := 4) kcX7 22 (aX_22 ad cA _) rfl 2 (by decide) kfX7_28 (v := .ref (ad 31)) rfl dX7_copyFrom_23 ?_
  refine lv_aload_n hx hb dX7_copyFrom_26 rfl (lv_at hl 1 rfl) ?_
  refine sd_get C0 h (C := RX7) (T := TX7) (N := 4) kcX7 1 (aX_1 ad cA _) rfl 2 (by decide) kfX7_28 (v := .ref (ad 10)) rfl dX7_copyFrom_27 ?_
  obtain ⟨u3, hu3, hm⟩ := bs hm
  refine sd_Vv C0 h kYX6_copyFrom kmX7_95 31 (aX_31 ad cA _) rfl [.ref (ad 10)] (tX6_copyFrom_X31 l D cA ad hu3) rfl hl.1 rfl (Nat.le_of_ble_eq_true rfl) (by decide) dX7_copyFrom_30 (by decide) (fun H locs h => ?_)
  exact sd_vret C0 h (Option.some.inj hm) dX7_copyFrom_33
theorem tX7_copyFrom_X22 (l : Launch) (D : va_G) (cA : ClassId) (ad : Nat → Nat) {S : St}  {q : St} (hm : mX7_copyFrom_X22 S = some q) : sd_MV l D vwCl cA sd_nw (wX ad cA) yX7_copyFrom (Cond.code yX7_copyFrom cX7_copyFrom 2 none :: sd_big) rX7_copyFrom_X22 [.ref (ad 22), .ref (ad 1)] S q :=
  sd_ofV (by decide +kernel) (Nat.le_of_ble_eq_true rfl) (fun _ _ _ _ _ _ _ _ _ _ C0 h hl => bX7_copyFrom_X22 C0 h (lv_sub hl [0, 1] rfl) hm)

def rX9_image : Room := { frames := 3, cells := 0, slots := 0, locals := 82 }
def mX9_image (S : St) : Option St :=
  (mX7_copyFrom_X22 S).bind fun u1 =>
  some (sI u1 0 1)
set_option maxHeartbeats 4000000 in
set_option maxRecDepth 100000 in
theorem bX9_image {p : Program} {l : Launch} {e : Env} {s : State} {m : MethodId} {args : Array Value} {below : List Frame} {meth : Method} {c : Code} {D : va_G} {cA : ClassId} {ad : Nat → Nat} {A : Nat → Prop} {H : Heap} {locs : List Loc} {ls : Array Slot} {q : St} {S : St} (C0 : sd_Cx RX9 cX9_image 1 none (Cond.code yX9_image cX9_image 1 none :: sd_big) p s m args meth c) (h : sd_Wd D vwCl cA sd_nw (wX ad cA) A s S H locs) (hl : lv_has ls 1 [(0, .ref (ad 0))])  (hm : mX9_image S = some q) : W p l e rX9_image s m args below meth c H locs 0 0 (MQ below (sd_Qv D vwCl (wX ad cA) A q) args s 0 0 A) (F0 m 0 ls []) := by
  unfold mX9_image at hm
  have hx := C0.1
  have hb := C0.2.1
  refine lv_aload_n hx hb dX9_image_0 rfl (lv_at hl 0 rfl) ?_
  refine sd_get C0 h (C := RX9) (T := TX9) (N := 8) kcX9 0 (aX_0 ad cA _) rfl 1 (by decide) kfX9_16 (v := .ref (ad 22)) rfl dX9_image_1 ?_
  refine lv_aload_n hx hb dX9_image_4 rfl (lv_at hl 0 rfl) ?_
  refine sd_get C0 h (C := RX9) (T := TX9) (N := 8) kcX9 0 (aX_0 ad cA _) rfl 0 (by decide) kfX9_10 (v := .ref (ad 1)) rfl dX9_image_5 ?_
  obtain ⟨u1, hu1, hm⟩ := bs hm
  refine sd_Vv C0 h kYX7_copyFrom kmX9_297 22 (aX_22 ad cA _) rfl [.ref (ad 1)] (tX7_copyFrom_X22 l D cA ad hu1) rfl hl.1 rfl (Nat.le_of_ble_eq_true rfl) (by decide) dX9_image_8 (by decide) (fun H locs h => ?_)
  refine lv_aload_n hx hb dX9_image_11 rfl (lv_at hl 0 rfl) ?_
  refine lv_iconst (v := 1) hx hb dX9_image_12 (by decide) ?_
  refine sd_put C0 h (C := RX9) (T := TX9) (N := 8) (S1 := (sI u1 0 1)) kcX9 tyX9 tyX9_ok nmX9 0 (aX_0 ad cA _) rfl 7 (by decide) kfX9_58 rfl (ty := .boolean) (by decide +kernel) rfl rfl (Nat.le_of_ble_eq_true rfl) (eX_0_7 ad cA _ _) dX9_image_13 (fun H locs h => ?_)
  exact sd_vret C0 h (Option.some.inj hm) dX9_image_16
theorem tX9_image (l : Launch) (D : va_G) (cA : ClassId) (ad : Nat → Nat) {S : St}  {q : St} (hm : mX9_image S = some q) : sd_MV l D vwCl cA sd_nw (wX ad cA) yX9_image (Cond.code yX9_image cX9_image 1 none :: sd_big) rX9_image [.ref (ad 0)] S q :=
  sd_ofV (by decide +kernel) (Nat.le_of_ble_eq_true rfl) (fun _ _ _ _ _ _ _ _ _ _ C0 h hl => bX9_image C0 h (lv_sub hl [0] rfl) hm)

def rX4_copyFrom_X2 : Room := { frames := 1, cells := 0, slots := 0, locals := 40 }
def mX4_copyFrom_X2 (S : St) : Option St :=
  (cp (fA (sI S 1 (fI S 3)) 17) 20 0 (fA (sI S 1 (fI S 3)) 0) 20 0 20).bind fun g1 =>
  (cp (fA (sA (sI S 1 (fI S 3)) 0 g1) 18) 20 0 (fA (sA (sI S 1 (fI S 3)) 0 g1) 1) 20 0 20).bind fun g2 =>
  (cp (fA (sA (sA (sI S 1 (fI S 3)) 0 g1) 1 g2) 19) 20 0 (fA (sA (sA (sI S 1 (fI S 3)) 0 g1) 1 g2) 2) 20 0 20).bind fun g3 =>
  some (sA (sA (sA (sI S 1 (fI S 3)) 0 g1) 1 g2) 2 g3)
set_option maxHeartbeats 4000000 in
set_option maxRecDepth 100000 in
theorem bX4_copyFrom_X2 {p : Program} {l : Launch} {e : Env} {s : State} {m : MethodId} {args : Array Value} {below : List Frame} {meth : Method} {c : Code} {D : va_G} {cA : ClassId} {ad : Nat → Nat} {A : Nat → Prop} {H : Heap} {locs : List Loc} {ls : Array Slot} {q : St} {S : St} (C0 : sd_Cx RX4 cX4_copyFrom 2 none (Cond.code yX4_copyFrom cX4_copyFrom 2 none :: sd_big) p s m args meth c) (h : sd_Wd D vwCl cA sd_nw (wX ad cA) A s S H locs) (hl : lv_has ls 2 [(0, .ref (ad 2)), (1, .ref (ad 23))])  (hm : mX4_copyFrom_X2 S = some q) : W p l e rX4_copyFrom_X2 s m args below meth c H locs 0 0 (MQ below (sd_Qv D vwCl (wX ad cA) A q) args s 0 0 A) (F0 m 0 ls []) := by
  unfold mX4_copyFrom_X2 at hm
  have hx := C0.1
  have hb := C0.2.1
  refine lv_aload_n hx hb dX4_copyFrom_0 rfl (lv_at hl 0 rfl) ?_
  refine lv_aload_n hx hb dX4_copyFrom_1 rfl (lv_at hl 1 rfl) ?_
  refine sd_get C0 h (C := RX4) (T := TX4) (N := 4) kcX4 23 (aX_23 ad cA _) rfl 3 (by decide) kfX4_21 (v := .int (fI S 3)) rfl dX4_copyFrom_2 ?_
  refine sd_put C0 h (C := RX4) (T := TX4) (N := 4) (S1 := (sI S 1 (fI S 3))) kcX4 tyX4 tyX4_ok nmX4 2 (aX_2 ad cA _) rfl 3 (by decide) kfX4_21 rfl (ty := .int) (by decide +kernel) rfl rfl (Nat.le_of_ble_eq_true rfl) (eX_2_3 ad cA _ _) dX4_copyFrom_5 (fun H locs h => ?_)
  refine lv_aload_n hx hb dX4_copyFrom_8 rfl (lv_at hl 1 rfl) ?_
  refine sd_get C0 h (C := RX4) (T := TX4) (N := 4) kcX4 23 (aX_23 ad cA _) rfl 0 (by decide) kfX4_9 (v := .ref (ad 24)) rfl dX4_copyFrom_9 ?_
  refine lv_iconst (v := 0) hx hb dX4_copyFrom_12 (by decide) ?_
  refine lv_aload_n hx hb dX4_copyFrom_13 rfl (lv_at hl 0 rfl) ?_
  refine sd_get C0 h (C := RX4) (T := TX4) (N := 4) kcX4 2 (aX_2 ad cA _) rfl 0 (by decide) kfX4_9 (v := .ref (ad 3)) rfl dX4_copyFrom_14 ?_
  refine lv_iconst (v := 0) hx hb dX4_copyFrom_17 (by decide) ?_
  refine lv_bipush (v := 20) hx hb dX4_copyFrom_18 (by decide) ?_
  obtain ⟨g1, hg1, hm⟩ := bs hm
  refine sd_cp C0 h (S1 := (sA (sI S 1 (fI S 3)) 0 g1)) hl.1 kmX4_31 24 3 (aX_24 ad cA _) (aX_3 ad cA _) hg1 (eX_3 ad cA _ _) (by decide) (Nat.le_of_ble_eq_true rfl) dX4_copyFrom_20 (fun H locs h => ?_)
  refine lv_aload_n hx hb dX4_copyFrom_23 rfl (lv_at hl 1 rfl) ?_
  refine sd_get C0 h (C := RX4) (T := TX4) (N := 4) kcX4 23 (aX_23 ad cA _) rfl 1 (by decide) kfX4_15 (v := .ref (ad 25)) rfl dX4_copyFrom_24 ?_
  refine lv_iconst (v := 0) hx hb dX4_copyFrom_27 (by decide) ?_
  refine lv_aload_n hx hb dX4_copyFrom_28 rfl (lv_at hl 0 rfl) ?_
  refine sd_get C0 h (C := RX4) (T := TX4) (N := 4) kcX4 2 (aX_2 ad cA _) rfl 1 (by decide) kfX4_15 (v := .ref (ad 4)) rfl dX4_copyFrom_29 ?_
  refine lv_iconst (v := 0) hx hb dX4_copyFrom_32 (by decide) ?_
  refine lv_bipush (v := 20) hx hb dX4_copyFrom_33 (by decide) ?_
  obtain ⟨g2, hg2, hm⟩ := bs hm
  refine sd_cp C0 h (S1 := (sA (sA (sI S 1 (fI S 3)) 0 g1) 1 g2)) hl.1 kmX4_31 25 4 (aX_25 ad cA _) (aX_4 ad cA _) hg2 (eX_4 ad cA _ _) (by decide) (Nat.le_of_ble_eq_true rfl) dX4_copyFrom_35 (fun H locs h => ?_)
  refine lv_aload_n hx hb dX4_copyFrom_38 rfl (lv_at hl 1 rfl) ?_
  refine sd_get C0 h (C := RX4) (T := TX4) (N := 4) kcX4 23 (aX_23 ad cA _) rfl 2 (by decide) kfX4_18 (v := .ref (ad 26)) rfl dX4_copyFrom_39 ?_
  refine lv_iconst (v := 0) hx hb dX4_copyFrom_42 (by decide) ?_
  refine lv_aload_n hx hb dX4_copyFrom_43 rfl (lv_at hl 0 rfl) ?_
  refine sd_get C0 h (C := RX4) (T := TX4) (N := 4) kcX4 2 (aX_2 ad cA _) rfl 2 (by decide) kfX4_18 (v := .ref (ad 5)) rfl dX4_copyFrom_44 ?_
  refine lv_iconst (v := 0) hx hb dX4_copyFrom_47 (by decide) ?_
  refine lv_bipush (v := 20) hx hb dX4_copyFrom_48 (by decide) ?_
  obtain ⟨g3, hg3, hm⟩ := bs hm
  refine sd_cp C0 h (S1 := (sA (sA (sA (sI S 1 (fI S 3)) 0 g1) 1 g2) 2 g3)) hl.1 kmX4_31 26 5 (aX_26 ad cA _) (aX_5 ad cA _) hg3 (eX_5 ad cA _ _) (by decide) (Nat.le_of_ble_eq_true rfl) dX4_copyFrom_50 (fun H locs h => ?_)
  exact sd_vret C0 h (Option.some.inj hm) dX4_copyFrom_53
theorem tX4_copyFrom_X2 (l : Launch) (D : va_G) (cA : ClassId) (ad : Nat → Nat) {S : St}  {q : St} (hm : mX4_copyFrom_X2 S = some q) : sd_MV l D vwCl cA sd_nw (wX ad cA) yX4_copyFrom (Cond.code yX4_copyFrom cX4_copyFrom 2 none :: sd_big) rX4_copyFrom_X2 [.ref (ad 2), .ref (ad 23)] S q :=
  sd_ofV (by decide +kernel) (Nat.le_of_ble_eq_true rfl) (fun _ _ _ _ _ _ _ _ _ _ C0 h hl => bX4_copyFrom_X2 C0 h (lv_sub hl [0, 1] rfl) hm)

def rX8_copyFrom_X6 : Room := { frames := 1, cells := 0, slots := 0, locals := 40 }
def mX8_copyFrom_X6 (S : St) : Option St :=
  (cp (fA S 20) 100 0 (fA S 3) 100 0 100).bind fun g1 =>
  (cp (fA (sA S 3 g1) 21) 1200 0 (fA (sA S 3 g1) 4) 1200 0 1200).bind fun g2 =>
  (cp (fA (sA (sA S 3 g1) 4 g2) 22) 1200 0 (fA (sA (sA S 3 g1) 4 g2) 5) 1200 0 1200).bind fun g3 =>
  some (sA (sA (sA S 3 g1) 4 g2) 5 g3)
set_option maxHeartbeats 4000000 in
set_option maxRecDepth 100000 in
theorem bX8_copyFrom_X6 {p : Program} {l : Launch} {e : Env} {s : State} {m : MethodId} {args : Array Value} {below : List Frame} {meth : Method} {c : Code} {D : va_G} {cA : ClassId} {ad : Nat → Nat} {A : Nat → Prop} {H : Heap} {locs : List Loc} {ls : Array Slot} {q : St} {S : St} (C0 : sd_Cx RX8 cX8_copyFrom 2 none (Cond.code yX8_copyFrom cX8_copyFrom 2 none :: sd_big) p s m args meth c) (h : sd_Wd D vwCl cA sd_nw (wX ad cA) A s S H locs) (hl : lv_has ls 2 [(0, .ref (ad 6)), (1, .ref (ad 27))])  (hm : mX8_copyFrom_X6 S = some q) : W p l e rX8_copyFrom_X6 s m args below meth c H locs 0 0 (MQ below (sd_Qv D vwCl (wX ad cA) A q) args s 0 0 A) (F0 m 0 ls []) := by
  unfold mX8_copyFrom_X6 at hm
  have hx := C0.1
  have hb := C0.2.1
  refine lv_aload_n hx hb dX8_copyFrom_0 rfl (lv_at hl 1 rfl) ?_
  refine sd_get C0 h (C := RX8) (T := TX8) (N := 5) kcX8 27 (aX_27 ad cA _) rfl 0 (by decide) kfX8_9 (v := .ref (ad 28)) rfl dX8_copyFrom_1 ?_
  refine lv_iconst (v := 0) hx hb dX8_copyFrom_4 (by decide) ?_
  refine lv_aload_n hx hb dX8_copyFrom_5 rfl (lv_at hl 0 rfl) ?_
  refine sd_get C0 h (C := RX8) (T := TX8) (N := 5) kcX8 6 (aX_6 ad cA _) rfl 0 (by decide) kfX8_9 (v := .ref (ad 7)) rfl dX8_copyFrom_6 ?_
  refine lv_iconst (v := 0) hx hb dX8_copyFrom_9 (by decide) ?_
  refine lv_bipush (v := 100) hx hb dX8_copyFrom_10 (by decide) ?_
  obtain ⟨g1, hg1, hm⟩ := bs hm
  refine sd_cp C0 h (S1 := (sA S 3 g1)) hl.1 kmX8_34 28 7 (aX_28 ad cA _) (aX_7 ad cA _) hg1 (eX_7 ad cA _ _) (by decide) (Nat.le_of_ble_eq_true rfl) dX8_copyFrom_12 (fun H locs h => ?_)
  refine lv_aload_n hx hb dX8_copyFrom_15 rfl (lv_at hl 1 rfl) ?_
  refine sd_get C0 h (C := RX8) (T := TX8) (N := 5) kcX8 27 (aX_27 ad cA _) rfl 1 (by decide) kfX8_15 (v := .ref (ad 29)) rfl dX8_copyFrom_16 ?_
  refine lv_iconst (v := 0) hx hb dX8_copyFrom_19 (by decide) ?_
  refine lv_aload_n hx hb dX8_copyFrom_20 rfl (lv_at hl 0 rfl) ?_
  refine sd_get C0 h (C := RX8) (T := TX8) (N := 5) kcX8 6 (aX_6 ad cA _) rfl 1 (by decide) kfX8_15 (v := .ref (ad 8)) rfl dX8_copyFrom_21 ?_
  refine lv_iconst (v := 0) hx hb dX8_copyFrom_24 (by decide) ?_
  refine lv_sipush (v := 1200) hx hb dX8_copyFrom_25 (by decide) ?_
  obtain ⟨g2, hg2, hm⟩ := bs hm
  refine sd_cp C0 h (S1 := (sA (sA S 3 g1) 4 g2)) hl.1 kmX8_34 29 8 (aX_29 ad cA _) (aX_8 ad cA _) hg2 (eX_8 ad cA _ _) (by decide) (Nat.le_of_ble_eq_true rfl) dX8_copyFrom_28 (fun H locs h => ?_)
  refine lv_aload_n hx hb dX8_copyFrom_31 rfl (lv_at hl 1 rfl) ?_
  refine sd_get C0 h (C := RX8) (T := TX8) (N := 5) kcX8 27 (aX_27 ad cA _) rfl 2 (by decide) kfX8_18 (v := .ref (ad 30)) rfl dX8_copyFrom_32 ?_
  refine lv_iconst (v := 0) hx hb dX8_copyFrom_35 (by decide) ?_
  refine lv_aload_n hx hb dX8_copyFrom_36 rfl (lv_at hl 0 rfl) ?_
  refine sd_get C0 h (C := RX8) (T := TX8) (N := 5) kcX8 6 (aX_6 ad cA _) rfl 2 (by decide) kfX8_18 (v := .ref (ad 9)) rfl dX8_copyFrom_37 ?_
  refine lv_iconst (v := 0) hx hb dX8_copyFrom_40 (by decide) ?_
  refine lv_sipush (v := 1200) hx hb dX8_copyFrom_41 (by decide) ?_
  obtain ⟨g3, hg3, hm⟩ := bs hm
  refine sd_cp C0 h (S1 := (sA (sA (sA S 3 g1) 4 g2) 5 g3)) hl.1 kmX8_34 30 9 (aX_30 ad cA _) (aX_9 ad cA _) hg3 (eX_9 ad cA _ _) (by decide) (Nat.le_of_ble_eq_true rfl) dX8_copyFrom_44 (fun H locs h => ?_)
  exact sd_vret C0 h (Option.some.inj hm) dX8_copyFrom_47
theorem tX8_copyFrom_X6 (l : Launch) (D : va_G) (cA : ClassId) (ad : Nat → Nat) {S : St}  {q : St} (hm : mX8_copyFrom_X6 S = some q) : sd_MV l D vwCl cA sd_nw (wX ad cA) yX8_copyFrom (Cond.code yX8_copyFrom cX8_copyFrom 2 none :: sd_big) rX8_copyFrom_X6 [.ref (ad 6), .ref (ad 27)] S q :=
  sd_ofV (by decide +kernel) (Nat.le_of_ble_eq_true rfl) (fun _ _ _ _ _ _ _ _ _ _ C0 h hl => bX8_copyFrom_X6 C0 h (lv_sub hl [0, 1] rfl) hm)

def rX6_copyFrom_X10 : Room := { frames := 1, cells := 0, slots := 0, locals := 40 }
def mX6_copyFrom_X10 (S : St) : Option St :=
  (cp (fA (sI S 2 (fI S 4)) 23) 200 0 (fA (sI S 2 (fI S 4)) 6) 200 0 200).bind fun g1 =>
  (cp (fA (sA (sI S 2 (fI S 4)) 6 g1) 24) 200 0 (fA (sA (sI S 2 (fI S 4)) 6 g1) 7) 200 0 200).bind fun g2 =>
  (cp (fA (sA (sA (sI S 2 (fI S 4)) 6 g1) 7 g2) 25) 200 0 (fA (sA (sA (sI S 2 (fI S 4)) 6 g1) 7 g2) 8) 200 0 200).bind fun g3 =>
  (cp (fA (sA (sA (sA (sI S 2 (fI S 4)) 6 g1) 7 g2) 8 g3) 26) 200 0 (fA (sA (sA (sA (sI S 2 (fI S 4)) 6 g1) 7 g2) 8 g3) 9) 200 0 200).bind fun g4 =>
  (cp (fA (sA (sA (sA (sA (sI S 2 (fI S 4)) 6 g1) 7 g2) 8 g3) 9 g4) 27) 200 0 (fA (sA (sA (sA (sA (sI S 2 (fI S 4)) 6 g1) 7 g2) 8 g3) 9 g4) 10) 200 0 200).bind fun g5 =>
  (cp (fA (sA (sA (sA (sA (sA (sI S 2 (fI S 4)) 6 g1) 7 g2) 8 g3) 9 g4) 10 g5) 28) 200 0 (fA (sA (sA (sA (sA (sA (sI S 2 (fI S 4)) 6 g1) 7 g2) 8 g3) 9 g4) 10 g5) 11) 200 0 200).bind fun g6 =>
  (cp (fA (sA (sA (sA (sA (sA (sA (sI S 2 (fI S 4)) 6 g1) 7 g2) 8 g3) 9 g4) 10 g5) 11 g6) 29) 200 0 (fA (sA (sA (sA (sA (sA (sA (sI S 2 (fI S 4)) 6 g1) 7 g2) 8 g3) 9 g4) 10 g5) 11 g6) 12) 200 0 200).bind fun g7 =>
  (cp (fA (sA (sA (sA (sA (sA (sA (sA (sI S 2 (fI S 4)) 6 g1) 7 g2) 8 g3) 9 g4) 10 g5) 11 g6) 12 g7) 30) 200 0 (fA (sA (sA (sA (sA (sA (sA (sA (sI S 2 (fI S 4)) 6 g1) 7 g2) 8 g3) 9 g4) 10 g5) 11 g6) 12 g7) 13) 200 0 200).bind fun g8 =>
  (cp (fA (sA (sA (sA (sA (sA (sA (sA (sA (sI S 2 (fI S 4)) 6 g1) 7 g2) 8 g3) 9 g4) 10 g5) 11 g6) 12 g7) 13 g8) 31) 200 0 (fA (sA (sA (sA (sA (sA (sA (sA (sA (sI S 2 (fI S 4)) 6 g1) 7 g2) 8 g3) 9 g4) 10 g5) 11 g6) 12 g7) 13 g8) 14) 200 0 200).bind fun g9 =>
  (cp (fA (sA (sA (sA (sA (sA (sA (sA (sA (sA (sI S 2 (fI S 4)) 6 g1) 7 g2) 8 g3) 9 g4) 10 g5) 11 g6) 12 g7) 13 g8) 14 g9) 32) 200 0 (fA (sA (sA (sA (sA (sA (sA (sA (sA (sA (sI S 2 (fI S 4)) 6 g1) 7 g2) 8 g3) 9 g4) 10 g5) 11 g6) 12 g7) 13 g8) 14 g9) 15) 200 0 200).bind fun g10 =>
  some (sA (sA (sA (sA (sA (sA (sA (sA (sA (sA (sI S 2 (fI S 4)) 6 g1) 7 g2) 8 g3) 9 g4) 10 g5) 11 g6) 12 g7) 13 g8) 14 g9) 15 g10)
set_option maxHeartbeats 4000000 in
set_option maxRecDepth 100000 in
theorem bX6_copyFrom_X10 {p : Program} {l : Launch} {e : Env} {s : State} {m : MethodId} {args : Array Value} {below : List Frame} {meth : Method} {c : Code} {D : va_G} {cA : ClassId} {ad : Nat → Nat} {A : Nat → Prop} {H : Heap} {locs : List Loc} {ls : Array Slot} {q : St} {S : St} (C0 : sd_Cx RX6 cX6_copyFrom 2 none (Cond.code yX6_copyFrom cX6_copyFrom 2 none :: sd_big) p s m args meth c) (h : sd_Wd D vwCl cA sd_nw (wX ad cA) A s S H locs) (hl : lv_has ls 2 [(0, .ref (ad 10)), (1, .ref (ad 31))])  (hm : mX6_copyFrom_X10 S = some q) : W p l e rX6_copyFrom_X10 s m args below meth c H locs 0 0 (MQ below (sd_Qv D vwCl (wX ad cA) A q) args s 0 0 A) (F0 m 0 ls []) := by
  unfold mX6_copyFrom_X10 at hm
  have hx := C0.1
  have hb := C0.2.1
  refine lv_aload_n hx hb dX6_copyFrom_0 rfl (lv_at hl 0 rfl) ?_
  refine lv_aload_n hx hb dX6_copyFrom_1 rfl (lv_at hl 1 rfl) ?_
  refine sd_get C0 h (C := RX6) (T := TX6) (N := 11) kcX6 31 (aX_31 ad cA _) rfl 10 (by decide) kfX6_42 (v := .int (fI S 4)) rfl dX6_copyFrom_2 ?_
  refine sd_put C0 h (C := RX6) (T := TX6) (N := 11) (S1 := (sI S 2 (fI S 4))) kcX6 tyX6 tyX6_ok nmX6 10 (aX_10 ad cA _) rfl 10 (by decide) kfX6_42 rfl (ty := .int) (by decide +kernel) rfl rfl (Nat.le_of_ble_eq_true rfl) (eX_10_10 ad cA _ _) dX6_copyFrom_5 (fun H locs h => ?_)
  refine lv_aload_n hx hb dX6_copyFrom_8 rfl (lv_at hl 1 rfl) ?_
  refine sd_get C0 h (C := RX6) (T := TX6) (N := 11) kcX6 31 (aX_31 ad cA _) rfl 0 (by decide) kfX6_9 (v := .ref (ad 32)) rfl dX6_copyFrom_9 ?_
  refine lv_iconst (v := 0) hx hb dX6_copyFrom_12 (by decide) ?_
  refine lv_aload_n hx hb dX6_copyFrom_13 rfl (lv_at hl 0 rfl) ?_
  refine sd_get C0 h (C := RX6) (T := TX6) (N := 11) kcX6 10 (aX_10 ad cA _) rfl 0 (by decide) kfX6_9 (v := .ref (ad 11)) rfl dX6_copyFrom_14 ?_
  refine lv_iconst (v := 0) hx hb dX6_copyFrom_17 (by decide) ?_
  refine lv_sipush (v := 200) hx hb dX6_copyFrom_18 (by decide) ?_
  obtain ⟨g1, hg1, hm⟩ := bs hm
  refine sd_cp C0 h (S1 := (sA (sI S 2 (fI S 4)) 6 g1)) hl.1 kmX6_60 32 11 (aX_32 ad cA _) (aX_11 ad cA _) hg1 (eX_11 ad cA _ _) (by decide) (Nat.le_of_ble_eq_true rfl) dX6_copyFrom_21 (fun H locs h => ?_)
  refine lv_aload_n hx hb dX6_copyFrom_24 rfl (lv_at hl 1 rfl) ?_
  refine sd_get C0 h (C := RX6) (T := TX6) (N := 11) kcX6 31 (aX_31 ad cA _) rfl 1 (by decide) kfX6_15 (v := .ref (ad 33)) rfl dX6_copyFrom_25 ?_
  refine lv_iconst (v := 0) hx hb dX6_copyFrom_28 (by decide) ?_
  refine lv_aload_n hx hb dX6_copyFrom_29 rfl (lv_at hl 0 rfl) ?_
  refine sd_get C0 h (C := RX6) (T := TX6) (N := 11) kcX6 10 (aX_10 ad cA _) rfl 1 (by decide) kfX6_15 (v := .ref (ad 12)) rfl dX6_copyFrom_30 ?_
  refine lv_iconst (v := 0) hx hb dX6_copyFrom_33 (by decide) ?_
  refine lv_sipush (v := 200) hx hb dX6_copyFrom_34 (by decide) ?_
  obtain ⟨g2, hg2, hm⟩ := bs hm
  refine sd_cp C0 h (S1 := (sA (sA (sI S 2 (fI S 4)) 6 g1) 7 g2)) hl.1 kmX6_60 33 12 (aX_33 ad cA _) (aX_12 ad cA _) hg2 (eX_12 ad cA _ _) (by decide) (Nat.le_of_ble_eq_true rfl) dX6_copyFrom_37 (fun H locs h => ?_)
  refine lv_aload_n hx hb dX6_copyFrom_40 rfl (lv_at hl 1 rfl) ?_
  refine sd_get C0 h (C := RX6) (T := TX6) (N := 11) kcX6 31 (aX_31 ad cA _) rfl 2 (by decide) kfX6_18 (v := .ref (ad 34)) rfl dX6_copyFrom_41 ?_
  refine lv_iconst (v := 0) hx hb dX6_copyFrom_44 (by decide) ?_
  refine lv_aload_n hx hb dX6_copyFrom_45 rfl (lv_at hl 0 rfl) ?_
  refine sd_get C0 h (C := RX6) (T := TX6) (N := 11) kcX6 10 (aX_10 ad cA _) rfl 2 (by decide) kfX6_18 (v := .ref (ad 13)) rfl dX6_copyFrom_46 ?_
  refine lv_iconst (v := 0) hx hb dX6_copyFrom_49 (by decide) ?_
  refine lv_sipush (v := 200) hx hb dX6_copyFrom_50 (by decide) ?_
  obtain ⟨g3, hg3, hm⟩ := bs hm
  refine sd_cp C0 h (S1 := (sA (sA (sA (sI S 2 (fI S 4)) 6 g1) 7 g2) 8 g3)) hl.1 kmX6_60 34 13 (aX_34 ad cA _) (aX_13 ad cA _) hg3 (eX_13 ad cA _ _) (by decide) (Nat.le_of_ble_eq_true rfl) dX6_copyFrom_53 (fun H locs h => ?_)
  refine lv_aload_n hx hb dX6_copyFrom_56 rfl (lv_at hl 1 rfl) ?_
  refine sd_get C0 h (C := RX6) (T := TX6) (N := 11) kcX6 31 (aX_31 ad cA _) rfl 3 (by decide) kfX6_21 (v := .ref (ad 35)) rfl dX6_copyFrom_57 ?_
  refine lv_iconst (v := 0) hx hb dX6_copyFrom_60 (by decide) ?_
  refine lv_aload_n hx hb dX6_copyFrom_61 rfl (lv_at hl 0 rfl) ?_
  refine sd_get C0 h (C := RX6) (T := TX6) (N := 11) kcX6 10 (aX_10 ad cA _) rfl 3 (by decide) kfX6_21 (v := .ref (ad 14)) rfl dX6_copyFrom_62 ?_
  refine lv_iconst (v := 0) hx hb dX6_copyFrom_65 (by decide) ?_
  refine lv_sipush (v := 200) hx hb dX6_copyFrom_66 (by decide) ?_
  obtain ⟨g4, hg4, hm⟩ := bs hm
  refine sd_cp C0 h (S1 := (sA (sA (sA (sA (sI S 2 (fI S 4)) 6 g1) 7 g2) 8 g3) 9 g4)) hl.1 kmX6_60 35 14 (aX_35 ad cA _) (aX_14 ad cA _) hg4 (eX_14 ad cA _ _) (by decide) (Nat.le_of_ble_eq_true rfl) dX6_copyFrom_69 (fun H locs h => ?_)
  refine lv_aload_n hx hb dX6_copyFrom_72 rfl (lv_at hl 1 rfl) ?_
  refine sd_get C0 h (C := RX6) (T := TX6) (N := 11) kcX6 31 (aX_31 ad cA _) rfl 4 (by decide) kfX6_24 (v := .ref (ad 36)) rfl dX6_copyFrom_73 ?_
  refine lv_iconst (v := 0) hx hb dX6_copyFrom_76 (by decide) ?_
  refine lv_aload_n hx hb dX6_copyFrom_77 rfl (lv_at hl 0 rfl) ?_
  refine sd_get C0 h (C := RX6) (T := TX6) (N := 11) kcX6 10 (aX_10 ad cA _) rfl 4 (by decide) kfX6_24 (v := .ref (ad 15)) rfl dX6_copyFrom_78 ?_
  refine lv_iconst (v := 0) hx hb dX6_copyFrom_81 (by decide) ?_
  refine lv_sipush (v := 200) hx hb dX6_copyFrom_82 (by decide) ?_
  obtain ⟨g5, hg5, hm⟩ := bs hm
  refine sd_cp C0 h (S1 := (sA (sA (sA (sA (sA (sI S 2 (fI S 4)) 6 g1) 7 g2) 8 g3) 9 g4) 10 g5)) hl.1 kmX6_60 36 15 (aX_36 ad cA _) (aX_15 ad cA _) hg5 (eX_15 ad cA _ _) (by decide) (Nat.le_of_ble_eq_true rfl) dX6_copyFrom_85 (fun H locs h => ?_)
  refine lv_aload_n hx hb dX6_copyFrom_88 rfl (lv_at hl 1 rfl) ?_
  refine sd_get C0 h (C := RX6) (T := TX6) (N := 11) kcX6 31 (aX_31 ad cA _) rfl 5 (by decide) kfX6_27 (v := .ref (ad 37)) rfl dX6_copyFrom_89 ?_
  refine lv_iconst (v := 0) hx hb dX6_copyFrom_92 (by decide) ?_
  refine lv_aload_n hx hb dX6_copyFrom_93 rfl (lv_at hl 0 rfl) ?_
  refine sd_get C0 h (C := RX6) (T := TX6) (N := 11) kcX6 10 (aX_10 ad cA _) rfl 5 (by decide) kfX6_27 (v := .ref (ad 16)) rfl dX6_copyFrom_94 ?_
  refine lv_iconst (v := 0) hx hb dX6_copyFrom_97 (by decide) ?_
  refine lv_sipush (v := 200) hx hb dX6_copyFrom_98 (by decide) ?_
  obtain ⟨g6, hg6, hm⟩ := bs hm
  refine sd_cp C0 h (S1 := (sA (sA (sA (sA (sA (sA (sI S 2 (fI S 4)) 6 g1) 7 g2) 8 g3) 9 g4) 10 g5) 11 g6)) hl.1 kmX6_60 37 16 (aX_37 ad cA _) (aX_16 ad cA _) hg6 (eX_16 ad cA _ _) (by decide) (Nat.le_of_ble_eq_true rfl) dX6_copyFrom_101 (fun H locs h => ?_)
  refine lv_aload_n hx hb dX6_copyFrom_104 rfl (lv_at hl 1 rfl) ?_
  refine sd_get C0 h (C := RX6) (T := TX6) (N := 11) kcX6 31 (aX_31 ad cA _) rfl 6 (by decide) kfX6_30 (v := .ref (ad 38)) rfl dX6_copyFrom_105 ?_
  refine lv_iconst (v := 0) hx hb dX6_copyFrom_108 (by decide) ?_
  refine lv_aload_n hx hb dX6_copyFrom_109 rfl (lv_at hl 0 rfl) ?_
  refine sd_get C0 h (C := RX6) (T := TX6) (N := 11) kcX6 10 (aX_10 ad cA _) rfl 6 (by decide) kfX6_30 (v := .ref (ad 17)) rfl dX6_copyFrom_110 ?_
  refine lv_iconst (v := 0) hx hb dX6_copyFrom_113 (by decide) ?_
  refine lv_sipush (v := 200) hx hb dX6_copyFrom_114 (by decide) ?_
  obtain ⟨g7, hg7, hm⟩ := bs hm
  refine sd_cp C0 h (S1 := (sA (sA (sA (sA (sA (sA (sA (sI S 2 (fI S 4)) 6 g1) 7 g2) 8 g3) 9 g4) 10 g5) 11 g6) 12 g7)) hl.1 kmX6_60 38 17 (aX_38 ad cA _) (aX_17 ad cA _) hg7 (eX_17 ad cA _ _) (by decide) (Nat.le_of_ble_eq_true rfl) dX6_copyFrom_117 (fun H locs h => ?_)
  refine lv_aload_n hx hb dX6_copyFrom_120 rfl (lv_at hl 1 rfl) ?_
  refine sd_get C0 h (C := RX6) (T := TX6) (N := 11) kcX6 31 (aX_31 ad cA _) rfl 7 (by decide) kfX6_33 (v := .ref (ad 39)) rfl dX6_copyFrom_121 ?_
  refine lv_iconst (v := 0) hx hb dX6_copyFrom_124 (by decide) ?_
  refine lv_aload_n hx hb dX6_copyFrom_125 rfl (lv_at hl 0 rfl) ?_
  refine sd_get C0 h (C := RX6) (T := TX6) (N := 11) kcX6 10 (aX_10 ad cA _) rfl 7 (by decide) kfX6_33 (v := .ref (ad 18)) rfl dX6_copyFrom_126 ?_
  refine lv_iconst (v := 0) hx hb dX6_copyFrom_129 (by decide) ?_
  refine lv_sipush (v := 200) hx hb dX6_copyFrom_130 (by decide) ?_
  obtain ⟨g8, hg8, hm⟩ := bs hm
  refine sd_cp C0 h (S1 := (sA (sA (sA (sA (sA (sA (sA (sA (sI S 2 (fI S 4)) 6 g1) 7 g2) 8 g3) 9 g4) 10 g5) 11 g6) 12 g7) 13 g8)) hl.1 kmX6_60 39 18 (aX_39 ad cA _) (aX_18 ad cA _) hg8 (eX_18 ad cA _ _) (by decide) (Nat.le_of_ble_eq_true rfl) dX6_copyFrom_133 (fun H locs h => ?_)
  refine lv_aload_n hx hb dX6_copyFrom_136 rfl (lv_at hl 1 rfl) ?_
  refine sd_get C0 h (C := RX6) (T := TX6) (N := 11) kcX6 31 (aX_31 ad cA _) rfl 8 (by decide) kfX6_36 (v := .ref (ad 40)) rfl dX6_copyFrom_137 ?_
  refine lv_iconst (v := 0) hx hb dX6_copyFrom_140 (by decide) ?_
  refine lv_aload_n hx hb dX6_copyFrom_141 rfl (lv_at hl 0 rfl) ?_
  refine sd_get C0 h (C := RX6) (T := TX6) (N := 11) kcX6 10 (aX_10 ad cA _) rfl 8 (by decide) kfX6_36 (v := .ref (ad 19)) rfl dX6_copyFrom_142 ?_
  refine lv_iconst (v := 0) hx hb dX6_copyFrom_145 (by decide) ?_
  refine lv_sipush (v := 200) hx hb dX6_copyFrom_146 (by decide) ?_
  obtain ⟨g9, hg9, hm⟩ := bs hm
  refine sd_cp C0 h (S1 := (sA (sA (sA (sA (sA (sA (sA (sA (sA (sI S 2 (fI S 4)) 6 g1) 7 g2) 8 g3) 9 g4) 10 g5) 11 g6) 12 g7) 13 g8) 14 g9)) hl.1 kmX6_60 40 19 (aX_40 ad cA _) (aX_19 ad cA _) hg9 (eX_19 ad cA _ _) (by decide) (Nat.le_of_ble_eq_true rfl) dX6_copyFrom_149 (fun H locs h => ?_)
  refine lv_aload_n hx hb dX6_copyFrom_152 rfl (lv_at hl 1 rfl) ?_
  refine sd_get C0 h (C := RX6) (T := TX6) (N := 11) kcX6 31 (aX_31 ad cA _) rfl 9 (by decide) kfX6_39 (v := .ref (ad 41)) rfl dX6_copyFrom_153 ?_
  refine lv_iconst (v := 0) hx hb dX6_copyFrom_156 (by decide) ?_
  refine lv_aload_n hx hb dX6_copyFrom_157 rfl (lv_at hl 0 rfl) ?_
  refine sd_get C0 h (C := RX6) (T := TX6) (N := 11) kcX6 10 (aX_10 ad cA _) rfl 9 (by decide) kfX6_39 (v := .ref (ad 20)) rfl dX6_copyFrom_158 ?_
  refine lv_iconst (v := 0) hx hb dX6_copyFrom_161 (by decide) ?_
  refine lv_sipush (v := 200) hx hb dX6_copyFrom_162 (by decide) ?_
  obtain ⟨g10, hg10, hm⟩ := bs hm
  refine sd_cp C0 h (S1 := (sA (sA (sA (sA (sA (sA (sA (sA (sA (sA (sI S 2 (fI S 4)) 6 g1) 7 g2) 8 g3) 9 g4) 10 g5) 11 g6) 12 g7) 13 g8) 14 g9) 15 g10)) hl.1 kmX6_60 41 20 (aX_41 ad cA _) (aX_20 ad cA _) hg10 (eX_20 ad cA _ _) (by decide) (Nat.le_of_ble_eq_true rfl) dX6_copyFrom_165 (fun H locs h => ?_)
  exact sd_vret C0 h (Option.some.inj hm) dX6_copyFrom_168
theorem tX6_copyFrom_X10 (l : Launch) (D : va_G) (cA : ClassId) (ad : Nat → Nat) {S : St}  {q : St} (hm : mX6_copyFrom_X10 S = some q) : sd_MV l D vwCl cA sd_nw (wX ad cA) yX6_copyFrom (Cond.code yX6_copyFrom cX6_copyFrom 2 none :: sd_big) rX6_copyFrom_X10 [.ref (ad 10), .ref (ad 31)] S q :=
  sd_ofV (by decide +kernel) (Nat.le_of_ble_eq_true rfl) (fun _ _ _ _ _ _ _ _ _ _ C0 h hl => bX6_copyFrom_X10 C0 h (lv_sub hl [0, 1] rfl) hm)

def rX7_copyFrom_X1 : Room := { frames := 2, cells := 0, slots := 0, locals := 61 }
def mX7_copyFrom_X1 (S : St) : Option St :=
  (mX4_copyFrom_X2 S).bind fun u1 =>
  (mX8_copyFrom_X6 u1).bind fun u2 =>
  (mX6_copyFrom_X10 u2).bind fun u3 =>
  some u3
set_option maxHeartbeats 4000000 in
set_option maxRecDepth 100000 in
theorem bX7_copyFrom_X1 {p : Program} {l : Launch} {e : Env} {s : State} {m : MethodId} {args : Array Value} {below : List Frame} {meth : Method} {c : Code} {D : va_G} {cA : ClassId} {ad : Nat → Nat} {A : Nat → Prop} {H : Heap} {locs : List Loc} {ls : Array Slot} {q : St} {S : St} (C0 : sd_Cx RX7 cX7_copyFrom 2 none (Cond.code yX7_copyFrom cX7_copyFrom 2 none :: sd_big) p s m args meth c) (h : sd_Wd D vwCl cA sd_nw (wX ad cA) A s S H locs) (hl : lv_has ls 2 [(0, .ref (ad 1)), (1, .ref (ad 22))])  (hm : mX7_copyFrom_X1 S = some q) : W p l e rX7_copyFrom_X1 s m args below meth c H locs 0 0 (MQ below (sd_Qv D vwCl (wX ad cA) A q) args s 0 0 A) (F0 m 0 ls []) := by
  unfold mX7_copyFrom_X1 at hm
  have hx := C0.1
  have hb := C0.2.1
  refine lv_aload_n hx hb dX7_copyFrom_0 rfl (lv_at hl 0 rfl) ?_
  refine sd_get C0 h (C := RX7) (T := TX7) (N := 4) kcX7 1 (aX_1 ad cA _) rfl 0 (by decide) kfX7_12 (v := .ref (ad 2)) rfl dX7_copyFrom_1 ?_
  refine lv_aload_n hx hb dX7_copyFrom_4 rfl (lv_at hl 1 rfl) ?_
  refine sd_get C0 h (C := RX7) (T := TX7) (N := 4) kcX7 22 (aX_22 ad cA _) rfl 0 (by decide) kfX7_12 (v := .ref (ad 23)) rfl dX7_copyFrom_5 ?_
  obtain ⟨u1, hu1, hm⟩ := bs hm
  refine sd_Vv C0 h kYX4_copyFrom kmX7_88 2 (aX_2 ad cA _) rfl [.ref (ad 23)] (tX4_copyFrom_X2 l D cA ad hu1) rfl hl.1 rfl (Nat.le_of_ble_eq_true rfl) (by decide) dX7_copyFrom_8 (by decide) (fun H locs h => ?_)
  refine lv_aload_n hx hb dX7_copyFrom_11 rfl (lv_at hl 0 rfl) ?_
  refine sd_get C0 h (C := RX7) (T := TX7) (N := 4) kcX7 1 (aX_1 ad cA _) rfl 1 (by decide) kfX7_21 (v := .ref (ad 6)) rfl dX7_copyFrom_12 ?_
  refine lv_aload_n hx hb dX7_copyFrom_15 rfl (lv_at hl 1 rfl) ?_
  refine sd_get C0 h (C := RX7) (T := TX7) (N := 4) kcX7 22 (aX_22 ad cA _) rfl 1 (by decide) kfX7_21 (v := .ref (ad 27)) rfl dX7_copyFrom_16 ?_
  obtain ⟨u2, hu2, hm⟩ := bs hm
  refine sd_Vv C0 h kYX8_copyFrom kmX7_92 6 (aX_6 ad cA _) rfl [.ref (ad 27)] (tX8_copyFrom_X6 l D cA ad hu2) rfl hl.1 rfl (Nat.le_of_ble_eq_true rfl) (by decide) dX7_copyFrom_19 (by decide) (fun H locs h => ?_)
  refine lv_aload_n hx hb dX7_copyFrom_22 rfl (lv_at hl 0 rfl) ?_
  refine sd_get C0 h (C := RX7) (T := TX7) (N := 4) kcX7 1 (aX_1 ad cA _) rfl 2 (by decide) kfX7_28 (v := .ref (ad 10)) rfl dX7_copyFrom_23 ?_
  refine lv_aload_n hx hb dX7_copyFrom_26 rfl (lv_at hl 1 rfl) ?_
  refine sd_get C0 h (C := RX7) (T := TX7) (N := 4) kcX7 22 (aX_22 ad cA _) rfl 2 (by decide) kfX7_28 (v := .ref (ad 31)) rfl dX7_copyFrom_27 ?_
  obtain ⟨u3, hu3, hm⟩ := bs hm
  refine sd_Vv C0 h kYX6_copyFrom kmX7_95 10 (aX_10 ad cA _) rfl [.ref (ad 31)] (tX6_copyFrom_X10 l D cA ad hu3) rfl hl.1 rfl (Nat.le_of_ble_eq_true rfl) (by decide) dX7_copyFrom_30 (by decide) (fun H locs h => ?_)
  exact sd_vret C0 h (Option.some.inj hm) dX7_copyFrom_33
theorem tX7_copyFrom_X1 (l : Launch) (D : va_G) (cA : ClassId) (ad : Nat → Nat) {S : St}  {q : St} (hm : mX7_copyFrom_X1 S = some q) : sd_MV l D vwCl cA sd_nw (wX ad cA) yX7_copyFrom (Cond.code yX7_copyFrom cX7_copyFrom 2 none :: sd_big) rX7_copyFrom_X1 [.ref (ad 1), .ref (ad 22)] S q :=
  sd_ofV (by decide +kernel) (Nat.le_of_ble_eq_true rfl) (fun _ _ _ _ _ _ _ _ _ _ C0 h hl => bX7_copyFrom_X1 C0 h (lv_sub hl [0, 1] rfl) hm)

def rX0_forgetAll : Room := { frames := 0, cells := 0, slots := 0, locals := 0 }
def mX0_forgetAll (S : St) : Option St :=
  some (sI S 6 0)
set_option maxHeartbeats 4000000 in
set_option maxRecDepth 100000 in
theorem bX0_forgetAll {p : Program} {l : Launch} {e : Env} {s : State} {m : MethodId} {args : Array Value} {below : List Frame} {meth : Method} {c : Code} {D : va_G} {cA : ClassId} {ad : Nat → Nat} {A : Nat → Prop} {H : Heap} {locs : List Loc} {ls : Array Slot} {q : St} {S : St} (C0 : sd_Cx RX0 cX0_forgetAll 1 none (Cond.code yX0_forgetAll cX0_forgetAll 1 none :: sd_big) p s m args meth c) (h : sd_Wd D vwCl cA sd_nw (wX ad cA) A s S H locs) (hl : lv_has ls 1 [(0, .ref (ad 43))])  (hm : mX0_forgetAll S = some q) : W p l e rX0_forgetAll s m args below meth c H locs 0 0 (MQ below (sd_Qv D vwCl (wX ad cA) A q) args s 0 0 A) (F0 m 0 ls []) := by
  unfold mX0_forgetAll at hm
  have hx := C0.1
  have hb := C0.2.1
  refine lv_aload_n hx hb dX0_forgetAll_0 rfl (lv_at hl 0 rfl) ?_
  refine lv_iconst (v := 0) hx hb dX0_forgetAll_1 (by decide) ?_
  refine sd_put C0 h (C := RX0) (T := TX0) (N := 8) (S1 := (sI S 6 0)) kcX0 tyX0 tyX0_ok nmX0 43 (aX_43 ad cA _) rfl 4 (by decide) kfX0_25 rfl (ty := .int) (by decide +kernel) rfl rfl (Nat.le_of_ble_eq_true rfl) (eX_43_4 ad cA _ _) dX0_forgetAll_2 (fun H locs h => ?_)
  exact sd_vret C0 h (Option.some.inj hm) dX0_forgetAll_5
theorem tX0_forgetAll (l : Launch) (D : va_G) (cA : ClassId) (ad : Nat → Nat) {S : St}  {q : St} (hm : mX0_forgetAll S = some q) : sd_MV l D vwCl cA sd_nw (wX ad cA) yX0_forgetAll (Cond.code yX0_forgetAll cX0_forgetAll 1 none :: sd_big) rX0_forgetAll [.ref (ad 43)] S q :=
  sd_ofV (by decide +kernel) (Nat.le_of_ble_eq_true rfl) (fun _ _ _ _ _ _ _ _ _ _ C0 h hl => bX0_forgetAll C0 h (lv_sub hl [0] rfl) hm)

def rX9_load : Room := { frames := 3, cells := 0, slots := 0, locals := 82 }
def mX9_load (S : St) : Option (Int32 × St) :=
  if (fI S 0) = 0 then
    some (0, S)
  else
    (mX7_copyFrom_X1 S).bind fun u2 =>
    (mX0_forgetAll u2).bind fun u3 =>
    some (1, u3)
set_option maxHeartbeats 4000000 in
set_option maxRecDepth 100000 in
theorem bX9_load {p : Program} {l : Launch} {e : Env} {s : State} {m : MethodId} {args : Array Value} {below : List Frame} {meth : Method} {c : Code} {D : va_G} {cA : ClassId} {ad : Nat → Nat} {A : Nat → Prop} {H : Heap} {locs : List Loc} {ls : Array Slot} {q : (Int32 × St)} {S : St} (C0 : sd_Cx RX9 cX9_load 1 (some .boolean) (Cond.code yX9_load cX9_load 1 (some .boolean) :: sd_big) p s m args meth c) (h : sd_Wd D vwCl cA sd_nw (wX ad cA) A s S H locs) (hl : lv_has ls 1 [(0, .ref (ad 0))])  (hm : mX9_load S = some q) : W p l e rX9_load s m args below meth c H locs 0 0 (MQ below (sd_Qi D vwCl (wX ad cA) A q) args s 0 0 A) (F0 m 0 ls []) := by
  unfold mX9_load at hm
  have hx := C0.1
  have hb := C0.2.1
  refine lv_aload_n hx hb dX9_load_0 rfl (lv_at hl 0 rfl) ?_
  refine sd_get C0 h (C := RX9) (T := TX9) (N := 8) kcX9 0 (aX_0 ad cA _) rfl 7 (by decide) kfX9_58 (v := .int (fI S 0)) rfl dX9_load_1 ?_
  refine lv_if_ne (tgt := 9) hx hb dX9_load_4 (by decide) (fun c1 => ?_) (fun c1 => ?_)
  · replace hm := iq c1 hm
    refine lv_aload_n hx hb dX9_load_9 rfl (lv_at hl 0 rfl) ?_
    refine sd_get C0 h (C := RX9) (T := TX9) (N := 8) kcX9 0 (aX_0 ad cA _) rfl 0 (by decide) kfX9_10 (v := .ref (ad 1)) rfl dX9_load_10 ?_
    refine lv_aload_n hx hb dX9_load_13 rfl (lv_at hl 0 rfl) ?_
    refine sd_get C0 h (C := RX9) (T := TX9) (N := 8) kcX9 0 (aX_0 ad cA _) rfl 1 (by decide) kfX9_16 (v := .ref (ad 22)) rfl dX9_load_14 ?_
    obtain ⟨u2, hu2, hm⟩ := bs hm
    refine sd_Vv C0 h kYX7_copyFrom kmX9_297 1 (aX_1 ad cA _) rfl [.ref (ad 22)] (tX7_copyFrom_X1 l D cA ad hu2) rfl hl.1 rfl (Nat.le_of_ble_eq_true rfl) (by decide) dX9_load_17 (by decide) (fun H locs h => ?_)
    refine lv_aload_n hx hb dX9_load_20 rfl (lv_at hl 0 rfl) ?_
    refine sd_get C0 h (C := RX9) (T := TX9) (N := 8) kcX9 0 (aX_0 ad cA _) rfl 2 (by decide) kfX9_22 (v := .ref (ad 43)) rfl dX9_load_21 ?_
    obtain ⟨u3, hu3, hm⟩ := bs hm
    refine sd_Vv C0 h kYX0_forgetAll kmX9_300 43 (aX_43 ad cA _) rfl [] (tX0_forgetAll l D cA ad hu3) rfl hl.1 rfl (Nat.le_of_ble_eq_true rfl) (by decide) dX9_load_24 (by decide) (fun H locs h => ?_)
    refine lv_iconst (v := 1) hx hb dX9_load_27 (by decide) ?_
    exact sd_zret C0 h (Option.some.inj hm) rfl dX9_load_28
  · replace hm := ip c1 hm
    refine lv_iconst (v := 0) hx hb dX9_load_7 (by decide) ?_
    exact sd_zret C0 h (Option.some.inj hm) rfl dX9_load_8
theorem tX9_load (l : Launch) (D : va_G) (cA : ClassId) (ad : Nat → Nat) {S : St}  {q : (Int32 × St)} (hm : mX9_load S = some q) : sd_MI l D vwCl cA sd_nw (wX ad cA) yX9_load (Cond.code yX9_load cX9_load 1 (some .boolean) :: sd_big) rX9_load [.ref (ad 0)] S q :=
  sd_ofI (by decide +kernel) (Nat.le_of_ble_eq_true rfl) (fun _ _ _ _ _ _ _ _ _ _ C0 h hl => bX9_load C0 h (lv_sub hl [0] rfl) hm)

def rX10_in : Room := { frames := 0, cells := 0, slots := 0, locals := 0 }
def mX10_in (S : St) (v0 : Int32) (v1 : Int32) (v2 : Int32) : Option Int32 :=
  if v0 < v1 then
    some 0
  else
    if v2 < v0 then
      some 0
    else
      some 1
set_option maxHeartbeats 4000000 in
set_option maxRecDepth 100000 in
theorem bX10_in {p : Program} {l : Launch} {e : Env} {s : State} {m : MethodId} {args : Array Value} {below : List Frame} {meth : Method} {c : Code} {D : va_G} {cA : ClassId} {ad : Nat → Nat} {A : Nat → Prop} {H : Heap} {locs : List Loc} {ls : Array Slot} {q : Int32} {S : St} {v0 : Int32} {v1 : Int32} {v2 : Int32} (C0 : sd_Cx RX10 cX10_in 3 (some .boolean) (Cond.code yX10_in cX10_in 3 (some .boolean) :: sd_big) p s m args meth c) (h : sd_Wd D vwCl cA sd_nw (wY ad cA) A s S H locs) (hl : lv_has ls 3 [(0, .int v0), (1, .int v1), (2, .int v2)])  (hm : mX10_in S v0 v1 v2 = some q) : W p l e rX10_in s m args below meth c H locs 0 0 (MQ below (sd_Qi D vwCl (wY ad cA) A (q, S)) args s 0 0 A) (F0 m 0 ls []) := by
  unfold mX10_in at hm
  have hx := C0.1
  have hb := C0.2.1
  refine lv_iload_n hx hb dX10_in_0 rfl (lv_at hl 0 rfl) ?_
  refine lv_iload_n hx hb dX10_in_1 rfl (lv_at hl 1 rfl) ?_
  refine lv_icmp_lt (tgt := 14) hx hb dX10_in_2 (by decide) (fun c1 => ?_) (fun c1 => ?_)
  · replace hm := ip c1 hm
    refine lv_iconst (v := 0) hx hb dX10_in_14 (by decide) ?_
    exact sd_zret C0 h (congrArg (fun x => (x, S)) (Option.some.inj hm)) rfl dX10_in_15
  · replace hm := iq c1 hm
    refine lv_iload_n hx hb dX10_in_5 rfl (lv_at hl 0 rfl) ?_
    refine lv_iload_n hx hb dX10_in_6 rfl (lv_at hl 2 rfl) ?_
    refine lv_icmp_gt (tgt := 14) hx hb dX10_in_7 (by decide) (fun c2 => ?_) (fun c2 => ?_)
    · replace hm := ip c2 hm
      refine lv_iconst (v := 0) hx hb dX10_in_14 (by decide) ?_
      exact sd_zret C0 h (congrArg (fun x => (x, S)) (Option.some.inj hm)) rfl dX10_in_15
    · replace hm := iq c2 hm
      refine lv_iconst (v := 1) hx hb dX10_in_10 (by decide) ?_
      refine lv_goto (tgt := 15) hx hb dX10_in_11 (by decide) ?_
      exact sd_zret C0 h (congrArg (fun x => (x, S)) (Option.some.inj hm)) rfl dX10_in_15
theorem tX10_in (l : Launch) (D : va_G) (cA : ClassId) (ad : Nat → Nat) {S : St} {v0 : Int32} {v1 : Int32} {v2 : Int32} {q : Int32} (hm : mX10_in S v0 v1 v2 = some q) : sd_MI l D vwCl cA sd_nw (wY ad cA) yX10_in (Cond.code yX10_in cX10_in 3 (some .boolean) :: sd_big) rX10_in [.int v0, .int v1, .int v2] S (q, S) :=
  sd_ofI (by decide +kernel) (Nat.le_of_ble_eq_true rfl) (fun _ _ _ _ _ _ _ _ _ _ C0 h hl => bX10_in C0 h (lv_sub hl [0, 1, 2] rfl) hm)

def rX10_acts : Room := { frames := 0, cells := 0, slots := 0, locals := 0 }
def mX10_acts_70 (z : Nat) (t1 : Int32) (S : St) : Option St :=
  some (sI S 0 t1)
set_option maxHeartbeats 4000000 in
set_option maxRecDepth 100000 in
theorem bX10_acts_70 {p : Program} {l : Launch} {e : Env} {s : State} {m : MethodId} {args : Array Value} {below : List Frame} {meth : Method} {c : Code} {D : va_G} {cA : ClassId} {ad : Nat → Nat} {A : Nat → Prop} {H : Heap} {locs : List Loc} {ls : Array Slot} {q : St} {z : Nat} {t1 : Int32} {S : St} (C0 : sd_Cx RX10 cX10_acts 2 none (Cond.code yX10_acts cX10_acts 2 none :: sd_big) p s m args meth c) (h : sd_Wd D vwCl cA sd_nw (wY ad cA) A s S H locs) (hl : lv_has ls 2 [])  (hm : mX10_acts_70 z t1 S = some q) : W p l e rX10_acts s m args below meth c H locs 0 0 (MQ below (sd_Qv D vwCl (wY ad cA) A q) args s 0 0 A) (F0 m 70 ls [.int t1, .ref (ad 0)]) := by
  unfold mX10_acts_70 at hm
  have hx := C0.1
  have hb := C0.2.1
  refine sd_put C0 h (C := RX10) (T := TX10) (N := 17) (S1 := (sI S 0 t1)) kcX10 tyX10 tyX10_ok nmX10 0 (aY_0 ad cA _) rfl 3 (by decide) kfX10_39 rfl (ty := .int) (by decide +kernel) rfl rfl (Nat.le_of_ble_eq_true rfl) (eY_0_3 ad cA _ _) dX10_acts_70 (fun H locs h => ?_)
  exact sd_vret C0 h (Option.some.inj hm) dX10_acts_73
def mX10_acts_36 (z : Nat) (S : St) : Option St :=
  if 20 ≤ (fI (sI S 1 (((fI S 1) + 1) - ((fI S 1) + 1) / 20 * 20)) 0) then
    mX10_acts_70 z 20 (sI S 1 (((fI S 1) + 1) - ((fI S 1) + 1) / 20 * 20))
  else
    mX10_acts_70 z ((fI (sI S 1 (((fI S 1) + 1) - ((fI S 1) + 1) / 20 * 20)) 0) + 1) (sI S 1 (((fI S 1) + 1) - ((fI S 1) + 1) / 20 * 20))
set_option maxHeartbeats 4000000 in
set_option maxRecDepth 100000 in
theorem bX10_acts_36 {p : Program} {l : Launch} {e : Env} {s : State} {m : MethodId} {args : Array Value} {below : List Frame} {meth : Method} {c : Code} {D : va_G} {cA : ClassId} {ad : Nat → Nat} {A : Nat → Prop} {H : Heap} {locs : List Loc} {ls : Array Slot} {q : St} {z : Nat} {S : St} (C0 : sd_Cx RX10 cX10_acts 2 none (Cond.code yX10_acts cX10_acts 2 none :: sd_big) p s m args meth c) (h : sd_Wd D vwCl cA sd_nw (wY ad cA) A s S H locs) (hl : lv_has ls 2 [(0, .ref (ad 0))])  (hm : mX10_acts_36 z S = some q) : W p l e rX10_acts s m args below meth c H locs 0 0 (MQ below (sd_Qv D vwCl (wY ad cA) A q) args s 0 0 A) (F0 m 36 ls []) := by
  unfold mX10_acts_36 at hm
  have hx := C0.1
  have hb := C0.2.1
  refine lv_aload_n hx hb dX10_acts_36 rfl (lv_at hl 0 rfl) ?_
  refine lv_aload_n hx hb dX10_acts_37 rfl (lv_at hl 0 rfl) ?_
  refine sd_get C0 h (C := RX10) (T := TX10) (N := 17) kcX10 0 (aY_0 ad cA _) rfl 4 (by decide) kfX10_35 (v := .int (fI S 1)) rfl dX10_acts_38 ?_
  refine lv_iconst (v := 1) hx hb dX10_acts_41 (by decide) ?_
  refine lv_iadd hx hb dX10_acts_42 ?_
  refine lv_bipush (v := 20) hx hb dX10_acts_43 (by decide) ?_
  refine lv_irem hx hb dX10_acts_45 (by decide) ?_
  refine sd_put C0 h (C := RX10) (T := TX10) (N := 17) (S1 := (sI S 1 (((fI S 1) + 1) - ((fI S 1) + 1) / 20 * 20))) kcX10 tyX10 tyX10_ok nmX10 0 (aY_0 ad cA _) rfl 4 (by decide) kfX10_35 rfl (ty := .int) (by decide +kernel) rfl rfl (Nat.le_of_ble_eq_true rfl) (eY_0_4 ad cA _ _) dX10_acts_46 (fun H locs h => ?_)
  refine lv_aload_n hx hb dX10_acts_49 rfl (lv_at hl 0 rfl) ?_
  refine lv_aload_n hx hb dX10_acts_50 rfl (lv_at hl 0 rfl) ?_
  refine sd_get C0 h (C := RX10) (T := TX10) (N := 17) kcX10 0 (aY_0 ad cA _) rfl 3 (by decide) kfX10_39 (v := .int (fI (sI S 1 (((fI S 1) + 1) - ((fI S 1) + 1) / 20 * 20)) 0)) rfl dX10_acts_51 ?_
  refine lv_bipush (v := 20) hx hb dX10_acts_54 (by decide) ?_
  refine lv_icmp_ge (tgt := 68) hx hb dX10_acts_56 (by decide) (fun c1 => ?_) (fun c1 => ?_)
  · replace hm := ip c1 hm
    refine lv_bipush (v := 20) hx hb dX10_acts_68 (by decide) ?_
    exact bX10_acts_70 C0 h (lv_sub hl [] rfl) hm
  · replace hm := iq c1 hm
    refine lv_aload_n hx hb dX10_acts_59 rfl (lv_at hl 0 rfl) ?_
    refine sd_get C0 h (C := RX10) (T := TX10) (N := 17) kcX10 0 (aY_0 ad cA _) rfl 3 (by decide) kfX10_39 (v := .int (fI (sI S 1 (((fI S 1) + 1) - ((fI S 1) + 1) / 20 * 20)) 0)) rfl dX10_acts_60 ?_
    refine lv_iconst (v := 1) hx hb dX10_acts_63 (by decide) ?_
    refine lv_iadd hx hb dX10_acts_64 ?_
    refine lv_goto (tgt := 70) hx hb dX10_acts_65 (by decide) ?_
    exact bX10_acts_70 C0 h (lv_sub hl [] rfl) hm
def mX10_acts_2b (z : Nat) (rc2 : Int32 → St → Option St) (v1 : Int32) (S : St) : Option St :=
  if 4564 ≤ v1 then
    mX10_acts_36 z S
  else
    (rd (fA S 0) 4564 v1).bind fun x2 =>
    (wr (fA S 1) 91280 ((4564 * (fI S 1)) + v1) x2).bind fun g3 =>
    rc2 (v1 + 1) (sA S 1 g3)
set_option maxHeartbeats 4000000 in
set_option maxRecDepth 100000 in
theorem bX10_acts_2b {p : Program} {l : Launch} {e : Env} {s : State} {m : MethodId} {args : Array Value} {below : List Frame} {meth : Method} {c : Code} {D : va_G} {cA : ClassId} {ad : Nat → Nat} {A : Nat → Prop} {H : Heap} {locs : List Loc} {ls : Array Slot} {q : St} {z : Nat} {rc2 : Int32 → St → Option St} {v1 : Int32} {S : St} (C0 : sd_Cx RX10 cX10_acts 2 none (Cond.code yX10_acts cX10_acts 2 none :: sd_big) p s m args meth c) (h : sd_Wd D vwCl cA sd_nw (wY ad cA) A s S H locs) (hl : lv_has ls 2 [(0, .ref (ad 0)), (1, .int v1)]) (hrc2 : ∀ (v1 : Int32) (S : St) (H : Heap) (locs : List Loc) (ls : Array Slot), sd_Wd D vwCl cA sd_nw (wY ad cA) A s S H locs → lv_has ls 2 [(0, .ref (ad 0)), (1, .int v1)] → rc2 v1 S = some q → W p l e rX10_acts s m args below meth c H locs 0 0 (MQ below (sd_Qv D vwCl (wY ad cA) A q) args s 0 0 A) (F0 m 2 ls [])) (hm : mX10_acts_2b z rc2 v1 S = some q) : W p l e rX10_acts s m args below meth c H locs 0 0 (MQ below (sd_Qv D vwCl (wY ad cA) A q) args s 0 0 A) (F0 m 2 ls []) := by
  unfold mX10_acts_2b at hm
  have hx := C0.1
  have hb := C0.2.1
  refine lv_iload_n hx hb dX10_acts_2 rfl (lv_at hl 1 rfl) ?_
  refine lv_sipush (v := 4564) hx hb dX10_acts_3 (by decide) ?_
  refine lv_icmp_ge (tgt := 36) hx hb dX10_acts_6 (by decide) (fun c1 => ?_) (fun c1 => ?_)
  · replace hm := ip c1 hm
    exact bX10_acts_36 C0 h (lv_sub hl [0] rfl) hm
  · replace hm := iq c1 hm
    refine lv_aload_n hx hb dX10_acts_9 rfl (lv_at hl 0 rfl) ?_
    refine sd_get C0 h (C := RX10) (T := TX10) (N := 17) kcX10 0 (aY_0 ad cA _) rfl 1 (by decide) kfX10_14 (v := .ref (ad 2)) rfl dX10_acts_10 ?_
    refine lv_sipush (v := 4564) hx hb dX10_acts_13 (by decide) ?_
    refine lv_aload_n hx hb dX10_acts_16 rfl (lv_at hl 0 rfl) ?_
    refine sd_get C0 h (C := RX10) (T := TX10) (N := 17) kcX10 0 (aY_0 ad cA _) rfl 4 (by decide) kfX10_35 (v := .int (fI S 1)) rfl dX10_acts_17 ?_
    refine lv_imul hx hb dX10_acts_20 ?_
    refine lv_iload_n hx hb dX10_acts_21 rfl (lv_at hl 1 rfl) ?_
    refine lv_iadd hx hb dX10_acts_22 ?_
    refine lv_aload_n hx hb dX10_acts_23 rfl (lv_at hl 0 rfl) ?_
    refine sd_get C0 h (C := RX10) (T := TX10) (N := 17) kcX10 0 (aY_0 ad cA _) rfl 0 (by decide) kfX10_7 (v := .ref (ad 1)) rfl dX10_acts_24 ?_
    refine lv_iload_n hx hb dX10_acts_27 rfl (lv_at hl 1 rfl) ?_
    obtain ⟨x2, hx2, hm⟩ := bs hm
    refine sd_rd C0 h 1 (aY_1 ad cA _) hx2 dX10_acts_28 ?_
    obtain ⟨g3, hg3, hm⟩ := bs hm
    refine sd_wr C0 h (S1 := (sA S 1 g3)) 2 (aY_2 ad cA _) hg3 (eY_2 ad cA _ _) dX10_acts_29 (fun H locs h => ?_)
    refine lv_iinc (v := (v1 + 1)) (lv' := [(1, .int (v1 + 1)), (0, .ref (ad 0))]) hx hb dX10_acts_30 hl (k := 1) rfl rfl (by decide) rfl (fun ls hl => ?_)
    refine lv_goto (tgt := 2) hx hb dX10_acts_33 (by decide) ?_
    exact hrc2 _ _ _ _ _ h (lv_sub hl [1, 0] rfl) hm
def mX10_acts_2 (z : Nat) : Nat → Int32 → St → Option St
  | 0, _, _ => none
  | n + 1, v1, S => mX10_acts_2b z (mX10_acts_2 z n) v1 S
set_option maxHeartbeats 4000000 in
set_option maxRecDepth 100000 in
theorem lX10_acts_2 {p : Program} {l : Launch} {e : Env} {s : State} {m : MethodId} {args : Array Value} {below : List Frame} {meth : Method} {c : Code} {D : va_G} {cA : ClassId} {ad : Nat → Nat} {A : Nat → Prop} {q : St} {z : Nat} (C0 : sd_Cx RX10 cX10_acts 2 none (Cond.code yX10_acts cX10_acts 2 none :: sd_big) p s m args meth c)  : ∀ (n : Nat) (v1 : Int32) (S : St) (H : Heap) (locs : List Loc) (ls : Array Slot), sd_Wd D vwCl cA sd_nw (wY ad cA) A s S H locs → lv_has ls 2 [(0, .ref (ad 0)), (1, .int v1)] → mX10_acts_2 z n v1 S = some q → W p l e rX10_acts s m args below meth c H locs 0 0 (MQ below (sd_Qv D vwCl (wY ad cA) A q) args s 0 0 A) (F0 m 2 ls []) := by
  intro n
  induction n with
  | zero =>
    intro v1 S H locs ls h hl hm
    exact nomatch (show none = some q from hm)
  | succ n ih =>
    intro v1 S H locs ls h hl hm
    exact bX10_acts_2b C0 h hl ih hm
def mX10_acts (z : Nat) (S : St) : Option St :=
  mX10_acts_2 z z 0 S
set_option maxHeartbeats 4000000 in
set_option maxRecDepth 100000 in
theorem bX10_acts {p : Program} {l : Launch} {e : Env} {s : State} {m : MethodId} {args : Array Value} {below : List Frame} {meth : Method} {c : Code} {D : va_G} {cA : ClassId} {ad : Nat → Nat} {A : Nat → Prop} {H : Heap} {locs : List Loc} {ls : Array Slot} {q : St} {z : Nat} {S : St} (C0 : sd_Cx RX10 cX10_acts 2 none (Cond.code yX10_acts cX10_acts 2 none :: sd_big) p s m args meth c) (h : sd_Wd D vwCl cA sd_nw (wY ad cA) A s S H locs) (hl : lv_has ls 2 [(0, .ref (ad 0))])  (hm : mX10_acts z S = some q) : W p l e rX10_acts s m args below meth c H locs 0 0 (MQ below (sd_Qv D vwCl (wY ad cA) A q) args s 0 0 A) (F0 m 0 ls []) := by
  unfold mX10_acts at hm
  have hx := C0.1
  have hb := C0.2.1
  refine lv_iconst (v := 0) hx hb dX10_acts_0 (by decide) ?_
  refine lv_istore_n (lv' := [(1, .int 0), (0, .ref (ad 0))]) hx hb dX10_acts_1 rfl hl (by decide) rfl (fun ls hl => ?_)
  exact lX10_acts_2 C0 _ _ _ _ _ _ h (lv_sub hl [1, 0] rfl) hm
theorem tX10_acts (l : Launch) (D : va_G) (cA : ClassId) (ad : Nat → Nat) {z : Nat} {S : St}  {q : St} (hm : mX10_acts z S = some q) : sd_MV l D vwCl cA sd_nw (wY ad cA) yX10_acts (Cond.code yX10_acts cX10_acts 2 none :: sd_big) rX10_acts [.ref (ad 0)] S q :=
  sd_ofV (by decide +kernel) (Nat.le_of_ble_eq_true rfl) (fun _ _ _ _ _ _ _ _ _ _ C0 h hl => bX10_acts C0 h (lv_sub hl [0] rfl) hm)

def rX10_line : Room := { frames := 1, cells := 0, slots := 0, locals := 22 }
def mX10_line (z : Nat) (v1 : Int32) (v2 : Int32) (S : St) : Option (Int32 × St) :=
  (mX10_in S v1 0 99).bind fun u1 =>
  if u1 = 0 then
    some ((-1), S)
  else
    (mX10_in S v2 1400 1600).bind fun u3 =>
    if u3 = 0 then
      some ((-1), S)
    else
      (rd (fA S 0) 4564 0).bind fun x5 =>
      if x5 = 20 then
        some ((-1), S)
      else
        (mX10_acts z S).bind fun u7 =>
        (rd (fA u7 0) 4564 0).bind fun x8 =>
        (wr (fA u7 0) 4564 (4 + (3 * x8)) v1).bind fun g9 =>
        (wr (fA (sA u7 0 g9) 0) 4564 ((4 + (3 * x8)) + 1) v2).bind fun g10 =>
        (wr (fA (sA (sA u7 0 g9) 0 g10) 0) 4564 ((4 + (3 * x8)) + 2) 0).bind fun g11 =>
        (rd (fA (sA (sA (sA u7 0 g9) 0 g10) 0 g11) 0) 4564 0).bind fun x12 =>
        (wr (fA (sA (sA (sA u7 0 g9) 0 g10) 0 g11) 0) 4564 0 (x12 + 1)).bind fun g13 =>
        some (x8, (sA (sA (sA (sA u7 0 g9) 0 g10) 0 g11) 0 g13))
set_option maxHeartbeats 4000000 in
set_option maxRecDepth 100000 in
theorem bX10_line {p : Program} {l : Launch} {e : Env} {s : State} {m : MethodId} {args : Array Value} {below : List Frame} {meth : Method} {c : Code} {D : va_G} {cA : ClassId} {ad : Nat → Nat} {A : Nat → Prop} {H : Heap} {locs : List Loc} {ls : Array Slot} {q : (Int32 × St)} {z : Nat} {v1 : Int32} {v2 : Int32} {S : St} (C0 : sd_Cx RX10 cX10_line 4 (some .int) (Cond.code yX10_line cX10_line 4 (some .int) :: sd_big) p s m args meth c) (h : sd_Wd D vwCl cA sd_nw (wY ad cA) A s S H locs) (hl : lv_has ls 4 [(0, .ref (ad 0)), (1, .int v1), (2, .int v2)])  (hm : mX10_line z v1 v2 S = some q) : W p l e rX10_line s m args below meth c H locs 0 0 (MQ below (sd_Qi D vwCl (wY ad cA) A q) args s 0 0 A) (F0 m 0 ls []) := by
  unfold mX10_line at hm
  have hx := C0.1
  have hb := C0.2.1
  refine lv_iload_n hx hb dX10_line_0 rfl (lv_at hl 1 rfl) ?_
  refine lv_iconst (v := 0) hx hb dX10_line_1 (by decide) ?_
  refine lv_bipush (v := 99) hx hb dX10_line_2 (by decide) ?_
  obtain ⟨u1, hu1, hm⟩ := bs hm
  refine sd_Si C0 h kYX10_in kmX10_46 [.int v1, .int 0, .int 99] (tX10_in l D cA ad hu1) rfl hl.1 rfl (Nat.le_of_ble_eq_true rfl) (by decide) dX10_line_4 (by decide) (fun H locs h => ?_)
  refine lv_if_eq (tgt := 34) hx hb dX10_line_7 (by decide) (fun c2 => ?_) (fun c2 => ?_)
  · replace hm := ip c2 hm
    refine lv_iconst (v := (-1)) hx hb dX10_line_34 (by decide) ?_
    exact sd_iret C0 h (Option.some.inj hm) dX10_line_35
  · replace hm := iq c2 hm
    refine lv_iload_n hx hb dX10_line_10 rfl (lv_at hl 2 rfl) ?_
    refine lv_sipush (v := 1400) hx hb dX10_line_11 (by decide) ?_
    refine lv_sipush (v := 1600) hx hb dX10_line_14 (by decide) ?_
    obtain ⟨u3, hu3, hm⟩ := bs hm
    refine sd_Si C0 h kYX10_in kmX10_46 [.int v2, .int 1400, .int 1600] (tX10_in l D cA ad hu3) rfl hl.1 rfl (Nat.le_of_ble_eq_true rfl) (by decide) dX10_line_17 (by decide) (fun H locs h => ?_)
    refine lv_if_eq (tgt := 34) hx hb dX10_line_20 (by decide) (fun c4 => ?_) (fun c4 => ?_)
    · replace hm := ip c4 hm
      refine lv_iconst (v := (-1)) hx hb dX10_line_34 (by decide) ?_
      exact sd_iret C0 h (Option.some.inj hm) dX10_line_35
    · replace hm := iq c4 hm
      refine lv_aload_n hx hb dX10_line_23 rfl (lv_at hl 0 rfl) ?_
      refine sd_get C0 h (C := RX10) (T := TX10) (N := 17) kcX10 0 (aY_0 ad cA _) rfl 0 (by decide) kfX10_7 (v := .ref (ad 1)) rfl dX10_line_24 ?_
      refine lv_iconst (v := 0) hx hb dX10_line_27 (by decide) ?_
      obtain ⟨x5, hx5, hm⟩ := bs hm
      refine sd_rd C0 h 1 (aY_1 ad cA _) hx5 dX10_line_28 ?_
      refine lv_bipush (v := 20) hx hb dX10_line_29 (by decide) ?_
      refine lv_icmp_ne (tgt := 36) hx hb dX10_line_31 (by decide) (fun c6 => ?_) (fun c6 => ?_)
      · replace hm := iq c6 hm
        refine lv_aload_n hx hb dX10_line_36 rfl (lv_at hl 0 rfl) ?_
        obtain ⟨u7, hu7, hm⟩ := bs hm
        refine sd_Vv C0 h kYX10_acts kmX10_50 0 (aY_0 ad cA _) rfl [] (tX10_acts l D cA ad hu7) rfl hl.1 rfl (Nat.le_of_ble_eq_true rfl) (by decide) dX10_line_37 (by decide) (fun H locs h => ?_)
        refine lv_aload_n hx hb dX10_line_40 rfl (lv_at hl 0 rfl) ?_
        refine sd_get C0 h (C := RX10) (T := TX10) (N := 17) kcX10 0 (aY_0 ad cA _) rfl 0 (by decide) kfX10_7 (v := .ref (ad 1)) rfl dX10_line_41 ?_
        refine lv_iconst (v := 0) hx hb dX10_line_44 (by decide) ?_
        obtain ⟨x8, hx8, hm⟩ := bs hm
        refine sd_rd C0 h 1 (aY_1 ad cA _) hx8 dX10_line_45 ?_
        refine lv_istore_n (lv' := [(3, .int x8), (0, .ref (ad 0)), (1, .int v1), (2, .int v2)]) hx hb dX10_line_46 rfl hl (by decide) rfl (fun ls hl => ?_)
        refine lv_aload_n hx hb dX10_line_47 rfl (lv_at hl 1 rfl) ?_
        refine sd_get C0 h (C := RX10) (T := TX10) (N := 17) kcX10 0 (aY_0 ad cA _) rfl 0 (by decide) kfX10_7 (v := .ref (ad 1)) rfl dX10_line_48 ?_
        refine lv_iconst (v := 4) hx hb dX10_line_51 (by decide) ?_
        refine lv_iconst (v := 3) hx hb dX10_line_52 (by decide) ?_
        refine lv_iload_n hx hb dX10_line_53 rfl (lv_at hl 0 rfl) ?_
        refine lv_imul hx hb dX10_line_54 ?_
        refine lv_iadd hx hb dX10_line_55 ?_
        refine lv_iload_n hx hb dX10_line_56 rfl (lv_at hl 2 rfl) ?_
        obtain ⟨g9, hg9, hm⟩ := bs hm
        refine sd_wr C0 h (S1 := (sA u7 0 g9)) 1 (aY_1 ad cA _) hg9 (eY_1 ad cA _ _) dX10_line_57 (fun H locs h => ?_)
        refine lv_aload_n hx hb dX10_line_58 rfl (lv_at hl 1 rfl) ?_
        refine sd_get C0 h (C := RX10) (T := TX10) (N := 17) kcX10 0 (aY_0 ad cA _) rfl 0 (by decide) kfX10_7 (v := .ref (ad 1)) rfl dX10_line_59 ?_
        refine lv_iconst (v := 4) hx hb dX10_line_62 (by decide) ?_
        refine lv_iconst (v := 3) hx hb dX10_line_63 (by decide) ?_
        refine lv_iload_n hx hb dX10_line_64 rfl (lv_at hl 0 rfl) ?_
        refine lv_imul hx hb dX10_line_65 ?_
        refine lv_iadd hx hb dX10_line_66 ?_
        refine lv_iconst (v := 1) hx hb dX10_line_67 (by decide) ?_
        refine lv_iadd hx hb dX10_line_68 ?_
        refine lv_iload_n hx hb dX10_line_69 rfl (lv_at hl 3 rfl) ?_
        obtain ⟨g10, hg10, hm⟩ := bs hm
        refine sd_wr C0 h (S1 := (sA (sA u7 0 g9) 0 g10)) 1 (aY_1 ad cA _) hg10 (eY_1 ad cA _ _) dX10_line_70 (fun H locs h => ?_)
        refine lv_aload_n hx hb dX10_line_71 rfl (lv_at hl 1 rfl) ?_
        refine sd_get C0 h (C := RX10) (T := TX10) (N := 17) kcX10 0 (aY_0 ad cA _) rfl 0 (by decide) kfX10_7 (v := .ref (ad 1)) rfl dX10_line_72 ?_
        refine lv_iconst (v := 4) hx hb dX10_line_75 (by decide) ?_
        refine lv_iconst (v := 3) hx hb dX10_line_76 (by decide) ?_
        refine lv_iload_n hx hb dX10_line_77 rfl (lv_at hl 0 rfl) ?_
        refine lv_imul hx hb dX10_line_78 ?_
        refine lv_iadd hx hb dX10_line_79 ?_
        refine lv_iconst (v := 2) hx hb dX10_line_80 (by decide) ?_
        refine lv_iadd hx hb dX10_line_81 ?_
        refine lv_iconst (v := 0) hx hb dX10_line_82 (by decide) ?_
        obtain ⟨g11, hg11, hm⟩ := bs hm
        refine sd_wr C0 h (S1 := (sA (sA (sA u7 0 g9) 0 g10) 0 g11)) 1 (aY_1 ad cA _) hg11 (eY_1 ad cA _ _) dX10_line_83 (fun H locs h => ?_)
        refine lv_aload_n hx hb dX10_line_84 rfl (lv_at hl 1 rfl) ?_
        refine sd_get C0 h (C := RX10) (T := TX10) (N := 17) kcX10 0 (aY_0 ad cA _) rfl 0 (by decide) kfX10_7 (v := .ref (ad 1)) rfl dX10_line_85 ?_
        refine lv_iconst (v := 0) hx hb dX10_line_88 (by decide) ?_
        refine lv_dup2_11 hx hb dX10_line_89 rfl rfl ?_
        obtain ⟨x12, hx12, hm⟩ := bs hm
        refine sd_rd C0 h 1 (aY_1 ad cA _) hx12 dX10_line_90 ?_
        refine lv_iconst (v := 1) hx hb dX10_line_91 (by decide) ?_
        refine lv_iadd hx hb dX10_line_92 ?_
        obtain ⟨g13, hg13, hm⟩ := bs hm
        refine sd_wr C0 h (S1 := (sA (sA (sA (sA u7 0 g9) 0 g10) 0 g11) 0 g13)) 1 (aY_1 ad cA _) hg13 (eY_1 ad cA _ _) dX10_line_93 (fun H locs h => ?_)
        refine lv_iload_n hx hb dX10_line_94 rfl (lv_at hl 0 rfl) ?_
        exact sd_iret C0 h (Option.some.inj hm) dX10_line_95
      · replace hm := ip c6 hm
        refine lv_iconst (v := (-1)) hx hb dX10_line_34 (by decide) ?_
        exact sd_iret C0 h (Option.some.inj hm) dX10_line_35
theorem tX10_line (l : Launch) (D : va_G) (cA : ClassId) (ad : Nat → Nat) {z : Nat} {S : St} {v1 : Int32} {v2 : Int32} {q : (Int32 × St)} (hm : mX10_line z v1 v2 S = some q) : sd_MI l D vwCl cA sd_nw (wY ad cA) yX10_line (Cond.code yX10_line cX10_line 4 (some .int) :: sd_big) rX10_line [.ref (ad 0), .int v1, .int v2] S q :=
  sd_ofI (by decide +kernel) (Nat.le_of_ble_eq_true rfl) (fun _ _ _ _ _ _ _ _ _ _ C0 h hl => bX10_line C0 h (lv_sub hl [0, 1, 2] rfl) hm)

def rX10_tide : Room := { frames := 1, cells := 0, slots := 0, locals := 22 }
def mX10_tide_149 (z : Nat) (v4 : Int32) (S : St) : Option (Int32 × St) :=
  (rd (fA S 0) 4564 v4).bind fun x1 =>
  some (x1, S)
set_option maxHeartbeats 4000000 in
set_option maxRecDepth 100000 in
theorem bX10_tide_149 {p : Program} {l : Launch} {e : Env} {s : State} {m : MethodId} {args : Array Value} {below : List Frame} {meth : Method} {c : Code} {D : va_G} {cA : ClassId} {ad : Nat → Nat} {A : Nat → Prop} {H : Heap} {locs : List Loc} {ls : Array Slot} {q : (Int32 × St)} {z : Nat} {v4 : Int32} {S : St} (C0 : sd_Cx RX10 cX10_tide 6 (some .int) (Cond.code yX10_tide cX10_tide 6 (some .int) :: sd_big) p s m args meth c) (h : sd_Wd D vwCl cA sd_nw (wY ad cA) A s S H locs) (hl : lv_has ls 6 [(0, .ref (ad 0)), (4, .int v4)])  (hm : mX10_tide_149 z v4 S = some q) : W p l e rX10_tide s m args below meth c H locs 0 0 (MQ below (sd_Qi D vwCl (wY ad cA) A q) args s 0 0 A) (F0 m 149 ls []) := by
  unfold mX10_tide_149 at hm
  have hx := C0.1
  have hb := C0.2.1
  refine lv_aload_n hx hb dX10_tide_149 rfl (lv_at hl 0 rfl) ?_
  refine sd_get C0 h (C := RX10) (T := TX10) (N := 17) kcX10 0 (aY_0 ad cA _) rfl 0 (by decide) kfX10_7 (v := .ref (ad 1)) rfl dX10_tide_150 ?_
  refine lv_iload hx hb dX10_tide_153 (lv_at hl 1 rfl) ?_
  obtain ⟨x1, hx1, hm⟩ := bs hm
  refine sd_rd C0 h 1 (aY_1 ad cA _) hx1 dX10_tide_155 ?_
  exact sd_iret C0 h (Option.some.inj hm) dX10_tide_156
def mX10_tide_83 (z : Nat) (v2 : Int32) (v3 : Int32) (v4 : Int32) (v5 : Int32) (S : St) : Option (Int32 × St) :=
  if v5 = 12 then
    some ((-1), S)
  else
    (mX10_acts z S).bind fun u2 =>
    (wr (fA u2 0) 4564 ((v4 + 1) + (2 * v5)) v2).bind fun g3 =>
    (wr (fA (sA u2 0 g3) 0) 4564 ((v4 + 2) + (2 * v5)) v3).bind fun g4 =>
    (rd (fA (sA (sA u2 0 g3) 0 g4) 0) 4564 v4).bind fun x5 =>
    if v5 = x5 then
      (rd (fA (sA (sA u2 0 g3) 0 g4) 0) 4564 v4).bind fun x7 =>
      (wr (fA (sA (sA u2 0 g3) 0 g4) 0) 4564 v4 (x7 + 1)).bind fun g8 =>
      mX10_tide_149 z v4 (sA (sA (sA u2 0 g3) 0 g4) 0 g8)
    else
      mX10_tide_149 z v4 (sA (sA u2 0 g3) 0 g4)
set_option maxHeartbeats 4000000 in
set_option maxRecDepth 100000 in
theorem bX10_tide_83 {p : Program} {l : Launch} {e : Env} {s : State} {m : MethodId} {args : Array Value} {below : List Frame} {meth : Method} {c : Code} {D : va_G} {cA : ClassId} {ad : Nat → Nat} {A : Nat → Prop} {H : Heap} {locs : List Loc} {ls : Array Slot} {q : (Int32 × St)} {z : Nat} {v2 : Int32} {v3 : Int32} {v4 : Int32} {v5 : Int32} {S : St} (C0 : sd_Cx RX10 cX10_tide 6 (some .int) (Cond.code yX10_tide cX10_tide 6 (some .int) :: sd_big) p s m args meth c) (h : sd_Wd D vwCl cA sd_nw (wY ad cA) A s S H locs) (hl : lv_has ls 6 [(0, .ref (ad 0)), (2, .int v2), (3, .int v3), (4, .int v4), (5, .int v5)])  (hm : mX10_tide_83 z v2 v3 v4 v5 S = some q) : W p l e rX10_tide s m args below meth c H locs 0 0 (MQ below (sd_Qi D vwCl (wY ad cA) A q) args s 0 0 A) (F0 m 83 ls []) := by
  unfold mX10_tide_83 at hm
  have hx := C0.1
  have hb := C0.2.1
  refine lv_iload hx hb dX10_tide_83 (lv_at hl 4 rfl) ?_
  refine lv_bipush (v := 12) hx hb dX10_tide_85 (by decide) ?_
  refine lv_icmp_ne (tgt := 92) hx hb dX10_tide_87 (by decide) (fun c1 => ?_) (fun c1 => ?_)
  · replace hm := iq c1 hm
    refine lv_aload_n hx hb dX10_tide_92 rfl (lv_at hl 0 rfl) ?_
    obtain ⟨u2, hu2, hm⟩ := bs hm
    refine sd_Vv C0 h kYX10_acts kmX10_50 0 (aY_0 ad cA _) rfl [] (tX10_acts l D cA ad hu2) rfl hl.1 rfl (Nat.le_of_ble_eq_true rfl) (by decide) dX10_tide_93 (by decide) (fun H locs h => ?_)
    refine lv_aload_n hx hb dX10_tide_96 rfl (lv_at hl 0 rfl) ?_
    refine sd_get C0 h (C := RX10) (T := TX10) (N := 17) kcX10 0 (aY_0 ad cA _) rfl 0 (by decide) kfX10_7 (v := .ref (ad 1)) rfl dX10_tide_97 ?_
    refine lv_iload hx hb dX10_tide_100 (lv_at hl 3 rfl) ?_
    refine lv_iconst (v := 1) hx hb dX10_tide_102 (by decide) ?_
    refine lv_iadd hx hb dX10_tide_103 ?_
    refine lv_iconst (v := 2) hx hb dX10_tide_104 (by decide) ?_
    refine lv_iload hx hb dX10_tide_105 (lv_at hl 4 rfl) ?_
    refine lv_imul hx hb dX10_tide_107 ?_
    refine lv_iadd hx hb dX10_tide_108 ?_
    refine lv_iload_n hx hb dX10_tide_109 rfl (lv_at hl 1 rfl) ?_
    obtain ⟨g3, hg3, hm⟩ := bs hm
    refine sd_wr C0 h (S1 := (sA u2 0 g3)) 1 (aY_1 ad cA _) hg3 (eY_1 ad cA _ _) dX10_tide_110 (fun H locs h => ?_)
    refine lv_aload_n hx hb dX10_tide_111 rfl (lv_at hl 0 rfl) ?_
    refine sd_get C0 h (C := RX10) (T := TX10) (N := 17) kcX10 0 (aY_0 ad cA _) rfl 0 (by decide) kfX10_7 (v := .ref (ad 1)) rfl dX10_tide_112 ?_
    refine lv_iload hx hb dX10_tide_115 (lv_at hl 3 rfl) ?_
    refine lv_iconst (v := 2) hx hb dX10_tide_117 (by decide) ?_
    refine lv_iadd hx hb dX10_tide_118 ?_
    refine lv_iconst (v := 2) hx hb dX10_tide_119 (by decide) ?_
    refine lv_iload hx hb dX10_tide_120 (lv_at hl 4 rfl) ?_
    refine lv_imul hx hb dX10_tide_122 ?_
    refine lv_iadd hx hb dX10_tide_123 ?_
    refine lv_iload_n hx hb dX10_tide_124 rfl (lv_at hl 2 rfl) ?_
    obtain ⟨g4, hg4, hm⟩ := bs hm
    refine sd_wr C0 h (S1 := (sA (sA u2 0 g3) 0 g4)) 1 (aY_1 ad cA _) hg4 (eY_1 ad cA _ _) dX10_tide_125 (fun H locs h => ?_)
    refine lv_iload hx hb dX10_tide_126 (lv_at hl 4 rfl) ?_
    refine lv_aload_n hx hb dX10_tide_128 rfl (lv_at hl 0 rfl) ?_
    refine sd_get C0 h (C := RX10) (T := TX10) (N := 17) kcX10 0 (aY_0 ad cA _) rfl 0 (by decide) kfX10_7 (v := .ref (ad 1)) rfl dX10_tide_129 ?_
    refine lv_iload hx hb dX10_tide_132 (lv_at hl 3 rfl) ?_
    obtain ⟨x5, hx5, hm⟩ := bs hm
    refine sd_rd C0 h 1 (aY_1 ad cA _) hx5 dX10_tide_134 ?_
    refine lv_icmp_ne (tgt := 149) hx hb dX10_tide_135 (by decide) (fun c6 => ?_) (fun c6 => ?_)
    · replace hm := iq c6 hm
      exact bX10_tide_149 C0 h (lv_sub hl [0, 3] rfl) hm
    · replace hm := ip c6 hm
      refine lv_aload_n hx hb dX10_tide_138 rfl (lv_at hl 0 rfl) ?_
      refine sd_get C0 h (C := RX10) (T := TX10) (N := 17) kcX10 0 (aY_0 ad cA _) rfl 0 (by decide) kfX10_7 (v := .ref (ad 1)) rfl dX10_tide_139 ?_
      refine lv_iload hx hb dX10_tide_142 (lv_at hl 3 rfl) ?_
      refine lv_dup2_11 hx hb dX10_tide_144 rfl rfl ?_
      obtain ⟨x7, hx7, hm⟩ := bs hm
      refine sd_rd C0 h 1 (aY_1 ad cA _) hx7 dX10_tide_145 ?_
      refine lv_iconst (v := 1) hx hb dX10_tide_146 (by decide) ?_
      refine lv_iadd hx hb dX10_tide_147 ?_
      obtain ⟨g8, hg8, hm⟩ := bs hm
      refine sd_wr C0 h (S1 := (sA (sA (sA u2 0 g3) 0 g4) 0 g8)) 1 (aY_1 ad cA _) hg8 (eY_1 ad cA _ _) dX10_tide_148 (fun H locs h => ?_)
      exact bX10_tide_149 C0 h (lv_sub hl [0, 3] rfl) hm
  · replace hm := ip c1 hm
    refine lv_iconst (v := (-1)) hx hb dX10_tide_90 (by decide) ?_
    exact sd_iret C0 h (Option.some.inj hm) dX10_tide_91
def mX10_tide_47b (z : Nat) (rc47 : Int32 → St → Option (Int32 × St)) (v2 : Int32) (v3 : Int32) (v4 : Int32) (v5 : Int32) (S : St) : Option (Int32 × St) :=
  (rd (fA S 0) 4564 v4).bind fun x1 =>
  if x1 ≤ v5 then
    mX10_tide_83 z v2 v3 v4 v5 S
  else
    (rd (fA S 0) 4564 ((v4 + 1) + (2 * v5))).bind fun x3 =>
    if x3 = v2 then
      mX10_tide_83 z v2 v3 v4 v5 S
    else
      rc47 (v5 + 1) S
set_option maxHeartbeats 4000000 in
set_option maxRecDepth 100000 in
theorem bX10_tide_47b {p : Program} {l : Launch} {e : Env} {s : State} {m : MethodId} {args : Array Value} {below : List Frame} {meth : Method} {c : Code} {D : va_G} {cA : ClassId} {ad : Nat → Nat} {A : Nat → Prop} {H : Heap} {locs : List Loc} {ls : Array Slot} {q : (Int32 × St)} {z : Nat} {rc47 : Int32 → St → Option (Int32 × St)} {v2 : Int32} {v3 : Int32} {v4 : Int32} {v5 : Int32} {S : St} (C0 : sd_Cx RX10 cX10_tide 6 (some .int) (Cond.code yX10_tide cX10_tide 6 (some .int) :: sd_big) p s m args meth c) (h : sd_Wd D vwCl cA sd_nw (wY ad cA) A s S H locs) (hl : lv_has ls 6 [(0, .ref (ad 0)), (2, .int v2), (3, .int v3), (4, .int v4), (5, .int v5)]) (hrc47 : ∀ (v5 : Int32) (S : St) (H : Heap) (locs : List Loc) (ls : Array Slot), sd_Wd D vwCl cA sd_nw (wY ad cA) A s S H locs → lv_has ls 6 [(0, .ref (ad 0)), (2, .int v2), (3, .int v3), (4, .int v4), (5, .int v5)] → rc47 v5 S = some q → W p l e rX10_tide s m args below meth c H locs 0 0 (MQ below (sd_Qi D vwCl (wY ad cA) A q) args s 0 0 A) (F0 m 47 ls [])) (hm : mX10_tide_47b z rc47 v2 v3 v4 v5 S = some q) : W p l e rX10_tide s m args below meth c H locs 0 0 (MQ below (sd_Qi D vwCl (wY ad cA) A q) args s 0 0 A) (F0 m 47 ls []) := by
  unfold mX10_tide_47b at hm
  have hx := C0.1
  have hb := C0.2.1
  refine lv_iload hx hb dX10_tide_47 (lv_at hl 4 rfl) ?_
  refine lv_aload_n hx hb dX10_tide_49 rfl (lv_at hl 0 rfl) ?_
  refine sd_get C0 h (C := RX10) (T := TX10) (N := 17) kcX10 0 (aY_0 ad cA _) rfl 0 (by decide) kfX10_7 (v := .ref (ad 1)) rfl dX10_tide_50 ?_
  refine lv_iload hx hb dX10_tide_53 (lv_at hl 3 rfl) ?_
  obtain ⟨x1, hx1, hm⟩ := bs hm
  refine sd_rd C0 h 1 (aY_1 ad cA _) hx1 dX10_tide_55 ?_
  refine lv_icmp_ge (tgt := 83) hx hb dX10_tide_56 (by decide) (fun c2 => ?_) (fun c2 => ?_)
  · replace hm := ip c2 hm
    exact bX10_tide_83 C0 h (lv_sub hl [0, 1, 2, 3, 4] rfl) hm
  · replace hm := iq c2 hm
    refine lv_aload_n hx hb dX10_tide_59 rfl (lv_at hl 0 rfl) ?_
    refine sd_get C0 h (C := RX10) (T := TX10) (N := 17) kcX10 0 (aY_0 ad cA _) rfl 0 (by decide) kfX10_7 (v := .ref (ad 1)) rfl dX10_tide_60 ?_
    refine lv_iload hx hb dX10_tide_63 (lv_at hl 3 rfl) ?_
    refine lv_iconst (v := 1) hx hb dX10_tide_65 (by decide) ?_
    refine lv_iadd hx hb dX10_tide_66 ?_
    refine lv_iconst (v := 2) hx hb dX10_tide_67 (by decide) ?_
    refine lv_iload hx hb dX10_tide_68 (lv_at hl 4 rfl) ?_
    refine lv_imul hx hb dX10_tide_70 ?_
    refine lv_iadd hx hb dX10_tide_71 ?_
    obtain ⟨x3, hx3, hm⟩ := bs hm
    refine sd_rd C0 h 1 (aY_1 ad cA _) hx3 dX10_tide_72 ?_
    refine lv_iload_n hx hb dX10_tide_73 rfl (lv_at hl 1 rfl) ?_
    refine lv_icmp_eq (tgt := 83) hx hb dX10_tide_74 (by decide) (fun c4 => ?_) (fun c4 => ?_)
    · replace hm := ip c4 hm
      exact bX10_tide_83 C0 h (lv_sub hl [0, 1, 2, 3, 4] rfl) hm
    · replace hm := iq c4 hm
      refine lv_iinc (v := (v5 + 1)) (lv' := [(5, .int (v5 + 1)), (0, .ref (ad 0)), (2, .int v2), (3, .int v3), (4, .int v4)]) hx hb dX10_tide_77 hl (k := 4) rfl rfl (by decide) rfl (fun ls hl => ?_)
      refine lv_goto (tgt := 47) hx hb dX10_tide_80 (by decide) ?_
      exact hrc47 _ _ _ _ _ h (lv_sub hl [1, 2, 3, 4, 0] rfl) hm
def mX10_tide_47 (z : Nat) (v2 : Int32) (v3 : Int32) (v4 : Int32) : Nat → Int32 → St → Option (Int32 × St)
  | 0, _, _ => none
  | n + 1, v5, S => mX10_tide_47b z (mX10_tide_47 z v2 v3 v4 n) v2 v3 v4 v5 S
set_option maxHeartbeats 4000000 in
set_option maxRecDepth 100000 in
theorem lX10_tide_47 {p : Program} {l : Launch} {e : Env} {s : State} {m : MethodId} {args : Array Value} {below : List Frame} {meth : Method} {c : Code} {D : va_G} {cA : ClassId} {ad : Nat → Nat} {A : Nat → Prop} {q : (Int32 × St)} {z : Nat} {v2 : Int32} {v3 : Int32} {v4 : Int32} (C0 : sd_Cx RX10 cX10_tide 6 (some .int) (Cond.code yX10_tide cX10_tide 6 (some .int) :: sd_big) p s m args meth c)  : ∀ (n : Nat) (v5 : Int32) (S : St) (H : Heap) (locs : List Loc) (ls : Array Slot), sd_Wd D vwCl cA sd_nw (wY ad cA) A s S H locs → lv_has ls 6 [(0, .ref (ad 0)), (2, .int v2), (3, .int v3), (4, .int v4), (5, .int v5)] → mX10_tide_47 z v2 v3 v4 n v5 S = some q → W p l e rX10_tide s m args below meth c H locs 0 0 (MQ below (sd_Qi D vwCl (wY ad cA) A q) args s 0 0 A) (F0 m 47 ls []) := by
  intro n
  induction n with
  | zero =>
    intro v5 S H locs ls h hl hm
    exact nomatch (show none = some q from hm)
  | succ n ih =>
    intro v5 S H locs ls h hl hm
    exact bX10_tide_47b C0 h hl ih hm
def mX10_tide (z : Nat) (v1 : Int32) (v2 : Int32) (v3 : Int32) (S : St) : Option (Int32 × St) :=
  (mX10_in S v1 0 99).bind fun u1 =>
  if u1 = 0 then
    some ((-1), S)
  else
    (mX10_in S v2 0 1439).bind fun u3 =>
    if u3 = 0 then
      some ((-1), S)
    else
      (mX10_in S v3 (-100) 200).bind fun u5 =>
      if u5 = 0 then
        some ((-1), S)
      else
        mX10_tide_47 z v2 v3 (64 + (25 * v1)) z 0 S
set_option maxHeartbeats 4000000 in
set_option maxRecDepth 100000 in
theorem bX10_tide {p : Program} {l : Launch} {e : Env} {s : State} {m : MethodId} {args : Array Value} {below : List Frame} {meth : Method} {c : Code} {D : va_G} {cA : ClassId} {ad : Nat → Nat} {A : Nat → Prop} {H : Heap} {locs : List Loc} {ls : Array Slot} {q : (Int32 × St)} {z : Nat} {v1 : Int32} {v2 : Int32} {v3 : Int32} {S : St} (C0 : sd_Cx RX10 cX10_tide 6 (some .int) (Cond.code yX10_tide cX10_tide 6 (some .int) :: sd_big) p s m args meth c) (h : sd_Wd D vwCl cA sd_nw (wY ad cA) A s S H locs) (hl : lv_has ls 6 [(0, .ref (ad 0)), (1, .int v1), (2, .int v2), (3, .int v3)])  (hm : mX10_tide z v1 v2 v3 S = some q) : W p l e rX10_tide s m args below meth c H locs 0 0 (MQ below (sd_Qi D vwCl (wY ad cA) A q) args s 0 0 A) (F0 m 0 ls []) := by
  unfold mX10_tide at hm
  have hx := C0.1
  have hb := C0.2.1
  refine lv_iload_n hx hb dX10_tide_0 rfl (lv_at hl 1 rfl) ?_
  refine lv_iconst (v := 0) hx hb dX10_tide_1 (by decide) ?_
  refine lv_bipush (v := 99) hx hb dX10_tide_2 (by decide) ?_
  obtain ⟨u1, hu1, hm⟩ := bs hm
  refine sd_Si C0 h kYX10_in kmX10_46 [.int v1, .int 0, .int 99] (tX10_in l D cA ad hu1) rfl hl.1 rfl (Nat.le_of_ble_eq_true rfl) (by decide) dX10_tide_4 (by decide) (fun H locs h => ?_)
  refine lv_if_eq (tgt := 33) hx hb dX10_tide_7 (by decide) (fun c2 => ?_) (fun c2 => ?_)
  · replace hm := ip c2 hm
    refine lv_iconst (v := (-1)) hx hb dX10_tide_33 (by decide) ?_
    exact sd_iret C0 h (Option.some.inj hm) dX10_tide_34
  · replace hm := iq c2 hm
    refine lv_iload_n hx hb dX10_tide_10 rfl (lv_at hl 2 rfl) ?_
    refine lv_iconst (v := 0) hx hb dX10_tide_11 (by decide) ?_
    refine lv_sipush (v := 1439) hx hb dX10_tide_12 (by decide) ?_
    obtain ⟨u3, hu3, hm⟩ := bs hm
    refine sd_Si C0 h kYX10_in kmX10_46 [.int v2, .int 0, .int 1439] (tX10_in l D cA ad hu3) rfl hl.1 rfl (Nat.le_of_ble_eq_true rfl) (by decide) dX10_tide_15 (by decide) (fun H locs h => ?_)
    refine lv_if_eq (tgt := 33) hx hb dX10_tide_18 (by decide) (fun c4 => ?_) (fun c4 => ?_)
    · replace hm := ip c4 hm
      refine lv_iconst (v := (-1)) hx hb dX10_tide_33 (by decide) ?_
      exact sd_iret C0 h (Option.some.inj hm) dX10_tide_34
    · replace hm := iq c4 hm
      refine lv_iload_n hx hb dX10_tide_21 rfl (lv_at hl 3 rfl) ?_
      refine lv_bipush (v := (-100)) hx hb dX10_tide_22 (by decide) ?_
      refine lv_sipush (v := 200) hx hb dX10_tide_24 (by decide) ?_
      obtain ⟨u5, hu5, hm⟩ := bs hm
      refine sd_Si C0 h kYX10_in kmX10_46 [.int v3, .int (-100), .int 200] (tX10_in l D cA ad hu5) rfl hl.1 rfl (Nat.le_of_ble_eq_true rfl) (by decide) dX10_tide_27 (by decide) (fun H locs h => ?_)
      refine lv_if_ne (tgt := 35) hx hb dX10_tide_30 (by decide) (fun c6 => ?_) (fun c6 => ?_)
      · replace hm := iq c6 hm
        refine lv_bipush (v := 64) hx hb dX10_tide_35 (by decide) ?_
        refine lv_bipush (v := 25) hx hb dX10_tide_37 (by decide) ?_
        refine lv_iload_n hx hb dX10_tide_39 rfl (lv_at hl 1 rfl) ?_
        refine lv_imul hx hb dX10_tide_40 ?_
        refine lv_iadd hx hb dX10_tide_41 ?_
        refine lv_istore (lv' := [(4, .int (64 + (25 * v1))), (0, .ref (ad 0)), (1, .int v1), (2, .int v2), (3, .int v3)]) hx hb dX10_tide_42 hl (by decide) rfl (fun ls hl => ?_)
        refine lv_iconst (v := 0) hx hb dX10_tide_44 (by decide) ?_
        refine lv_istore (lv' := [(5, .int 0), (4, .int (64 + (25 * v1))), (0, .ref (ad 0)), (1, .int v1), (2, .int v2), (3, .int v3)]) hx hb dX10_tide_45 hl (by decide) rfl (fun ls hl => ?_)
        exact lX10_tide_47 C0 _ _ _ _ _ _ h (lv_sub hl [2, 4, 5, 1, 0] rfl) hm
      · replace hm := ip c6 hm
        refine lv_iconst (v := (-1)) hx hb dX10_tide_33 (by decide) ?_
        exact sd_iret C0 h (Option.some.inj hm) dX10_tide_34
theorem tX10_tide (l : Launch) (D : va_G) (cA : ClassId) (ad : Nat → Nat) {z : Nat} {S : St} {v1 : Int32} {v2 : Int32} {v3 : Int32} {q : (Int32 × St)} (hm : mX10_tide z v1 v2 v3 S = some q) : sd_MI l D vwCl cA sd_nw (wY ad cA) yX10_tide (Cond.code yX10_tide cX10_tide 6 (some .int) :: sd_big) rX10_tide [.ref (ad 0), .int v1, .int v2, .int v3] S q :=
  sd_ofI (by decide +kernel) (Nat.le_of_ble_eq_true rfl) (fun _ _ _ _ _ _ _ _ _ _ C0 h hl => bX10_tide C0 h (lv_sub hl [0, 1, 2, 3] rfl) hm)

def rX10_isLine : Room := { frames := 1, cells := 0, slots := 0, locals := 22 }
def mX10_isLine (S : St) (v1 : Int32) : Option Int32 :=
  (rd (fA S 0) 4564 0).bind fun x1 =>
  (mX10_in S v1 0 (x1 - 1)).bind fun u2 =>
  zb u2 u2
set_option maxHeartbeats 4000000 in
set_option maxRecDepth 100000 in
theorem bX10_isLine {p : Program} {l : Launch} {e : Env} {s : State} {m : MethodId} {args : Array Value} {below : List Frame} {meth : Method} {c : Code} {D : va_G} {cA : ClassId} {ad : Nat → Nat} {A : Nat → Prop} {H : Heap} {locs : List Loc} {ls : Array Slot} {q : Int32} {S : St} {v1 : Int32} (C0 : sd_Cx RX10 cX10_isLine 2 (some .boolean) (Cond.code yX10_isLine cX10_isLine 2 (some .boolean) :: sd_big) p s m args meth c) (h : sd_Wd D vwCl cA sd_nw (wY ad cA) A s S H locs) (hl : lv_has ls 2 [(0, .ref (ad 0)), (1, .int v1)])  (hm : mX10_isLine S v1 = some q) : W p l e rX10_isLine s m args below meth c H locs 0 0 (MQ below (sd_Qi D vwCl (wY ad cA) A (q, S)) args s 0 0 A) (F0 m 0 ls []) := by
  unfold mX10_isLine at hm
  have hx := C0.1
  have hb := C0.2.1
  refine lv_iload_n hx hb dX10_isLine_0 rfl (lv_at hl 1 rfl) ?_
  refine lv_iconst (v := 0) hx hb dX10_isLine_1 (by decide) ?_
  refine lv_aload_n hx hb dX10_isLine_2 rfl (lv_at hl 0 rfl) ?_
  refine sd_get C0 h (C := RX10) (T := TX10) (N := 17) kcX10 0 (aY_0 ad cA _) rfl 0 (by decide) kfX10_7 (v := .ref (ad 1)) rfl dX10_isLine_3 ?_
  refine lv_iconst (v := 0) hx hb dX10_isLine_6 (by decide) ?_
  obtain ⟨x1, hx1, hm⟩ := bs hm
  refine sd_rd C0 h 1 (aY_1 ad cA _) hx1 dX10_isLine_7 ?_
  refine lv_iconst (v := 1) hx hb dX10_isLine_8 (by decide) ?_
  refine lv_isub hx hb dX10_isLine_9 ?_
  obtain ⟨u2, hu2, hm⟩ := bs hm
  refine sd_Si C0 h kYX10_in kmX10_46 [.int v1, .int 0, .int (x1 - 1)] (tX10_in l D cA ad hu2) rfl hl.1 rfl (Nat.le_of_ble_eq_true rfl) (by decide) dX10_isLine_10 (by decide) (fun H locs h => ?_)
  obtain ⟨hz, hm⟩ := zb_some hm
  exact sd_zret C0 h (congrArg (fun x => (x, S)) hm) hz dX10_isLine_13
theorem tX10_isLine (l : Launch) (D : va_G) (cA : ClassId) (ad : Nat → Nat) {S : St} {v1 : Int32} {q : Int32} (hm : mX10_isLine S v1 = some q) : sd_MI l D vwCl cA sd_nw (wY ad cA) yX10_isLine (Cond.code yX10_isLine cX10_isLine 2 (some .boolean) :: sd_big) rX10_isLine [.ref (ad 0), .int v1] S (q, S) :=
  sd_ofI (by decide +kernel) (Nat.le_of_ble_eq_true rfl) (fun _ _ _ _ _ _ _ _ _ _ C0 h hl => bX10_isLine C0 h (lv_sub hl [0, 1] rfl) hm)

def rX10_speed : Room := { frames := 2, cells := 0, slots := 0, locals := 43 }
def mX10_speed (z : Nat) (v1 : Int32) (v2 : Int32) (S : St) : Option (Int32 × St) :=
  (mX10_isLine S v1).bind fun u1 =>
  if u1 = 0 then
    some (0, S)
  else
    (mX10_in S v2 1400 1600).bind fun u3 =>
    if u3 = 0 then
      some (0, S)
    else
      (mX10_acts z S).bind fun u5 =>
      (wr (fA u5 0) 4564 ((4 + (3 * v1)) + 1) v2).bind fun g6 =>
      some (1, (sA u5 0 g6))
set_option maxHeartbeats 4000000 in
set_option maxRecDepth 100000 in
theorem bX10_speed {p : Program} {l : Launch} {e : Env} {s : State} {m : MethodId} {args : Array Value} {below : List Frame} {meth : Method} {c : Code} {D : va_G} {cA : ClassId} {ad : Nat → Nat} {A : Nat → Prop} {H : Heap} {locs : List Loc} {ls : Array Slot} {q : (Int32 × St)} {z : Nat} {v1 : Int32} {v2 : Int32} {S : St} (C0 : sd_Cx RX10 cX10_speed 3 (some .boolean) (Cond.code yX10_speed cX10_speed 3 (some .boolean) :: sd_big) p s m args meth c) (h : sd_Wd D vwCl cA sd_nw (wY ad cA) A s S H locs) (hl : lv_has ls 3 [(0, .ref (ad 0)), (1, .int v1), (2, .int v2)])  (hm : mX10_speed z v1 v2 S = some q) : W p l e rX10_speed s m args below meth c H locs 0 0 (MQ below (sd_Qi D vwCl (wY ad cA) A q) args s 0 0 A) (F0 m 0 ls []) := by
  unfold mX10_speed at hm
  have hx := C0.1
  have hb := C0.2.1
  refine lv_aload_n hx hb dX10_speed_0 rfl (lv_at hl 0 rfl) ?_
  refine lv_iload_n hx hb dX10_speed_1 rfl (lv_at hl 1 rfl) ?_
  obtain ⟨u1, hu1, hm⟩ := bs hm
  refine sd_Vi C0 h kYX10_isLine kmX10_53 0 (aY_0 ad cA _) rfl [.int v1] (tX10_isLine l D cA ad hu1) rfl hl.1 rfl (Nat.le_of_ble_eq_true rfl) (by decide) dX10_speed_2 (by decide) (fun H locs h => ?_)
  refine lv_if_eq (tgt := 21) hx hb dX10_speed_5 (by decide) (fun c2 => ?_) (fun c2 => ?_)
  · replace hm := ip c2 hm
    refine lv_iconst (v := 0) hx hb dX10_speed_21 (by decide) ?_
    exact sd_zret C0 h (Option.some.inj hm) rfl dX10_speed_22
  · replace hm := iq c2 hm
    refine lv_iload_n hx hb dX10_speed_8 rfl (lv_at hl 2 rfl) ?_
    refine lv_sipush (v := 1400) hx hb dX10_speed_9 (by decide) ?_
    refine lv_sipush (v := 1600) hx hb dX10_speed_12 (by decide) ?_
    obtain ⟨u3, hu3, hm⟩ := bs hm
    refine sd_Si C0 h kYX10_in kmX10_46 [.int v2, .int 1400, .int 1600] (tX10_in l D cA ad hu3) rfl hl.1 rfl (Nat.le_of_ble_eq_true rfl) (by decide) dX10_speed_15 (by decide) (fun H locs h => ?_)
    refine lv_if_ne (tgt := 23) hx hb dX10_speed_18 (by decide) (fun c4 => ?_) (fun c4 => ?_)
    · replace hm := iq c4 hm
      refine lv_aload_n hx hb dX10_speed_23 rfl (lv_at hl 0 rfl) ?_
      obtain ⟨u5, hu5, hm⟩ := bs hm
      refine sd_Vv C0 h kYX10_acts kmX10_50 0 (aY_0 ad cA _) rfl [] (tX10_acts l D cA ad hu5) rfl hl.1 rfl (Nat.le_of_ble_eq_true rfl) (by decide) dX10_speed_24 (by decide) (fun H locs h => ?_)
      refine lv_aload_n hx hb dX10_speed_27 rfl (lv_at hl 0 rfl) ?_
      refine sd_get C0 h (C := RX10) (T := TX10) (N := 17) kcX10 0 (aY_0 ad cA _) rfl 0 (by decide) kfX10_7 (v := .ref (ad 1)) rfl dX10_speed_28 ?_
      refine lv_iconst (v := 4) hx hb dX10_speed_31 (by decide) ?_
      refine lv_iconst (v := 3) hx hb dX10_speed_32 (by decide) ?_
      refine lv_iload_n hx hb dX10_speed_33 rfl (lv_at hl 1 rfl) ?_
      refine lv_imul hx hb dX10_speed_34 ?_
      refine lv_iadd hx hb dX10_speed_35 ?_
      refine lv_iconst (v := 1) hx hb dX10_speed_36 (by decide) ?_
      refine lv_iadd hx hb dX10_speed_37 ?_
      refine lv_iload_n hx hb dX10_speed_38 rfl (lv_at hl 2 rfl) ?_
      obtain ⟨g6, hg6, hm⟩ := bs hm
      refine sd_wr C0 h (S1 := (sA u5 0 g6)) 1 (aY_1 ad cA _) hg6 (eY_1 ad cA _ _) dX10_speed_39 (fun H locs h => ?_)
      refine lv_iconst (v := 1) hx hb dX10_speed_40 (by decide) ?_
      exact sd_zret C0 h (Option.some.inj hm) rfl dX10_speed_41
    · replace hm := ip c4 hm
      refine lv_iconst (v := 0) hx hb dX10_speed_21 (by decide) ?_
      exact sd_zret C0 h (Option.some.inj hm) rfl dX10_speed_22
theorem tX10_speed (l : Launch) (D : va_G) (cA : ClassId) (ad : Nat → Nat) {z : Nat} {S : St} {v1 : Int32} {v2 : Int32} {q : (Int32 × St)} (hm : mX10_speed z v1 v2 S = some q) : sd_MI l D vwCl cA sd_nw (wY ad cA) yX10_speed (Cond.code yX10_speed cX10_speed 3 (some .boolean) :: sd_big) rX10_speed [.ref (ad 0), .int v1, .int v2] S q :=
  sd_ofI (by decide +kernel) (Nat.le_of_ble_eq_true rfl) (fun _ _ _ _ _ _ _ _ _ _ C0 h hl => bX10_speed C0 h (lv_sub hl [0, 1, 2] rfl) hm)

def rX10_shift : Room := { frames := 2, cells := 0, slots := 0, locals := 43 }
def mX10_shift (z : Nat) (v1 : Int32) (v2 : Int32) (S : St) : Option (Int32 × St) :=
  (mX10_isLine S v1).bind fun u1 =>
  if u1 = 0 then
    some (0, S)
  else
    (mX10_in S v2 (-50) 50).bind fun u3 =>
    if u3 = 0 then
      some (0, S)
    else
      (mX10_acts z S).bind fun u5 =>
      (wr (fA u5 0) 4564 ((4 + (3 * v1)) + 2) v2).bind fun g6 =>
      some (1, (sA u5 0 g6))
set_option maxHeartbeats 4000000 in
set_option maxRecDepth 100000 in
theorem bX10_shift {p : Program} {l : Launch} {e : Env} {s : State} {m : MethodId} {args : Array Value} {below : List Frame} {meth : Method} {c : Code} {D : va_G} {cA : ClassId} {ad : Nat → Nat} {A : Nat → Prop} {H : Heap} {locs : List Loc} {ls : Array Slot} {q : (Int32 × St)} {z : Nat} {v1 : Int32} {v2 : Int32} {S : St} (C0 : sd_Cx RX10 cX10_shift 3 (some .boolean) (Cond.code yX10_shift cX10_shift 3 (some .boolean) :: sd_big) p s m args meth c) (h : sd_Wd D vwCl cA sd_nw (wY ad cA) A s S H locs) (hl : lv_has ls 3 [(0, .ref (ad 0)), (1, .int v1), (2, .int v2)])  (hm : mX10_shift z v1 v2 S = some q) : W p l e rX10_shift s m args below meth c H locs 0 0 (MQ below (sd_Qi D vwCl (wY ad cA) A q) args s 0 0 A) (F0 m 0 ls []) := by
  unfold mX10_shift at hm
  have hx := C0.1
  have hb := C0.2.1
  refine lv_aload_n hx hb dX10_shift_0 rfl (lv_at hl 0 rfl) ?_
  refine lv_iload_n hx hb dX10_shift_1 rfl (lv_at hl 1 rfl) ?_
  obtain ⟨u1, hu1, hm⟩ := bs hm
  refine sd_Vi C0 h kYX10_isLine kmX10_53 0 (aY_0 ad cA _) rfl [.int v1] (tX10_isLine l D cA ad hu1) rfl hl.1 rfl (Nat.le_of_ble_eq_true rfl) (by decide) dX10_shift_2 (by decide) (fun H locs h => ?_)
  refine lv_if_eq (tgt := 19) hx hb dX10_shift_5 (by decide) (fun c2 => ?_) (fun c2 => ?_)
  · replace hm := ip c2 hm
    refine lv_iconst (v := 0) hx hb dX10_shift_19 (by decide) ?_
    exact sd_zret C0 h (Option.some.inj hm) rfl dX10_shift_20
  · replace hm := iq c2 hm
    refine lv_iload_n hx hb dX10_shift_8 rfl (lv_at hl 2 rfl) ?_
    refine lv_bipush (v := (-50)) hx hb dX10_shift_9 (by decide) ?_
    refine lv_bipush (v := 50) hx hb dX10_shift_11 (by decide) ?_
    obtain ⟨u3, hu3, hm⟩ := bs hm
    refine sd_Si C0 h kYX10_in kmX10_46 [.int v2, .int (-50), .int 50] (tX10_in l D cA ad hu3) rfl hl.1 rfl (Nat.le_of_ble_eq_true rfl) (by decide) dX10_shift_13 (by decide) (fun H locs h => ?_)
    refine lv_if_ne (tgt := 21) hx hb dX10_shift_16 (by decide) (fun c4 => ?_) (fun c4 => ?_)
    · replace hm := iq c4 hm
      refine lv_aload_n hx hb dX10_shift_21 rfl (lv_at hl 0 rfl) ?_
      obtain ⟨u5, hu5, hm⟩ := bs hm
      refine sd_Vv C0 h kYX10_acts kmX10_50 0 (aY_0 ad cA _) rfl [] (tX10_acts l D cA ad hu5) rfl hl.1 rfl (Nat.le_of_ble_eq_true rfl) (by decide) dX10_shift_22 (by decide) (fun H locs h => ?_)
      refine lv_aload_n hx hb dX10_shift_25 rfl (lv_at hl 0 rfl) ?_
      refine sd_get C0 h (C := RX10) (T := TX10) (N := 17) kcX10 0 (aY_0 ad cA _) rfl 0 (by decide) kfX10_7 (v := .ref (ad 1)) rfl dX10_shift_26 ?_
      refine lv_iconst (v := 4) hx hb dX10_shift_29 (by decide) ?_
      refine lv_iconst (v := 3) hx hb dX10_shift_30 (by decide) ?_
      refine lv_iload_n hx hb dX10_shift_31 rfl (lv_at hl 1 rfl) ?_
      refine lv_imul hx hb dX10_shift_32 ?_
      refine lv_iadd hx hb dX10_shift_33 ?_
      refine lv_iconst (v := 2) hx hb dX10_shift_34 (by decide) ?_
      refine lv_iadd hx hb dX10_shift_35 ?_
      refine lv_iload_n hx hb dX10_shift_36 rfl (lv_at hl 2 rfl) ?_
      obtain ⟨g6, hg6, hm⟩ := bs hm
      refine sd_wr C0 h (S1 := (sA u5 0 g6)) 1 (aY_1 ad cA _) hg6 (eY_1 ad cA _ _) dX10_shift_37 (fun H locs h => ?_)
      refine lv_iconst (v := 1) hx hb dX10_shift_38 (by decide) ?_
      exact sd_zret C0 h (Option.some.inj hm) rfl dX10_shift_39
    · replace hm := ip c4 hm
      refine lv_iconst (v := 0) hx hb dX10_shift_19 (by decide) ?_
      exact sd_zret C0 h (Option.some.inj hm) rfl dX10_shift_20
theorem tX10_shift (l : Launch) (D : va_G) (cA : ClassId) (ad : Nat → Nat) {z : Nat} {S : St} {v1 : Int32} {v2 : Int32} {q : (Int32 × St)} (hm : mX10_shift z v1 v2 S = some q) : sd_MI l D vwCl cA sd_nw (wY ad cA) yX10_shift (Cond.code yX10_shift cX10_shift 3 (some .boolean) :: sd_big) rX10_shift [.ref (ad 0), .int v1, .int v2] S q :=
  sd_ofI (by decide +kernel) (Nat.le_of_ble_eq_true rfl) (fun _ _ _ _ _ _ _ _ _ _ C0 h hl => bX10_shift C0 h (lv_sub hl [0, 1, 2] rfl) hm)

def rX10_isPlace : Room := { frames := 1, cells := 0, slots := 0, locals := 22 }
def mX10_isPlace (S : St) (v1 : Int32) (v2 : Int32) : Option Int32 :=
  (mX10_in S v1 0 255).bind fun u1 =>
  if u1 = 0 then
    some 0
  else
    (mX10_in S v2 0 255).bind fun u3 =>
    if u3 = 0 then
      some 0
    else
      some 1
set_option maxHeartbeats 4000000 in
set_option maxRecDepth 100000 in
theorem bX10_isPlace {p : Program} {l : Launch} {e : Env} {s : State} {m : MethodId} {args : Array Value} {below : List Frame} {meth : Method} {c : Code} {D : va_G} {cA : ClassId} {ad : Nat → Nat} {A : Nat → Prop} {H : Heap} {locs : List Loc} {ls : Array Slot} {q : Int32} {S : St} {v1 : Int32} {v2 : Int32} (C0 : sd_Cx RX10 cX10_isPlace 3 (some .boolean) (Cond.code yX10_isPlace cX10_isPlace 3 (some .boolean) :: sd_big) p s m args meth c) (h : sd_Wd D vwCl cA sd_nw (wY ad cA) A s S H locs) (hl : lv_has ls 3 [(1, .int v1), (2, .int v2)])  (hm : mX10_isPlace S v1 v2 = some q) : W p l e rX10_isPlace s m args below meth c H locs 0 0 (MQ below (sd_Qi D vwCl (wY ad cA) A (q, S)) args s 0 0 A) (F0 m 0 ls []) := by
  unfold mX10_isPlace at hm
  have hx := C0.1
  have hb := C0.2.1
  refine lv_iload_n hx hb dX10_isPlace_0 rfl (lv_at hl 0 rfl) ?_
  refine lv_iconst (v := 0) hx hb dX10_isPlace_1 (by decide) ?_
  refine lv_sipush (v := 255) hx hb dX10_isPlace_2 (by decide) ?_
  obtain ⟨u1, hu1, hm⟩ := bs hm
  refine sd_Si C0 h kYX10_in kmX10_46 [.int v1, .int 0, .int 255] (tX10_in l D cA ad hu1) rfl hl.1 rfl (Nat.le_of_ble_eq_true rfl) (by decide) dX10_isPlace_5 (by decide) (fun H locs h => ?_)
  refine lv_if_eq (tgt := 26) hx hb dX10_isPlace_8 (by decide) (fun c2 => ?_) (fun c2 => ?_)
  · replace hm := ip c2 hm
    refine lv_iconst (v := 0) hx hb dX10_isPlace_26 (by decide) ?_
    exact sd_zret C0 h (congrArg (fun x => (x, S)) (Option.some.inj hm)) rfl dX10_isPlace_27
  · replace hm := iq c2 hm
    refine lv_iload_n hx hb dX10_isPlace_11 rfl (lv_at hl 1 rfl) ?_
    refine lv_iconst (v := 0) hx hb dX10_isPlace_12 (by decide) ?_
    refine lv_sipush (v := 255) hx hb dX10_isPlace_13 (by decide) ?_
    obtain ⟨u3, hu3, hm⟩ := bs hm
    refine sd_Si C0 h kYX10_in kmX10_46 [.int v2, .int 0, .int 255] (tX10_in l D cA ad hu3) rfl hl.1 rfl (Nat.le_of_ble_eq_true rfl) (by decide) dX10_isPlace_16 (by decide) (fun H locs h => ?_)
    refine lv_if_eq (tgt := 26) hx hb dX10_isPlace_19 (by decide) (fun c4 => ?_) (fun c4 => ?_)
    · replace hm := ip c4 hm
      refine lv_iconst (v := 0) hx hb dX10_isPlace_26 (by decide) ?_
      exact sd_zret C0 h (congrArg (fun x => (x, S)) (Option.some.inj hm)) rfl dX10_isPlace_27
    · replace hm := iq c4 hm
      refine lv_iconst (v := 1) hx hb dX10_isPlace_22 (by decide) ?_
      refine lv_goto (tgt := 27) hx hb dX10_isPlace_23 (by decide) ?_
      exact sd_zret C0 h (congrArg (fun x => (x, S)) (Option.some.inj hm)) rfl dX10_isPlace_27
theorem tX10_isPlace (l : Launch) (D : va_G) (cA : ClassId) (ad : Nat → Nat) {S : St} {v1 : Int32} {v2 : Int32} {q : Int32} (hm : mX10_isPlace S v1 v2 = some q) : sd_MI l D vwCl cA sd_nw (wY ad cA) yX10_isPlace (Cond.code yX10_isPlace cX10_isPlace 3 (some .boolean) :: sd_big) rX10_isPlace [.ref (ad 0), .int v1, .int v2] S (q, S) :=
  sd_ofI (by decide +kernel) (Nat.le_of_ble_eq_true rfl) (fun _ _ _ _ _ _ _ _ _ _ C0 h hl => bX10_isPlace C0 h (lv_sub hl [1, 2] rfl) hm)

def rX10_mayBe : Room := { frames := 2, cells := 0, slots := 0, locals := 44 }
def mX10_mayBe (S : St) (v1 : Int32) (v2 : Int32) (v3 : Int32) (v4 : Int32) : Option Int32 :=
  (mX10_isLine S v1).bind fun u1 =>
  if u1 = 0 then
    some 0
  else
    (mX10_in S v2 0 1439).bind fun u3 =>
    if u3 = 0 then
      some 0
    else
      (mX10_isPlace S v3 v4).bind fun u5 =>
      if u5 = 0 then
        some 0
      else
        (rd (fA S 0) 4564 1).bind fun x7 =>
        if 200 ≤ x7 then
          some 0
        else
          some 1
set_option maxHeartbeats 4000000 in
set_option maxRecDepth 100000 in
theorem bX10_mayBe {p : Program} {l : Launch} {e : Env} {s : State} {m : MethodId} {args : Array Value} {below : List Frame} {meth : Method} {c : Code} {D : va_G} {cA : ClassId} {ad : Nat → Nat} {A : Nat → Prop} {H : Heap} {locs : List Loc} {ls : Array Slot} {q : Int32} {S : St} {v1 : Int32} {v2 : Int32} {v3 : Int32} {v4 : Int32} (C0 : sd_Cx RX10 cX10_mayBe 5 (some .boolean) (Cond.code yX10_mayBe cX10_mayBe 5 (some .boolean) :: sd_big) p s m args meth c) (h : sd_Wd D vwCl cA sd_nw (wY ad cA) A s S H locs) (hl : lv_has ls 5 [(0, .ref (ad 0)), (1, .int v1), (2, .int v2), (3, .int v3), (4, .int v4)])  (hm : mX10_mayBe S v1 v2 v3 v4 = some q) : W p l e rX10_mayBe s m args below meth c H locs 0 0 (MQ below (sd_Qi D vwCl (wY ad cA) A (q, S)) args s 0 0 A) (F0 m 0 ls []) := by
  unfold mX10_mayBe at hm
  have hx := C0.1
  have hb := C0.2.1
  refine lv_aload_n hx hb dX10_mayBe_0 rfl (lv_at hl 0 rfl) ?_
  refine lv_iload_n hx hb dX10_mayBe_1 rfl (lv_at hl 1 rfl) ?_
  obtain ⟨u1, hu1, hm⟩ := bs hm
  refine sd_Vi C0 h kYX10_isLine kmX10_53 0 (aY_0 ad cA _) rfl [.int v1] (tX10_isLine l D cA ad hu1) rfl hl.1 rfl (Nat.le_of_ble_eq_true rfl) (by decide) dX10_mayBe_2 (by decide) (fun H locs h => ?_)
  refine lv_if_eq (tgt := 45) hx hb dX10_mayBe_5 (by decide) (fun c2 => ?_) (fun c2 => ?_)
  · replace hm := ip c2 hm
    refine lv_iconst (v := 0) hx hb dX10_mayBe_45 (by decide) ?_
    exact sd_zret C0 h (congrArg (fun x => (x, S)) (Option.some.inj hm)) rfl dX10_mayBe_46
  · replace hm := iq c2 hm
    refine lv_iload_n hx hb dX10_mayBe_8 rfl (lv_at hl 2 rfl) ?_
    refine lv_iconst (v := 0) hx hb dX10_mayBe_9 (by decide) ?_
    refine lv_sipush (v := 1439) hx hb dX10_mayBe_10 (by decide) ?_
    obtain ⟨u3, hu3, hm⟩ := bs hm
    refine sd_Si C0 h kYX10_in kmX10_46 [.int v2, .int 0, .int 1439] (tX10_in l D cA ad hu3) rfl hl.1 rfl (Nat.le_of_ble_eq_true rfl) (by decide) dX10_mayBe_13 (by decide) (fun H locs h => ?_)
    refine lv_if_eq (tgt := 45) hx hb dX10_mayBe_16 (by decide) (fun c4 => ?_) (fun c4 => ?_)
    · replace hm := ip c4 hm
      refine lv_iconst (v := 0) hx hb dX10_mayBe_45 (by decide) ?_
      exact sd_zret C0 h (congrArg (fun x => (x, S)) (Option.some.inj hm)) rfl dX10_mayBe_46
    · replace hm := iq c4 hm
      refine lv_aload_n hx hb dX10_mayBe_19 rfl (lv_at hl 0 rfl) ?_
      refine lv_iload_n hx hb dX10_mayBe_20 rfl (lv_at hl 3 rfl) ?_
      refine lv_iload hx hb dX10_mayBe_21 (lv_at hl 4 rfl) ?_
      obtain ⟨u5, hu5, hm⟩ := bs hm
      refine sd_Vi C0 h kYX10_isPlace kmX10_72 0 (aY_0 ad cA _) rfl [.int v3, .int v4] (tX10_isPlace l D cA ad hu5) rfl hl.1 rfl (Nat.le_of_ble_eq_true rfl) (by decide) dX10_mayBe_23 (by decide) (fun H locs h => ?_)
      refine lv_if_eq (tgt := 45) hx hb dX10_mayBe_26 (by decide) (fun c6 => ?_) (fun c6 => ?_)
      · replace hm := ip c6 hm
        refine lv_iconst (v := 0) hx hb dX10_mayBe_45 (by decide) ?_
        exact sd_zret C0 h (congrArg (fun x => (x, S)) (Option.some.inj hm)) rfl dX10_mayBe_46
      · replace hm := iq c6 hm
        refine lv_aload_n hx hb dX10_mayBe_29 rfl (lv_at hl 0 rfl) ?_
        refine sd_get C0 h (C := RX10) (T := TX10) (N := 17) kcX10 0 (aY_0 ad cA _) rfl 0 (by decide) kfX10_7 (v := .ref (ad 1)) rfl dX10_mayBe_30 ?_
        refine lv_iconst (v := 1) hx hb dX10_mayBe_33 (by decide) ?_
        obtain ⟨x7, hx7, hm⟩ := bs hm
        refine sd_rd C0 h 1 (aY_1 ad cA _) hx7 dX10_mayBe_34 ?_
        refine lv_sipush (v := 200) hx hb dX10_mayBe_35 (by decide) ?_
        refine lv_icmp_ge (tgt := 45) hx hb dX10_mayBe_38 (by decide) (fun c8 => ?_) (fun c8 => ?_)
        · replace hm := ip c8 hm
          refine lv_iconst (v := 0) hx hb dX10_mayBe_45 (by decide) ?_
          exact sd_zret C0 h (congrArg (fun x => (x, S)) (Option.some.inj hm)) rfl dX10_mayBe_46
        · replace hm := iq c8 hm
          refine lv_iconst (v := 1) hx hb dX10_mayBe_41 (by decide) ?_
          refine lv_goto (tgt := 46) hx hb dX10_mayBe_42 (by decide) ?_
          exact sd_zret C0 h (congrArg (fun x => (x, S)) (Option.some.inj hm)) rfl dX10_mayBe_46
theorem tX10_mayBe (l : Launch) (D : va_G) (cA : ClassId) (ad : Nat → Nat) {S : St} {v1 : Int32} {v2 : Int32} {v3 : Int32} {v4 : Int32} {q : Int32} (hm : mX10_mayBe S v1 v2 v3 v4 = some q) : sd_MI l D vwCl cA sd_nw (wY ad cA) yX10_mayBe (Cond.code yX10_mayBe cX10_mayBe 5 (some .boolean) :: sd_big) rX10_mayBe [.ref (ad 0), .int v1, .int v2, .int v3, .int v4] S (q, S) :=
  sd_ofI (by decide +kernel) (Nat.le_of_ble_eq_true rfl) (fun _ _ _ _ _ _ _ _ _ _ C0 h hl => bX10_mayBe C0 h (lv_sub hl [0, 1, 2, 3, 4] rfl) hm)

def rX10_lineOf : Room := { frames := 0, cells := 0, slots := 0, locals := 0 }
def mX10_lineOf (S : St) (v1 : Int32) (v2 : Int32) : Option Int32 :=
  (rd (fA S 0) 4564 ((4 + (3 * v1)) + v2)).bind fun x1 =>
  some x1
set_option maxHeartbeats 4000000 in
set_option maxRecDepth 100000 in
theorem bX10_lineOf {p : Program} {l : Launch} {e : Env} {s : State} {m : MethodId} {args : Array Value} {below : List Frame} {meth : Method} {c : Code} {D : va_G} {cA : ClassId} {ad : Nat → Nat} {A : Nat → Prop} {H : Heap} {locs : List Loc} {ls : Array Slot} {q : Int32} {S : St} {v1 : Int32} {v2 : Int32} (C0 : sd_Cx RX10 cX10_lineOf 3 (some .int) (Cond.code yX10_lineOf cX10_lineOf 3 (some .int) :: sd_big) p s m args meth c) (h : sd_Wd D vwCl cA sd_nw (wY ad cA) A s S H locs) (hl : lv_has ls 3 [(0, .ref (ad 0)), (1, .int v1), (2, .int v2)])  (hm : mX10_lineOf S v1 v2 = some q) : W p l e rX10_lineOf s m args below meth c H locs 0 0 (MQ below (sd_Qi D vwCl (wY ad cA) A (q, S)) args s 0 0 A) (F0 m 0 ls []) := by
  unfold mX10_lineOf at hm
  have hx := C0.1
  have hb := C0.2.1
  refine lv_aload_n hx hb dX10_lineOf_0 rfl (lv_at hl 0 rfl) ?_
  refine sd_get C0 h (C := RX10) (T := TX10) (N := 17) kcX10 0 (aY_0 ad cA _) rfl 0 (by decide) kfX10_7 (v := .ref (ad 1)) rfl dX10_lineOf_1 ?_
  refine lv_iconst (v := 4) hx hb dX10_lineOf_4 (by decide) ?_
  refine lv_iconst (v := 3) hx hb dX10_lineOf_5 (by decide) ?_
  refine lv_iload_n hx hb dX10_lineOf_6 rfl (lv_at hl 1 rfl) ?_
  refine lv_imul hx hb dX10_lineOf_7 ?_
  refine lv_iadd hx hb dX10_lineOf_8 ?_
  refine lv_iload_n hx hb dX10_lineOf_9 rfl (lv_at hl 2 rfl) ?_
  refine lv_iadd hx hb dX10_lineOf_10 ?_
  obtain ⟨x1, hx1, hm⟩ := bs hm
  refine sd_rd C0 h 1 (aY_1 ad cA _) hx1 dX10_lineOf_11 ?_
  exact sd_iret C0 h (congrArg (fun x => (x, S)) (Option.some.inj hm)) dX10_lineOf_12
theorem tX10_lineOf (l : Launch) (D : va_G) (cA : ClassId) (ad : Nat → Nat) {S : St} {v1 : Int32} {v2 : Int32} {q : Int32} (hm : mX10_lineOf S v1 v2 = some q) : sd_MI l D vwCl cA sd_nw (wY ad cA) yX10_lineOf (Cond.code yX10_lineOf cX10_lineOf 3 (some .int) :: sd_big) rX10_lineOf [.ref (ad 0), .int v1, .int v2] S (q, S) :=
  sd_ofI (by decide +kernel) (Nat.le_of_ble_eq_true rfl) (fun _ _ _ _ _ _ _ _ _ _ C0 h hl => bX10_lineOf C0 h (lv_sub hl [0, 1, 2] rfl) hm)

def rX10_add : Room := { frames := 1, cells := 0, slots := 0, locals := 21 }
def mX10_add (z : Nat) (v1 : Int32) (v2 : Int32) (v3 : Int32) (v4 : Int32) (v5 : Int32) (v6 : Int32) (v7 : Int32) (v8 : Int32) (v9 : Int32) (S : St) : Option (Int32 × St) :=
  (mX10_acts z S).bind fun u1 =>
  (rd (fA u1 0) 4564 1).bind fun x2 =>
  (wr (fA u1 0) 4564 (2564 + (10 * x2)) v1).bind fun g3 =>
  (wr (fA (sA u1 0 g3) 0) 4564 ((2564 + (10 * x2)) + 1) v2).bind fun g4 =>
  (wr (fA (sA (sA u1 0 g3) 0 g4) 0) 4564 ((2564 + (10 * x2)) + 2) v3).bind fun g5 =>
  (wr (fA (sA (sA (sA u1 0 g3) 0 g4) 0 g5) 0) 4564 ((2564 + (10 * x2)) + 3) v4).bind fun g6 =>
  (wr (fA (sA (sA (sA (sA u1 0 g3) 0 g4) 0 g5) 0 g6) 0) 4564 ((2564 + (10 * x2)) + 4) v5).bind fun g7 =>
  (wr (fA (sA (sA (sA (sA (sA u1 0 g3) 0 g4) 0 g5) 0 g6) 0 g7) 0) 4564 ((2564 + (10 * x2)) + 5) v6).bind fun g8 =>
  (wr (fA (sA (sA (sA (sA (sA (sA u1 0 g3) 0 g4) 0 g5) 0 g6) 0 g7) 0 g8) 0) 4564 ((2564 + (10 * x2)) + 6) v7).bind fun g9 =>
  (wr (fA (sA (sA (sA (sA (sA (sA (sA u1 0 g3) 0 g4) 0 g5) 0 g6) 0 g7) 0 g8) 0 g9) 0) 4564 ((2564 + (10 * x2)) + 7) 100).bind fun g10 =>
  (wr (fA (sA (sA (sA (sA (sA (sA (sA (sA u1 0 g3) 0 g4) 0 g5) 0 g6) 0 g7) 0 g8) 0 g9) 0 g10) 0) 4564 ((2564 + (10 * x2)) + 8) v8).bind fun g11 =>
  (wr (fA (sA (sA (sA (sA (sA (sA (sA (sA (sA u1 0 g3) 0 g4) 0 g5) 0 g6) 0 g7) 0 g8) 0 g9) 0 g10) 0 g11) 0) 4564 ((2564 + (10 * x2)) + 9) v9).bind fun g12 =>
  (rd (fA (sA (sA (sA (sA (sA (sA (sA (sA (sA (sA u1 0 g3) 0 g4) 0 g5) 0 g6) 0 g7) 0 g8) 0 g9) 0 g10) 0 g11) 0 g12) 0) 4564 1).bind fun x13 =>
  (wr (fA (sA (sA (sA (sA (sA (sA (sA (sA (sA (sA u1 0 g3) 0 g4) 0 g5) 0 g6) 0 g7) 0 g8) 0 g9) 0 g10) 0 g11) 0 g12) 0) 4564 1 (x13 + 1)).bind fun g14 =>
  some (x2, (sA (sA (sA (sA (sA (sA (sA (sA (sA (sA (sA u1 0 g3) 0 g4) 0 g5) 0 g6) 0 g7) 0 g8) 0 g9) 0 g10) 0 g11) 0 g12) 0 g14))
set_option maxHeartbeats 4000000 in
set_option maxRecDepth 100000 in
theorem bX10_add {p : Program} {l : Launch} {e : Env} {s : State} {m : MethodId} {args : Array Value} {below : List Frame} {meth : Method} {c : Code} {D : va_G} {cA : ClassId} {ad : Nat → Nat} {A : Nat → Prop} {H : Heap} {locs : List Loc} {ls : Array Slot} {q : (Int32 × St)} {z : Nat} {v1 : Int32} {v2 : Int32} {v3 : Int32} {v4 : Int32} {v5 : Int32} {v6 : Int32} {v7 : Int32} {v8 : Int32} {v9 : Int32} {S : St} (C0 : sd_Cx RX10 cX10_add 12 (some .int) (Cond.code yX10_add cX10_add 12 (some .int) :: sd_big) p s m args meth c) (h : sd_Wd D vwCl cA sd_nw (wY ad cA) A s S H locs) (hl : lv_has ls 12 [(0, .ref (ad 0)), (1, .int v1), (2, .int v2), (3, .int v3), (4, .int v4), (5, .int v5), (6, .int v6), (7, .int v7), (8, .int v8), (9, .int v9)])  (hm : mX10_add z v1 v2 v3 v4 v5 v6 v7 v8 v9 S = some q) : W p l e rX10_add s m args below meth c H locs 0 0 (MQ below (sd_Qi D vwCl (wY ad cA) A q) args s 0 0 A) (F0 m 0 ls []) := by
  unfold mX10_add at hm
  have hx := C0.1
  have hb := C0.2.1
  refine lv_aload_n hx hb dX10_add_0 rfl (lv_at hl 0 rfl) ?_
  obtain ⟨u1, hu1, hm⟩ := bs hm
  refine sd_Vv C0 h kYX10_acts kmX10_50 0 (aY_0 ad cA _) rfl [] (tX10_acts l D cA ad hu1) rfl hl.1 rfl (Nat.le_of_ble_eq_true rfl) (by decide) dX10_add_1 (by decide) (fun H locs h => ?_)
  refine lv_aload_n hx hb dX10_add_4 rfl (lv_at hl 0 rfl) ?_
  refine sd_get C0 h (C := RX10) (T := TX10) (N := 17) kcX10 0 (aY_0 ad cA _) rfl 0 (by decide) kfX10_7 (v := .ref (ad 1)) rfl dX10_add_5 ?_
  refine lv_iconst (v := 1) hx hb dX10_add_8 (by decide) ?_
  obtain ⟨x2, hx2, hm⟩ := bs hm
  refine sd_rd C0 h 1 (aY_1 ad cA _) hx2 dX10_add_9 ?_
  refine lv_istore (lv' := [(10, .int x2), (0, .ref (ad 0)), (1, .int v1), (2, .int v2), (3, .int v3), (4, .int v4), (5, .int v5), (6, .int v6), (7, .int v7), (8, .int v8), (9, .int v9)]) hx hb dX10_add_10 hl (by decide) rfl (fun ls hl => ?_)
  refine lv_sipush (v := 2564) hx hb dX10_add_12 (by decide) ?_
  refine lv_bipush (v := 10) hx hb dX10_add_15 (by decide) ?_
  refine lv_iload hx hb dX10_add_17 (lv_at hl 0 rfl) ?_
  refine lv_imul hx hb dX10_add_19 ?_
  refine lv_iadd hx hb dX10_add_20 ?_
  refine lv_istore (lv' := [(11, .int (2564 + (10 * x2))), (10, .int x2), (0, .ref (ad 0)), (1, .int v1), (2, .int v2), (3, .int v3), (4, .int v4), (5, .int v5), (6, .int v6), (7, .int v7), (8, .int v8), (9, .int v9)]) hx hb dX10_add_21 hl (by decide) rfl (fun ls hl => ?_)
  refine lv_aload_n hx hb dX10_add_23 rfl (lv_at hl 2 rfl) ?_
  refine sd_get C0 h (C := RX10) (T := TX10) (N := 17) kcX10 0 (aY_0 ad cA _) rfl 0 (by decide) kfX10_7 (v := .ref (ad 1)) rfl dX10_add_24 ?_
  refine lv_iload hx hb dX10_add_27 (lv_at hl 0 rfl) ?_
  refine lv_iload_n hx hb dX10_add_29 rfl (lv_at hl 3 rfl) ?_
  obtain ⟨g3, hg3, hm⟩ := bs hm
  refine sd_wr C0 h (S1 := (sA u1 0 g3)) 1 (aY_1 ad cA _) hg3 (eY_1 ad cA _ _) dX10_add_30 (fun H locs h => ?_)
  refine lv_aload_n hx hb dX10_add_31 rfl (lv_at hl 2 rfl) ?_
  refine sd_get C0 h (C := RX10) (T := TX10) (N := 17) kcX10 0 (aY_0 ad cA _) rfl 0 (by decide) kfX10_7 (v := .ref (ad 1)) rfl dX10_add_32 ?_
  refine lv_iload hx hb dX10_add_35 (lv_at hl 0 rfl) ?_
  refine lv_iconst (v := 1) hx hb dX10_add_37 (by decide) ?_
  refine lv_iadd hx hb dX10_add_38 ?_
  refine lv_iload_n hx hb dX10_add_39 rfl (lv_at hl 4 rfl) ?_
  obtain ⟨g4, hg4, hm⟩ := bs hm
  refine sd_wr C0 h (S1 := (sA (sA u1 0 g3) 0 g4)) 1 (aY_1 ad cA _) hg4 (eY_1 ad cA _ _) dX10_add_40 (fun H locs h => ?_)
  refine lv_aload_n hx hb dX10_add_41 rfl (lv_at hl 2 rfl) ?_
  refine sd_get C0 h (C := RX10) (T := TX10) (N := 17) kcX10 0 (aY_0 ad cA _) rfl 0 (by decide) kfX10_7 (v := .ref (ad 1)) rfl dX10_add_42 ?_
  refine lv_iload hx hb dX10_add_45 (lv_at hl 0 rfl) ?_
  refine lv_iconst (v := 2) hx hb dX10_add_47 (by decide) ?_
  refine lv_iadd hx hb dX10_add_48 ?_
  refine lv_iload_n hx hb dX10_add_49 rfl (lv_at hl 5 rfl) ?_
  obtain ⟨g5, hg5, hm⟩ := bs hm
  refine sd_wr C0 h (S1 := (sA (sA (sA u1 0 g3) 0 g4) 0 g5)) 1 (aY_1 ad cA _) hg5 (eY_1 ad cA _ _) dX10_add_50 (fun H locs h => ?_)
  refine lv_aload_n hx hb dX10_add_51 rfl (lv_at hl 2 rfl) ?_
  refine sd_get C0 h (C := RX10) (T := TX10) (N := 17) kcX10 0 (aY_0 ad cA _) rfl 0 (by decide) kfX10_7 (v := .ref (ad 1)) rfl dX10_add_52 ?_
  refine lv_iload hx hb dX10_add_55 (lv_at hl 0 rfl) ?_
  refine lv_iconst (v := 3) hx hb dX10_add_57 (by decide) ?_
  refine lv_iadd hx hb dX10_add_58 ?_
  refine lv_iload hx hb dX10_add_59 (lv_at hl 6 rfl) ?_
  obtain ⟨g6, hg6, hm⟩ := bs hm
  refine sd_wr C0 h (S1 := (sA (sA (sA (sA u1 0 g3) 0 g4) 0 g5) 0 g6)) 1 (aY_1 ad cA _) hg6 (eY_1 ad cA _ _) dX10_add_61 (fun H locs h => ?_)
  refine lv_aload_n hx hb dX10_add_62 rfl (lv_at hl 2 rfl) ?_
  refine sd_get C0 h (C := RX10) (T := TX10) (N := 17) kcX10 0 (aY_0 ad cA _) rfl 0 (by decide) kfX10_7 (v := .ref (ad 1)) rfl dX10_add_63 ?_
  refine lv_iload hx hb dX10_add_66 (lv_at hl 0 rfl) ?_
  refine lv_iconst (v := 4) hx hb dX10_add_68 (by decide) ?_
  refine lv_iadd hx hb dX10_add_69 ?_
  refine lv_iload hx hb dX10_add_70 (lv_at hl 7 rfl) ?_
  obtain ⟨g7, hg7, hm⟩ := bs hm
  refine sd_wr C0 h (S1 := (sA (sA (sA (sA (sA u1 0 g3) 0 g4) 0 g5) 0 g6) 0 g7)) 1 (aY_1 ad cA _) hg7 (eY_1 ad cA _ _) dX10_add_72 (fun H locs h => ?_)
  refine lv_aload_n hx hb dX10_add_73 rfl (lv_at hl 2 rfl) ?_
  refine sd_get C0 h (C := RX10) (T := TX10) (N := 17) kcX10 0 (aY_0 ad cA _) rfl 0 (by decide) kfX10_7 (v := .ref (ad 1)) rfl dX10_add_74 ?_
  refine lv_iload hx hb dX10_add_77 (lv_at hl 0 rfl) ?_
  refine lv_iconst (v := 5) hx hb dX10_add_79 (by decide) ?_
  refine lv_iadd hx hb dX10_add_80 ?_
  refine lv_iload hx hb dX10_add_81 (lv_at hl 8 rfl) ?_
  obtain ⟨g8, hg8, hm⟩ := bs hm
  refine sd_wr C0 h (S1 := (sA (sA (sA (sA (sA (sA u1 0 g3) 0 g4) 0 g5) 0 g6) 0 g7) 0 g8)) 1 (aY_1 ad cA _) hg8 (eY_1 ad cA _ _) dX10_add_83 (fun H locs h => ?_)
  refine lv_aload_n hx hb dX10_add_84 rfl (lv_at hl 2 rfl) ?_
  refine sd_get C0 h (C := RX10) (T := TX10) (N := 17) kcX10 0 (aY_0 ad cA _) rfl 0 (by decide) kfX10_7 (v := .ref (ad 1)) rfl dX10_add_85 ?_
  refine lv_iload hx hb dX10_add_88 (lv_at hl 0 rfl) ?_
  refine lv_bipush (v := 6) hx hb dX10_add_90 (by decide) ?_
  refine lv_iadd hx hb dX10_add_92 ?_
  refine lv_iload hx hb dX10_add_93 (lv_at hl 9 rfl) ?_
  obtain ⟨g9, hg9, hm⟩ := bs hm
  refine sd_wr C0 h (S1 := (sA (sA (sA (sA (sA (sA (sA u1 0 g3) 0 g4) 0 g5) 0 g6) 0 g7) 0 g8) 0 g9)) 1 (aY_1 ad cA _) hg9 (eY_1 ad cA _ _) dX10_add_95 (fun H locs h => ?_)
  refine lv_aload_n hx hb dX10_add_96 rfl (lv_at hl 2 rfl) ?_
  refine sd_get C0 h (C := RX10) (T := TX10) (N := 17) kcX10 0 (aY_0 ad cA _) rfl 0 (by decide) kfX10_7 (v := .ref (ad 1)) rfl dX10_add_97 ?_
  refine lv_iload hx hb dX10_add_100 (lv_at hl 0 rfl) ?_
  refine lv_bipush (v := 7) hx hb dX10_add_102 (by decide) ?_
  refine lv_iadd hx hb dX10_add_104 ?_
  refine lv_bipush (v := 100) hx hb dX10_add_105 (by decide) ?_
  obtain ⟨g10, hg10, hm⟩ := bs hm
  refine sd_wr C0 h (S1 := (sA (sA (sA (sA (sA (sA (sA (sA u1 0 g3) 0 g4) 0 g5) 0 g6) 0 g7) 0 g8) 0 g9) 0 g10)) 1 (aY_1 ad cA _) hg10 (eY_1 ad cA _ _) dX10_add_107 (fun H locs h => ?_)
  refine lv_aload_n hx hb dX10_add_108 rfl (lv_at hl 2 rfl) ?_
  refine sd_get C0 h (C := RX10) (T := TX10) (N := 17) kcX10 0 (aY_0 ad cA _) rfl 0 (by decide) kfX10_7 (v := .ref (ad 1)) rfl dX10_add_109 ?_
  refine lv_iload hx hb dX10_add_112 (lv_at hl 0 rfl) ?_
  refine lv_bipush (v := 8) hx hb dX10_add_114 (by decide) ?_
  refine lv_iadd hx hb dX10_add_116 ?_
  refine lv_iload hx hb dX10_add_117 (lv_at hl 10 rfl) ?_
  obtain ⟨g11, hg11, hm⟩ := bs hm
  refine sd_wr C0 h (S1 := (sA (sA (sA (sA (sA (sA (sA (sA (sA u1 0 g3) 0 g4) 0 g5) 0 g6) 0 g7) 0 g8) 0 g9) 0 g10) 0 g11)) 1 (aY_1 ad cA _) hg11 (eY_1 ad cA _ _) dX10_add_119 (fun H locs h => ?_)
  refine lv_aload_n hx hb dX10_add_120 rfl (lv_at hl 2 rfl) ?_
  refine sd_get C0 h (C := RX10) (T := TX10) (N := 17) kcX10 0 (aY_0 ad cA _) rfl 0 (by decide) kfX10_7 (v := .ref (ad 1)) rfl dX10_add_121 ?_
  refine lv_iload hx hb dX10_add_124 (lv_at hl 0 rfl) ?_
  refine lv_bipush (v := 9) hx hb dX10_add_126 (by decide) ?_
  refine lv_iadd hx hb dX10_add_128 ?_
  refine lv_iload hx hb dX10_add_129 (lv_at hl 11 rfl) ?_
  obtain ⟨g12, hg12, hm⟩ := bs hm
  refine sd_wr C0 h (S1 := (sA (sA (sA (sA (sA (sA (sA (sA (sA (sA u1 0 g3) 0 g4) 0 g5) 0 g6) 0 g7) 0 g8) 0 g9) 0 g10) 0 g11) 0 g12)) 1 (aY_1 ad cA _) hg12 (eY_1 ad cA _ _) dX10_add_131 (fun H locs h => ?_)
  refine lv_aload_n hx hb dX10_add_132 rfl (lv_at hl 2 rfl) ?_
  refine sd_get C0 h (C := RX10) (T := TX10) (N := 17) kcX10 0 (aY_0 ad cA _) rfl 0 (by decide) kfX10_7 (v := .ref (ad 1)) rfl dX10_add_133 ?_
  refine lv_iconst (v := 1) hx hb dX10_add_136 (by decide) ?_
  refine lv_dup2_11 hx hb dX10_add_137 rfl rfl ?_
  obtain ⟨x13, hx13, hm⟩ := bs hm
  refine sd_rd C0 h 1 (aY_1 ad cA _) hx13 dX10_add_138 ?_
  refine lv_iconst (v := 1) hx hb dX10_add_139 (by decide) ?_
  refine lv_iadd hx hb dX10_add_140 ?_
  obtain ⟨g14, hg14, hm⟩ := bs hm
  refine sd_wr C0 h (S1 := (sA (sA (sA (sA (sA (sA (sA (sA (sA (sA (sA u1 0 g3) 0 g4) 0 g5) 0 g6) 0 g7) 0 g8) 0 g9) 0 g10) 0 g11) 0 g12) 0 g14)) 1 (aY_1 ad cA _) hg14 (eY_1 ad cA _ _) dX10_add_141 (fun H locs h => ?_)
  refine lv_iload hx hb dX10_add_142 (lv_at hl 1 rfl) ?_
  exact sd_iret C0 h (Option.some.inj hm) dX10_add_144
theorem tX10_add (l : Launch) (D : va_G) (cA : ClassId) (ad : Nat → Nat) {z : Nat} {S : St} {v1 : Int32} {v2 : Int32} {v3 : Int32} {v4 : Int32} {v5 : Int32} {v6 : Int32} {v7 : Int32} {v8 : Int32} {v9 : Int32} {q : (Int32 × St)} (hm : mX10_add z v1 v2 v3 v4 v5 v6 v7 v8 v9 S = some q) : sd_MI l D vwCl cA sd_nw (wY ad cA) yX10_add (Cond.code yX10_add cX10_add 12 (some .int) :: sd_big) rX10_add [.ref (ad 0), .int v1, .int v2, .int v3, .int v4, .int v5, .int v6, .int v7, .int v8, .int v9] S q :=
  sd_ofI (by decide +kernel) (Nat.le_of_ble_eq_true rfl) (fun _ _ _ _ _ _ _ _ _ _ C0 h hl => bX10_add C0 h (lv_sub hl [0, 1, 2, 3, 4, 5, 6, 7, 8, 9] rfl) hm)

def rX10_lead : Room := { frames := 3, cells := 0, slots := 0, locals := 68 }
def mX10_lead (z : Nat) (v1 : Int32) (v2 : Int32) (v3 : Int32) (v4 : Int32) (v5 : Int32) (S : St) : Option (Int32 × St) :=
  (mX10_mayBe S v1 v2 v3 v4).bind fun u1 =>
  if u1 = 0 then
    some ((-1), S)
  else
    (mX10_in S v5 0 9999).bind fun u3 =>
    if u3 = 0 then
      some ((-1), S)
    else
      (mX10_lineOf S v1 0).bind fun u5 =>
      (mX10_add z 0 v3 v4 v5 u5 v1 v2 1 1 S).bind fun u6 =>
      some (u6.1, u6.2)
set_option maxHeartbeats 4000000 in
set_option maxRecDepth 100000 in
theorem bX10_lead {p : Program} {l : Launch} {e : Env} {s : State} {m : MethodId} {args : Array Value} {below : List Frame} {meth : Method} {c : Code} {D : va_G} {cA : ClassId} {ad : Nat → Nat} {A : Nat → Prop} {H : Heap} {locs : List Loc} {ls : Array Slot} {q : (Int32 × St)} {z : Nat} {v1 : Int32} {v2 : Int32} {v3 : Int32} {v4 : Int32} {v5 : Int32} {S : St} (C0 : sd_Cx RX10 cX10_lead 6 (some .int) (Cond.code yX10_lead cX10_lead 6 (some .int) :: sd_big) p s m args meth c) (h : sd_Wd D vwCl cA sd_nw (wY ad cA) A s S H locs) (hl : lv_has ls 6 [(0, .ref (ad 0)), (1, .int v1), (2, .int v2), (3, .int v3), (4, .int v4), (5, .int v5)])  (hm : mX10_lead z v1 v2 v3 v4 v5 S = some q) : W p l e rX10_lead s m args below meth c H locs 0 0 (MQ below (sd_Qi D vwCl (wY ad cA) A q) args s 0 0 A) (F0 m 0 ls []) := by
  unfold mX10_lead at hm
  have hx := C0.1
  have hb := C0.2.1
  refine lv_aload_n hx hb dX10_lead_0 rfl (lv_at hl 0 rfl) ?_
  refine lv_iload_n hx hb dX10_lead_1 rfl (lv_at hl 1 rfl) ?_
  refine lv_iload_n hx hb dX10_lead_2 rfl (lv_at hl 2 rfl) ?_
  refine lv_iload_n hx hb dX10_lead_3 rfl (lv_at hl 3 rfl) ?_
  refine lv_iload hx hb dX10_lead_4 (lv_at hl 4 rfl) ?_
  obtain ⟨u1, hu1, hm⟩ := bs hm
  refine sd_Vi C0 h kYX10_mayBe kmX10_75 0 (aY_0 ad cA _) rfl [.int v1, .int v2, .int v3, .int v4] (tX10_mayBe l D cA ad hu1) rfl hl.1 rfl (Nat.le_of_ble_eq_true rfl) (by decide) dX10_lead_6 (by decide) (fun H locs h => ?_)
  refine lv_if_eq (tgt := 24) hx hb dX10_lead_9 (by decide) (fun c2 => ?_) (fun c2 => ?_)
  · replace hm := ip c2 hm
    refine lv_iconst (v := (-1)) hx hb dX10_lead_24 (by decide) ?_
    exact sd_iret C0 h (Option.some.inj hm) dX10_lead_25
  · replace hm := iq c2 hm
    refine lv_iload hx hb dX10_lead_12 (lv_at hl 5 rfl) ?_
    refine lv_iconst (v := 0) hx hb dX10_lead_14 (by decide) ?_
    refine lv_sipush (v := 9999) hx hb dX10_lead_15 (by decide) ?_
    obtain ⟨u3, hu3, hm⟩ := bs hm
    refine sd_Si C0 h kYX10_in kmX10_46 [.int v5, .int 0, .int 9999] (tX10_in l D cA ad hu3) rfl hl.1 rfl (Nat.le_of_ble_eq_true rfl) (by decide) dX10_lead_18 (by decide) (fun H locs h => ?_)
    refine lv_if_ne (tgt := 26) hx hb dX10_lead_21 (by decide) (fun c4 => ?_) (fun c4 => ?_)
    · replace hm := iq c4 hm
      refine lv_aload_n hx hb dX10_lead_26 rfl (lv_at hl 0 rfl) ?_
      refine lv_iconst (v := 0) hx hb dX10_lead_27 (by decide) ?_
      refine lv_iload_n hx hb dX10_lead_28 rfl (lv_at hl 3 rfl) ?_
      refine lv_iload hx hb dX10_lead_29 (lv_at hl 4 rfl) ?_
      refine lv_iload hx hb dX10_lead_31 (lv_at hl 5 rfl) ?_
      refine lv_aload_n hx hb dX10_lead_33 rfl (lv_at hl 0 rfl) ?_
      refine lv_iload_n hx hb dX10_lead_34 rfl (lv_at hl 1 rfl) ?_
      refine lv_iconst (v := 0) hx hb dX10_lead_35 (by decide) ?_
      obtain ⟨u5, hu5, hm⟩ := bs hm
      refine sd_Vi C0 h kYX10_lineOf kmX10_79 0 (aY_0 ad cA _) rfl [.int v1, .int 0] (tX10_lineOf l D cA ad hu5) rfl hl.1 rfl (Nat.le_of_ble_eq_true rfl) (by decide) dX10_lead_36 (by decide) (fun H locs h => ?_)
      refine lv_iload_n hx hb dX10_lead_39 rfl (lv_at hl 1 rfl) ?_
      refine lv_iload_n hx hb dX10_lead_40 rfl (lv_at hl 2 rfl) ?_
      refine lv_iconst (v := 1) hx hb dX10_lead_41 (by decide) ?_
      refine lv_iconst (v := 1) hx hb dX10_lead_42 (by decide) ?_
      obtain ⟨u6, hu6, hm⟩ := bs hm
      refine sd_Vi C0 h kYX10_add kmX10_83 0 (aY_0 ad cA _) rfl [.int 0, .int v3, .int v4, .int v5, .int u5, .int v1, .int v2, .int 1, .int 1] (tX10_add l D cA ad hu6) rfl hl.1 rfl (Nat.le_of_ble_eq_true rfl) (by decide) dX10_lead_43 (by decide) (fun H locs h => ?_)
      exact sd_iret C0 h (Option.some.inj hm) dX10_lead_46
    · replace hm := ip c4 hm
      refine lv_iconst (v := (-1)) hx hb dX10_lead_24 (by decide) ?_
      exact sd_iret C0 h (Option.some.inj hm) dX10_lead_25
theorem tX10_lead (l : Launch) (D : va_G) (cA : ClassId) (ad : Nat → Nat) {z : Nat} {S : St} {v1 : Int32} {v2 : Int32} {v3 : Int32} {v4 : Int32} {v5 : Int32} {q : (Int32 × St)} (hm : mX10_lead z v1 v2 v3 v4 v5 S = some q) : sd_MI l D vwCl cA sd_nw (wY ad cA) yX10_lead (Cond.code yX10_lead cX10_lead 6 (some .int) :: sd_big) rX10_lead [.ref (ad 0), .int v1, .int v2, .int v3, .int v4, .int v5] S q :=
  sd_ofI (by decide +kernel) (Nat.le_of_ble_eq_true rfl) (fun _ _ _ _ _ _ _ _ _ _ C0 h hl => bX10_lead C0 h (lv_sub hl [0, 1, 2, 3, 4, 5] rfl) hm)

def rX10_cut : Room := { frames := 0, cells := 0, slots := 0, locals := 0 }
def mX10_cut (S : St) (v0 : Int32) : Option Int32 :=
  if 127 ≤ (((v0.toUInt32 >>> ((23 : Int32).toUInt32 &&& Int32.toUInt32 31)).toInt32) &&& 255) then
    if v0 < 0 then
      some (-1)
    else
      if (((v0.toUInt32 >>> ((23 : Int32).toUInt32 &&& Int32.toUInt32 31)).toInt32) &&& 255) ≤ 150 then
        some (((v0 &&& 8388607) ||| 8388608) >>> ((150 - (((v0.toUInt32 >>> ((23 : Int32).toUInt32 &&& Int32.toUInt32 31)).toInt32) &&& 255)) &&& 31))
      else
        some (-1)
  else
    some 0
set_option maxHeartbeats 4000000 in
set_option maxRecDepth 100000 in
theorem bX10_cut {p : Program} {l : Launch} {e : Env} {s : State} {m : MethodId} {args : Array Value} {below : List Frame} {meth : Method} {c : Code} {D : va_G} {cA : ClassId} {ad : Nat → Nat} {A : Nat → Prop} {H : Heap} {locs : List Loc} {ls : Array Slot} {q : Int32} {S : St} {v0 : Int32} (C0 : sd_Cx RX10 cX10_cut 2 (some .int) (Cond.code yX10_cut cX10_cut 2 (some .int) :: sd_big) p s m args meth c) (h : sd_Wd D vwCl cA sd_nw (wY ad cA) A s S H locs) (hl : lv_has ls 2 [(0, .int v0)])  (hm : mX10_cut S v0 = some q) : W p l e rX10_cut s m args below meth c H locs 0 0 (MQ below (sd_Qi D vwCl (wY ad cA) A (q, S)) args s 0 0 A) (F0 m 0 ls []) := by
  unfold mX10_cut at hm
  have hx := C0.1
  have hb := C0.2.1
  refine lv_iload_n hx hb dX10_cut_0 rfl (lv_at hl 0 rfl) ?_
  refine lv_bipush (v := 23) hx hb dX10_cut_1 (by decide) ?_
  refine lv_iushr hx hb dX10_cut_3 (v := (v0.toUInt32 >>> ((23 : Int32).toUInt32 &&& Int32.toUInt32 31)).toInt32) rfl ?_
  refine lv_sipush (v := 255) hx hb dX10_cut_4 (by decide) ?_
  refine lv_iand hx hb dX10_cut_7 ?_
  refine lv_istore_n (lv' := [(1, .int (((v0.toUInt32 >>> ((23 : Int32).toUInt32 &&& Int32.toUInt32 31)).toInt32) &&& 255)), (0, .int v0)]) hx hb dX10_cut_8 rfl hl (by decide) rfl (fun ls hl => ?_)
  refine lv_iload_n hx hb dX10_cut_9 rfl (lv_at hl 0 rfl) ?_
  refine lv_bipush (v := 127) hx hb dX10_cut_10 (by decide) ?_
  refine lv_icmp_ge (tgt := 17) hx hb dX10_cut_12 (by decide) (fun c1 => ?_) (fun c1 => ?_)
  · replace hm := ip c1 hm
    refine lv_iload_n hx hb dX10_cut_17 rfl (lv_at hl 1 rfl) ?_
    refine lv_if_lt (tgt := 28) hx hb dX10_cut_18 (by decide) (fun c2 => ?_) (fun c2 => ?_)
    · replace hm := ip c2 hm
      refine lv_iconst (v := (-1)) hx hb dX10_cut_28 (by decide) ?_
      exact sd_iret C0 h (congrArg (fun x => (x, S)) (Option.some.inj hm)) dX10_cut_29
    · replace hm := iq c2 hm
      refine lv_iload_n hx hb dX10_cut_21 rfl (lv_at hl 0 rfl) ?_
      refine lv_sipush (v := 150) hx hb dX10_cut_22 (by decide) ?_
      refine lv_icmp_le (tgt := 30) hx hb dX10_cut_25 (by decide) (fun c3 => ?_) (fun c3 => ?_)
      · replace hm := ip c3 hm
        refine lv_iload_n hx hb dX10_cut_30 rfl (lv_at hl 1 rfl) ?_
        refine lv_ldc (v := 8388607) hx hb C0.2.2.2.1 (C0.2.2.2.2.1 _ (List.mem_cons_of_mem _ kkX10_87)) dX10_cut_31 ?_
        refine lv_iand hx hb dX10_cut_33 ?_
        refine lv_ldc (v := 8388608) hx hb C0.2.2.2.1 (C0.2.2.2.2.1 _ (List.mem_cons_of_mem _ kkX10_88)) dX10_cut_34 ?_
        refine lv_ior hx hb dX10_cut_36 ?_
        refine lv_sipush (v := 150) hx hb dX10_cut_37 (by decide) ?_
        refine lv_iload_n hx hb dX10_cut_40 rfl (lv_at hl 0 rfl) ?_
        refine lv_isub hx hb dX10_cut_41 ?_
        refine lv_ishr hx hb dX10_cut_42 ?_
        exact sd_iret C0 h (congrArg (fun x => (x, S)) (Option.some.inj hm)) dX10_cut_43
      · replace hm := iq c3 hm
        refine lv_iconst (v := (-1)) hx hb dX10_cut_28 (by decide) ?_
        exact sd_iret C0 h (congrArg (fun x => (x, S)) (Option.some.inj hm)) dX10_cut_29
  · replace hm := iq c1 hm
    refine lv_iconst (v := 0) hx hb dX10_cut_15 (by decide) ?_
    exact sd_iret C0 h (congrArg (fun x => (x, S)) (Option.some.inj hm)) dX10_cut_16
theorem tX10_cut (l : Launch) (D : va_G) (cA : ClassId) (ad : Nat → Nat) {S : St} {v0 : Int32} {q : Int32} (hm : mX10_cut S v0 = some q) : sd_MI l D vwCl cA sd_nw (wY ad cA) yX10_cut (Cond.code yX10_cut cX10_cut 2 (some .int) :: sd_big) rX10_cut [.int v0] S (q, S) :=
  sd_ofI (by decide +kernel) (Nat.le_of_ble_eq_true rfl) (fun _ _ _ _ _ _ _ _ _ _ C0 h hl => bX10_cut C0 h (lv_sub hl [0] rfl) hm)

def rX10_echo : Room := { frames := 3, cells := 0, slots := 0, locals := 68 }
def mX10_echo (z : Nat) (v1 : Int32) (v2 : Int32) (v3 : Int32) (v4 : Int32) (v5 : Int32) (S : St) : Option (Int32 × St) :=
  (mX10_cut S v5).bind fun u1 =>
  (mX10_mayBe S v1 v2 v3 v4).bind fun u2 =>
  if u2 = 0 then
    some ((-1), S)
  else
    (mX10_in S u1 0 19999).bind fun u4 =>
    if u4 = 0 then
      some ((-1), S)
    else
      (mX10_lineOf S v1 0).bind fun u6 =>
      (mX10_add z 1 v3 v4 u1 u6 v1 v2 1 1 S).bind fun u7 =>
      some (u7.1, u7.2)
set_option maxHeartbeats 4000000 in
set_option maxRecDepth 100000 in
theorem bX10_echo {p : Program} {l : Launch} {e : Env} {s : State} {m : MethodId} {args : Array Value} {below : List Frame} {meth : Method} {c : Code} {D : va_G} {cA : ClassId} {ad : Nat → Nat} {A : Nat → Prop} {H : Heap} {locs : List Loc} {ls : Array Slot} {q : (Int32 × St)} {z : Nat} {v1 : Int32} {v2 : Int32} {v3 : Int32} {v4 : Int32} {v5 : Int32} {S : St} (C0 : sd_Cx RX10 cX10_echo 7 (some .int) (Cond.code yX10_echo cX10_echo 7 (some .int) :: sd_big) p s m args meth c) (h : sd_Wd D vwCl cA sd_nw (wY ad cA) A s S H locs) (hl : lv_has ls 7 [(0, .ref (ad 0)), (1, .int v1), (2, .int v2), (3, .int v3), (4, .int v4), (5, .int v5)])  (hm : mX10_echo z v1 v2 v3 v4 v5 S = some q) : W p l e rX10_echo s m args below meth c H locs 0 0 (MQ below (sd_Qi D vwCl (wY ad cA) A q) args s 0 0 A) (F0 m 0 ls []) := by
  unfold mX10_echo at hm
  have hx := C0.1
  have hb := C0.2.1
  refine lv_iload hx hb dX10_echo_0 (lv_at hl 5 rfl) ?_
  obtain ⟨u1, hu1, hm⟩ := bs hm
  refine sd_Si C0 h kYX10_cut kmX10_89 [.int v5] (tX10_cut l D cA ad hu1) rfl hl.1 rfl (Nat.le_of_ble_eq_true rfl) (by decide) dX10_echo_2 (by decide) (fun H locs h => ?_)
  refine lv_istore (lv' := [(6, .int u1), (0, .ref (ad 0)), (1, .int v1), (2, .int v2), (3, .int v3), (4, .int v4), (5, .int v5)]) hx hb dX10_echo_5 hl (by decide) rfl (fun ls hl => ?_)
  refine lv_aload_n hx hb dX10_echo_7 rfl (lv_at hl 1 rfl) ?_
  refine lv_iload_n hx hb dX10_echo_8 rfl (lv_at hl 2 rfl) ?_
  refine lv_iload_n hx hb dX10_echo_9 rfl (lv_at hl 3 rfl) ?_
  refine lv_iload_n hx hb dX10_echo_10 rfl (lv_at hl 4 rfl) ?_
  refine lv_iload hx hb dX10_echo_11 (lv_at hl 5 rfl) ?_
  obtain ⟨u2, hu2, hm⟩ := bs hm
  refine sd_Vi C0 h kYX10_mayBe kmX10_75 0 (aY_0 ad cA _) rfl [.int v1, .int v2, .int v3, .int v4] (tX10_mayBe l D cA ad hu2) rfl hl.1 rfl (Nat.le_of_ble_eq_true rfl) (by decide) dX10_echo_13 (by decide) (fun H locs h => ?_)
  refine lv_if_eq (tgt := 31) hx hb dX10_echo_16 (by decide) (fun c3 => ?_) (fun c3 => ?_)
  · replace hm := ip c3 hm
    refine lv_iconst (v := (-1)) hx hb dX10_echo_31 (by decide) ?_
    exact sd_iret C0 h (Option.some.inj hm) dX10_echo_32
  · replace hm := iq c3 hm
    refine lv_iload hx hb dX10_echo_19 (lv_at hl 0 rfl) ?_
    refine lv_iconst (v := 0) hx hb dX10_echo_21 (by decide) ?_
    refine lv_sipush (v := 19999) hx hb dX10_echo_22 (by decide) ?_
    obtain ⟨u4, hu4, hm⟩ := bs hm
    refine sd_Si C0 h kYX10_in kmX10_46 [.int u1, .int 0, .int 19999] (tX10_in l D cA ad hu4) rfl hl.1 rfl (Nat.le_of_ble_eq_true rfl) (by decide) dX10_echo_25 (by decide) (fun H locs h => ?_)
    refine lv_if_ne (tgt := 33) hx hb dX10_echo_28 (by decide) (fun c5 => ?_) (fun c5 => ?_)
    · replace hm := iq c5 hm
      refine lv_aload_n hx hb dX10_echo_33 rfl (lv_at hl 1 rfl) ?_
      refine lv_iconst (v := 1) hx hb dX10_echo_34 (by decide) ?_
      refine lv_iload_n hx hb dX10_echo_35 rfl (lv_at hl 4 rfl) ?_
      refine lv_iload hx hb dX10_echo_36 (lv_at hl 5 rfl) ?_
      refine lv_iload hx hb dX10_echo_38 (lv_at hl 0 rfl) ?_
      refine lv_aload_n hx hb dX10_echo_40 rfl (lv_at hl 1 rfl) ?_
      refine lv_iload_n hx hb dX10_echo_41 rfl (lv_at hl 2 rfl) ?_
      refine lv_iconst (v := 0) hx hb dX10_echo_42 (by decide) ?_
      obtain ⟨u6, hu6, hm⟩ := bs hm
      refine sd_Vi C0 h kYX10_lineOf kmX10_79 0 (aY_0 ad cA _) rfl [.int v1, .int 0] (tX10_lineOf l D cA ad hu6) rfl hl.1 rfl (Nat.le_of_ble_eq_true rfl) (by decide) dX10_echo_43 (by decide) (fun H locs h => ?_)
      refine lv_iload_n hx hb dX10_echo_46 rfl (lv_at hl 2 rfl) ?_
      refine lv_iload_n hx hb dX10_echo_47 rfl (lv_at hl 3 rfl) ?_
      refine lv_iconst (v := 1) hx hb dX10_echo_48 (by decide) ?_
      refine lv_iconst (v := 1) hx hb dX10_echo_49 (by decide) ?_
      obtain ⟨u7, hu7, hm⟩ := bs hm
      refine sd_Vi C0 h kYX10_add kmX10_83 0 (aY_0 ad cA _) rfl [.int 1, .int v3, .int v4, .int u1, .int u6, .int v1, .int v2, .int 1, .int 1] (tX10_add l D cA ad hu7) rfl hl.1 rfl (Nat.le_of_ble_eq_true rfl) (by decide) dX10_echo_50 (by decide) (fun H locs h => ?_)
      exact sd_iret C0 h (Option.some.inj hm) dX10_echo_53
    · replace hm := ip c5 hm
      refine lv_iconst (v := (-1)) hx hb dX10_echo_31 (by decide) ?_
      exact sd_iret C0 h (Option.some.inj hm) dX10_echo_32
theorem tX10_echo (l : Launch) (D : va_G) (cA : ClassId) (ad : Nat → Nat) {z : Nat} {S : St} {v1 : Int32} {v2 : Int32} {v3 : Int32} {v4 : Int32} {v5 : Int32} {q : (Int32 × St)} (hm : mX10_echo z v1 v2 v3 v4 v5 S = some q) : sd_MI l D vwCl cA sd_nw (wY ad cA) yX10_echo (Cond.code yX10_echo cX10_echo 7 (some .int) :: sd_big) rX10_echo [.ref (ad 0), .int v1, .int v2, .int v3, .int v4, .int v5] S q :=
  sd_ofI (by decide +kernel) (Nat.le_of_ble_eq_true rfl) (fun _ _ _ _ _ _ _ _ _ _ C0 h hl => bX10_echo C0 h (lv_sub hl [0, 1, 2, 3, 4, 5] rfl) hm)

def rX10_sweep : Room := { frames := 3, cells := 0, slots := 0, locals := 68 }
def mX10_sweep (z : Nat) (v1 : Int32) (v2 : Int32) (v3 : Int32) (v4 : Int32) (v5 : Int32) (v6 : Int32) (v7 : Int32) (S : St) : Option (Int32 × St) :=
  (mX10_mayBe S v1 v2 v3 v4).bind fun u1 =>
  if u1 = 0 then
    some ((-1), S)
  else
    (mX10_in S v5 1 (256 - v3)).bind fun u3 =>
    if u3 = 0 then
      some ((-1), S)
    else
      (mX10_in S v6 1 (256 - v4)).bind fun u5 =>
      if u5 = 0 then
        some ((-1), S)
      else
        (mX10_in S v7 0 9999).bind fun u7 =>
        if u7 = 0 then
          some ((-1), S)
        else
          (mX10_lineOf S v1 0).bind fun u9 =>
          (mX10_add z 2 v3 v4 v7 u9 v1 v2 v5 v6 S).bind fun u10 =>
          some (u10.1, u10.2)
set_option maxHeartbeats 4000000 in
set_option maxRecDepth 100000 in
theorem bX10_sweep {p : Program} {l : Launch} {e : Env} {s : State} {m : MethodId} {args : Array Value} {below : List Frame} {meth : Method} {c : Code} {D : va_G} {cA : ClassId} {ad : Nat → Nat} {A : Nat → Prop} {H : Heap} {locs : List Loc} {ls : Array Slot} {q : (Int32 × St)} {z : Nat} {v1 : Int32} {v2 : Int32} {v3 : Int32} {v4 : Int32} {v5 : Int32} {v6 : Int32} {v7 : Int32} {S : St} (C0 : sd_Cx RX10 cX10_sweep 8 (some .int) (Cond.code yX10_sweep cX10_sweep 8 (some .int) :: sd_big) p s m args meth c) (h : sd_Wd D vwCl cA sd_nw (wY ad cA) A s S H locs) (hl : lv_has ls 8 [(0, .ref (ad 0)), (1, .int v1), (2, .int v2), (3, .int v3), (4, .int v4), (5, .int v5), (6, .int v6), (7, .int v7)])  (hm : mX10_sweep z v1 v2 v3 v4 v5 v6 v7 S = some q) : W p l e rX10_sweep s m args below meth c H locs 0 0 (MQ below (sd_Qi D vwCl (wY ad cA) A q) args s 0 0 A) (F0 m 0 ls []) := by
  unfold mX10_sweep at hm
  have hx := C0.1
  have hb := C0.2.1
  refine lv_aload_n hx hb dX10_sweep_0 rfl (lv_at hl 0 rfl) ?_
  refine lv_iload_n hx hb dX10_sweep_1 rfl (lv_at hl 1 rfl) ?_
  refine lv_iload_n hx hb dX10_sweep_2 rfl (lv_at hl 2 rfl) ?_
  refine lv_iload_n hx hb dX10_sweep_3 rfl (lv_at hl 3 rfl) ?_
  refine lv_iload hx hb dX10_sweep_4 (lv_at hl 4 rfl) ?_
  obtain ⟨u1, hu1, hm⟩ := bs hm
  refine sd_Vi C0 h kYX10_mayBe kmX10_75 0 (aY_0 ad cA _) rfl [.int v1, .int v2, .int v3, .int v4] (tX10_mayBe l D cA ad hu1) rfl hl.1 rfl (Nat.le_of_ble_eq_true rfl) (by decide) dX10_sweep_6 (by decide) (fun H locs h => ?_)
  refine lv_if_eq (tgt := 53) hx hb dX10_sweep_9 (by decide) (fun c2 => ?_) (fun c2 => ?_)
  · replace hm := ip c2 hm
    refine lv_iconst (v := (-1)) hx hb dX10_sweep_53 (by decide) ?_
    exact sd_iret C0 h (Option.some.inj hm) dX10_sweep_54
  · replace hm := iq c2 hm
    refine lv_iload hx hb dX10_sweep_12 (lv_at hl 5 rfl) ?_
    refine lv_iconst (v := 1) hx hb dX10_sweep_14 (by decide) ?_
    refine lv_sipush (v := 256) hx hb dX10_sweep_15 (by decide) ?_
    refine lv_iload_n hx hb dX10_sweep_18 rfl (lv_at hl 3 rfl) ?_
    refine lv_isub hx hb dX10_sweep_19 ?_
    obtain ⟨u3, hu3, hm⟩ := bs hm
    refine sd_Si C0 h kYX10_in kmX10_46 [.int v5, .int 1, .int (256 - v3)] (tX10_in l D cA ad hu3) rfl hl.1 rfl (Nat.le_of_ble_eq_true rfl) (by decide) dX10_sweep_20 (by decide) (fun H locs h => ?_)
    refine lv_if_eq (tgt := 53) hx hb dX10_sweep_23 (by decide) (fun c4 => ?_) (fun c4 => ?_)
    · replace hm := ip c4 hm
      refine lv_iconst (v := (-1)) hx hb dX10_sweep_53 (by decide) ?_
      exact sd_iret C0 h (Option.some.inj hm) dX10_sweep_54
    · replace hm := iq c4 hm
      refine lv_iload hx hb dX10_sweep_26 (lv_at hl 6 rfl) ?_
      refine lv_iconst (v := 1) hx hb dX10_sweep_28 (by decide) ?_
      refine lv_sipush (v := 256) hx hb dX10_sweep_29 (by decide) ?_
      refine lv_iload hx hb dX10_sweep_32 (lv_at hl 4 rfl) ?_
      refine lv_isub hx hb dX10_sweep_34 ?_
      obtain ⟨u5, hu5, hm⟩ := bs hm
      refine sd_Si C0 h kYX10_in kmX10_46 [.int v6, .int 1, .int (256 - v4)] (tX10_in l D cA ad hu5) rfl hl.1 rfl (Nat.le_of_ble_eq_true rfl) (by decide) dX10_sweep_35 (by decide) (fun H locs h => ?_)
      refine lv_if_eq (tgt := 53) hx hb dX10_sweep_38 (by decide) (fun c6 => ?_) (fun c6 => ?_)
      · replace hm := ip c6 hm
        refine lv_iconst (v := (-1)) hx hb dX10_sweep_53 (by decide) ?_
        exact sd_iret C0 h (Option.some.inj hm) dX10_sweep_54
      · replace hm := iq c6 hm
        refine lv_iload hx hb dX10_sweep_41 (lv_at hl 7 rfl) ?_
        refine lv_iconst (v := 0) hx hb dX10_sweep_43 (by decide) ?_
        refine lv_sipush (v := 9999) hx hb dX10_sweep_44 (by decide) ?_
        obtain ⟨u7, hu7, hm⟩ := bs hm
        refine sd_Si C0 h kYX10_in kmX10_46 [.int v7, .int 0, .int 9999] (tX10_in l D cA ad hu7) rfl hl.1 rfl (Nat.le_of_ble_eq_true rfl) (by decide) dX10_sweep_47 (by decide) (fun H locs h => ?_)
        refine lv_if_ne (tgt := 55) hx hb dX10_sweep_50 (by decide) (fun c8 => ?_) (fun c8 => ?_)
        · replace hm := iq c8 hm
          refine lv_aload_n hx hb dX10_sweep_55 rfl (lv_at hl 0 rfl) ?_
          refine lv_iconst (v := 2) hx hb dX10_sweep_56 (by decide) ?_
          refine lv_iload_n hx hb dX10_sweep_57 rfl (lv_at hl 3 rfl) ?_
          refine lv_iload hx hb dX10_sweep_58 (lv_at hl 4 rfl) ?_
          refine lv_iload hx hb dX10_sweep_60 (lv_at hl 7 rfl) ?_
          refine lv_aload_n hx hb dX10_sweep_62 rfl (lv_at hl 0 rfl) ?_
          refine lv_iload_n hx hb dX10_sweep_63 rfl (lv_at hl 1 rfl) ?_
          refine lv_iconst (v := 0) hx hb dX10_sweep_64 (by decide) ?_
          obtain ⟨u9, hu9, hm⟩ := bs hm
          refine sd_Vi C0 h kYX10_lineOf kmX10_79 0 (aY_0 ad cA _) rfl [.int v1, .int 0] (tX10_lineOf l D cA ad hu9) rfl hl.1 rfl (Nat.le_of_ble_eq_true rfl) (by decide) dX10_sweep_65 (by decide) (fun H locs h => ?_)
          refine lv_iload_n hx hb dX10_sweep_68 rfl (lv_at hl 1 rfl) ?_
          refine lv_iload_n hx hb dX10_sweep_69 rfl (lv_at hl 2 rfl) ?_
          refine lv_iload hx hb dX10_sweep_70 (lv_at hl 5 rfl) ?_
          refine lv_iload hx hb dX10_sweep_72 (lv_at hl 6 rfl) ?_
          obtain ⟨u10, hu10, hm⟩ := bs hm
          refine sd_Vi C0 h kYX10_add kmX10_83 0 (aY_0 ad cA _) rfl [.int 2, .int v3, .int v4, .int v7, .int u9, .int v1, .int v2, .int v5, .int v6] (tX10_add l D cA ad hu10) rfl hl.1 rfl (Nat.le_of_ble_eq_true rfl) (by decide) dX10_sweep_74 (by decide) (fun H locs h => ?_)
          exact sd_iret C0 h (Option.some.inj hm) dX10_sweep_77
        · replace hm := ip c8 hm
          refine lv_iconst (v := (-1)) hx hb dX10_sweep_53 (by decide) ?_
          exact sd_iret C0 h (Option.some.inj hm) dX10_sweep_54
theorem tX10_sweep (l : Launch) (D : va_G) (cA : ClassId) (ad : Nat → Nat) {z : Nat} {S : St} {v1 : Int32} {v2 : Int32} {v3 : Int32} {v4 : Int32} {v5 : Int32} {v6 : Int32} {v7 : Int32} {q : (Int32 × St)} (hm : mX10_sweep z v1 v2 v3 v4 v5 v6 v7 S = some q) : sd_MI l D vwCl cA sd_nw (wY ad cA) yX10_sweep (Cond.code yX10_sweep cX10_sweep 8 (some .int) :: sd_big) rX10_sweep [.ref (ad 0), .int v1, .int v2, .int v3, .int v4, .int v5, .int v6, .int v7] S q :=
  sd_ofI (by decide +kernel) (Nat.le_of_ble_eq_true rfl) (fun _ _ _ _ _ _ _ _ _ _ C0 h hl => bX10_sweep C0 h (lv_sub hl [0, 1, 2, 3, 4, 5, 6, 7] rfl) hm)

def rX10_notice : Room := { frames := 2, cells := 0, slots := 0, locals := 52 }
def mX10_notice_77 (z : Nat) (v1 : Int32) (v2 : Int32) (v3 : Int32) (v4 : Int32) (v5 : Int32) (S : St) : Option (Int32 × St) :=
  (mX10_add z v1 v3 v4 v5 v2 (-1) (-1) 1 1 S).bind fun u1 =>
  some (u1.1, u1.2)
set_option maxHeartbeats 4000000 in
set_option maxRecDepth 100000 in
theorem bX10_notice_77 {p : Program} {l : Launch} {e : Env} {s : State} {m : MethodId} {args : Array Value} {below : List Frame} {meth : Method} {c : Code} {D : va_G} {cA : ClassId} {ad : Nat → Nat} {A : Nat → Prop} {H : Heap} {locs : List Loc} {ls : Array Slot} {q : (Int32 × St)} {z : Nat} {v1 : Int32} {v2 : Int32} {v3 : Int32} {v4 : Int32} {v5 : Int32} {S : St} (C0 : sd_Cx RX10 cX10_notice 6 (some .int) (Cond.code yX10_notice cX10_notice 6 (some .int) :: sd_big) p s m args meth c) (h : sd_Wd D vwCl cA sd_nw (wY ad cA) A s S H locs) (hl : lv_has ls 6 [(0, .ref (ad 0)), (1, .int v1), (2, .int v2), (3, .int v3), (4, .int v4), (5, .int v5)])  (hm : mX10_notice_77 z v1 v2 v3 v4 v5 S = some q) : W p l e rX10_notice s m args below meth c H locs 0 0 (MQ below (sd_Qi D vwCl (wY ad cA) A q) args s 0 0 A) (F0 m 77 ls []) := by
  unfold mX10_notice_77 at hm
  have hx := C0.1
  have hb := C0.2.1
  refine lv_aload_n hx hb dX10_notice_77 rfl (lv_at hl 0 rfl) ?_
  refine lv_iload_n hx hb dX10_notice_78 rfl (lv_at hl 1 rfl) ?_
  refine lv_iload_n hx hb dX10_notice_79 rfl (lv_at hl 3 rfl) ?_
  refine lv_iload hx hb dX10_notice_80 (lv_at hl 4 rfl) ?_
  refine lv_iload hx hb dX10_notice_82 (lv_at hl 5 rfl) ?_
  refine lv_iload_n hx hb dX10_notice_84 rfl (lv_at hl 2 rfl) ?_
  refine lv_iconst (v := (-1)) hx hb dX10_notice_85 (by decide) ?_
  refine lv_iconst (v := (-1)) hx hb dX10_notice_86 (by decide) ?_
  refine lv_iconst (v := 1) hx hb dX10_notice_87 (by decide) ?_
  refine lv_iconst (v := 1) hx hb dX10_notice_88 (by decide) ?_
  obtain ⟨u1, hu1, hm⟩ := bs hm
  refine sd_Vi C0 h kYX10_add kmX10_83 0 (aY_0 ad cA _) rfl [.int v1, .int v3, .int v4, .int v5, .int v2, .int (-1), .int (-1), .int 1, .int 1] (tX10_add l D cA ad hu1) rfl hl.1 rfl (Nat.le_of_ble_eq_true rfl) (by decide) dX10_notice_89 (by decide) (fun H locs h => ?_)
  exact sd_iret C0 h (Option.some.inj hm) dX10_notice_92
def mX10_notice (z : Nat) (v1 : Int32) (v2 : Int32) (v3 : Int32) (v4 : Int32) (v5 : Int32) (S : St) : Option (Int32 × St) :=
  (mX10_in S v1 3 5).bind fun u1 =>
  if u1 = 0 then
    some ((-1), S)
  else
    (mX10_in S v2 0 99).bind fun u3 =>
    if u3 = 0 then
      some ((-1), S)
    else
      (mX10_isPlace S v3 v4).bind fun u5 =>
      if u5 = 0 then
        some ((-1), S)
      else
        (rd (fA S 0) 4564 1).bind fun x7 =>
        if x7 = 200 then
          some ((-1), S)
        else
          if v1 = 4 then
            (mX10_in S v5 (-200) (-1)).bind fun u12 =>
            if u12 = 0 then
              some ((-1), S)
            else
              mX10_notice_77 z v1 v2 v3 v4 v5 S
          else
            (mX10_in S v5 0 9999).bind fun u10 =>
            if u10 = 0 then
              some ((-1), S)
            else
              mX10_notice_77 z v1 v2 v3 v4 v5 S
set_option maxHeartbeats 4000000 in
set_option maxRecDepth 100000 in
theorem bX10_notice {p : Program} {l : Launch} {e : Env} {s : State} {m : MethodId} {args : Array Value} {below : List Frame} {meth : Method} {c : Code} {D : va_G} {cA : ClassId} {ad : Nat → Nat} {A : Nat → Prop} {H : Heap} {locs : List Loc} {ls : Array Slot} {q : (Int32 × St)} {z : Nat} {v1 : Int32} {v2 : Int32} {v3 : Int32} {v4 : Int32} {v5 : Int32} {S : St} (C0 : sd_Cx RX10 cX10_notice 6 (some .int) (Cond.code yX10_notice cX10_notice 6 (some .int) :: sd_big) p s m args meth c) (h : sd_Wd D vwCl cA sd_nw (wY ad cA) A s S H locs) (hl : lv_has ls 6 [(0, .ref (ad 0)), (1, .int v1), (2, .int v2), (3, .int v3), (4, .int v4), (5, .int v5)])  (hm : mX10_notice z v1 v2 v3 v4 v5 S = some q) : W p l e rX10_notice s m args below meth c H locs 0 0 (MQ below (sd_Qi D vwCl (wY ad cA) A q) args s 0 0 A) (F0 m 0 ls []) := by
  unfold mX10_notice at hm
  have hx := C0.1
  have hb := C0.2.1
  refine lv_iload_n hx hb dX10_notice_0 rfl (lv_at hl 1 rfl) ?_
  refine lv_iconst (v := 3) hx hb dX10_notice_1 (by decide) ?_
  refine lv_iconst (v := 5) hx hb dX10_notice_2 (by decide) ?_
  obtain ⟨u1, hu1, hm⟩ := bs hm
  refine sd_Si C0 h kYX10_in kmX10_46 [.int v1, .int 3, .int 5] (tX10_in l D cA ad hu1) rfl hl.1 rfl (Nat.le_of_ble_eq_true rfl) (by decide) dX10_notice_3 (by decide) (fun H locs h => ?_)
  refine lv_if_eq (tgt := 41) hx hb dX10_notice_6 (by decide) (fun c2 => ?_) (fun c2 => ?_)
  · replace hm := ip c2 hm
    refine lv_iconst (v := (-1)) hx hb dX10_notice_41 (by decide) ?_
    exact sd_iret C0 h (Option.some.inj hm) dX10_notice_42
  · replace hm := iq c2 hm
    refine lv_iload_n hx hb dX10_notice_9 rfl (lv_at hl 2 rfl) ?_
    refine lv_iconst (v := 0) hx hb dX10_notice_10 (by decide) ?_
    refine lv_bipush (v := 99) hx hb dX10_notice_11 (by decide) ?_
    obtain ⟨u3, hu3, hm⟩ := bs hm
    refine sd_Si C0 h kYX10_in kmX10_46 [.int v2, .int 0, .int 99] (tX10_in l D cA ad hu3) rfl hl.1 rfl (Nat.le_of_ble_eq_true rfl) (by decide) dX10_notice_13 (by decide) (fun H locs h => ?_)
    refine lv_if_eq (tgt := 41) hx hb dX10_notice_16 (by decide) (fun c4 => ?_) (fun c4 => ?_)
    · replace hm := ip c4 hm
      refine lv_iconst (v := (-1)) hx hb dX10_notice_41 (by decide) ?_
      exact sd_iret C0 h (Option.some.inj hm) dX10_notice_42
    · replace hm := iq c4 hm
      refine lv_aload_n hx hb dX10_notice_19 rfl (lv_at hl 0 rfl) ?_
      refine lv_iload_n hx hb dX10_notice_20 rfl (lv_at hl 3 rfl) ?_
      refine lv_iload hx hb dX10_notice_21 (lv_at hl 4 rfl) ?_
      obtain ⟨u5, hu5, hm⟩ := bs hm
      refine sd_Vi C0 h kYX10_isPlace kmX10_72 0 (aY_0 ad cA _) rfl [.int v3, .int v4] (tX10_isPlace l D cA ad hu5) rfl hl.1 rfl (Nat.le_of_ble_eq_true rfl) (by decide) dX10_notice_23 (by decide) (fun H locs h => ?_)
      refine lv_if_eq (tgt := 41) hx hb dX10_notice_26 (by decide) (fun c6 => ?_) (fun c6 => ?_)
      · replace hm := ip c6 hm
        refine lv_iconst (v := (-1)) hx hb dX10_notice_41 (by decide) ?_
        exact sd_iret C0 h (Option.some.inj hm) dX10_notice_42
      · replace hm := iq c6 hm
        refine lv_aload_n hx hb dX10_notice_29 rfl (lv_at hl 0 rfl) ?_
        refine sd_get C0 h (C := RX10) (T := TX10) (N := 17) kcX10 0 (aY_0 ad cA _) rfl 0 (by decide) kfX10_7 (v := .ref (ad 1)) rfl dX10_notice_30 ?_
        refine lv_iconst (v := 1) hx hb dX10_notice_33 (by decide) ?_
        obtain ⟨x7, hx7, hm⟩ := bs hm
        refine sd_rd C0 h 1 (aY_1 ad cA _) hx7 dX10_notice_34 ?_
        refine lv_sipush (v := 200) hx hb dX10_notice_35 (by decide) ?_
        refine lv_icmp_ne (tgt := 43) hx hb dX10_notice_38 (by decide) (fun c8 => ?_) (fun c8 => ?_)
        · replace hm := iq c8 hm
          refine lv_iload_n hx hb dX10_notice_43 rfl (lv_at hl 1 rfl) ?_
          refine lv_iconst (v := 4) hx hb dX10_notice_44 (by decide) ?_
          refine lv_icmp_ne (tgt := 63) hx hb dX10_notice_45 (by decide) (fun c9 => ?_) (fun c9 => ?_)
          · replace hm := iq c9 hm
            refine lv_iload hx hb dX10_notice_63 (lv_at hl 5 rfl) ?_
            refine lv_iconst (v := 0) hx hb dX10_notice_65 (by decide) ?_
            refine lv_sipush (v := 9999) hx hb dX10_notice_66 (by decide) ?_
            obtain ⟨u10, hu10, hm⟩ := bs hm
            refine sd_Si C0 h kYX10_in kmX10_46 [.int v5, .int 0, .int 9999] (tX10_in l D cA ad hu10) rfl hl.1 rfl (Nat.le_of_ble_eq_true rfl) (by decide) dX10_notice_69 (by decide) (fun H locs h => ?_)
            refine lv_if_ne (tgt := 77) hx hb dX10_notice_72 (by decide) (fun c11 => ?_) (fun c11 => ?_)
            · replace hm := iq c11 hm
              exact bX10_notice_77 C0 h (lv_sub hl [0, 1, 2, 3, 4, 5] rfl) hm
            · replace hm := ip c11 hm
              refine lv_iconst (v := (-1)) hx hb dX10_notice_75 (by decide) ?_
              exact sd_iret C0 h (Option.some.inj hm) dX10_notice_76
          · replace hm := ip c9 hm
            refine lv_iload hx hb dX10_notice_48 (lv_at hl 5 rfl) ?_
            refine lv_sipush (v := (-200)) hx hb dX10_notice_50 (by decide) ?_
            refine lv_iconst (v := (-1)) hx hb dX10_notice_53 (by decide) ?_
            obtain ⟨u12, hu12, hm⟩ := bs hm
            refine sd_Si C0 h kYX10_in kmX10_46 [.int v5, .int (-200), .int (-1)] (tX10_in l D cA ad hu12) rfl hl.1 rfl (Nat.le_of_ble_eq_true rfl) (by decide) dX10_notice_54 (by decide) (fun H locs h => ?_)
            refine lv_if_ne (tgt := 77) hx hb dX10_notice_57 (by decide) (fun c13 => ?_) (fun c13 => ?_)
            · replace hm := iq c13 hm
              exact bX10_notice_77 C0 h (lv_sub hl [0, 1, 2, 3, 4, 5] rfl) hm
            · replace hm := ip c13 hm
              refine lv_goto (tgt := 75) hx hb dX10_notice_60 (by decide) ?_
              refine lv_iconst (v := (-1)) hx hb dX10_notice_75 (by decide) ?_
              exact sd_iret C0 h (Option.some.inj hm) dX10_notice_76
        · replace hm := ip c8 hm
          refine lv_iconst (v := (-1)) hx hb dX10_notice_41 (by decide) ?_
          exact sd_iret C0 h (Option.some.inj hm) dX10_notice_42
theorem tX10_notice (l : Launch) (D : va_G) (cA : ClassId) (ad : Nat → Nat) {z : Nat} {S : St} {v1 : Int32} {v2 : Int32} {v3 : Int32} {v4 : Int32} {v5 : Int32} {q : (Int32 × St)} (hm : mX10_notice z v1 v2 v3 v4 v5 S = some q) : sd_MI l D vwCl cA sd_nw (wY ad cA) yX10_notice (Cond.code yX10_notice cX10_notice 6 (some .int) :: sd_big) rX10_notice [.ref (ad 0), .int v1, .int v2, .int v3, .int v4, .int v5] S q :=
  sd_ofI (by decide +kernel) (Nat.le_of_ble_eq_true rfl) (fun _ _ _ _ _ _ _ _ _ _ C0 h hl => bX10_notice C0 h (lv_sub hl [0, 1, 2, 3, 4, 5] rfl) hm)

def rX10_isSounding : Room := { frames := 1, cells := 0, slots := 0, locals := 22 }
def mX10_isSounding (S : St) (v1 : Int32) : Option Int32 :=
  (rd (fA S 0) 4564 1).bind fun x1 =>
  (mX10_in S v1 0 (x1 - 1)).bind fun u2 =>
  zb u2 u2
set_option maxHeartbeats 4000000 in
set_option maxRecDepth 100000 in
theorem bX10_isSounding {p : Program} {l : Launch} {e : Env} {s : State} {m : MethodId} {args : Array Value} {below : List Frame} {meth : Method} {c : Code} {D : va_G} {cA : ClassId} {ad : Nat → Nat} {A : Nat → Prop} {H : Heap} {locs : List Loc} {ls : Array Slot} {q : Int32} {S : St} {v1 : Int32} (C0 : sd_Cx RX10 cX10_isSounding 2 (some .boolean) (Cond.code yX10_isSounding cX10_isSounding 2 (some .boolean) :: sd_big) p s m args meth c) (h : sd_Wd D vwCl cA sd_nw (wY ad cA) A s S H locs) (hl : lv_has ls 2 [(0, .ref (ad 0)), (1, .int v1)])  (hm : mX10_isSounding S v1 = some q) : W p l e rX10_isSounding s m args below meth c H locs 0 0 (MQ below (sd_Qi D vwCl (wY ad cA) A (q, S)) args s 0 0 A) (F0 m 0 ls []) := by
  unfold mX10_isSounding at hm
  have hx := C0.1
  have hb := C0.2.1
  refine lv_iload_n hx hb dX10_isSounding_0 rfl (lv_at hl 1 rfl) ?_
  refine lv_iconst (v := 0) hx hb dX10_isSounding_1 (by decide) ?_
  refine lv_aload_n hx hb dX10_isSounding_2 rfl (lv_at hl 0 rfl) ?_
  refine sd_get C0 h (C := RX10) (T := TX10) (N := 17) kcX10 0 (aY_0 ad cA _) rfl 0 (by decide) kfX10_7 (v := .ref (ad 1)) rfl dX10_isSounding_3 ?_
  refine lv_iconst (v := 1) hx hb dX10_isSounding_6 (by decide) ?_
  obtain ⟨x1, hx1, hm⟩ := bs hm
  refine sd_rd C0 h 1 (aY_1 ad cA _) hx1 dX10_isSounding_7 ?_
  refine lv_iconst (v := 1) hx hb dX10_isSounding_8 (by decide) ?_
  refine lv_isub hx hb dX10_isSounding_9 ?_
  obtain ⟨u2, hu2, hm⟩ := bs hm
  refine sd_Si C0 h kYX10_in kmX10_46 [.int v1, .int 0, .int (x1 - 1)] (tX10_in l D cA ad hu2) rfl hl.1 rfl (Nat.le_of_ble_eq_true rfl) (by decide) dX10_isSounding_10 (by decide) (fun H locs h => ?_)
  obtain ⟨hz, hm⟩ := zb_some hm
  exact sd_zret C0 h (congrArg (fun x => (x, S)) hm) hz dX10_isSounding_13
theorem tX10_isSounding (l : Launch) (D : va_G) (cA : ClassId) (ad : Nat → Nat) {S : St} {v1 : Int32} {q : Int32} (hm : mX10_isSounding S v1 = some q) : sd_MI l D vwCl cA sd_nw (wY ad cA) yX10_isSounding (Cond.code yX10_isSounding cX10_isSounding 2 (some .boolean) :: sd_big) rX10_isSounding [.ref (ad 0), .int v1] S (q, S) :=
  sd_ofI (by decide +kernel) (Nat.le_of_ble_eq_true rfl) (fun _ _ _ _ _ _ _ _ _ _ C0 h hl => bX10_isSounding C0 h (lv_sub hl [0, 1] rfl) hm)

def rX10_of : Room := { frames := 0, cells := 0, slots := 0, locals := 0 }
def mX10_of (S : St) (v1 : Int32) (v2 : Int32) : Option Int32 :=
  (rd (fA S 0) 4564 ((2564 + (10 * v1)) + v2)).bind fun x1 =>
  some x1
set_option maxHeartbeats 4000000 in
set_option maxRecDepth 100000 in
theorem bX10_of {p : Program} {l : Launch} {e : Env} {s : State} {m : MethodId} {args : Array Value} {below : List Frame} {meth : Method} {c : Code} {D : va_G} {cA : ClassId} {ad : Nat → Nat} {A : Nat → Prop} {H : Heap} {locs : List Loc} {ls : Array Slot} {q : Int32} {S : St} {v1 : Int32} {v2 : Int32} (C0 : sd_Cx RX10 cX10_of 3 (some .int) (Cond.code yX10_of cX10_of 3 (some .int) :: sd_big) p s m args meth c) (h : sd_Wd D vwCl cA sd_nw (wY ad cA) A s S H locs) (hl : lv_has ls 3 [(0, .ref (ad 0)), (1, .int v1), (2, .int v2)])  (hm : mX10_of S v1 v2 = some q) : W p l e rX10_of s m args below meth c H locs 0 0 (MQ below (sd_Qi D vwCl (wY ad cA) A (q, S)) args s 0 0 A) (F0 m 0 ls []) := by
  unfold mX10_of at hm
  have hx := C0.1
  have hb := C0.2.1
  refine lv_aload_n hx hb dX10_of_0 rfl (lv_at hl 0 rfl) ?_
  refine sd_get C0 h (C := RX10) (T := TX10) (N := 17) kcX10 0 (aY_0 ad cA _) rfl 0 (by decide) kfX10_7 (v := .ref (ad 1)) rfl dX10_of_1 ?_
  refine lv_sipush (v := 2564) hx hb dX10_of_4 (by decide) ?_
  refine lv_bipush (v := 10) hx hb dX10_of_7 (by decide) ?_
  refine lv_iload_n hx hb dX10_of_9 rfl (lv_at hl 1 rfl) ?_
  refine lv_imul hx hb dX10_of_10 ?_
  refine lv_iadd hx hb dX10_of_11 ?_
  refine lv_iload_n hx hb dX10_of_12 rfl (lv_at hl 2 rfl) ?_
  refine lv_iadd hx hb dX10_of_13 ?_
  obtain ⟨x1, hx1, hm⟩ := bs hm
  refine sd_rd C0 h 1 (aY_1 ad cA _) hx1 dX10_of_14 ?_
  exact sd_iret C0 h (congrArg (fun x => (x, S)) (Option.some.inj hm)) dX10_of_15
theorem tX10_of (l : Launch) (D : va_G) (cA : ClassId) (ad : Nat → Nat) {S : St} {v1 : Int32} {v2 : Int32} {q : Int32} (hm : mX10_of S v1 v2 = some q) : sd_MI l D vwCl cA sd_nw (wY ad cA) yX10_of (Cond.code yX10_of cX10_of 3 (some .int) :: sd_big) rX10_of [.ref (ad 0), .int v1, .int v2] S (q, S) :=
  sd_ofI (by decide +kernel) (Nat.le_of_ble_eq_true rfl) (fun _ _ _ _ _ _ _ _ _ _ C0 h hl => bX10_of C0 h (lv_sub hl [0, 1, 2] rfl) hm)

def rX10_gone : Room := { frames := 2, cells := 0, slots := 0, locals := 43 }
def mX10_gone (z : Nat) (v1 : Int32) (v2 : Int32) (S : St) : Option (Int32 × St) :=
  (mX10_isSounding S v1).bind fun u1 =>
  if u1 = 0 then
    some (0, S)
  else
    (mX10_in S v2 0 100).bind fun u3 =>
    if u3 = 0 then
      some (0, S)
    else
      (mX10_of S v1 7).bind fun u5 =>
      if u5 = v2 then
        some (0, S)
      else
        (mX10_acts z S).bind fun u7 =>
        (wr (fA u7 0) 4564 ((2564 + (10 * v1)) + 7) v2).bind fun g8 =>
        some (1, (sA u7 0 g8))
set_option maxHeartbeats 4000000 in
set_option maxRecDepth 100000 in
theorem bX10_gone {p : Program} {l : Launch} {e : Env} {s : State} {m : MethodId} {args : Array Value} {below : List Frame} {meth : Method} {c : Code} {D : va_G} {cA : ClassId} {ad : Nat → Nat} {A : Nat → Prop} {H : Heap} {locs : List Loc} {ls : Array Slot} {q : (Int32 × St)} {z : Nat} {v1 : Int32} {v2 : Int32} {S : St} (C0 : sd_Cx RX10 cX10_gone 3 (some .boolean) (Cond.code yX10_gone cX10_gone 3 (some .boolean) :: sd_big) p s m args meth c) (h : sd_Wd D vwCl cA sd_nw (wY ad cA) A s S H locs) (hl : lv_has ls 3 [(0, .ref (ad 0)), (1, .int v1), (2, .int v2)])  (hm : mX10_gone z v1 v2 S = some q) : W p l e rX10_gone s m args below meth c H locs 0 0 (MQ below (sd_Qi D vwCl (wY ad cA) A q) args s 0 0 A) (F0 m 0 ls []) := by
  unfold mX10_gone at hm
  have hx := C0.1
  have hb := C0.2.1
  refine lv_aload_n hx hb dX10_gone_0 rfl (lv_at hl 0 rfl) ?_
  refine lv_iload_n hx hb dX10_gone_1 rfl (lv_at hl 1 rfl) ?_
  obtain ⟨u1, hu1, hm⟩ := bs hm
  refine sd_Vi C0 h kYX10_isSounding kmX10_93 0 (aY_0 ad cA _) rfl [.int v1] (tX10_isSounding l D cA ad hu1) rfl hl.1 rfl (Nat.le_of_ble_eq_true rfl) (by decide) dX10_gone_2 (by decide) (fun H locs h => ?_)
  refine lv_if_eq (tgt := 29) hx hb dX10_gone_5 (by decide) (fun c2 => ?_) (fun c2 => ?_)
  · replace hm := ip c2 hm
    refine lv_iconst (v := 0) hx hb dX10_gone_29 (by decide) ?_
    exact sd_zret C0 h (Option.some.inj hm) rfl dX10_gone_30
  · replace hm := iq c2 hm
    refine lv_iload_n hx hb dX10_gone_8 rfl (lv_at hl 2 rfl) ?_
    refine lv_iconst (v := 0) hx hb dX10_gone_9 (by decide) ?_
    refine lv_bipush (v := 100) hx hb dX10_gone_10 (by decide) ?_
    obtain ⟨u3, hu3, hm⟩ := bs hm
    refine sd_Si C0 h kYX10_in kmX10_46 [.int v2, .int 0, .int 100] (tX10_in l D cA ad hu3) rfl hl.1 rfl (Nat.le_of_ble_eq_true rfl) (by decide) dX10_gone_12 (by decide) (fun H locs h => ?_)
    refine lv_if_eq (tgt := 29) hx hb dX10_gone_15 (by decide) (fun c4 => ?_) (fun c4 => ?_)
    · replace hm := ip c4 hm
      refine lv_iconst (v := 0) hx hb dX10_gone_29 (by decide) ?_
      exact sd_zret C0 h (Option.some.inj hm) rfl dX10_gone_30
    · replace hm := iq c4 hm
      refine lv_aload_n hx hb dX10_gone_18 rfl (lv_at hl 0 rfl) ?_
      refine lv_iload_n hx hb dX10_gone_19 rfl (lv_at hl 1 rfl) ?_
      refine lv_bipush (v := 7) hx hb dX10_gone_20 (by decide) ?_
      obtain ⟨u5, hu5, hm⟩ := bs hm
      refine sd_Vi C0 h kYX10_of kmX10_96 0 (aY_0 ad cA _) rfl [.int v1, .int 7] (tX10_of l D cA ad hu5) rfl hl.1 rfl (Nat.le_of_ble_eq_true rfl) (by decide) dX10_gone_22 (by decide) (fun H locs h => ?_)
      refine lv_iload_n hx hb dX10_gone_25 rfl (lv_at hl 2 rfl) ?_
      refine lv_icmp_ne (tgt := 31) hx hb dX10_gone_26 (by decide) (fun c6 => ?_) (fun c6 => ?_)
      · replace hm := iq c6 hm
        refine lv_aload_n hx hb dX10_gone_31 rfl (lv_at hl 0 rfl) ?_
        obtain ⟨u7, hu7, hm⟩ := bs hm
        refine sd_Vv C0 h kYX10_acts kmX10_50 0 (aY_0 ad cA _) rfl [] (tX10_acts l D cA ad hu7) rfl hl.1 rfl (Nat.le_of_ble_eq_true rfl) (by decide) dX10_gone_32 (by decide) (fun H locs h => ?_)
        refine lv_aload_n hx hb dX10_gone_35 rfl (lv_at hl 0 rfl) ?_
        refine sd_get C0 h (C := RX10) (T := TX10) (N := 17) kcX10 0 (aY_0 ad cA _) rfl 0 (by decide) kfX10_7 (v := .ref (ad 1)) rfl dX10_gone_36 ?_
        refine lv_sipush (v := 2564) hx hb dX10_gone_39 (by decide) ?_
        refine lv_bipush (v := 10) hx hb dX10_gone_42 (by decide) ?_
        refine lv_iload_n hx hb dX10_gone_44 rfl (lv_at hl 1 rfl) ?_
        refine lv_imul hx hb dX10_gone_45 ?_
        refine lv_iadd hx hb dX10_gone_46 ?_
        refine lv_bipush (v := 7) hx hb dX10_gone_47 (by decide) ?_
        refine lv_iadd hx hb dX10_gone_49 ?_
        refine lv_iload_n hx hb dX10_gone_50 rfl (lv_at hl 2 rfl) ?_
        obtain ⟨g8, hg8, hm⟩ := bs hm
        refine sd_wr C0 h (S1 := (sA u7 0 g8)) 1 (aY_1 ad cA _) hg8 (eY_1 ad cA _ _) dX10_gone_51 (fun H locs h => ?_)
        refine lv_iconst (v := 1) hx hb dX10_gone_52 (by decide) ?_
        exact sd_zret C0 h (Option.some.inj hm) rfl dX10_gone_53
      · replace hm := ip c6 hm
        refine lv_iconst (v := 0) hx hb dX10_gone_29 (by decide) ?_
        exact sd_zret C0 h (Option.some.inj hm) rfl dX10_gone_30
theorem tX10_gone (l : Launch) (D : va_G) (cA : ClassId) (ad : Nat → Nat) {z : Nat} {S : St} {v1 : Int32} {v2 : Int32} {q : (Int32 × St)} (hm : mX10_gone z v1 v2 S = some q) : sd_MI l D vwCl cA sd_nw (wY ad cA) yX10_gone (Cond.code yX10_gone cX10_gone 3 (some .boolean) :: sd_big) rX10_gone [.ref (ad 0), .int v1, .int v2] S q :=
  sd_ofI (by decide +kernel) (Nat.le_of_ble_eq_true rfl) (fun _ _ _ _ _ _ _ _ _ _ C0 h hl => bX10_gone C0 h (lv_sub hl [0, 1, 2] rfl) hm)

def rX10_tideAt : Room := { frames := 0, cells := 0, slots := 0, locals := 0 }
def mX10_tideAt_209 (z : Nat) (v2 : Int32) (w6 : Int64) (w8 : Int64) (w10 : Int64) (t1 : Int64) (S : St) : Option (Int32 × St) :=
  some (1, (sL (sL S 1 t1) 0 ((w6 * (fL (sL S 1 t1) 1)) + ((w8 - w6) * ((v2).toInt64 - w10)))))
set_option maxHeartbeats 4000000 in
set_option maxRecDepth 100000 in
theorem bX10_tideAt_209 {p : Program} {l : Launch} {e : Env} {s : State} {m : MethodId} {args : Array Value} {below : List Frame} {meth : Method} {c : Code} {D : va_G} {cA : ClassId} {ad : Nat → Nat} {A : Nat → Prop} {H : Heap} {locs : List Loc} {ls : Array Slot} {q : (Int32 × St)} {z : Nat} {v2 : Int32} {w6 : Int64} {w8 : Int64} {w10 : Int64} {t1 : Int64} {S : St} (C0 : sd_Cx RX10 cX10_tideAt 14 (some .boolean) (Cond.code yX10_tideAt cX10_tideAt 14 (some .boolean) :: sd_big) p s m args meth c) (h : sd_Wd D vwCl cA sd_nw (wY ad cA) A s S H locs) (hl : lv_has ls 14 [(0, .ref (ad 0)), (2, .int v2), (6, .long w6), (8, .long w8), (10, .long w10)])  (hm : mX10_tideAt_209 z v2 w6 w8 w10 t1 S = some q) : W p l e rX10_tideAt s m args below meth c H locs 0 0 (MQ below (sd_Qi D vwCl (wY ad cA) A q) args s 0 0 A) (F0 m 209 ls [.long t1, .ref (ad 0)]) := by
  unfold mX10_tideAt_209 at hm
  have hx := C0.1
  have hb := C0.2.1
  refine sd_put C0 h (C := RX10) (T := TX10) (N := 17) (S1 := (sL S 1 t1)) kcX10 tyX10 tyX10_ok nmX10 0 (aY_0 ad cA _) rfl 7 (by decide) kfX10_57 rfl (ty := .long) (by decide +kernel) rfl rfl (Nat.le_of_ble_eq_true rfl) (eY_0_7 ad cA _ _) dX10_tideAt_209 (fun H locs h => ?_)
  refine lv_aload_n hx hb dX10_tideAt_212 rfl (lv_at hl 0 rfl) ?_
  refine lv_lload hx hb dX10_tideAt_213 (lv_at hl 2 rfl) ?_
  refine lv_aload_n hx hb dX10_tideAt_215 rfl (lv_at hl 0 rfl) ?_
  refine sd_get C0 h (C := RX10) (T := TX10) (N := 17) kcX10 0 (aY_0 ad cA _) rfl 7 (by decide) kfX10_57 (v := .long (fL (sL S 1 t1) 1)) rfl dX10_tideAt_216 ?_
  refine lv_lmul hx hb dX10_tideAt_219 ?_
  refine lv_lload hx hb dX10_tideAt_220 (lv_at hl 3 rfl) ?_
  refine lv_lload hx hb dX10_tideAt_222 (lv_at hl 2 rfl) ?_
  refine lv_lsub hx hb dX10_tideAt_224 ?_
  refine lv_iload_n hx hb dX10_tideAt_225 rfl (lv_at hl 1 rfl) ?_
  refine lv_i2l hx hb dX10_tideAt_226 (v := (v2).toInt64) rfl ?_
  refine lv_lload hx hb dX10_tideAt_227 (lv_at hl 4 rfl) ?_
  refine lv_lsub hx hb dX10_tideAt_229 ?_
  refine lv_lmul hx hb dX10_tideAt_230 ?_
  refine lv_ladd hx hb dX10_tideAt_231 ?_
  refine sd_put C0 h (C := RX10) (T := TX10) (N := 17) (S1 := (sL (sL S 1 t1) 0 ((w6 * (fL (sL S 1 t1) 1)) + ((w8 - w6) * ((v2).toInt64 - w10))))) kcX10 tyX10 tyX10_ok nmX10 0 (aY_0 ad cA _) rfl 6 (by decide) kfX10_61 rfl (ty := .long) (by decide +kernel) rfl rfl (Nat.le_of_ble_eq_true rfl) (eY_0_6 ad cA _ _) dX10_tideAt_232 (fun H locs h => ?_)
  refine lv_iconst (v := 1) hx hb dX10_tideAt_235 (by decide) ?_
  exact sd_zret C0 h (Option.some.inj hm) rfl dX10_tideAt_236
def mX10_tideAt_115 (z : Nat) (v2 : Int32) (v3 : Int32) (v4 : Int32) (v5 : Int32) (S : St) : Option (Int32 × St) :=
  if v4 < 0 then
    some (0, S)
  else
    if 0 ≤ v5 then
      (rd (fA S 0) 4564 ((v3 + 2) + (2 * v4))).bind fun x3 =>
      (rd (fA S 0) 4564 ((v3 + 2) + (2 * v5))).bind fun x4 =>
      (rd (fA S 0) 4564 ((v3 + 1) + (2 * v4))).bind fun x5 =>
      (rd (fA S 0) 4564 ((v3 + 1) + (2 * v5))).bind fun x6 =>
      if (lg_cmp ((x5).toInt64) ((x6).toInt64)) = 0 then
        mX10_tideAt_209 z v2 ((x3).toInt64) ((x4).toInt64) ((x5).toInt64) 1 S
      else
        mX10_tideAt_209 z v2 ((x3).toInt64) ((x4).toInt64) ((x5).toInt64) ((x6).toInt64 - (x5).toInt64) S
    else
      some (0, S)
set_option maxHeartbeats 4000000 in
set_option maxRecDepth 100000 in
theorem bX10_tideAt_115 {p : Program} {l : Launch} {e : Env} {s : State} {m : MethodId} {args : Array Value} {below : List Frame} {meth : Method} {c : Code} {D : va_G} {cA : ClassId} {ad : Nat → Nat} {A : Nat → Prop} {H : Heap} {locs : List Loc} {ls : Array Slot} {q : (Int32 × St)} {z : Nat} {v2 : Int32} {v3 : Int32} {v4 : Int32} {v5 : Int32} {S : St} (C0 : sd_Cx RX10 cX10_tideAt 14 (some .boolean) (Cond.code yX10_tideAt cX10_tideAt 14 (some .boolean) :: sd_big) p s m args meth c) (h : sd_Wd D vwCl cA sd_nw (wY ad cA) A s S H locs) (hl : lv_has ls 14 [(0, .ref (ad 0)), (2, .int v2), (3, .int v3), (4, .int v4), (5, .int v5)])  (hm : mX10_tideAt_115 z v2 v3 v4 v5 S = some q) : W p l e rX10_tideAt s m args below meth c H locs 0 0 (MQ below (sd_Qi D vwCl (wY ad cA) A q) args s 0 0 A) (F0 m 115 ls []) := by
  unfold mX10_tideAt_115 at hm
  have hx := C0.1
  have hb := C0.2.1
  refine lv_iload hx hb dX10_tideAt_115 (lv_at hl 3 rfl) ?_
  refine lv_if_lt (tgt := 125) hx hb dX10_tideAt_117 (by decide) (fun c1 => ?_) (fun c1 => ?_)
  · replace hm := ip c1 hm
    refine lv_iconst (v := 0) hx hb dX10_tideAt_125 (by decide) ?_
    exact sd_zret C0 h (Option.some.inj hm) rfl dX10_tideAt_126
  · replace hm := iq c1 hm
    refine lv_iload hx hb dX10_tideAt_120 (lv_at hl 4 rfl) ?_
    refine lv_if_ge (tgt := 127) hx hb dX10_tideAt_122 (by decide) (fun c2 => ?_) (fun c2 => ?_)
    · replace hm := ip c2 hm
      refine lv_aload_n hx hb dX10_tideAt_127 rfl (lv_at hl 0 rfl) ?_
      refine sd_get C0 h (C := RX10) (T := TX10) (N := 17) kcX10 0 (aY_0 ad cA _) rfl 0 (by decide) kfX10_7 (v := .ref (ad 1)) rfl dX10_tideAt_128 ?_
      refine lv_iload_n hx hb dX10_tideAt_131 rfl (lv_at hl 2 rfl) ?_
      refine lv_iconst (v := 2) hx hb dX10_tideAt_132 (by decide) ?_
      refine lv_iadd hx hb dX10_tideAt_133 ?_
      refine lv_iconst (v := 2) hx hb dX10_tideAt_134 (by decide) ?_
      refine lv_iload hx hb dX10_tideAt_135 (lv_at hl 3 rfl) ?_
      refine lv_imul hx hb dX10_tideAt_137 ?_
      refine lv_iadd hx hb dX10_tideAt_138 ?_
      obtain ⟨x3, hx3, hm⟩ := bs hm
      refine sd_rd C0 h 1 (aY_1 ad cA _) hx3 dX10_tideAt_139 ?_
      refine lv_i2l hx hb dX10_tideAt_140 (v := (x3).toInt64) rfl ?_
      refine lv_lstore (lv' := [(6, .long (x3).toInt64), (0, .ref (ad 0)), (2, .int v2), (3, .int v3), (4, .int v4), (5, .int v5)]) hx hb dX10_tideAt_141 hl (by decide) rfl (fun ls hl => ?_)
      refine lv_aload_n hx hb dX10_tideAt_143 rfl (lv_at hl 1 rfl) ?_
      refine sd_get C0 h (C := RX10) (T := TX10) (N := 17) kcX10 0 (aY_0 ad cA _) rfl 0 (by decide) kfX10_7 (v := .ref (ad 1)) rfl dX10_tideAt_144 ?_
      refine lv_iload_n hx hb dX10_tideAt_147 rfl (lv_at hl 3 rfl) ?_
      refine lv_iconst (v := 2) hx hb dX10_tideAt_148 (by decide) ?_
      refine lv_iadd hx hb dX10_tideAt_149 ?_
      refine lv_iconst (v := 2) hx hb dX10_tideAt_150 (by decide) ?_
      refine lv_iload hx hb dX10_tideAt_151 (lv_at hl 5 rfl) ?_
      refine lv_imul hx hb dX10_tideAt_153 ?_
      refine lv_iadd hx hb dX10_tideAt_154 ?_
      obtain ⟨x4, hx4, hm⟩ := bs hm
      refine sd_rd C0 h 1 (aY_1 ad cA _) hx4 dX10_tideAt_155 ?_
      refine lv_i2l hx hb dX10_tideAt_156 (v := (x4).toInt64) rfl ?_
      refine lv_lstore (lv' := [(8, .long (x4).toInt64), (6, .long (x3).toInt64), (0, .ref (ad 0)), (2, .int v2), (3, .int v3), (4, .int v4), (5, .int v5)]) hx hb dX10_tideAt_157 hl (by decide) rfl (fun ls hl => ?_)
      refine lv_aload_n hx hb dX10_tideAt_159 rfl (lv_at hl 2 rfl) ?_
      refine sd_get C0 h (C := RX10) (T := TX10) (N := 17) kcX10 0 (aY_0 ad cA _) rfl 0 (by decide) kfX10_7 (v := .ref (ad 1)) rfl dX10_tideAt_160 ?_
      refine lv_iload_n hx hb dX10_tideAt_163 rfl (lv_at hl 4 rfl) ?_
      refine lv_iconst (v := 1) hx hb dX10_tideAt_164 (by decide) ?_
      refine lv_iadd hx hb dX10_tideAt_165 ?_
      refine lv_iconst (v := 2) hx hb dX10_tideAt_166 (by decide) ?_
      refine lv_iload hx hb dX10_tideAt_167 (lv_at hl 5 rfl) ?_
      refine lv_imul hx hb dX10_tideAt_169 ?_
      refine lv_iadd hx hb dX10_tideAt_170 ?_
      obtain ⟨x5, hx5, hm⟩ := bs hm
      refine sd_rd C0 h 1 (aY_1 ad cA _) hx5 dX10_tideAt_171 ?_
      refine lv_i2l hx hb dX10_tideAt_172 (v := (x5).toInt64) rfl ?_
      refine lv_lstore (lv' := [(10, .long (x5).toInt64), (8, .long (x4).toInt64), (6, .long (x3).toInt64), (0, .ref (ad 0)), (2, .int v2), (3, .int v3), (4, .int v4), (5, .int v5)]) hx hb dX10_tideAt_173 hl (by decide) rfl (fun ls hl => ?_)
      refine lv_aload_n hx hb dX10_tideAt_175 rfl (lv_at hl 3 rfl) ?_
      refine sd_get C0 h (C := RX10) (T := TX10) (N := 17) kcX10 0 (aY_0 ad cA _) rfl 0 (by decide) kfX10_7 (v := .ref (ad 1)) rfl dX10_tideAt_176 ?_
      refine lv_iload_n hx hb dX10_tideAt_179 rfl (lv_at hl 5 rfl) ?_
      refine lv_iconst (v := 1) hx hb dX10_tideAt_180 (by decide) ?_
      refine lv_iadd hx hb dX10_tideAt_181 ?_
      refine lv_iconst (v := 2) hx hb dX10_tideAt_182 (by decide) ?_
      refine lv_iload hx hb dX10_tideAt_183 (lv_at hl 7 rfl) ?_
      refine lv_imul hx hb dX10_tideAt_185 ?_
      refine lv_iadd hx hb dX10_tideAt_186 ?_
      obtain ⟨x6, hx6, hm⟩ := bs hm
      refine sd_rd C0 h 1 (aY_1 ad cA _) hx6 dX10_tideAt_187 ?_
      refine lv_i2l hx hb dX10_tideAt_188 (v := (x6).toInt64) rfl ?_
      refine lv_lstore (lv' := [(12, .long (x6).toInt64), (10, .long (x5).toInt64), (8, .long (x4).toInt64), (6, .long (x3).toInt64), (0, .ref (ad 0)), (2, .int v2), (3, .int v3), (4, .int v4), (5, .int v5)]) hx hb dX10_tideAt_189 hl (by decide) rfl (fun ls hl => ?_)
      refine lv_aload_n hx hb dX10_tideAt_191 rfl (lv_at hl 4 rfl) ?_
      refine lv_lload hx hb dX10_tideAt_192 (lv_at hl 1 rfl) ?_
      refine lv_lload hx hb dX10_tideAt_194 (lv_at hl 0 rfl) ?_
      refine W.lcmp hx hb dX10_tideAt_196 ?_
      refine lv_if_ne (tgt := 204) hx hb dX10_tideAt_197 (by decide) (fun c7 => ?_) (fun c7 => ?_)
      · replace hm := iq c7 hm
        refine lv_lload hx hb dX10_tideAt_204 (lv_at hl 0 rfl) ?_
        refine lv_lload hx hb dX10_tideAt_206 (lv_at hl 1 rfl) ?_
        refine lv_lsub hx hb dX10_tideAt_208 ?_
        exact bX10_tideAt_209 C0 h (lv_sub hl [4, 5, 3, 2, 1] rfl) hm
      · replace hm := ip c7 hm
        refine lv_lconst (v := 1) hx hb dX10_tideAt_200 (by decide) ?_
        refine lv_goto (tgt := 209) hx hb dX10_tideAt_201 (by decide) ?_
        exact bX10_tideAt_209 C0 h (lv_sub hl [4, 5, 3, 2, 1] rfl) hm
    · replace hm := iq c2 hm
      refine lv_iconst (v := 0) hx hb dX10_tideAt_125 (by decide) ?_
      exact sd_zret C0 h (Option.some.inj hm) rfl dX10_tideAt_126
def mX10_tideAt_76 (z : Nat) (rc17 : Int32 → Int32 → Int32 → St → Option (Int32 × St)) (v2 : Int32) (v3 : Int32) (v4 : Int32) (v5 : Int32) (v6 : Int32) (v7 : Int32) (S : St) : Option (Int32 × St) :=
  if v7 < v2 then
    rc17 v4 v5 (v6 + 1) S
  else
    if v5 < 0 then
      rc17 v4 v6 (v6 + 1) S
    else
      (rd (fA S 0) 4564 ((v3 + 1) + (2 * v5))).bind fun x3 =>
      if x3 ≤ v7 then
        rc17 v4 v5 (v6 + 1) S
      else
        rc17 v4 v6 (v6 + 1) S
set_option maxHeartbeats 4000000 in
set_option maxRecDepth 100000 in
theorem bX10_tideAt_76 {p : Program} {l : Launch} {e : Env} {s : State} {m : MethodId} {args : Array Value} {below : List Frame} {meth : Method} {c : Code} {D : va_G} {cA : ClassId} {ad : Nat → Nat} {A : Nat → Prop} {H : Heap} {locs : List Loc} {ls : Array Slot} {q : (Int32 × St)} {z : Nat} {rc17 : Int32 → Int32 → Int32 → St → Option (Int32 × St)} {v2 : Int32} {v3 : Int32} {v4 : Int32} {v5 : Int32} {v6 : Int32} {v7 : Int32} {S : St} (C0 : sd_Cx RX10 cX10_tideAt 14 (some .boolean) (Cond.code yX10_tideAt cX10_tideAt 14 (some .boolean) :: sd_big) p s m args meth c) (h : sd_Wd D vwCl cA sd_nw (wY ad cA) A s S H locs) (hl : lv_has ls 14 [(0, .ref (ad 0)), (2, .int v2), (3, .int v3), (4, .int v4), (5, .int v5), (6, .int v6), (7, .int v7)]) (hrc17 : ∀ (v4 : Int32) (v5 : Int32) (v6 : Int32) (S : St) (H : Heap) (locs : List Loc) (ls : Array Slot), sd_Wd D vwCl cA sd_nw (wY ad cA) A s S H locs → lv_has ls 14 [(0, .ref (ad 0)), (2, .int v2), (3, .int v3), (4, .int v4), (5, .int v5), (6, .int v6)] → rc17 v4 v5 v6 S = some q → W p l e rX10_tideAt s m args below meth c H locs 0 0 (MQ below (sd_Qi D vwCl (wY ad cA) A q) args s 0 0 A) (F0 m 17 ls [])) (hm : mX10_tideAt_76 z rc17 v2 v3 v4 v5 v6 v7 S = some q) : W p l e rX10_tideAt s m args below meth c H locs 0 0 (MQ below (sd_Qi D vwCl (wY ad cA) A q) args s 0 0 A) (F0 m 76 ls []) := by
  unfold mX10_tideAt_76 at hm
  have hx := C0.1
  have hb := C0.2.1
  refine lv_iload hx hb dX10_tideAt_76 (lv_at hl 6 rfl) ?_
  refine lv_iload_n hx hb dX10_tideAt_78 rfl (lv_at hl 1 rfl) ?_
  refine lv_icmp_lt (tgt := 109) hx hb dX10_tideAt_79 (by decide) (fun c1 => ?_) (fun c1 => ?_)
  · replace hm := ip c1 hm
    refine lv_iinc (v := (v6 + 1)) (lv' := [(6, .int (v6 + 1)), (0, .ref (ad 0)), (2, .int v2), (3, .int v3), (4, .int v4), (5, .int v5), (7, .int v7)]) hx hb dX10_tideAt_109 hl (k := 5) rfl rfl (by decide) rfl (fun ls hl => ?_)
    refine lv_goto (tgt := 17) hx hb dX10_tideAt_112 (by decide) ?_
    exact hrc17 _ _ _ _ _ _ _ h (lv_sub hl [1, 2, 3, 4, 5, 0] rfl) hm
  · replace hm := iq c1 hm
    refine lv_iload hx hb dX10_tideAt_82 (lv_at hl 4 rfl) ?_
    refine lv_if_lt (tgt := 105) hx hb dX10_tideAt_84 (by decide) (fun c2 => ?_) (fun c2 => ?_)
    · replace hm := ip c2 hm
      refine lv_iload hx hb dX10_tideAt_105 (lv_at hl 5 rfl) ?_
      refine lv_istore (lv' := [(5, .int v6), (0, .ref (ad 0)), (2, .int v2), (3, .int v3), (4, .int v4), (6, .int v6), (7, .int v7)]) hx hb dX10_tideAt_107 hl (by decide) rfl (fun ls hl => ?_)
      refine lv_iinc (v := (v6 + 1)) (lv' := [(6, .int (v6 + 1)), (5, .int v6), (0, .ref (ad 0)), (2, .int v2), (3, .int v3), (4, .int v4), (7, .int v7)]) hx hb dX10_tideAt_109 hl (k := 5) rfl rfl (by decide) rfl (fun ls hl => ?_)
      refine lv_goto (tgt := 17) hx hb dX10_tideAt_112 (by decide) ?_
      exact hrc17 _ _ _ _ _ _ _ h (lv_sub hl [2, 3, 4, 5, 1, 0] rfl) hm
    · replace hm := iq c2 hm
      refine lv_iload hx hb dX10_tideAt_87 (lv_at hl 6 rfl) ?_
      refine lv_aload_n hx hb dX10_tideAt_89 rfl (lv_at hl 0 rfl) ?_
      refine sd_get C0 h (C := RX10) (T := TX10) (N := 17) kcX10 0 (aY_0 ad cA _) rfl 0 (by decide) kfX10_7 (v := .ref (ad 1)) rfl dX10_tideAt_90 ?_
      refine lv_iload_n hx hb dX10_tideAt_93 rfl (lv_at hl 2 rfl) ?_
      refine lv_iconst (v := 1) hx hb dX10_tideAt_94 (by decide) ?_
      refine lv_iadd hx hb dX10_tideAt_95 ?_
      refine lv_iconst (v := 2) hx hb dX10_tideAt_96 (by decide) ?_
      refine lv_iload hx hb dX10_tideAt_97 (lv_at hl 4 rfl) ?_
      refine lv_imul hx hb dX10_tideAt_99 ?_
      refine lv_iadd hx hb dX10_tideAt_100 ?_
      obtain ⟨x3, hx3, hm⟩ := bs hm
      refine sd_rd C0 h 1 (aY_1 ad cA _) hx3 dX10_tideAt_101 ?_
      refine lv_icmp_ge (tgt := 109) hx hb dX10_tideAt_102 (by decide) (fun c4 => ?_) (fun c4 => ?_)
      · replace hm := ip c4 hm
        refine lv_iinc (v := (v6 + 1)) (lv' := [(6, .int (v6 + 1)), (0, .ref (ad 0)), (2, .int v2), (3, .int v3), (4, .int v4), (5, .int v5), (7, .int v7)]) hx hb dX10_tideAt_109 hl (k := 5) rfl rfl (by decide) rfl (fun ls hl => ?_)
        refine lv_goto (tgt := 17) hx hb dX10_tideAt_112 (by decide) ?_
        exact hrc17 _ _ _ _ _ _ _ h (lv_sub hl [1, 2, 3, 4, 5, 0] rfl) hm
      · replace hm := iq c4 hm
        refine lv_iload hx hb dX10_tideAt_105 (lv_at hl 5 rfl) ?_
        refine lv_istore (lv' := [(5, .int v6), (0, .ref (ad 0)), (2, .int v2), (3, .int v3), (4, .int v4), (6, .int v6), (7, .int v7)]) hx hb dX10_tideAt_107 hl (by decide) rfl (fun ls hl => ?_)
        refine lv_iinc (v := (v6 + 1)) (lv' := [(6, .int (v6 + 1)), (5, .int v6), (0, .ref (ad 0)), (2, .int v2), (3, .int v3), (4, .int v4), (7, .int v7)]) hx hb dX10_tideAt_109 hl (k := 5) rfl rfl (by decide) rfl (fun ls hl => ?_)
        refine lv_goto (tgt := 17) hx hb dX10_tideAt_112 (by decide) ?_
        exact hrc17 _ _ _ _ _ _ _ h (lv_sub hl [2, 3, 4, 5, 1, 0] rfl) hm
def mX10_tideAt_17b (z : Nat) (rc17 : Int32 → Int32 → Int32 → St → Option (Int32 × St)) (v2 : Int32) (v3 : Int32) (v4 : Int32) (v5 : Int32) (v6 : Int32) (S : St) : Option (Int32 × St) :=
  (rd (fA S 0) 4564 v3).bind fun x1 =>
  if x1 ≤ v6 then
    mX10_tideAt_115 z v2 v3 v4 v5 S
  else
    (rd (fA S 0) 4564 ((v3 + 1) + (2 * v6))).bind fun x3 =>
    if v2 < x3 then
      mX10_tideAt_76 z rc17 v2 v3 v4 v5 v6 x3 S
    else
      if v4 < 0 then
        mX10_tideAt_76 z rc17 v2 v3 v6 v5 v6 x3 S
      else
        (rd (fA S 0) 4564 ((v3 + 1) + (2 * v4))).bind fun x6 =>
        if x3 ≤ x6 then
          mX10_tideAt_76 z rc17 v2 v3 v4 v5 v6 x3 S
        else
          mX10_tideAt_76 z rc17 v2 v3 v6 v5 v6 x3 S
set_option maxHeartbeats 4000000 in
set_option maxRecDepth 100000 in
theorem bX10_tideAt_17b {p : Program} {l : Launch} {e : Env} {s : State} {m : MethodId} {args : Array Value} {below : List Frame} {meth : Method} {c : Code} {D : va_G} {cA : ClassId} {ad : Nat → Nat} {A : Nat → Prop} {H : Heap} {locs : List Loc} {ls : Array Slot} {q : (Int32 × St)} {z : Nat} {rc17 : Int32 → Int32 → Int32 → St → Option (Int32 × St)} {v2 : Int32} {v3 : Int32} {v4 : Int32} {v5 : Int32} {v6 : Int32} {S : St} (C0 : sd_Cx RX10 cX10_tideAt 14 (some .boolean) (Cond.code yX10_tideAt cX10_tideAt 14 (some .boolean) :: sd_big) p s m args meth c) (h : sd_Wd D vwCl cA sd_nw (wY ad cA) A s S H locs) (hl : lv_has ls 14 [(0, .ref (ad 0)), (2, .int v2), (3, .int v3), (4, .int v4), (5, .int v5), (6, .int v6)]) (hrc17 : ∀ (v4 : Int32) (v5 : Int32) (v6 : Int32) (S : St) (H : Heap) (locs : List Loc) (ls : Array Slot), sd_Wd D vwCl cA sd_nw (wY ad cA) A s S H locs → lv_has ls 14 [(0, .ref (ad 0)), (2, .int v2), (3, .int v3), (4, .int v4), (5, .int v5), (6, .int v6)] → rc17 v4 v5 v6 S = some q → W p l e rX10_tideAt s m args below meth c H locs 0 0 (MQ below (sd_Qi D vwCl (wY ad cA) A q) args s 0 0 A) (F0 m 17 ls [])) (hm : mX10_tideAt_17b z rc17 v2 v3 v4 v5 v6 S = some q) : W p l e rX10_tideAt s m args below meth c H locs 0 0 (MQ below (sd_Qi D vwCl (wY ad cA) A q) args s 0 0 A) (F0 m 17 ls []) := by
  unfold mX10_tideAt_17b at hm
  have hx := C0.1
  have hb := C0.2.1
  refine lv_iload hx hb dX10_tideAt_17 (lv_at hl 5 rfl) ?_
  refine lv_aload_n hx hb dX10_tideAt_19 rfl (lv_at hl 0 rfl) ?_
  refine sd_get C0 h (C := RX10) (T := TX10) (N := 17) kcX10 0 (aY_0 ad cA _) rfl 0 (by decide) kfX10_7 (v := .ref (ad 1)) rfl dX10_tideAt_20 ?_
  refine lv_iload_n hx hb dX10_tideAt_23 rfl (lv_at hl 2 rfl) ?_
  obtain ⟨x1, hx1, hm⟩ := bs hm
  refine sd_rd C0 h 1 (aY_1 ad cA _) hx1 dX10_tideAt_24 ?_
  refine lv_icmp_ge (tgt := 115) hx hb dX10_tideAt_25 (by decide) (fun c2 => ?_) (fun c2 => ?_)
  · replace hm := ip c2 hm
    exact bX10_tideAt_115 C0 h (lv_sub hl [0, 1, 2, 3, 4] rfl) hm
  · replace hm := iq c2 hm
    refine lv_aload_n hx hb dX10_tideAt_28 rfl (lv_at hl 0 rfl) ?_
    refine sd_get C0 h (C := RX10) (T := TX10) (N := 17) kcX10 0 (aY_0 ad cA _) rfl 0 (by decide) kfX10_7 (v := .ref (ad 1)) rfl dX10_tideAt_29 ?_
    refine lv_iload_n hx hb dX10_tideAt_32 rfl (lv_at hl 2 rfl) ?_
    refine lv_iconst (v := 1) hx hb dX10_tideAt_33 (by decide) ?_
    refine lv_iadd hx hb dX10_tideAt_34 ?_
    refine lv_iconst (v := 2) hx hb dX10_tideAt_35 (by decide) ?_
    refine lv_iload hx hb dX10_tideAt_36 (lv_at hl 5 rfl) ?_
    refine lv_imul hx hb dX10_tideAt_38 ?_
    refine lv_iadd hx hb dX10_tideAt_39 ?_
    obtain ⟨x3, hx3, hm⟩ := bs hm
    refine sd_rd C0 h 1 (aY_1 ad cA _) hx3 dX10_tideAt_40 ?_
    refine lv_istore (lv' := [(7, .int x3), (0, .ref (ad 0)), (2, .int v2), (3, .int v3), (4, .int v4), (5, .int v5), (6, .int v6)]) hx hb dX10_tideAt_41 hl (by decide) rfl (fun ls hl => ?_)
    refine lv_iload hx hb dX10_tideAt_43 (lv_at hl 0 rfl) ?_
    refine lv_iload_n hx hb dX10_tideAt_45 rfl (lv_at hl 2 rfl) ?_
    refine lv_icmp_gt (tgt := 76) hx hb dX10_tideAt_46 (by decide) (fun c4 => ?_) (fun c4 => ?_)
    · replace hm := ip c4 hm
      exact bX10_tideAt_76 C0 h (lv_sub hl [1, 2, 3, 4, 5, 6, 0] rfl) hrc17 hm
    · replace hm := iq c4 hm
      refine lv_iload hx hb dX10_tideAt_49 (lv_at hl 4 rfl) ?_
      refine lv_if_lt (tgt := 72) hx hb dX10_tideAt_51 (by decide) (fun c5 => ?_) (fun c5 => ?_)
      · replace hm := ip c5 hm
        refine lv_iload hx hb dX10_tideAt_72 (lv_at hl 6 rfl) ?_
        refine lv_istore (lv' := [(4, .int v6), (7, .int x3), (0, .ref (ad 0)), (2, .int v2), (3, .int v3), (5, .int v5), (6, .int v6)]) hx hb dX10_tideAt_74 hl (by decide) rfl (fun ls hl => ?_)
        exact bX10_tideAt_76 C0 h (lv_sub hl [2, 3, 4, 0, 5, 6, 1] rfl) hrc17 hm
      · replace hm := iq c5 hm
        refine lv_iload hx hb dX10_tideAt_54 (lv_at hl 0 rfl) ?_
        refine lv_aload_n hx hb dX10_tideAt_56 rfl (lv_at hl 1 rfl) ?_
        refine sd_get C0 h (C := RX10) (T := TX10) (N := 17) kcX10 0 (aY_0 ad cA _) rfl 0 (by decide) kfX10_7 (v := .ref (ad 1)) rfl dX10_tideAt_57 ?_
        refine lv_iload_n hx hb dX10_tideAt_60 rfl (lv_at hl 3 rfl) ?_
        refine lv_iconst (v := 1) hx hb dX10_tideAt_61 (by decide) ?_
        refine lv_iadd hx hb dX10_tideAt_62 ?_
        refine lv_iconst (v := 2) hx hb dX10_tideAt_63 (by decide) ?_
        refine lv_iload hx hb dX10_tideAt_64 (lv_at hl 4 rfl) ?_
        refine lv_imul hx hb dX10_tideAt_66 ?_
        refine lv_iadd hx hb dX10_tideAt_67 ?_
        obtain ⟨x6, hx6, hm⟩ := bs hm
        refine sd_rd C0 h 1 (aY_1 ad cA _) hx6 dX10_tideAt_68 ?_
        refine lv_icmp_le (tgt := 76) hx hb dX10_tideAt_69 (by decide) (fun c7 => ?_) (fun c7 => ?_)
        · replace hm := ip c7 hm
          exact bX10_tideAt_76 C0 h (lv_sub hl [1, 2, 3, 4, 5, 6, 0] rfl) hrc17 hm
        · replace hm := iq c7 hm
          refine lv_iload hx hb dX10_tideAt_72 (lv_at hl 6 rfl) ?_
          refine lv_istore (lv' := [(4, .int v6), (7, .int x3), (0, .ref (ad 0)), (2, .int v2), (3, .int v3), (5, .int v5), (6, .int v6)]) hx hb dX10_tideAt_74 hl (by decide) rfl (fun ls hl => ?_)
          exact bX10_tideAt_76 C0 h (lv_sub hl [2, 3, 4, 0, 5, 6, 1] rfl) hrc17 hm
def mX10_tideAt_17 (z : Nat) (v2 : Int32) (v3 : Int32) : Nat → Int32 → Int32 → Int32 → St → Option (Int32 × St)
  | 0, _, _, _, _ => none
  | n + 1, v4, v5, v6, S => mX10_tideAt_17b z (mX10_tideAt_17 z v2 v3 n) v2 v3 v4 v5 v6 S
set_option maxHeartbeats 4000000 in
set_option maxRecDepth 100000 in
theorem lX10_tideAt_17 {p : Program} {l : Launch} {e : Env} {s : State} {m : MethodId} {args : Array Value} {below : List Frame} {meth : Method} {c : Code} {D : va_G} {cA : ClassId} {ad : Nat → Nat} {A : Nat → Prop} {q : (Int32 × St)} {z : Nat} {v2 : Int32} {v3 : Int32} (C0 : sd_Cx RX10 cX10_tideAt 14 (some .boolean) (Cond.code yX10_tideAt cX10_tideAt 14 (some .boolean) :: sd_big) p s m args meth c)  : ∀ (n : Nat) (v4 : Int32) (v5 : Int32) (v6 : Int32) (S : St) (H : Heap) (locs : List Loc) (ls : Array Slot), sd_Wd D vwCl cA sd_nw (wY ad cA) A s S H locs → lv_has ls 14 [(0, .ref (ad 0)), (2, .int v2), (3, .int v3), (4, .int v4), (5, .int v5), (6, .int v6)] → mX10_tideAt_17 z v2 v3 n v4 v5 v6 S = some q → W p l e rX10_tideAt s m args below meth c H locs 0 0 (MQ below (sd_Qi D vwCl (wY ad cA) A q) args s 0 0 A) (F0 m 17 ls []) := by
  intro n
  induction n with
  | zero =>
    intro v4 v5 v6 S H locs ls h hl hm
    exact nomatch (show none = some q from hm)
  | succ n ih =>
    intro v4 v5 v6 S H locs ls h hl hm
    exact bX10_tideAt_17b C0 h hl ih hm
def mX10_tideAt (z : Nat) (v1 : Int32) (v2 : Int32) (S : St) : Option (Int32 × St) :=
  mX10_tideAt_17 z v2 (64 + (25 * v1)) z (-1) (-1) 0 S
set_option maxHeartbeats 4000000 in
set_option maxRecDepth 100000 in
theorem bX10_tideAt {p : Program} {l : Launch} {e : Env} {s : State} {m : MethodId} {args : Array Value} {below : List Frame} {meth : Method} {c : Code} {D : va_G} {cA : ClassId} {ad : Nat → Nat} {A : Nat → Prop} {H : Heap} {locs : List Loc} {ls : Array Slot} {q : (Int32 × St)} {z : Nat} {v1 : Int32} {v2 : Int32} {S : St} (C0 : sd_Cx RX10 cX10_tideAt 14 (some .boolean) (Cond.code yX10_tideAt cX10_tideAt 14 (some .boolean) :: sd_big) p s m args meth c) (h : sd_Wd D vwCl cA sd_nw (wY ad cA) A s S H locs) (hl : lv_has ls 14 [(0, .ref (ad 0)), (1, .int v1), (2, .int v2)])  (hm : mX10_tideAt z v1 v2 S = some q) : W p l e rX10_tideAt s m args below meth c H locs 0 0 (MQ below (sd_Qi D vwCl (wY ad cA) A q) args s 0 0 A) (F0 m 0 ls []) := by
  unfold mX10_tideAt at hm
  have hx := C0.1
  have hb := C0.2.1
  refine lv_bipush (v := 64) hx hb dX10_tideAt_0 (by decide) ?_
  refine lv_bipush (v := 25) hx hb dX10_tideAt_2 (by decide) ?_
  refine lv_iload_n hx hb dX10_tideAt_4 rfl (lv_at hl 1 rfl) ?_
  refine lv_imul hx hb dX10_tideAt_5 ?_
  refine lv_iadd hx hb dX10_tideAt_6 ?_
  refine lv_istore_n (lv' := [(3, .int (64 + (25 * v1))), (0, .ref (ad 0)), (1, .int v1), (2, .int v2)]) hx hb dX10_tideAt_7 rfl hl (by decide) rfl (fun ls hl => ?_)
  refine lv_iconst (v := (-1)) hx hb dX10_tideAt_8 (by decide) ?_
  refine lv_istore (lv' := [(4, .int (-1)), (3, .int (64 + (25 * v1))), (0, .ref (ad 0)), (1, .int v1), (2, .int v2)]) hx hb dX10_tideAt_9 hl (by decide) rfl (fun ls hl => ?_)
  refine lv_iconst (v := (-1)) hx hb dX10_tideAt_11 (by decide) ?_
  refine lv_istore (lv' := [(5, .int (-1)), (4, .int (-1)), (3, .int (64 + (25 * v1))), (0, .ref (ad 0)), (1, .int v1), (2, .int v2)]) hx hb dX10_tideAt_12 hl (by decide) rfl (fun ls hl => ?_)
  refine lv_iconst (v := 0) hx hb dX10_tideAt_14 (by decide) ?_
  refine lv_istore (lv' := [(6, .int 0), (5, .int (-1)), (4, .int (-1)), (3, .int (64 + (25 * v1))), (0, .ref (ad 0)), (1, .int v1), (2, .int v2)]) hx hb dX10_tideAt_15 hl (by decide) rfl (fun ls hl => ?_)
  exact lX10_tideAt_17 C0 _ _ _ _ _ _ _ _ h (lv_sub hl [4, 6, 3, 2, 1, 0] rfl) hm
theorem tX10_tideAt (l : Launch) (D : va_G) (cA : ClassId) (ad : Nat → Nat) {z : Nat} {S : St} {v1 : Int32} {v2 : Int32} {q : (Int32 × St)} (hm : mX10_tideAt z v1 v2 S = some q) : sd_MI l D vwCl cA sd_nw (wY ad cA) yX10_tideAt (Cond.code yX10_tideAt cX10_tideAt 14 (some .boolean) :: sd_big) rX10_tideAt [.ref (ad 0), .int v1, .int v2] S q :=
  sd_ofI (by decide +kernel) (Nat.le_of_ble_eq_true rfl) (fun _ _ _ _ _ _ _ _ _ _ C0 h hl => bX10_tideAt C0 h (lv_sub hl [0, 1, 2] rfl) hm)
