def rX9_worst : Room := { frames := 5, cells := 0, slots := 0, locals := 119 }
def mX9_worst (z : Nat) (v1 : Int32) (S : St) : Option (Int32 × St) :=
  (mX9_isReach S v1).bind fun u1 =>
  if u1 = 0 then
    some ((-1), S)
  else
    (mX3_gather z S).bind fun u3 =>
    (mX3_addMisses z v1 u3).bind fun u4 =>
    (mX3_lineThatMissesMost z u4).bind fun u5 =>
    some (u5, u4)
set_option maxHeartbeats 4000000 in
set_option maxRecDepth 100000 in
theorem bX9_worst {p : Program} {l : Launch} {e : Env} {s : State} {m : MethodId} {args : Array Value} {below : List Frame} {meth : Method} {c : Code} {D : va_G} {cA : ClassId} {ad : Nat → Nat} {A : Nat → Prop} {H : Heap} {locs : List Loc} {ls : Array Slot} {q : (Int32 × St)} {z : Nat} {v1 : Int32} {S : St} (C0 : sd_Cx RX9 cX9_worst 2 (some .int) (Cond.code yX9_worst cX9_worst 2 (some .int) :: sd_big) p s m args meth c) (h : sd_Wd D vwCl cA sd_nw (wX ad cA) A s S H locs) (hl : lv_has ls 2 [(0, .ref (ad 0)), (1, .int v1)])  (hm : mX9_worst z v1 S = some q) : W p l e rX9_worst s m args below meth c H locs 0 0 (MQ below (sd_Qi D vwCl (wX ad cA) A q) args s 0 0 A) (F0 m 0 ls []) := by
  unfold mX9_worst at hm
  have hx := C0.1
  have hb := C0.2.1
  refine lv_iload_n hx hb dX9_worst_0 rfl (lv_at hl 1 rfl) ?_
  obtain ⟨u1, hu1, hm⟩ := bs hm
  refine sd_Si C0 h kYX9_isReach kmX9_203 [.int v1] (tX9_isReach l D cA ad hu1) rfl hl.1 rfl (Nat.le_of_ble_eq_true rfl) (by decide) dX9_worst_1 (by decide) (fun H locs h => ?_)
  refine lv_if_ne (tgt := 9) hx hb dX9_worst_4 (by decide) (fun c2 => ?_) (fun c2 => ?_)
  · replace hm := iq c2 hm
    refine lv_aload_n hx hb dX9_worst_9 rfl (lv_at hl 0 rfl) ?_
    refine sd_get C0 h (C := RX9) (T := TX9) (N := 8) kcX9 0 (aX_0 ad cA _) rfl 3 (by decide) kfX9_31 (v := .ref (ad 47)) rfl dX9_worst_10 ?_
    obtain ⟨u3, hu3, hm⟩ := bs hm
    refine sd_Vv C0 h kYX3_gather kmX9_206 47 (aX_47 ad cA _) rfl [] (tX3_gather l D cA ad hu3) rfl hl.1 rfl (Nat.le_of_ble_eq_true rfl) (by decide) dX9_worst_13 (by decide) (fun H locs h => ?_)
    refine lv_aload_n hx hb dX9_worst_16 rfl (lv_at hl 0 rfl) ?_
    refine sd_get C0 h (C := RX9) (T := TX9) (N := 8) kcX9 0 (aX_0 ad cA _) rfl 3 (by decide) kfX9_31 (v := .ref (ad 47)) rfl dX9_worst_17 ?_
    refine lv_iload_n hx hb dX9_worst_20 rfl (lv_at hl 1 rfl) ?_
    obtain ⟨u4, hu4, hm⟩ := bs hm
    refine sd_Vv C0 h kYX3_addMisses kmX9_224 47 (aX_47 ad cA _) rfl [.int v1] (tX3_addMisses l D cA ad hu4) rfl hl.1 rfl (Nat.le_of_ble_eq_true rfl) (by decide) dX9_worst_21 (by decide) (fun H locs h => ?_)
    refine lv_aload_n hx hb dX9_worst_24 rfl (lv_at hl 0 rfl) ?_
    refine sd_get C0 h (C := RX9) (T := TX9) (N := 8) kcX9 0 (aX_0 ad cA _) rfl 3 (by decide) kfX9_31 (v := .ref (ad 47)) rfl dX9_worst_25 ?_
    obtain ⟨u5, hu5, hm⟩ := bs hm
    refine sd_Vi C0 h kYX3_lineThatMissesMost kmX9_228 47 (aX_47 ad cA _) rfl [] (tX3_lineThatMissesMost l D cA ad hu5) rfl hl.1 rfl (Nat.le_of_ble_eq_true rfl) (by decide) dX9_worst_28 (by decide) (fun H locs h => ?_)
    exact sd_iret C0 h (Option.some.inj hm) dX9_worst_31
  · replace hm := ip c2 hm
    refine lv_iconst (v := (-1)) hx hb dX9_worst_7 (by decide) ?_
    exact sd_iret C0 h (Option.some.inj hm) dX9_worst_8
theorem tX9_worst (l : Launch) (D : va_G) (cA : ClassId) (ad : Nat → Nat) {z : Nat} {S : St} {v1 : Int32} {q : (Int32 × St)} (hm : mX9_worst z v1 S = some q) : sd_MI l D vwCl cA sd_nw (wX ad cA) yX9_worst (Cond.code yX9_worst cX9_worst 2 (some .int) :: sd_big) rX9_worst [.ref (ad 0), .int v1] S q :=
  sd_ofI (by decide +kernel) (Nat.le_of_ble_eq_true rfl) (fun _ _ _ _ _ _ _ _ _ _ C0 h hl => bX9_worst C0 h (lv_sub hl [0, 1] rfl) hm)

def rX9_isDensity : Room := { frames := 1, cells := 0, slots := 0, locals := 22 }
def mX9_isDensity (S : St) (v0 : Int32) : Option Int32 :=
  (mX9_within S v0 1 6).bind fun u1 =>
  zb u1 u1
set_option maxHeartbeats 4000000 in
set_option maxRecDepth 100000 in
theorem bX9_isDensity {p : Program} {l : Launch} {e : Env} {s : State} {m : MethodId} {args : Array Value} {below : List Frame} {meth : Method} {c : Code} {D : va_G} {cA : ClassId} {ad : Nat → Nat} {A : Nat → Prop} {H : Heap} {locs : List Loc} {ls : Array Slot} {q : Int32} {S : St} {v0 : Int32} (C0 : sd_Cx RX9 cX9_isDensity 1 (some .boolean) (Cond.code yX9_isDensity cX9_isDensity 1 (some .boolean) :: sd_big) p s m args meth c) (h : sd_Wd D vwCl cA sd_nw (wX ad cA) A s S H locs) (hl : lv_has ls 1 [(0, .int v0)])  (hm : mX9_isDensity S v0 = some q) : W p l e rX9_isDensity s m args below meth c H locs 0 0 (MQ below (sd_Qi D vwCl (wX ad cA) A (q, S)) args s 0 0 A) (F0 m 0 ls []) := by
  unfold mX9_isDensity at hm
  have hx := C0.1
  have hb := C0.2.1
  refine lv_iload_n hx hb dX9_isDensity_0 rfl (lv_at hl 0 rfl) ?_
  refine lv_iconst (v := 1) hx hb dX9_isDensity_1 (by decide) ?_
  refine lv_bipush (v := 6) hx hb dX9_isDensity_2 (by decide) ?_
  obtain ⟨u1, hu1, hm⟩ := bs hm
  refine sd_Si C0 h kYX9_within kmX9_89 [.int v0, .int 1, .int 6] (tX9_within l D cA ad hu1) rfl hl.1 rfl (Nat.le_of_ble_eq_true rfl) (by decide) dX9_isDensity_4 (by decide) (fun H locs h => ?_)
  obtain ⟨hz, hm⟩ := zb_some hm
  exact sd_zret C0 h (congrArg (fun x => (x, S)) hm) hz dX9_isDensity_7
theorem tX9_isDensity (l : Launch) (D : va_G) (cA : ClassId) (ad : Nat → Nat) {S : St} {v0 : Int32} {q : Int32} (hm : mX9_isDensity S v0 = some q) : sd_MI l D vwCl cA sd_nw (wX ad cA) yX9_isDensity (Cond.code yX9_isDensity cX9_isDensity 1 (some .boolean) :: sd_big) rX9_isDensity [.int v0] S (q, S) :=
  sd_ofI (by decide +kernel) (Nat.le_of_ble_eq_true rfl) (fun _ _ _ _ _ _ _ _ _ _ C0 h hl => bX9_isDensity C0 h (lv_sub hl [0] rfl) hm)

def rX9_isSquare : Room := { frames := 1, cells := 0, slots := 0, locals := 22 }
def mX9_isSquare (S : St) (v0 : Int32) : Option Int32 :=
  (mX9_within S v0 0 255).bind fun u1 =>
  zb u1 u1
set_option maxHeartbeats 4000000 in
set_option maxRecDepth 100000 in
theorem bX9_isSquare {p : Program} {l : Launch} {e : Env} {s : State} {m : MethodId} {args : Array Value} {below : List Frame} {meth : Method} {c : Code} {D : va_G} {cA : ClassId} {ad : Nat → Nat} {A : Nat → Prop} {H : Heap} {locs : List Loc} {ls : Array Slot} {q : Int32} {S : St} {v0 : Int32} (C0 : sd_Cx RX9 cX9_isSquare 1 (some .boolean) (Cond.code yX9_isSquare cX9_isSquare 1 (some .boolean) :: sd_big) p s m args meth c) (h : sd_Wd D vwCl cA sd_nw (wX ad cA) A s S H locs) (hl : lv_has ls 1 [(0, .int v0)])  (hm : mX9_isSquare S v0 = some q) : W p l e rX9_isSquare s m args below meth c H locs 0 0 (MQ below (sd_Qi D vwCl (wX ad cA) A (q, S)) args s 0 0 A) (F0 m 0 ls []) := by
  unfold mX9_isSquare at hm
  have hx := C0.1
  have hb := C0.2.1
  refine lv_iload_n hx hb dX9_isSquare_0 rfl (lv_at hl 0 rfl) ?_
  refine lv_iconst (v := 0) hx hb dX9_isSquare_1 (by decide) ?_
  refine lv_sipush (v := 255) hx hb dX9_isSquare_2 (by decide) ?_
  obtain ⟨u1, hu1, hm⟩ := bs hm
  refine sd_Si C0 h kYX9_within kmX9_89 [.int v0, .int 0, .int 255] (tX9_within l D cA ad hu1) rfl hl.1 rfl (Nat.le_of_ble_eq_true rfl) (by decide) dX9_isSquare_5 (by decide) (fun H locs h => ?_)
  obtain ⟨hz, hm⟩ := zb_some hm
  exact sd_zret C0 h (congrArg (fun x => (x, S)) hm) hz dX9_isSquare_8
theorem tX9_isSquare (l : Launch) (D : va_G) (cA : ClassId) (ad : Nat → Nat) {S : St} {v0 : Int32} {q : Int32} (hm : mX9_isSquare S v0 = some q) : sd_MI l D vwCl cA sd_nw (wX ad cA) yX9_isSquare (Cond.code yX9_isSquare cX9_isSquare 1 (some .boolean) :: sd_big) rX9_isSquare [.int v0] S (q, S) :=
  sd_ofI (by decide +kernel) (Nat.le_of_ble_eq_true rfl) (fun _ _ _ _ _ _ _ _ _ _ C0 h hl => bX9_isSquare C0 h (lv_sub hl [0] rfl) hm)

def rX6_squareOf : Room := { frames := 0, cells := 0, slots := 0, locals := 0 }
def mX6_squareOf (S : St) (v1 : Int32) : Option Int32 :=
  (rd (fA S 8) 200 v1).bind fun x1 =>
  (rd (fA S 7) 200 v1).bind fun x2 =>
  some ((16 * (x1 / 16)) + (x2 / 16))
set_option maxHeartbeats 4000000 in
set_option maxRecDepth 100000 in
theorem bX6_squareOf {p : Program} {l : Launch} {e : Env} {s : State} {m : MethodId} {args : Array Value} {below : List Frame} {meth : Method} {c : Code} {D : va_G} {cA : ClassId} {ad : Nat → Nat} {A : Nat → Prop} {H : Heap} {locs : List Loc} {ls : Array Slot} {q : Int32} {S : St} {v1 : Int32} (C0 : sd_Cx RX6 cX6_squareOf 2 (some .int) (Cond.code yX6_squareOf cX6_squareOf 2 (some .int) :: sd_big) p s m args meth c) (h : sd_Wd D vwCl cA sd_nw (wX ad cA) A s S H locs) (hl : lv_has ls 2 [(0, .ref (ad 10)), (1, .int v1)])  (hm : mX6_squareOf S v1 = some q) : W p l e rX6_squareOf s m args below meth c H locs 0 0 (MQ below (sd_Qi D vwCl (wX ad cA) A (q, S)) args s 0 0 A) (F0 m 0 ls []) := by
  unfold mX6_squareOf at hm
  have hx := C0.1
  have hb := C0.2.1
  refine lv_bipush (v := 16) hx hb dX6_squareOf_0 (by decide) ?_
  refine lv_aload_n hx hb dX6_squareOf_2 rfl (lv_at hl 0 rfl) ?_
  refine sd_get C0 h (C := RX6) (T := TX6) (N := 11) kcX6 10 (aX_10 ad cA _) rfl 2 (by decide) kfX6_18 (v := .ref (ad 13)) rfl dX6_squareOf_3 ?_
  refine lv_iload_n hx hb dX6_squareOf_6 rfl (lv_at hl 1 rfl) ?_
  obtain ⟨x1, hx1, hm⟩ := bs hm
  refine sd_rd C0 h 13 (aX_13 ad cA _) hx1 dX6_squareOf_7 ?_
  refine lv_bipush (v := 16) hx hb dX6_squareOf_8 (by decide) ?_
  refine lv_idiv hx hb dX6_squareOf_10 (by decide) ?_
  refine lv_imul hx hb dX6_squareOf_11 ?_
  refine lv_aload_n hx hb dX6_squareOf_12 rfl (lv_at hl 0 rfl) ?_
  refine sd_get C0 h (C := RX6) (T := TX6) (N := 11) kcX6 10 (aX_10 ad cA _) rfl 1 (by decide) kfX6_15 (v := .ref (ad 12)) rfl dX6_squareOf_13 ?_
  refine lv_iload_n hx hb dX6_squareOf_16 rfl (lv_at hl 1 rfl) ?_
  obtain ⟨x2, hx2, hm⟩ := bs hm
  refine sd_rd C0 h 12 (aX_12 ad cA _) hx2 dX6_squareOf_17 ?_
  refine lv_bipush (v := 16) hx hb dX6_squareOf_18 (by decide) ?_
  refine lv_idiv hx hb dX6_squareOf_20 (by decide) ?_
  refine lv_iadd hx hb dX6_squareOf_21 ?_
  exact sd_iret C0 h (congrArg (fun x => (x, S)) (Option.some.inj hm)) dX6_squareOf_22
theorem tX6_squareOf (l : Launch) (D : va_G) (cA : ClassId) (ad : Nat → Nat) {S : St} {v1 : Int32} {q : Int32} (hm : mX6_squareOf S v1 = some q) : sd_MI l D vwCl cA sd_nw (wX ad cA) yX6_squareOf (Cond.code yX6_squareOf cX6_squareOf 2 (some .int) :: sd_big) rX6_squareOf [.ref (ad 10), .int v1] S (q, S) :=
  sd_ofI (by decide +kernel) (Nat.le_of_ble_eq_true rfl) (fun _ _ _ _ _ _ _ _ _ _ C0 h hl => bX6_squareOf C0 h (lv_sub hl [0, 1] rfl) hm)

def rX6_isThere : Room := { frames := 0, cells := 0, slots := 0, locals := 0 }
def mX6_isThere (S : St) (v1 : Int32) (v2 : Int32) : Option Int32 :=
  (rd (fA S 10) 200 v1).bind fun x1 =>
  if v2 < x1 then
    some 0
  else
    (rd (fA S 13) 200 v1).bind fun x3 =>
    if x3 ≤ v2 then
      some 0
    else
      some 1
set_option maxHeartbeats 4000000 in
set_option maxRecDepth 100000 in
theorem bX6_isThere {p : Program} {l : Launch} {e : Env} {s : State} {m : MethodId} {args : Array Value} {below : List Frame} {meth : Method} {c : Code} {D : va_G} {cA : ClassId} {ad : Nat → Nat} {A : Nat → Prop} {H : Heap} {locs : List Loc} {ls : Array Slot} {q : Int32} {S : St} {v1 : Int32} {v2 : Int32} (C0 : sd_Cx RX6 cX6_isThere 3 (some .boolean) (Cond.code yX6_isThere cX6_isThere 3 (some .boolean) :: sd_big) p s m args meth c) (h : sd_Wd D vwCl cA sd_nw (wX ad cA) A s S H locs) (hl : lv_has ls 3 [(0, .ref (ad 10)), (1, .int v1), (2, .int v2)])  (hm : mX6_isThere S v1 v2 = some q) : W p l e rX6_isThere s m args below meth c H locs 0 0 (MQ below (sd_Qi D vwCl (wX ad cA) A (q, S)) args s 0 0 A) (F0 m 0 ls []) := by
  unfold mX6_isThere at hm
  have hx := C0.1
  have hb := C0.2.1
  refine lv_aload_n hx hb dX6_isThere_0 rfl (lv_at hl 0 rfl) ?_
  refine sd_get C0 h (C := RX6) (T := TX6) (N := 11) kcX6 10 (aX_10 ad cA _) rfl 4 (by decide) kfX6_24 (v := .ref (ad 15)) rfl dX6_isThere_1 ?_
  refine lv_iload_n hx hb dX6_isThere_4 rfl (lv_at hl 1 rfl) ?_
  obtain ⟨x1, hx1, hm⟩ := bs hm
  refine sd_rd C0 h 15 (aX_15 ad cA _) hx1 dX6_isThere_5 ?_
  refine lv_iload_n hx hb dX6_isThere_6 rfl (lv_at hl 2 rfl) ?_
  refine lv_icmp_gt (tgt := 24) hx hb dX6_isThere_7 (by decide) (fun c2 => ?_) (fun c2 => ?_)
  · replace hm := ip c2 hm
    refine lv_iconst (v := 0) hx hb dX6_isThere_24 (by decide) ?_
    exact sd_zret C0 h (congrArg (fun x => (x, S)) (Option.some.inj hm)) rfl dX6_isThere_25
  · replace hm := iq c2 hm
    refine lv_iload_n hx hb dX6_isThere_10 rfl (lv_at hl 2 rfl) ?_
    refine lv_aload_n hx hb dX6_isThere_11 rfl (lv_at hl 0 rfl) ?_
    refine sd_get C0 h (C := RX6) (T := TX6) (N := 11) kcX6 10 (aX_10 ad cA _) rfl 7 (by decide) kfX6_33 (v := .ref (ad 18)) rfl dX6_isThere_12 ?_
    refine lv_iload_n hx hb dX6_isThere_15 rfl (lv_at hl 1 rfl) ?_
    obtain ⟨x3, hx3, hm⟩ := bs hm
    refine sd_rd C0 h 18 (aX_18 ad cA _) hx3 dX6_isThere_16 ?_
    refine lv_icmp_ge (tgt := 24) hx hb dX6_isThere_17 (by decide) (fun c4 => ?_) (fun c4 => ?_)
    · replace hm := ip c4 hm
      refine lv_iconst (v := 0) hx hb dX6_isThere_24 (by decide) ?_
      exact sd_zret C0 h (congrArg (fun x => (x, S)) (Option.some.inj hm)) rfl dX6_isThere_25
    · replace hm := iq c4 hm
      refine lv_iconst (v := 1) hx hb dX6_isThere_20 (by decide) ?_
      refine lv_goto (tgt := 25) hx hb dX6_isThere_21 (by decide) ?_
      exact sd_zret C0 h (congrArg (fun x => (x, S)) (Option.some.inj hm)) rfl dX6_isThere_25
theorem tX6_isThere (l : Launch) (D : va_G) (cA : ClassId) (ad : Nat → Nat) {S : St} {v1 : Int32} {v2 : Int32} {q : Int32} (hm : mX6_isThere S v1 v2 = some q) : sd_MI l D vwCl cA sd_nw (wX ad cA) yX6_isThere (Cond.code yX6_isThere cX6_isThere 3 (some .boolean) :: sd_big) rX6_isThere [.ref (ad 10), .int v1, .int v2] S (q, S) :=
  sd_ofI (by decide +kernel) (Nat.le_of_ble_eq_true rfl) (fun _ _ _ _ _ _ _ _ _ _ C0 h hl => bX6_isThere C0 h (lv_sub hl [0, 1, 2] rfl) hm)

def rX7_counts : Room := { frames := 1, cells := 0, slots := 0, locals := 22 }
def mX7_counts (S : St) (v1 : Int32) (v2 : Int32) : Option Int32 :=
  (rd (fA S 16) 200 v1).bind fun x1 =>
  if x1 = (-30000) then
    some 0
  else
    (mX6_isThere S v1 v2).bind fun u3 =>
    if u3 = 0 then
      some 0
    else
      some 1
set_option maxHeartbeats 4000000 in
set_option maxRecDepth 100000 in
theorem bX7_counts {p : Program} {l : Launch} {e : Env} {s : State} {m : MethodId} {args : Array Value} {below : List Frame} {meth : Method} {c : Code} {D : va_G} {cA : ClassId} {ad : Nat → Nat} {A : Nat → Prop} {H : Heap} {locs : List Loc} {ls : Array Slot} {q : Int32} {S : St} {v1 : Int32} {v2 : Int32} (C0 : sd_Cx RX7 cX7_counts 3 (some .boolean) (Cond.code yX7_counts cX7_counts 3 (some .boolean) :: sd_big) p s m args meth c) (h : sd_Wd D vwCl cA sd_nw (wX ad cA) A s S H locs) (hl : lv_has ls 3 [(0, .ref (ad 1)), (1, .int v1), (2, .int v2)])  (hm : mX7_counts S v1 v2 = some q) : W p l e rX7_counts s m args below meth c H locs 0 0 (MQ below (sd_Qi D vwCl (wX ad cA) A (q, S)) args s 0 0 A) (F0 m 0 ls []) := by
  unfold mX7_counts at hm
  have hx := C0.1
  have hb := C0.2.1
  refine lv_aload_n hx hb dX7_counts_0 rfl (lv_at hl 0 rfl) ?_
  refine sd_get C0 h (C := RX7) (T := TX7) (N := 4) kcX7 1 (aX_1 ad cA _) rfl 3 (by decide) kfX7_32 (v := .ref (ad 21)) rfl dX7_counts_1 ?_
  refine lv_iload_n hx hb dX7_counts_4 rfl (lv_at hl 1 rfl) ?_
  obtain ⟨x1, hx1, hm⟩ := bs hm
  refine sd_rd C0 h 21 (aX_21 ad cA _) hx1 dX7_counts_5 ?_
  refine lv_sipush (v := (-30000)) hx hb dX7_counts_6 (by decide) ?_
  refine lv_icmp_eq (tgt := 28) hx hb dX7_counts_9 (by decide) (fun c2 => ?_) (fun c2 => ?_)
  · replace hm := ip c2 hm
    refine lv_iconst (v := 0) hx hb dX7_counts_28 (by decide) ?_
    exact sd_zret C0 h (congrArg (fun x => (x, S)) (Option.some.inj hm)) rfl dX7_counts_29
  · replace hm := iq c2 hm
    refine lv_aload_n hx hb dX7_counts_12 rfl (lv_at hl 0 rfl) ?_
    refine sd_get C0 h (C := RX7) (T := TX7) (N := 4) kcX7 1 (aX_1 ad cA _) rfl 2 (by decide) kfX7_28 (v := .ref (ad 10)) rfl dX7_counts_13 ?_
    refine lv_iload_n hx hb dX7_counts_16 rfl (lv_at hl 1 rfl) ?_
    refine lv_iload_n hx hb dX7_counts_17 rfl (lv_at hl 2 rfl) ?_
    obtain ⟨u3, hu3, hm⟩ := bs hm
    refine sd_Vi C0 h kYX6_isThere kmX7_85 10 (aX_10 ad cA _) rfl [.int v1, .int v2] (tX6_isThere l D cA ad hu3) rfl hl.1 rfl (Nat.le_of_ble_eq_true rfl) (by decide) dX7_counts_18 (by decide) (fun H locs h => ?_)
    refine lv_if_eq (tgt := 28) hx hb dX7_counts_21 (by decide) (fun c4 => ?_) (fun c4 => ?_)
    · replace hm := ip c4 hm
      refine lv_iconst (v := 0) hx hb dX7_counts_28 (by decide) ?_
      exact sd_zret C0 h (congrArg (fun x => (x, S)) (Option.some.inj hm)) rfl dX7_counts_29
    · replace hm := iq c4 hm
      refine lv_iconst (v := 1) hx hb dX7_counts_24 (by decide) ?_
      refine lv_goto (tgt := 29) hx hb dX7_counts_25 (by decide) ?_
      exact sd_zret C0 h (congrArg (fun x => (x, S)) (Option.some.inj hm)) rfl dX7_counts_29
theorem tX7_counts (l : Launch) (D : va_G) (cA : ClassId) (ad : Nat → Nat) {S : St} {v1 : Int32} {v2 : Int32} {q : Int32} (hm : mX7_counts S v1 v2 = some q) : sd_MI l D vwCl cA sd_nw (wX ad cA) yX7_counts (Cond.code yX7_counts cX7_counts 3 (some .boolean) :: sd_big) rX7_counts [.ref (ad 1), .int v1, .int v2] S (q, S) :=
  sd_ofI (by decide +kernel) (Nat.le_of_ble_eq_true rfl) (fun _ _ _ _ _ _ _ _ _ _ C0 h hl => bX7_counts C0 h (lv_sub hl [0, 1, 2] rfl) hm)

def rX5_findAll : Room := { frames := 2, cells := 0, slots := 0, locals := 44 }
def mX5_findAll_51 (z : Nat) (rc16 : Int32 → St → Option St) (v1 : Int32) (v2 : Int32) (v4 : Int32) (t0 : Int32) (S : St) : Option St :=
  if t0 = 0 then
    rc16 (v4 + 1) S
  else
    (mX7_counts S v4 v1).bind fun u2 =>
    if u2 = 0 then
      rc16 (v4 + 1) S
    else
      (wr (fA S 40) 200 (fI S 13) v4).bind fun g4 =>
      (wr (fA (sI (sA S 40 g4) 13 ((fI (sA S 40 g4) 13) + 1)) 42) 200 v4 6).bind fun g5 =>
      rc16 (v4 + 1) (sA (sI (sA S 40 g4) 13 ((fI (sA S 40 g4) 13) + 1)) 42 g5)
set_option maxHeartbeats 4000000 in
set_option maxRecDepth 100000 in
theorem bX5_findAll_51 {p : Program} {l : Launch} {e : Env} {s : State} {m : MethodId} {args : Array Value} {below : List Frame} {meth : Method} {c : Code} {D : va_G} {cA : ClassId} {ad : Nat → Nat} {A : Nat → Prop} {H : Heap} {locs : List Loc} {ls : Array Slot} {q : St} {z : Nat} {rc16 : Int32 → St → Option St} {v1 : Int32} {v2 : Int32} {v4 : Int32} {t0 : Int32} {S : St} (C0 : sd_Cx RX5 cX5_findAll 6 none (Cond.code yX5_findAll cX5_findAll 6 none :: sd_big) p s m args meth c) (h : sd_Wd D vwCl cA sd_nw (wX ad cA) A s S H locs) (hl : lv_has ls 6 [(0, .ref (ad 51)), (1, .int v1), (2, .int v2), (3, .ref (ad 10)), (4, .int v4)]) (hrc16 : ∀ (v4 : Int32) (S : St) (H : Heap) (locs : List Loc) (ls : Array Slot), sd_Wd D vwCl cA sd_nw (wX ad cA) A s S H locs → lv_has ls 6 [(0, .ref (ad 51)), (1, .int v1), (2, .int v2), (3, .ref (ad 10)), (4, .int v4)] → rc16 v4 S = some q → W p l e rX5_findAll s m args below meth c H locs 0 0 (MQ below (sd_Qv D vwCl (wX ad cA) A q) args s 0 0 A) (F0 m 16 ls [])) (hm : mX5_findAll_51 z rc16 v1 v2 v4 t0 S = some q) : W p l e rX5_findAll s m args below meth c H locs 0 0 (MQ below (sd_Qv D vwCl (wX ad cA) A q) args s 0 0 A) (F0 m 51 ls [.int t0]) := by
  unfold mX5_findAll_51 at hm
  have hx := C0.1
  have hb := C0.2.1
  refine lv_istore (lv' := [(5, .int t0), (0, .ref (ad 51)), (1, .int v1), (2, .int v2), (3, .ref (ad 10)), (4, .int v4)]) hx hb dX5_findAll_51 hl (by decide) rfl (fun ls hl => ?_)
  refine lv_iload hx hb dX5_findAll_53 (lv_at hl 0 rfl) ?_
  refine lv_if_eq (tgt := 101) hx hb dX5_findAll_55 (by decide) (fun c1 => ?_) (fun c1 => ?_)
  · replace hm := ip c1 hm
    refine lv_iinc (v := (v4 + 1)) (lv' := [(4, .int (v4 + 1)), (5, .int t0), (0, .ref (ad 51)), (1, .int v1), (2, .int v2), (3, .ref (ad 10))]) hx hb dX5_findAll_101 hl (k := 5) rfl rfl (by decide) rfl (fun ls hl => ?_)
    refine lv_goto (tgt := 16) hx hb dX5_findAll_104 (by decide) ?_
    exact hrc16 _ _ _ _ _ h (lv_sub hl [2, 3, 4, 5, 0] rfl) hm
  · replace hm := iq c1 hm
    refine lv_aload_n hx hb dX5_findAll_58 rfl (lv_at hl 1 rfl) ?_
    refine sd_get C0 h (C := RX5) (T := TX5) (N := 6) kcX5 51 (aX_51 ad cA _) rfl 0 (by decide) kfX5_28 (v := .ref (ad 1)) rfl dX5_findAll_59 ?_
    refine lv_iload hx hb dX5_findAll_62 (lv_at hl 5 rfl) ?_
    refine lv_iload_n hx hb dX5_findAll_64 rfl (lv_at hl 2 rfl) ?_
    obtain ⟨u2, hu2, hm⟩ := bs hm
    refine sd_Vi C0 h kYX7_counts kmX5_67 1 (aX_1 ad cA _) rfl [.int v4, .int v1] (tX7_counts l D cA ad hu2) rfl hl.1 rfl (Nat.le_of_ble_eq_true rfl) (by decide) dX5_findAll_65 (by decide) (fun H locs h => ?_)
    refine lv_if_eq (tgt := 101) hx hb dX5_findAll_68 (by decide) (fun c3 => ?_) (fun c3 => ?_)
    · replace hm := ip c3 hm
      refine lv_iinc (v := (v4 + 1)) (lv' := [(4, .int (v4 + 1)), (5, .int t0), (0, .ref (ad 51)), (1, .int v1), (2, .int v2), (3, .ref (ad 10))]) hx hb dX5_findAll_101 hl (k := 5) rfl rfl (by decide) rfl (fun ls hl => ?_)
      refine lv_goto (tgt := 16) hx hb dX5_findAll_104 (by decide) ?_
      exact hrc16 _ _ _ _ _ h (lv_sub hl [2, 3, 4, 5, 0] rfl) hm
    · replace hm := iq c3 hm
      refine lv_aload_n hx hb dX5_findAll_71 rfl (lv_at hl 1 rfl) ?_
      refine sd_get C0 h (C := RX5) (T := TX5) (N := 6) kcX5 51 (aX_51 ad cA _) rfl 1 (by decide) kfX5_9 (v := .ref (ad 52)) rfl dX5_findAll_72 ?_
      refine lv_aload_n hx hb dX5_findAll_75 rfl (lv_at hl 1 rfl) ?_
      refine sd_get C0 h (C := RX5) (T := TX5) (N := 6) kcX5 51 (aX_51 ad cA _) rfl 2 (by decide) kfX5_15 (v := .int (fI S 13)) rfl dX5_findAll_76 ?_
      refine lv_iload hx hb dX5_findAll_79 (lv_at hl 5 rfl) ?_
      obtain ⟨g4, hg4, hm⟩ := bs hm
      refine sd_wr C0 h (S1 := (sA S 40 g4)) 52 (aX_52 ad cA _) hg4 (eX_52 ad cA _ _) dX5_findAll_81 (fun H locs h => ?_)
      refine lv_aload_n hx hb dX5_findAll_82 rfl (lv_at hl 1 rfl) ?_
      refine lv_dup hx hb dX5_findAll_83 rfl ?_
      refine sd_get C0 h (C := RX5) (T := TX5) (N := 6) kcX5 51 (aX_51 ad cA _) rfl 2 (by decide) kfX5_15 (v := .int (fI (sA S 40 g4) 13)) rfl dX5_findAll_84 ?_
      refine lv_iconst (v := 1) hx hb dX5_findAll_87 (by decide) ?_
      refine lv_iadd hx hb dX5_findAll_88 ?_
      refine sd_put C0 h (C := RX5) (T := TX5) (N := 6) (S1 := (sI (sA S 40 g4) 13 ((fI (sA S 40 g4) 13) + 1))) kcX5 tyX5 tyX5_ok nmX5 51 (aX_51 ad cA _) rfl 2 (by decide) kfX5_15 rfl (ty := .int) (by decide +kernel) rfl rfl (Nat.le_of_ble_eq_true rfl) (eX_51_2 ad cA _ _) dX5_findAll_89 (fun H locs h => ?_)
      refine lv_aload_n hx hb dX5_findAll_92 rfl (lv_at hl 1 rfl) ?_
      refine sd_get C0 h (C := RX5) (T := TX5) (N := 6) kcX5 51 (aX_51 ad cA _) rfl 5 (by decide) kfX5_25 (v := .ref (ad 54)) rfl dX5_findAll_93 ?_
      refine lv_iload hx hb dX5_findAll_96 (lv_at hl 5 rfl) ?_
      refine lv_bipush (v := 6) hx hb dX5_findAll_98 (by decide) ?_
      obtain ⟨g5, hg5, hm⟩ := bs hm
      refine sd_wr C0 h (S1 := (sA (sI (sA S 40 g4) 13 ((fI (sA S 40 g4) 13) + 1)) 42 g5)) 54 (aX_54 ad cA _) hg5 (eX_54 ad cA _ _) dX5_findAll_100 (fun H locs h => ?_)
      refine lv_iinc (v := (v4 + 1)) (lv' := [(4, .int (v4 + 1)), (5, .int t0), (0, .ref (ad 51)), (1, .int v1), (2, .int v2), (3, .ref (ad 10))]) hx hb dX5_findAll_101 hl (k := 5) rfl rfl (by decide) rfl (fun ls hl => ?_)
      refine lv_goto (tgt := 16) hx hb dX5_findAll_104 (by decide) ?_
      exact hrc16 _ _ _ _ _ h (lv_sub hl [2, 3, 4, 5, 0] rfl) hm
def mX5_findAll_16b (z : Nat) (rc16 : Int32 → St → Option St) (v1 : Int32) (v2 : Int32) (v4 : Int32) (S : St) : Option St :=
  if (fI S 2) ≤ v4 then
    some S
  else
    (rd (fA S 6) 200 v4).bind fun x2 =>
    if x2 = 2 then
      mX5_findAll_51 z rc16 v1 v2 v4 0 S
    else
      (mX6_squareOf S v4).bind fun u4 =>
      if u4 = v2 then
        mX5_findAll_51 z rc16 v1 v2 v4 1 S
      else
        mX5_findAll_51 z rc16 v1 v2 v4 0 S
set_option maxHeartbeats 4000000 in
set_option maxRecDepth 100000 in
theorem bX5_findAll_16b {p : Program} {l : Launch} {e : Env} {s : State} {m : MethodId} {args : Array Value} {below : List Frame} {meth : Method} {c : Code} {D : va_G} {cA : ClassId} {ad : Nat → Nat} {A : Nat → Prop} {H : Heap} {locs : List Loc} {ls : Array Slot} {q : St} {z : Nat} {rc16 : Int32 → St → Option St} {v1 : Int32} {v2 : Int32} {v4 : Int32} {S : St} (C0 : sd_Cx RX5 cX5_findAll 6 none (Cond.code yX5_findAll cX5_findAll 6 none :: sd_big) p s m args meth c) (h : sd_Wd D vwCl cA sd_nw (wX ad cA) A s S H locs) (hl : lv_has ls 6 [(0, .ref (ad 51)), (1, .int v1), (2, .int v2), (3, .ref (ad 10)), (4, .int v4)]) (hrc16 : ∀ (v4 : Int32) (S : St) (H : Heap) (locs : List Loc) (ls : Array Slot), sd_Wd D vwCl cA sd_nw (wX ad cA) A s S H locs → lv_has ls 6 [(0, .ref (ad 51)), (1, .int v1), (2, .int v2), (3, .ref (ad 10)), (4, .int v4)] → rc16 v4 S = some q → W p l e rX5_findAll s m args below meth c H locs 0 0 (MQ below (sd_Qv D vwCl (wX ad cA) A q) args s 0 0 A) (F0 m 16 ls [])) (hm : mX5_findAll_16b z rc16 v1 v2 v4 S = some q) : W p l e rX5_findAll s m args below meth c H locs 0 0 (MQ below (sd_Qv D vwCl (wX ad cA) A q) args s 0 0 A) (F0 m 16 ls []) := by
  unfold mX5_findAll_16b at hm
  have hx := C0.1
  have hb := C0.2.1
  refine lv_iload hx hb dX5_findAll_16 (lv_at hl 4 rfl) ?_
  refine lv_aload_n hx hb dX5_findAll_18 rfl (lv_at hl 3 rfl) ?_
  refine sd_get C0 h (C := RX6) (T := TX6) (N := 11) kcX6 10 (aX_10 ad cA _) rfl 10 (by decide) kfX5_55 (v := .int (fI S 2)) rfl dX5_findAll_19 ?_
  refine lv_icmp_ge (tgt := 107) hx hb dX5_findAll_22 (by decide) (fun c1 => ?_) (fun c1 => ?_)
  · replace hm := ip c1 hm
    exact sd_vret C0 h (Option.some.inj hm) dX5_findAll_107
  · replace hm := iq c1 hm
    refine lv_aload_n hx hb dX5_findAll_25 rfl (lv_at hl 3 rfl) ?_
    refine sd_get C0 h (C := RX6) (T := TX6) (N := 11) kcX6 10 (aX_10 ad cA _) rfl 0 (by decide) kfX5_60 (v := .ref (ad 11)) rfl dX5_findAll_26 ?_
    refine lv_iload hx hb dX5_findAll_29 (lv_at hl 4 rfl) ?_
    obtain ⟨x2, hx2, hm⟩ := bs hm
    refine sd_rd C0 h 11 (aX_11 ad cA _) hx2 dX5_findAll_31 ?_
    refine lv_iconst (v := 2) hx hb dX5_findAll_32 (by decide) ?_
    refine lv_icmp_eq (tgt := 50) hx hb dX5_findAll_33 (by decide) (fun c3 => ?_) (fun c3 => ?_)
    · replace hm := ip c3 hm
      refine lv_iconst (v := 0) hx hb dX5_findAll_50 (by decide) ?_
      exact bX5_findAll_51 C0 h (lv_sub hl [0, 1, 2, 3, 4] rfl) hrc16 hm
    · replace hm := iq c3 hm
      refine lv_aload_n hx hb dX5_findAll_36 rfl (lv_at hl 3 rfl) ?_
      refine lv_iload hx hb dX5_findAll_37 (lv_at hl 4 rfl) ?_
      obtain ⟨u4, hu4, hm⟩ := bs hm
      refine sd_Vi C0 h kYX6_squareOf kmX5_63 10 (aX_10 ad cA _) rfl [.int v4] (tX6_squareOf l D cA ad hu4) rfl hl.1 rfl (Nat.le_of_ble_eq_true rfl) (by decide) dX5_findAll_39 (by decide) (fun H locs h => ?_)
      refine lv_iload_n hx hb dX5_findAll_42 rfl (lv_at hl 2 rfl) ?_
      refine lv_icmp_ne (tgt := 50) hx hb dX5_findAll_43 (by decide) (fun c5 => ?_) (fun c5 => ?_)
      · replace hm := iq c5 hm
        refine lv_iconst (v := 0) hx hb dX5_findAll_50 (by decide) ?_
        exact bX5_findAll_51 C0 h (lv_sub hl [0, 1, 2, 3, 4] rfl) hrc16 hm
      · replace hm := ip c5 hm
        refine lv_iconst (v := 1) hx hb dX5_findAll_46 (by decide) ?_
        refine lv_goto (tgt := 51) hx hb dX5_findAll_47 (by decide) ?_
        exact bX5_findAll_51 C0 h (lv_sub hl [0, 1, 2, 3, 4] rfl) hrc16 hm
def mX5_findAll_16 (z : Nat) (v1 : Int32) (v2 : Int32) : Nat → Int32 → St → Option St
  | 0, _, _ => none
  | n + 1, v4, S => mX5_findAll_16b z (mX5_findAll_16 z v1 v2 n) v1 v2 v4 S
set_option maxHeartbeats 4000000 in
set_option maxRecDepth 100000 in
theorem lX5_findAll_16 {p : Program} {l : Launch} {e : Env} {s : State} {m : MethodId} {args : Array Value} {below : List Frame} {meth : Method} {c : Code} {D : va_G} {cA : ClassId} {ad : Nat → Nat} {A : Nat → Prop} {q : St} {z : Nat} {v1 : Int32} {v2 : Int32} (C0 : sd_Cx RX5 cX5_findAll 6 none (Cond.code yX5_findAll cX5_findAll 6 none :: sd_big) p s m args meth c)  : ∀ (n : Nat) (v4 : Int32) (S : St) (H : Heap) (locs : List Loc) (ls : Array Slot), sd_Wd D vwCl cA sd_nw (wX ad cA) A s S H locs → lv_has ls 6 [(0, .ref (ad 51)), (1, .int v1), (2, .int v2), (3, .ref (ad 10)), (4, .int v4)] → mX5_findAll_16 z v1 v2 n v4 S = some q → W p l e rX5_findAll s m args below meth c H locs 0 0 (MQ below (sd_Qv D vwCl (wX ad cA) A q) args s 0 0 A) (F0 m 16 ls []) := by
  intro n
  induction n with
  | zero =>
    intro v4 S H locs ls h hl hm
    exact nomatch (show none = some q from hm)
  | succ n ih =>
    intro v4 S H locs ls h hl hm
    exact bX5_findAll_16b C0 h hl ih hm
def mX5_findAll (z : Nat) (v1 : Int32) (v2 : Int32) (S : St) : Option St :=
  mX5_findAll_16 z v1 v2 z 0 (sI S 13 0)
set_option maxHeartbeats 4000000 in
set_option maxRecDepth 100000 in
theorem bX5_findAll {p : Program} {l : Launch} {e : Env} {s : State} {m : MethodId} {args : Array Value} {below : List Frame} {meth : Method} {c : Code} {D : va_G} {cA : ClassId} {ad : Nat → Nat} {A : Nat → Prop} {H : Heap} {locs : List Loc} {ls : Array Slot} {q : St} {z : Nat} {v1 : Int32} {v2 : Int32} {S : St} (C0 : sd_Cx RX5 cX5_findAll 6 none (Cond.code yX5_findAll cX5_findAll 6 none :: sd_big) p s m args meth c) (h : sd_Wd D vwCl cA sd_nw (wX ad cA) A s S H locs) (hl : lv_has ls 6 [(0, .ref (ad 51)), (1, .int v1), (2, .int v2)])  (hm : mX5_findAll z v1 v2 S = some q) : W p l e rX5_findAll s m args below meth c H locs 0 0 (MQ below (sd_Qv D vwCl (wX ad cA) A q) args s 0 0 A) (F0 m 0 ls []) := by
  unfold mX5_findAll at hm
  have hx := C0.1
  have hb := C0.2.1
  refine lv_aload_n hx hb dX5_findAll_0 rfl (lv_at hl 0 rfl) ?_
  refine sd_get C0 h (C := RX5) (T := TX5) (N := 6) kcX5 51 (aX_51 ad cA _) rfl 0 (by decide) kfX5_28 (v := .ref (ad 1)) rfl dX5_findAll_1 ?_
  refine sd_get C0 h (C := RX7) (T := TX7) (N := 4) kcX7 1 (aX_1 ad cA _) rfl 2 (by decide) kfX5_51 (v := .ref (ad 10)) rfl dX5_findAll_4 ?_
  refine lv_astore_n (lv' := [(3, .ref (ad 10)), (0, .ref (ad 51)), (1, .int v1), (2, .int v2)]) hx hb dX5_findAll_7 rfl hl (by decide) rfl (fun ls hl => ?_)
  refine lv_aload_n hx hb dX5_findAll_8 rfl (lv_at hl 1 rfl) ?_
  refine lv_iconst (v := 0) hx hb dX5_findAll_9 (by decide) ?_
  refine sd_put C0 h (C := RX5) (T := TX5) (N := 6) (S1 := (sI S 13 0)) kcX5 tyX5 tyX5_ok nmX5 51 (aX_51 ad cA _) rfl 2 (by decide) kfX5_15 rfl (ty := .int) (by decide +kernel) rfl rfl (Nat.le_of_ble_eq_true rfl) (eX_51_2 ad cA _ _) dX5_findAll_10 (fun H locs h => ?_)
  refine lv_iconst (v := 0) hx hb dX5_findAll_13 (by decide) ?_
  refine lv_istore (lv' := [(4, .int 0), (3, .ref (ad 10)), (0, .ref (ad 51)), (1, .int v1), (2, .int v2)]) hx hb dX5_findAll_14 hl (by decide) rfl (fun ls hl => ?_)
  exact lX5_findAll_16 C0 _ _ _ _ _ _ h (lv_sub hl [2, 3, 4, 1, 0] rfl) hm
theorem tX5_findAll (l : Launch) (D : va_G) (cA : ClassId) (ad : Nat → Nat) {z : Nat} {S : St} {v1 : Int32} {v2 : Int32} {q : St} (hm : mX5_findAll z v1 v2 S = some q) : sd_MV l D vwCl cA sd_nw (wX ad cA) yX5_findAll (Cond.code yX5_findAll cX5_findAll 6 none :: sd_big) rX5_findAll [.ref (ad 51), .int v1, .int v2] S q :=
  sd_ofV (by decide +kernel) (Nat.le_of_ble_eq_true rfl) (fun _ _ _ _ _ _ _ _ _ _ C0 h hl => bX5_findAll C0 h (lv_sub hl [0, 1, 2] rfl) hm)

def rX6_spanHas : Room := { frames := 0, cells := 0, slots := 0, locals := 0 }
def mX6_spanHas (S : St) (v1 : Int32) (v2 : Int32) : Option Int32 :=
  (rd (fA S 7) 200 v2).bind fun x1 =>
  (rd (fA S 7) 200 v1).bind fun x2 =>
  (rd (fA S 8) 200 v2).bind fun x3 =>
  (rd (fA S 8) 200 v1).bind fun x4 =>
  if (x1 - x2) < 0 then
    some 0
  else
    (rd (fA S 14) 200 v1).bind fun x6 =>
    if x6 ≤ (x1 - x2) then
      some 0
    else
      if (x3 - x4) < 0 then
        some 0
      else
        (rd (fA S 15) 200 v1).bind fun x9 =>
        if x9 ≤ (x3 - x4) then
          some 0
        else
          some 1
set_option maxHeartbeats 4000000 in
set_option maxRecDepth 100000 in
theorem bX6_spanHas {p : Program} {l : Launch} {e : Env} {s : State} {m : MethodId} {args : Array Value} {below : List Frame} {meth : Method} {c : Code} {D : va_G} {cA : ClassId} {ad : Nat → Nat} {A : Nat → Prop} {H : Heap} {locs : List Loc} {ls : Array Slot} {q : Int32} {S : St} {v1 : Int32} {v2 : Int32} (C0 : sd_Cx RX6 cX6_spanHas 5 (some .boolean) (Cond.code yX6_spanHas cX6_spanHas 5 (some .boolean) :: sd_big) p s m args meth c) (h : sd_Wd D vwCl cA sd_nw (wX ad cA) A s S H locs) (hl : lv_has ls 5 [(0, .ref (ad 10)), (1, .int v1), (2, .int v2)])  (hm : mX6_spanHas S v1 v2 = some q) : W p l e rX6_spanHas s m args below meth c H locs 0 0 (MQ below (sd_Qi D vwCl (wX ad cA) A (q, S)) args s 0 0 A) (F0 m 0 ls []) := by
  unfold mX6_spanHas at hm
  have hx := C0.1
  have hb := C0.2.1
  refine lv_aload_n hx hb dX6_spanHas_0 rfl (lv_at hl 0 rfl) ?_
  refine sd_get C0 h (C := RX6) (T := TX6) (N := 11) kcX6 10 (aX_10 ad cA _) rfl 1 (by decide) kfX6_15 (v := .ref (ad 12)) rfl dX6_spanHas_1 ?_
  refine lv_iload_n hx hb dX6_spanHas_4 rfl (lv_at hl 2 rfl) ?_
  obtain ⟨x1, hx1, hm⟩ := bs hm
  refine sd_rd C0 h 12 (aX_12 ad cA _) hx1 dX6_spanHas_5 ?_
  refine lv_aload_n hx hb dX6_spanHas_6 rfl (lv_at hl 0 rfl) ?_
  refine sd_get C0 h (C := RX6) (T := TX6) (N := 11) kcX6 10 (aX_10 ad cA _) rfl 1 (by decide) kfX6_15 (v := .ref (ad 12)) rfl dX6_spanHas_7 ?_
  refine lv_iload_n hx hb dX6_spanHas_10 rfl (lv_at hl 1 rfl) ?_
  obtain ⟨x2, hx2, hm⟩ := bs hm
  refine sd_rd C0 h 12 (aX_12 ad cA _) hx2 dX6_spanHas_11 ?_
  refine lv_isub hx hb dX6_spanHas_12 ?_
  refine lv_istore_n (lv' := [(3, .int (x1 - x2)), (0, .ref (ad 10)), (1, .int v1), (2, .int v2)]) hx hb dX6_spanHas_13 rfl hl (by decide) rfl (fun ls hl => ?_)
  refine lv_aload_n hx hb dX6_spanHas_14 rfl (lv_at hl 1 rfl) ?_
  refine sd_get C0 h (C := RX6) (T := TX6) (N := 11) kcX6 10 (aX_10 ad cA _) rfl 2 (by decide) kfX6_18 (v := .ref (ad 13)) rfl dX6_spanHas_15 ?_
  refine lv_iload_n hx hb dX6_spanHas_18 rfl (lv_at hl 3 rfl) ?_
  obtain ⟨x3, hx3, hm⟩ := bs hm
  refine sd_rd C0 h 13 (aX_13 ad cA _) hx3 dX6_spanHas_19 ?_
  refine lv_aload_n hx hb dX6_spanHas_20 rfl (lv_at hl 1 rfl) ?_
  refine sd_get C0 h (C := RX6) (T := TX6) (N := 11) kcX6 10 (aX_10 ad cA _) rfl 2 (by decide) kfX6_18 (v := .ref (ad 13)) rfl dX6_spanHas_21 ?_
  refine lv_iload_n hx hb dX6_spanHas_24 rfl (lv_at hl 2 rfl) ?_
  obtain ⟨x4, hx4, hm⟩ := bs hm
  refine sd_rd C0 h 13 (aX_13 ad cA _) hx4 dX6_spanHas_25 ?_
  refine lv_isub hx hb dX6_spanHas_26 ?_
  refine lv_istore (lv' := [(4, .int (x3 - x4)), (3, .int (x1 - x2)), (0, .ref (ad 10)), (1, .int v1), (2, .int v2)]) hx hb dX6_spanHas_27 hl (by decide) rfl (fun ls hl => ?_)
  refine lv_iload_n hx hb dX6_spanHas_29 rfl (lv_at hl 1 rfl) ?_
  refine lv_if_lt (tgt := 63) hx hb dX6_spanHas_30 (by decide) (fun c5 => ?_) (fun c5 => ?_)
  · replace hm := ip c5 hm
    refine lv_iconst (v := 0) hx hb dX6_spanHas_63 (by decide) ?_
    exact sd_zret C0 h (congrArg (fun x => (x, S)) (Option.some.inj hm)) rfl dX6_spanHas_64
  · replace hm := iq c5 hm
    refine lv_iload_n hx hb dX6_spanHas_33 rfl (lv_at hl 1 rfl) ?_
    refine lv_aload_n hx hb dX6_spanHas_34 rfl (lv_at hl 2 rfl) ?_
    refine sd_get C0 h (C := RX6) (T := TX6) (N := 11) kcX6 10 (aX_10 ad cA _) rfl 8 (by decide) kfX6_36 (v := .ref (ad 19)) rfl dX6_spanHas_35 ?_
    refine lv_iload_n hx hb dX6_spanHas_38 rfl (lv_at hl 3 rfl) ?_
    obtain ⟨x6, hx6, hm⟩ := bs hm
    refine sd_rd C0 h 19 (aX_19 ad cA _) hx6 dX6_spanHas_39 ?_
    refine lv_icmp_ge (tgt := 63) hx hb dX6_spanHas_40 (by decide) (fun c7 => ?_) (fun c7 => ?_)
    · replace hm := ip c7 hm
      refine lv_iconst (v := 0) hx hb dX6_spanHas_63 (by decide) ?_
      exact sd_zret C0 h (congrArg (fun x => (x, S)) (Option.some.inj hm)) rfl dX6_spanHas_64
    · replace hm := iq c7 hm
      refine lv_iload hx hb dX6_spanHas_43 (lv_at hl 0 rfl) ?_
      refine lv_if_lt (tgt := 63) hx hb dX6_spanHas_45 (by decide) (fun c8 => ?_) (fun c8 => ?_)
      · replace hm := ip c8 hm
        refine lv_iconst (v := 0) hx hb dX6_spanHas_63 (by decide) ?_
        exact sd_zret C0 h (congrArg (fun x => (x, S)) (Option.some.inj hm)) rfl dX6_spanHas_64
      · replace hm := iq c8 hm
        refine lv_iload hx hb dX6_spanHas_48 (lv_at hl 0 rfl) ?_
        refine lv_aload_n hx hb dX6_spanHas_50 rfl (lv_at hl 2 rfl) ?_
        refine sd_get C0 h (C := RX6) (T := TX6) (N := 11) kcX6 10 (aX_10 ad cA _) rfl 9 (by decide) kfX6_39 (v := .ref (ad 20)) rfl dX6_spanHas_51 ?_
        refine lv_iload_n hx hb dX6_spanHas_54 rfl (lv_at hl 3 rfl) ?_
        obtain ⟨x9, hx9, hm⟩ := bs hm
        refine sd_rd C0 h 20 (aX_20 ad cA _) hx9 dX6_spanHas_55 ?_
        refine lv_icmp_ge (tgt := 63) hx hb dX6_spanHas_56 (by decide) (fun c10 => ?_) (fun c10 => ?_)
        · replace hm := ip c10 hm
          refine lv_iconst (v := 0) hx hb dX6_spanHas_63 (by decide) ?_
          exact sd_zret C0 h (congrArg (fun x => (x, S)) (Option.some.inj hm)) rfl dX6_spanHas_64
        · replace hm := iq c10 hm
          refine lv_iconst (v := 1) hx hb dX6_spanHas_59 (by decide) ?_
          refine lv_goto (tgt := 64) hx hb dX6_spanHas_60 (by decide) ?_
          exact sd_zret C0 h (congrArg (fun x => (x, S)) (Option.some.inj hm)) rfl dX6_spanHas_64
theorem tX6_spanHas (l : Launch) (D : va_G) (cA : ClassId) (ad : Nat → Nat) {S : St} {v1 : Int32} {v2 : Int32} {q : Int32} (hm : mX6_spanHas S v1 v2 = some q) : sd_MI l D vwCl cA sd_nw (wX ad cA) yX6_spanHas (Cond.code yX6_spanHas cX6_spanHas 5 (some .boolean) :: sd_big) rX6_spanHas [.ref (ad 10), .int v1, .int v2] S (q, S) :=
  sd_ofI (by decide +kernel) (Nat.le_of_ble_eq_true rfl) (fun _ _ _ _ _ _ _ _ _ _ C0 h hl => bX6_spanHas C0 h (lv_sub hl [0, 1, 2] rfl) hm)

def rX5_standsInSwept : Room := { frames := 2, cells := 0, slots := 0, locals := 44 }
def mX5_standsInSwept_52 (z : Nat) (S : St) (rc11 : Int32 → Option Int32) (v1 : Int32) (v2 : Int32) (v4 : Int32) (t0 : Int32) : Option Int32 :=
  if t0 = 0 then
    rc11 (v4 + 1)
  else
    (mX7_counts S v4 v2).bind fun u2 =>
    if u2 = 0 then
      rc11 (v4 + 1)
    else
      (mX6_spanHas S v4 v1).bind fun u4 =>
      if u4 = 0 then
        rc11 (v4 + 1)
      else
        (rd (fA S 16) 200 v1).bind fun x6 =>
        (rd (fA S 16) 200 v4).bind fun x7 =>
        if x7 ≤ x6 then
          rc11 (v4 + 1)
        else
          some 1
set_option maxHeartbeats 4000000 in
set_option maxRecDepth 100000 in
theorem bX5_standsInSwept_52 {p : Program} {l : Launch} {e : Env} {s : State} {m : MethodId} {args : Array Value} {below : List Frame} {meth : Method} {c : Code} {D : va_G} {cA : ClassId} {ad : Nat → Nat} {A : Nat → Prop} {H : Heap} {locs : List Loc} {ls : Array Slot} {q : Int32} {z : Nat} {S : St} {rc11 : Int32 → Option Int32} {v1 : Int32} {v2 : Int32} {v4 : Int32} {t0 : Int32} (C0 : sd_Cx RX5 cX5_standsInSwept 6 (some .boolean) (Cond.code yX5_standsInSwept cX5_standsInSwept 6 (some .boolean) :: sd_big) p s m args meth c) (h : sd_Wd D vwCl cA sd_nw (wX ad cA) A s S H locs) (hl : lv_has ls 6 [(0, .ref (ad 51)), (1, .int v1), (2, .int v2), (3, .ref (ad 10)), (4, .int v4)]) (hrc11 : ∀ (v4 : Int32) (H : Heap) (locs : List Loc) (ls : Array Slot), sd_Wd D vwCl cA sd_nw (wX ad cA) A s S H locs → lv_has ls 6 [(0, .ref (ad 51)), (1, .int v1), (2, .int v2), (3, .ref (ad 10)), (4, .int v4)] → rc11 v4 = some q → W p l e rX5_standsInSwept s m args below meth c H locs 0 0 (MQ below (sd_Qi D vwCl (wX ad cA) A (q, S)) args s 0 0 A) (F0 m 11 ls [])) (hm : mX5_standsInSwept_52 z S rc11 v1 v2 v4 t0 = some q) : W p l e rX5_standsInSwept s m args below meth c H locs 0 0 (MQ below (sd_Qi D vwCl (wX ad cA) A (q, S)) args s 0 0 A) (F0 m 52 ls [.int t0]) := by
  unfold mX5_standsInSwept_52 at hm
  have hx := C0.1
  have hb := C0.2.1
  refine lv_istore (lv' := [(5, .int t0), (0, .ref (ad 51)), (1, .int v1), (2, .int v2), (3, .ref (ad 10)), (4, .int v4)]) hx hb dX5_standsInSwept_52 hl (by decide) rfl (fun ls hl => ?_)
  refine lv_iload hx hb dX5_standsInSwept_54 (lv_at hl 0 rfl) ?_
  refine lv_if_eq (tgt := 106) hx hb dX5_standsInSwept_56 (by decide) (fun c1 => ?_) (fun c1 => ?_)
  · replace hm := ip c1 hm
    refine lv_iinc (v := (v4 + 1)) (lv' := [(4, .int (v4 + 1)), (5, .int t0), (0, .ref (ad 51)), (1, .int v1), (2, .int v2), (3, .ref (ad 10))]) hx hb dX5_standsInSwept_106 hl (k := 5) rfl rfl (by decide) rfl (fun ls hl => ?_)
    refine lv_goto (tgt := 11) hx hb dX5_standsInSwept_109 (by decide) ?_
    exact hrc11 _ _ _ _ h (lv_sub hl [2, 3, 4, 5, 0] rfl) hm
  · replace hm := iq c1 hm
    refine lv_aload_n hx hb dX5_standsInSwept_59 rfl (lv_at hl 1 rfl) ?_
    refine sd_get C0 h (C := RX5) (T := TX5) (N := 6) kcX5 51 (aX_51 ad cA _) rfl 0 (by decide) kfX5_28 (v := .ref (ad 1)) rfl dX5_standsInSwept_60 ?_
    refine lv_iload hx hb dX5_standsInSwept_63 (lv_at hl 5 rfl) ?_
    refine lv_iload_n hx hb dX5_standsInSwept_65 rfl (lv_at hl 3 rfl) ?_
    obtain ⟨u2, hu2, hm⟩ := bs hm
    refine sd_Vi C0 h kYX7_counts kmX5_67 1 (aX_1 ad cA _) rfl [.int v4, .int v2] (tX7_counts l D cA ad hu2) rfl hl.1 rfl (Nat.le_of_ble_eq_true rfl) (by decide) dX5_standsInSwept_66 (by decide) (fun H locs h => ?_)
    refine lv_if_eq (tgt := 106) hx hb dX5_standsInSwept_69 (by decide) (fun c3 => ?_) (fun c3 => ?_)
    · replace hm := ip c3 hm
      refine lv_iinc (v := (v4 + 1)) (lv' := [(4, .int (v4 + 1)), (5, .int t0), (0, .ref (ad 51)), (1, .int v1), (2, .int v2), (3, .ref (ad 10))]) hx hb dX5_standsInSwept_106 hl (k := 5) rfl rfl (by decide) rfl (fun ls hl => ?_)
      refine lv_goto (tgt := 11) hx hb dX5_standsInSwept_109 (by decide) ?_
      exact hrc11 _ _ _ _ h (lv_sub hl [2, 3, 4, 5, 0] rfl) hm
    · replace hm := iq c3 hm
      refine lv_aload_n hx hb dX5_standsInSwept_72 rfl (lv_at hl 4 rfl) ?_
      refine lv_iload hx hb dX5_standsInSwept_73 (lv_at hl 5 rfl) ?_
      refine lv_iload_n hx hb dX5_standsInSwept_75 rfl (lv_at hl 2 rfl) ?_
      obtain ⟨u4, hu4, hm⟩ := bs hm
      refine sd_Vi C0 h kYX6_spanHas kmX5_80 10 (aX_10 ad cA _) rfl [.int v4, .int v1] (tX6_spanHas l D cA ad hu4) rfl hl.1 rfl (Nat.le_of_ble_eq_true rfl) (by decide) dX5_standsInSwept_76 (by decide) (fun H locs h => ?_)
      refine lv_if_eq (tgt := 106) hx hb dX5_standsInSwept_79 (by decide) (fun c5 => ?_) (fun c5 => ?_)
      · replace hm := ip c5 hm
        refine lv_iinc (v := (v4 + 1)) (lv' := [(4, .int (v4 + 1)), (5, .int t0), (0, .ref (ad 51)), (1, .int v1), (2, .int v2), (3, .ref (ad 10))]) hx hb dX5_standsInSwept_106 hl (k := 5) rfl rfl (by decide) rfl (fun ls hl => ?_)
        refine lv_goto (tgt := 11) hx hb dX5_standsInSwept_109 (by decide) ?_
        exact hrc11 _ _ _ _ h (lv_sub hl [2, 3, 4, 5, 0] rfl) hm
      · replace hm := iq c5 hm
        refine lv_aload_n hx hb dX5_standsInSwept_82 rfl (lv_at hl 1 rfl) ?_
        refine sd_get C0 h (C := RX5) (T := TX5) (N := 6) kcX5 51 (aX_51 ad cA _) rfl 0 (by decide) kfX5_28 (v := .ref (ad 1)) rfl dX5_standsInSwept_83 ?_
        refine sd_get C0 h (C := RX7) (T := TX7) (N := 4) kcX7 1 (aX_1 ad cA _) rfl 3 (by decide) kfX5_83 (v := .ref (ad 21)) rfl dX5_standsInSwept_86 ?_
        refine lv_iload_n hx hb dX5_standsInSwept_89 rfl (lv_at hl 2 rfl) ?_
        obtain ⟨x6, hx6, hm⟩ := bs hm
        refine sd_rd C0 h 21 (aX_21 ad cA _) hx6 dX5_standsInSwept_90 ?_
        refine lv_aload_n hx hb dX5_standsInSwept_91 rfl (lv_at hl 1 rfl) ?_
        refine sd_get C0 h (C := RX5) (T := TX5) (N := 6) kcX5 51 (aX_51 ad cA _) rfl 0 (by decide) kfX5_28 (v := .ref (ad 1)) rfl dX5_standsInSwept_92 ?_
        refine sd_get C0 h (C := RX7) (T := TX7) (N := 4) kcX7 1 (aX_1 ad cA _) rfl 3 (by decide) kfX5_83 (v := .ref (ad 21)) rfl dX5_standsInSwept_95 ?_
        refine lv_iload hx hb dX5_standsInSwept_98 (lv_at hl 5 rfl) ?_
        obtain ⟨x7, hx7, hm⟩ := bs hm
        refine sd_rd C0 h 21 (aX_21 ad cA _) hx7 dX5_standsInSwept_100 ?_
        refine lv_icmp_ge (tgt := 106) hx hb dX5_standsInSwept_101 (by decide) (fun c8 => ?_) (fun c8 => ?_)
        · replace hm := ip c8 hm
          refine lv_iinc (v := (v4 + 1)) (lv' := [(4, .int (v4 + 1)), (5, .int t0), (0, .ref (ad 51)), (1, .int v1), (2, .int v2), (3, .ref (ad 10))]) hx hb dX5_standsInSwept_106 hl (k := 5) rfl rfl (by decide) rfl (fun ls hl => ?_)
          refine lv_goto (tgt := 11) hx hb dX5_standsInSwept_109 (by decide) ?_
          exact hrc11 _ _ _ _ h (lv_sub hl [2, 3, 4, 5, 0] rfl) hm
        · replace hm := iq c8 hm
          refine lv_iconst (v := 1) hx hb dX5_standsInSwept_104 (by decide) ?_
          exact sd_zret C0 h (congrArg (fun x => (x, S)) (Option.some.inj hm)) rfl dX5_standsInSwept_105
def mX5_standsInSwept_11b (z : Nat) (S : St) (rc11 : Int32 → Option Int32) (v1 : Int32) (v2 : Int32) (v4 : Int32) : Option Int32 :=
  if (fI S 2) ≤ v4 then
    some 0
  else
    (rd (fA S 6) 200 v4).bind fun x2 =>
    if x2 = 2 then
      (rd (fA S 10) 200 v4).bind fun x4 =>
      (rd (fA S 10) 200 v1).bind fun x5 =>
      if x5 ≤ x4 then
        mX5_standsInSwept_52 z S rc11 v1 v2 v4 0
      else
        mX5_standsInSwept_52 z S rc11 v1 v2 v4 1
    else
      mX5_standsInSwept_52 z S rc11 v1 v2 v4 0
set_option maxHeartbeats 4000000 in
set_option maxRecDepth 100000 in
theorem bX5_standsInSwept_11b {p : Program} {l : Launch} {e : Env} {s : State} {m : MethodId} {args : Array Value} {below : List Frame} {meth : Method} {c : Code} {D : va_G} {cA : ClassId} {ad : Nat → Nat} {A : Nat → Prop} {H : Heap} {locs : List Loc} {ls : Array Slot} {q : Int32} {z : Nat} {S : St} {rc11 : Int32 → Option Int32} {v1 : Int32} {v2 : Int32} {v4 : Int32} (C0 : sd_Cx RX5 cX5_standsInSwept 6 (some .boolean) (Cond.code yX5_standsInSwept cX5_standsInSwept 6 (some .boolean) :: sd_big) p s m args meth c) (h : sd_Wd D vwCl cA sd_nw (wX ad cA) A s S H locs) (hl : lv_has ls 6 [(0, .ref (ad 51)), (1, .int v1), (2, .int v2), (3, .ref (ad 10)), (4, .int v4)]) (hrc11 : ∀ (v4 : Int32) (H : Heap) (locs : List Loc) (ls : Array Slot), sd_Wd D vwCl cA sd_nw (wX ad cA) A s S H locs → lv_has ls 6 [(0, .ref (ad 51)), (1, .int v1), (2, .int v2), (3, .ref (ad 10)), (4, .int v4)] → rc11 v4 = some q → W p l e rX5_standsInSwept s m args below meth c H locs 0 0 (MQ below (sd_Qi D vwCl (wX ad cA) A (q, S)) args s 0 0 A) (F0 m 11 ls [])) (hm : mX5_standsInSwept_11b z S rc11 v1 v2 v4 = some q) : W p l e rX5_standsInSwept s m args below meth c H locs 0 0 (MQ below (sd_Qi D vwCl (wX ad cA) A (q, S)) args s 0 0 A) (F0 m 11 ls []) := by
  unfold mX5_standsInSwept_11b at hm
  have hx := C0.1
  have hb := C0.2.1
  refine lv_iload hx hb dX5_standsInSwept_11 (lv_at hl 4 rfl) ?_
  refine lv_aload_n hx hb dX5_standsInSwept_13 rfl (lv_at hl 3 rfl) ?_
  refine sd_get C0 h (C := RX6) (T := TX6) (N := 11) kcX6 10 (aX_10 ad cA _) rfl 10 (by decide) kfX5_55 (v := .int (fI S 2)) rfl dX5_standsInSwept_14 ?_
  refine lv_icmp_ge (tgt := 112) hx hb dX5_standsInSwept_17 (by decide) (fun c1 => ?_) (fun c1 => ?_)
  · replace hm := ip c1 hm
    refine lv_iconst (v := 0) hx hb dX5_standsInSwept_112 (by decide) ?_
    exact sd_zret C0 h (congrArg (fun x => (x, S)) (Option.some.inj hm)) rfl dX5_standsInSwept_113
  · replace hm := iq c1 hm
    refine lv_aload_n hx hb dX5_standsInSwept_20 rfl (lv_at hl 3 rfl) ?_
    refine sd_get C0 h (C := RX6) (T := TX6) (N := 11) kcX6 10 (aX_10 ad cA _) rfl 0 (by decide) kfX5_60 (v := .ref (ad 11)) rfl dX5_standsInSwept_21 ?_
    refine lv_iload hx hb dX5_standsInSwept_24 (lv_at hl 4 rfl) ?_
    obtain ⟨x2, hx2, hm⟩ := bs hm
    refine sd_rd C0 h 11 (aX_11 ad cA _) hx2 dX5_standsInSwept_26 ?_
    refine lv_iconst (v := 2) hx hb dX5_standsInSwept_27 (by decide) ?_
    refine lv_icmp_ne (tgt := 51) hx hb dX5_standsInSwept_28 (by decide) (fun c3 => ?_) (fun c3 => ?_)
    · replace hm := iq c3 hm
      refine lv_iconst (v := 0) hx hb dX5_standsInSwept_51 (by decide) ?_
      exact bX5_standsInSwept_52 C0 h (lv_sub hl [0, 1, 2, 3, 4] rfl) hrc11 hm
    · replace hm := ip c3 hm
      refine lv_aload_n hx hb dX5_standsInSwept_31 rfl (lv_at hl 3 rfl) ?_
      refine sd_get C0 h (C := RX6) (T := TX6) (N := 11) kcX6 10 (aX_10 ad cA _) rfl 4 (by decide) kfX5_77 (v := .ref (ad 15)) rfl dX5_standsInSwept_32 ?_
      refine lv_iload hx hb dX5_standsInSwept_35 (lv_at hl 4 rfl) ?_
      obtain ⟨x4, hx4, hm⟩ := bs hm
      refine sd_rd C0 h 15 (aX_15 ad cA _) hx4 dX5_standsInSwept_37 ?_
      refine lv_aload_n hx hb dX5_standsInSwept_38 rfl (lv_at hl 3 rfl) ?_
      refine sd_get C0 h (C := RX6) (T := TX6) (N := 11) kcX6 10 (aX_10 ad cA _) rfl 4 (by decide) kfX5_77 (v := .ref (ad 15)) rfl dX5_standsInSwept_39 ?_
      refine lv_iload_n hx hb dX5_standsInSwept_42 rfl (lv_at hl 1 rfl) ?_
      obtain ⟨x5, hx5, hm⟩ := bs hm
      refine sd_rd C0 h 15 (aX_15 ad cA _) hx5 dX5_standsInSwept_43 ?_
      refine lv_icmp_ge (tgt := 51) hx hb dX5_standsInSwept_44 (by decide) (fun c6 => ?_) (fun c6 => ?_)
      · replace hm := ip c6 hm
        refine lv_iconst (v := 0) hx hb dX5_standsInSwept_51 (by decide) ?_
        exact bX5_standsInSwept_52 C0 h (lv_sub hl [0, 1, 2, 3, 4] rfl) hrc11 hm
      · replace hm := iq c6 hm
        refine lv_iconst (v := 1) hx hb dX5_standsInSwept_47 (by decide) ?_
        refine lv_goto (tgt := 52) hx hb dX5_standsInSwept_48 (by decide) ?_
        exact bX5_standsInSwept_52 C0 h (lv_sub hl [0, 1, 2, 3, 4] rfl) hrc11 hm
def mX5_standsInSwept_11 (z : Nat) (S : St) (v1 : Int32) (v2 : Int32) : Nat → Int32 → Option Int32
  | 0, _ => none
  | n + 1, v4 => mX5_standsInSwept_11b z S (mX5_standsInSwept_11 z S v1 v2 n) v1 v2 v4
set_option maxHeartbeats 4000000 in
set_option maxRecDepth 100000 in
theorem lX5_standsInSwept_11 {p : Program} {l : Launch} {e : Env} {s : State} {m : MethodId} {args : Array Value} {below : List Frame} {meth : Method} {c : Code} {D : va_G} {cA : ClassId} {ad : Nat → Nat} {A : Nat → Prop} {q : Int32} {z : Nat} {S : St} {v1 : Int32} {v2 : Int32} (C0 : sd_Cx RX5 cX5_standsInSwept 6 (some .boolean) (Cond.code yX5_standsInSwept cX5_standsInSwept 6 (some .boolean) :: sd_big) p s m args meth c)  : ∀ (n : Nat) (v4 : Int32) (H : Heap) (locs : List Loc) (ls : Array Slot), sd_Wd D vwCl cA sd_nw (wX ad cA) A s S H locs → lv_has ls 6 [(0, .ref (ad 51)), (1, .int v1), (2, .int v2), (3, .ref (ad 10)), (4, .int v4)] → mX5_standsInSwept_11 z S v1 v2 n v4 = some q → W p l e rX5_standsInSwept s m args below meth c H locs 0 0 (MQ below (sd_Qi D vwCl (wX ad cA) A (q, S)) args s 0 0 A) (F0 m 11 ls []) := by
  intro n
  induction n with
  | zero =>
    intro v4 H locs ls h hl hm
    exact nomatch (show none = some q from hm)
  | succ n ih =>
    intro v4 H locs ls h hl hm
    exact bX5_standsInSwept_11b C0 h hl ih hm
def mX5_standsInSwept (z : Nat) (S : St) (v1 : Int32) (v2 : Int32) : Option Int32 :=
  mX5_standsInSwept_11 z S v1 v2 z 0
set_option maxHeartbeats 4000000 in
set_option maxRecDepth 100000 in
theorem bX5_standsInSwept {p : Program} {l : Launch} {e : Env} {s : State} {m : MethodId} {args : Array Value} {below : List Frame} {meth : Method} {c : Code} {D : va_G} {cA : ClassId} {ad : Nat → Nat} {A : Nat → Prop} {H : Heap} {locs : List Loc} {ls : Array Slot} {q : Int32} {z : Nat} {S : St} {v1 : Int32} {v2 : Int32} (C0 : sd_Cx RX5 cX5_standsInSwept 6 (some .boolean) (Cond.code yX5_standsInSwept cX5_standsInSwept 6 (some .boolean) :: sd_big) p s m args meth c) (h : sd_Wd D vwCl cA sd_nw (wX ad cA) A s S H locs) (hl : lv_has ls 6 [(0, .ref (ad 51)), (1, .int v1), (2, .int v2)])  (hm : mX5_standsInSwept z S v1 v2 = some q) : W p l e rX5_standsInSwept s m args below meth c H locs 0 0 (MQ below (sd_Qi D vwCl (wX ad cA) A (q, S)) args s 0 0 A) (F0 m 0 ls []) := by
  unfold mX5_standsInSwept at hm
  have hx := C0.1
  have hb := C0.2.1
  refine lv_aload_n hx hb dX5_standsInSwept_0 rfl (lv_at hl 0 rfl) ?_
  refine sd_get C0 h (C := RX5) (T := TX5) (N := 6) kcX5 51 (aX_51 ad cA _) rfl 0 (by decide) kfX5_28 (v := .ref (ad 1)) rfl dX5_standsInSwept_1 ?_
  refine sd_get C0 h (C := RX7) (T := TX7) (N := 4) kcX7 1 (aX_1 ad cA _) rfl 2 (by decide) kfX5_51 (v := .ref (ad 10)) rfl dX5_standsInSwept_4 ?_
  refine lv_astore_n (lv' := [(3, .ref (ad 10)), (0, .ref (ad 51)), (1, .int v1), (2, .int v2)]) hx hb dX5_standsInSwept_7 rfl hl (by decide) rfl (fun ls hl => ?_)
  refine lv_iconst (v := 0) hx hb dX5_standsInSwept_8 (by decide) ?_
  refine lv_istore (lv' := [(4, .int 0), (3, .ref (ad 10)), (0, .ref (ad 51)), (1, .int v1), (2, .int v2)]) hx hb dX5_standsInSwept_9 hl (by decide) rfl (fun ls hl => ?_)
  exact lX5_standsInSwept_11 C0 _ _ _ _ _ h (lv_sub hl [2, 3, 4, 1, 0] rfl) hm
theorem tX5_standsInSwept (l : Launch) (D : va_G) (cA : ClassId) (ad : Nat → Nat) {z : Nat} {S : St} {v1 : Int32} {v2 : Int32} {q : Int32} (hm : mX5_standsInSwept z S v1 v2 = some q) : sd_MI l D vwCl cA sd_nw (wX ad cA) yX5_standsInSwept (Cond.code yX5_standsInSwept cX5_standsInSwept 6 (some .boolean) :: sd_big) rX5_standsInSwept [.ref (ad 51), .int v1, .int v2] S (q, S) :=
  sd_ofI (by decide +kernel) (Nat.le_of_ble_eq_true rfl) (fun _ _ _ _ _ _ _ _ _ _ C0 h hl => bX5_standsInSwept C0 h (lv_sub hl [0, 1, 2] rfl) hm)

def rX5_add : Room := { frames := 0, cells := 0, slots := 0, locals := 0 }
def mX5_add (v1 : Int32) (v2 : Int32) (S : St) : Option St :=
  if (fI S 14) < 200 then
    (wr (fA S 41) 200 (fI S 14) v1).bind fun g2 =>
    (wr (fA (sI (sA S 41 g2) 14 ((fI (sA S 41 g2) 14) + 1)) 42) 200 v1 v2).bind fun g3 =>
    some (sA (sI (sA S 41 g2) 14 ((fI (sA S 41 g2) 14) + 1)) 42 g3)
  else
    some S
set_option maxHeartbeats 4000000 in
set_option maxRecDepth 100000 in
theorem bX5_add {p : Program} {l : Launch} {e : Env} {s : State} {m : MethodId} {args : Array Value} {below : List Frame} {meth : Method} {c : Code} {D : va_G} {cA : ClassId} {ad : Nat → Nat} {A : Nat → Prop} {H : Heap} {locs : List Loc} {ls : Array Slot} {q : St} {v1 : Int32} {v2 : Int32} {S : St} (C0 : sd_Cx RX5 cX5_add 3 none (Cond.code yX5_add cX5_add 3 none :: sd_big) p s m args meth c) (h : sd_Wd D vwCl cA sd_nw (wX ad cA) A s S H locs) (hl : lv_has ls 3 [(0, .ref (ad 51)), (1, .int v1), (2, .int v2)])  (hm : mX5_add v1 v2 S = some q) : W p l e rX5_add s m args below meth c H locs 0 0 (MQ below (sd_Qv D vwCl (wX ad cA) A q) args s 0 0 A) (F0 m 0 ls []) := by
  unfold mX5_add at hm
  have hx := C0.1
  have hb := C0.2.1
  refine lv_aload_n hx hb dX5_add_0 rfl (lv_at hl 0 rfl) ?_
  refine sd_get C0 h (C := RX5) (T := TX5) (N := 6) kcX5 51 (aX_51 ad cA _) rfl 4 (by decide) kfX5_22 (v := .int (fI S 14)) rfl dX5_add_1 ?_
  refine lv_sipush (v := 200) hx hb dX5_add_4 (by decide) ?_
  refine lv_icmp_lt (tgt := 11) hx hb dX5_add_7 (by decide) (fun c1 => ?_) (fun c1 => ?_)
  · replace hm := ip c1 hm
    refine lv_aload_n hx hb dX5_add_11 rfl (lv_at hl 0 rfl) ?_
    refine sd_get C0 h (C := RX5) (T := TX5) (N := 6) kcX5 51 (aX_51 ad cA _) rfl 3 (by decide) kfX5_19 (v := .ref (ad 53)) rfl dX5_add_12 ?_
    refine lv_aload_n hx hb dX5_add_15 rfl (lv_at hl 0 rfl) ?_
    refine sd_get C0 h (C := RX5) (T := TX5) (N := 6) kcX5 51 (aX_51 ad cA _) rfl 4 (by decide) kfX5_22 (v := .int (fI S 14)) rfl dX5_add_16 ?_
    refine lv_iload_n hx hb dX5_add_19 rfl (lv_at hl 1 rfl) ?_
    obtain ⟨g2, hg2, hm⟩ := bs hm
    refine sd_wr C0 h (S1 := (sA S 41 g2)) 53 (aX_53 ad cA _) hg2 (eX_53 ad cA _ _) dX5_add_20 (fun H locs h => ?_)
    refine lv_aload_n hx hb dX5_add_21 rfl (lv_at hl 0 rfl) ?_
    refine lv_dup hx hb dX5_add_22 rfl ?_
    refine sd_get C0 h (C := RX5) (T := TX5) (N := 6) kcX5 51 (aX_51 ad cA _) rfl 4 (by decide) kfX5_22 (v := .int (fI (sA S 41 g2) 14)) rfl dX5_add_23 ?_
    refine lv_iconst (v := 1) hx hb dX5_add_26 (by decide) ?_
    refine lv_iadd hx hb dX5_add_27 ?_
    refine sd_put C0 h (C := RX5) (T := TX5) (N := 6) (S1 := (sI (sA S 41 g2) 14 ((fI (sA S 41 g2) 14) + 1))) kcX5 tyX5 tyX5_ok nmX5 51 (aX_51 ad cA _) rfl 4 (by decide) kfX5_22 rfl (ty := .int) (by decide +kernel) rfl rfl (Nat.le_of_ble_eq_true rfl) (eX_51_4 ad cA _ _) dX5_add_28 (fun H locs h => ?_)
    refine lv_aload_n hx hb dX5_add_31 rfl (lv_at hl 0 rfl) ?_
    refine sd_get C0 h (C := RX5) (T := TX5) (N := 6) kcX5 51 (aX_51 ad cA _) rfl 5 (by decide) kfX5_25 (v := .ref (ad 54)) rfl dX5_add_32 ?_
    refine lv_iload_n hx hb dX5_add_35 rfl (lv_at hl 1 rfl) ?_
    refine lv_iload_n hx hb dX5_add_36 rfl (lv_at hl 2 rfl) ?_
    obtain ⟨g3, hg3, hm⟩ := bs hm
    refine sd_wr C0 h (S1 := (sA (sI (sA S 41 g2) 14 ((fI (sA S 41 g2) 14) + 1)) 42 g3)) 54 (aX_54 ad cA _) hg3 (eX_54 ad cA _ _) dX5_add_37 (fun H locs h => ?_)
    exact sd_vret C0 h (Option.some.inj hm) dX5_add_38
  · replace hm := iq c1 hm
    exact sd_vret C0 h (Option.some.inj hm) dX5_add_10
theorem tX5_add (l : Launch) (D : va_G) (cA : ClassId) (ad : Nat → Nat) {S : St} {v1 : Int32} {v2 : Int32} {q : St} (hm : mX5_add v1 v2 S = some q) : sd_MV l D vwCl cA sd_nw (wX ad cA) yX5_add (Cond.code yX5_add cX5_add 3 none :: sd_big) rX5_add [.ref (ad 51), .int v1, .int v2] S q :=
  sd_ofV (by decide +kernel) (Nat.le_of_ble_eq_true rfl) (fun _ _ _ _ _ _ _ _ _ _ C0 h hl => bX5_add C0 h (lv_sub hl [0, 1, 2] rfl) hm)

def rX5_showAlways : Room := { frames := 3, cells := 0, slots := 0, locals := 69 }
def mX5_showAlways_52 (z : Nat) (rc2 : Int32 → St → Option St) (v1 : Int32) (v2 : Int32) (v3 : Int32) (S : St) : Option St :=
  (mX5_add v3 0 S).bind fun u1 =>
  rc2 (v2 + 1) u1
set_option maxHeartbeats 4000000 in
set_option maxRecDepth 100000 in
theorem bX5_showAlways_52 {p : Program} {l : Launch} {e : Env} {s : State} {m : MethodId} {args : Array Value} {below : List Frame} {meth : Method} {c : Code} {D : va_G} {cA : ClassId} {ad : Nat → Nat} {A : Nat → Prop} {H : Heap} {locs : List Loc} {ls : Array Slot} {q : St} {z : Nat} {rc2 : Int32 → St → Option St} {v1 : Int32} {v2 : Int32} {v3 : Int32} {S : St} (C0 : sd_Cx RX5 cX5_showAlways 5 none (Cond.code yX5_showAlways cX5_showAlways 5 none :: sd_big) p s m args meth c) (h : sd_Wd D vwCl cA sd_nw (wX ad cA) A s S H locs) (hl : lv_has ls 5 [(0, .ref (ad 51)), (1, .int v1), (2, .int v2), (3, .int v3)]) (hrc2 : ∀ (v2 : Int32) (S : St) (H : Heap) (locs : List Loc) (ls : Array Slot), sd_Wd D vwCl cA sd_nw (wX ad cA) A s S H locs → lv_has ls 5 [(0, .ref (ad 51)), (1, .int v1), (2, .int v2)] → rc2 v2 S = some q → W p l e rX5_showAlways s m args below meth c H locs 0 0 (MQ below (sd_Qv D vwCl (wX ad cA) A q) args s 0 0 A) (F0 m 2 ls [])) (hm : mX5_showAlways_52 z rc2 v1 v2 v3 S = some q) : W p l e rX5_showAlways s m args below meth c H locs 0 0 (MQ below (sd_Qv D vwCl (wX ad cA) A q) args s 0 0 A) (F0 m 52 ls []) := by
  unfold mX5_showAlways_52 at hm
  have hx := C0.1
  have hb := C0.2.1
  refine lv_aload_n hx hb dX5_showAlways_52 rfl (lv_at hl 0 rfl) ?_
  refine lv_iload_n hx hb dX5_showAlways_53 rfl (lv_at hl 3 rfl) ?_
  refine lv_iconst (v := 0) hx hb dX5_showAlways_54 (by decide) ?_
  obtain ⟨u1, hu1, hm⟩ := bs hm
  refine sd_Vv C0 h kYX5_add kmX5_74 51 (aX_51 ad cA _) rfl [.int v3, .int 0] (tX5_add l D cA ad hu1) rfl hl.1 rfl (Nat.le_of_ble_eq_true rfl) (by decide) dX5_showAlways_55 (by decide) (fun H locs h => ?_)
  refine lv_iinc (v := (v2 + 1)) (lv' := [(2, .int (v2 + 1)), (0, .ref (ad 51)), (1, .int v1), (3, .int v3)]) hx hb dX5_showAlways_58 hl (k := 2) rfl rfl (by decide) rfl (fun ls hl => ?_)
  refine lv_goto (tgt := 2) hx hb dX5_showAlways_61 (by decide) ?_
  exact hrc2 _ _ _ _ _ h (lv_sub hl [1, 2, 0] rfl) hm
def mX5_showAlways_2b (z : Nat) (rc2 : Int32 → St → Option St) (v1 : Int32) (v2 : Int32) (S : St) : Option St :=
  if (fI S 13) ≤ v2 then
    some S
  else
    (rd (fA S 40) 200 v2).bind fun x2 =>
    (rd (fA S 6) 200 x2).bind fun x3 =>
    if x3 = 3 then
      mX5_showAlways_52 z rc2 v1 v2 x2 S
    else
      if x3 = 4 then
        mX5_showAlways_52 z rc2 v1 v2 x2 S
      else
        (mX5_standsInSwept z S x2 v1).bind fun u6 =>
        if u6 = 0 then
          rc2 (v2 + 1) S
        else
          mX5_showAlways_52 z rc2 v1 v2 x2 S
set_option maxHeartbeats 4000000 in
set_option maxRecDepth 100000 in
theorem bX5_showAlways_2b {p : Program} {l : Launch} {e : Env} {s : State} {m : MethodId} {args : Array Value} {below : List Frame} {meth : Method} {c : Code} {D : va_G} {cA : ClassId} {ad : Nat → Nat} {A : Nat → Prop} {H : Heap} {locs : List Loc} {ls : Array Slot} {q : St} {z : Nat} {rc2 : Int32 → St → Option St} {v1 : Int32} {v2 : Int32} {S : St} (C0 : sd_Cx RX5 cX5_showAlways 5 none (Cond.code yX5_showAlways cX5_showAlways 5 none :: sd_big) p s m args meth c) (h : sd_Wd D vwCl cA sd_nw (wX ad cA) A s S H locs) (hl : lv_has ls 5 [(0, .ref (ad 51)), (1, .int v1), (2, .int v2)]) (hrc2 : ∀ (v2 : Int32) (S : St) (H : Heap) (locs : List Loc) (ls : Array Slot), sd_Wd D vwCl cA sd_nw (wX ad cA) A s S H locs → lv_has ls 5 [(0, .ref (ad 51)), (1, .int v1), (2, .int v2)] → rc2 v2 S = some q → W p l e rX5_showAlways s m args below meth c H locs 0 0 (MQ below (sd_Qv D vwCl (wX ad cA) A q) args s 0 0 A) (F0 m 2 ls [])) (hm : mX5_showAlways_2b z rc2 v1 v2 S = some q) : W p l e rX5_showAlways s m args below meth c H locs 0 0 (MQ below (sd_Qv D vwCl (wX ad cA) A q) args s 0 0 A) (F0 m 2 ls []) := by
  unfold mX5_showAlways_2b at hm
  have hx := C0.1
  have hb := C0.2.1
  refine lv_iload_n hx hb dX5_showAlways_2 rfl (lv_at hl 2 rfl) ?_
  refine lv_aload_n hx hb dX5_showAlways_3 rfl (lv_at hl 0 rfl) ?_
  refine sd_get C0 h (C := RX5) (T := TX5) (N := 6) kcX5 51 (aX_51 ad cA _) rfl 2 (by decide) kfX5_15 (v := .int (fI S 13)) rfl dX5_showAlways_4 ?_
  refine lv_icmp_ge (tgt := 64) hx hb dX5_showAlways_7 (by decide) (fun c1 => ?_) (fun c1 => ?_)
  · replace hm := ip c1 hm
    exact sd_vret C0 h (Option.some.inj hm) dX5_showAlways_64
  · replace hm := iq c1 hm
    refine lv_aload_n hx hb dX5_showAlways_10 rfl (lv_at hl 0 rfl) ?_
    refine sd_get C0 h (C := RX5) (T := TX5) (N := 6) kcX5 51 (aX_51 ad cA _) rfl 1 (by decide) kfX5_9 (v := .ref (ad 52)) rfl dX5_showAlways_11 ?_
    refine lv_iload_n hx hb dX5_showAlways_14 rfl (lv_at hl 2 rfl) ?_
    obtain ⟨x2, hx2, hm⟩ := bs hm
    refine sd_rd C0 h 52 (aX_52 ad cA _) hx2 dX5_showAlways_15 ?_
    refine lv_istore_n (lv' := [(3, .int x2), (0, .ref (ad 51)), (1, .int v1), (2, .int v2)]) hx hb dX5_showAlways_16 rfl hl (by decide) rfl (fun ls hl => ?_)
    refine lv_aload_n hx hb dX5_showAlways_17 rfl (lv_at hl 1 rfl) ?_
    refine sd_get C0 h (C := RX5) (T := TX5) (N := 6) kcX5 51 (aX_51 ad cA _) rfl 0 (by decide) kfX5_28 (v := .ref (ad 1)) rfl dX5_showAlways_18 ?_
    refine sd_get C0 h (C := RX7) (T := TX7) (N := 4) kcX7 1 (aX_1 ad cA _) rfl 2 (by decide) kfX5_51 (v := .ref (ad 10)) rfl dX5_showAlways_21 ?_
    refine sd_get C0 h (C := RX6) (T := TX6) (N := 11) kcX6 10 (aX_10 ad cA _) rfl 0 (by decide) kfX5_60 (v := .ref (ad 11)) rfl dX5_showAlways_24 ?_
    refine lv_iload_n hx hb dX5_showAlways_27 rfl (lv_at hl 0 rfl) ?_
    obtain ⟨x3, hx3, hm⟩ := bs hm
    refine sd_rd C0 h 11 (aX_11 ad cA _) hx3 dX5_showAlways_28 ?_
    refine lv_istore (lv' := [(4, .int x3), (3, .int x2), (0, .ref (ad 51)), (1, .int v1), (2, .int v2)]) hx hb dX5_showAlways_29 hl (by decide) rfl (fun ls hl => ?_)
    refine lv_iload hx hb dX5_showAlways_31 (lv_at hl 0 rfl) ?_
    refine lv_iconst (v := 3) hx hb dX5_showAlways_33 (by decide) ?_
    refine lv_icmp_eq (tgt := 52) hx hb dX5_showAlways_34 (by decide) (fun c4 => ?_) (fun c4 => ?_)
    · replace hm := ip c4 hm
      exact bX5_showAlways_52 C0 h (lv_sub hl [2, 3, 4, 1] rfl) hrc2 hm
    · replace hm := iq c4 hm
      refine lv_iload hx hb dX5_showAlways_37 (lv_at hl 0 rfl) ?_
      refine lv_iconst (v := 4) hx hb dX5_showAlways_39 (by decide) ?_
      refine lv_icmp_eq (tgt := 52) hx hb dX5_showAlways_40 (by decide) (fun c5 => ?_) (fun c5 => ?_)
      · replace hm := ip c5 hm
        exact bX5_showAlways_52 C0 h (lv_sub hl [2, 3, 4, 1] rfl) hrc2 hm
      · replace hm := iq c5 hm
        refine lv_aload_n hx hb dX5_showAlways_43 rfl (lv_at hl 2 rfl) ?_
        refine lv_iload_n hx hb dX5_showAlways_44 rfl (lv_at hl 1 rfl) ?_
        refine lv_iload_n hx hb dX5_showAlways_45 rfl (lv_at hl 3 rfl) ?_
        obtain ⟨u6, hu6, hm⟩ := bs hm
        refine sd_Vi C0 h kYX5_standsInSwept kmX5_71 51 (aX_51 ad cA _) rfl [.int x2, .int v1] (tX5_standsInSwept l D cA ad hu6) rfl hl.1 rfl (Nat.le_of_ble_eq_true rfl) (by decide) dX5_showAlways_46 (by decide) (fun H locs h => ?_)
        refine lv_if_eq (tgt := 58) hx hb dX5_showAlways_49 (by decide) (fun c7 => ?_) (fun c7 => ?_)
        · replace hm := ip c7 hm
          refine lv_iinc (v := (v2 + 1)) (lv' := [(2, .int (v2 + 1)), (4, .int x3), (3, .int x2), (0, .ref (ad 51)), (1, .int v1)]) hx hb dX5_showAlways_58 hl (k := 4) rfl rfl (by decide) rfl (fun ls hl => ?_)
          refine lv_goto (tgt := 2) hx hb dX5_showAlways_61 (by decide) ?_
          exact hrc2 _ _ _ _ _ h (lv_sub hl [3, 4, 0] rfl) hm
        · replace hm := iq c7 hm
          exact bX5_showAlways_52 C0 h (lv_sub hl [2, 3, 4, 1] rfl) hrc2 hm
def mX5_showAlways_2 (z : Nat) (v1 : Int32) : Nat → Int32 → St → Option St
  | 0, _, _ => none
  | n + 1, v2, S => mX5_showAlways_2b z (mX5_showAlways_2 z v1 n) v1 v2 S
set_option maxHeartbeats 4000000 in
set_option maxRecDepth 100000 in
theorem lX5_showAlways_2 {p : Program} {l : Launch} {e : Env} {s : State} {m : MethodId} {args : Array Value} {below : List Frame} {meth : Method} {c : Code} {D : va_G} {cA : ClassId} {ad : Nat → Nat} {A : Nat → Prop} {q : St} {z : Nat} {v1 : Int32} (C0 : sd_Cx RX5 cX5_showAlways 5 none (Cond.code yX5_showAlways cX5_showAlways 5 none :: sd_big) p s m args meth c)  : ∀ (n : Nat) (v2 : Int32) (S : St) (H : Heap) (locs : List Loc) (ls : Array Slot), sd_Wd D vwCl cA sd_nw (wX ad cA) A s S H locs → lv_has ls 5 [(0, .ref (ad 51)), (1, .int v1), (2, .int v2)] → mX5_showAlways_2 z v1 n v2 S = some q → W p l e rX5_showAlways s m args below meth c H locs 0 0 (MQ below (sd_Qv D vwCl (wX ad cA) A q) args s 0 0 A) (F0 m 2 ls []) := by
  intro n
  induction n with
  | zero =>
    intro v2 S H locs ls h hl hm
    exact nomatch (show none = some q from hm)
  | succ n ih =>
    intro v2 S H locs ls h hl hm
    exact bX5_showAlways_2b C0 h hl ih hm
def mX5_showAlways (z : Nat) (v1 : Int32) (S : St) : Option St :=
  mX5_showAlways_2 z v1 z 0 S
set_option maxHeartbeats 4000000 in
set_option maxRecDepth 100000 in
theorem bX5_showAlways {p : Program} {l : Launch} {e : Env} {s : State} {m : MethodId} {args : Array Value} {below : List Frame} {meth : Method} {c : Code} {D : va_G} {cA : ClassId} {ad : Nat → Nat} {A : Nat → Prop} {H : Heap} {locs : List Loc} {ls : Array Slot} {q : St} {z : Nat} {v1 : Int32} {S : St} (C0 : sd_Cx RX5 cX5_showAlways 5 none (Cond.code yX5_showAlways cX5_showAlways 5 none :: sd_big) p s m args meth c) (h : sd_Wd D vwCl cA sd_nw (wX ad cA) A s S H locs) (hl : lv_has ls 5 [(0, .ref (ad 51)), (1, .int v1)])  (hm : mX5_showAlways z v1 S = some q) : W p l e rX5_showAlways s m args below meth c H locs 0 0 (MQ below (sd_Qv D vwCl (wX ad cA) A q) args s 0 0 A) (F0 m 0 ls []) := by
  unfold mX5_showAlways at hm
  have hx := C0.1
  have hb := C0.2.1
  refine lv_iconst (v := 0) hx hb dX5_showAlways_0 (by decide) ?_
  refine lv_istore_n (lv' := [(2, .int 0), (0, .ref (ad 51)), (1, .int v1)]) hx hb dX5_showAlways_1 rfl hl (by decide) rfl (fun ls hl => ?_)
  exact lX5_showAlways_2 C0 _ _ _ _ _ _ h (lv_sub hl [1, 2, 0] rfl) hm
theorem tX5_showAlways (l : Launch) (D : va_G) (cA : ClassId) (ad : Nat → Nat) {z : Nat} {S : St} {v1 : Int32} {q : St} (hm : mX5_showAlways z v1 S = some q) : sd_MV l D vwCl cA sd_nw (wX ad cA) yX5_showAlways (Cond.code yX5_showAlways cX5_showAlways 5 none :: sd_big) rX5_showAlways [.ref (ad 51), .int v1] S q :=
  sd_ofV (by decide +kernel) (Nat.le_of_ble_eq_true rfl) (fun _ _ _ _ _ _ _ _ _ _ C0 h hl => bX5_showAlways C0 h (lv_sub hl [0, 1] rfl) hm)

def rX5_showShoalest : Room := { frames := 1, cells := 0, slots := 0, locals := 22 }
def mX5_showShoalest_53 (z : Nat) (v1 : Int32) (S : St) : Option St :=
  if v1 = (-1) then
    some S
  else
    (rd (fA S 42) 200 v1).bind fun x2 =>
    if x2 = 6 then
      (mX5_add v1 1 S).bind fun u4 =>
      some u4
    else
      some S
set_option maxHeartbeats 4000000 in
set_option maxRecDepth 100000 in
theorem bX5_showShoalest_53 {p : Program} {l : Launch} {e : Env} {s : State} {m : MethodId} {args : Array Value} {below : List Frame} {meth : Method} {c : Code} {D : va_G} {cA : ClassId} {ad : Nat → Nat} {A : Nat → Prop} {H : Heap} {locs : List Loc} {ls : Array Slot} {q : St} {z : Nat} {v1 : Int32} {S : St} (C0 : sd_Cx RX5 cX5_showShoalest 4 none (Cond.code yX5_showShoalest cX5_showShoalest 4 none :: sd_big) p s m args meth c) (h : sd_Wd D vwCl cA sd_nw (wX ad cA) A s S H locs) (hl : lv_has ls 4 [(0, .ref (ad 51)), (1, .int v1)])  (hm : mX5_showShoalest_53 z v1 S = some q) : W p l e rX5_showShoalest s m args below meth c H locs 0 0 (MQ below (sd_Qv D vwCl (wX ad cA) A q) args s 0 0 A) (F0 m 53 ls []) := by
  unfold mX5_showShoalest_53 at hm
  have hx := C0.1
  have hb := C0.2.1
  refine lv_iload_n hx hb dX5_showShoalest_53 rfl (lv_at hl 1 rfl) ?_
  refine lv_iconst (v := (-1)) hx hb dX5_showShoalest_54 (by decide) ?_
  refine lv_icmp_eq (tgt := 75) hx hb dX5_showShoalest_55 (by decide) (fun c1 => ?_) (fun c1 => ?_)
  · replace hm := ip c1 hm
    exact sd_vret C0 h (Option.some.inj hm) dX5_showShoalest_75
  · replace hm := iq c1 hm
    refine lv_aload_n hx hb dX5_showShoalest_58 rfl (lv_at hl 0 rfl) ?_
    refine sd_get C0 h (C := RX5) (T := TX5) (N := 6) kcX5 51 (aX_51 ad cA _) rfl 5 (by decide) kfX5_25 (v := .ref (ad 54)) rfl dX5_showShoalest_59 ?_
    refine lv_iload_n hx hb dX5_showShoalest_62 rfl (lv_at hl 1 rfl) ?_
    obtain ⟨x2, hx2, hm⟩ := bs hm
    refine sd_rd C0 h 54 (aX_54 ad cA _) hx2 dX5_showShoalest_63 ?_
    refine lv_bipush (v := 6) hx hb dX5_showShoalest_64 (by decide) ?_
    refine lv_icmp_ne (tgt := 75) hx hb dX5_showShoalest_66 (by decide) (fun c3 => ?_) (fun c3 => ?_)
    · replace hm := iq c3 hm
      exact sd_vret C0 h (Option.some.inj hm) dX5_showShoalest_75
    · replace hm := ip c3 hm
      refine lv_aload_n hx hb dX5_showShoalest_69 rfl (lv_at hl 0 rfl) ?_
      refine lv_iload_n hx hb dX5_showShoalest_70 rfl (lv_at hl 1 rfl) ?_
      refine lv_iconst (v := 1) hx hb dX5_showShoalest_71 (by decide) ?_
      obtain ⟨u4, hu4, hm⟩ := bs hm
      refine sd_Vv C0 h kYX5_add kmX5_74 51 (aX_51 ad cA _) rfl [.int v1, .int 1] (tX5_add l D cA ad hu4) rfl hl.1 rfl (Nat.le_of_ble_eq_true rfl) (by decide) dX5_showShoalest_72 (by decide) (fun H locs h => ?_)
      exact sd_vret C0 h (Option.some.inj hm) dX5_showShoalest_75
def mX5_showShoalest_4b (z : Nat) (rc4 : Int32 → Int32 → St → Option St) (v1 : Int32) (v2 : Int32) (S : St) : Option St :=
  if (fI S 13) ≤ v2 then
    mX5_showShoalest_53 z v1 S
  else
    (rd (fA S 40) 200 v2).bind fun x2 =>
    if v1 = (-1) then
      rc4 x2 (v2 + 1) S
    else
      (rd (fA S 16) 200 x2).bind fun x4 =>
      (rd (fA S 16) 200 v1).bind fun x5 =>
      if x5 ≤ x4 then
        rc4 v1 (v2 + 1) S
      else
        rc4 x2 (v2 + 1) S
set_option maxHeartbeats 4000000 in
set_option maxRecDepth 100000 in
theorem bX5_showShoalest_4b {p : Program} {l : Launch} {e : Env} {s : State} {m : MethodId} {args : Array Value} {below : List Frame} {meth : Method} {c : Code} {D : va_G} {cA : ClassId} {ad : Nat → Nat} {A : Nat → Prop} {H : Heap} {locs : List Loc} {ls : Array Slot} {q : St} {z : Nat} {rc4 : Int32 → Int32 → St → Option St} {v1 : Int32} {v2 : Int32} {S : St} (C0 : sd_Cx RX5 cX5_showShoalest 4 none (Cond.code yX5_showShoalest cX5_showShoalest 4 none :: sd_big) p s m args meth c) (h : sd_Wd D vwCl cA sd_nw (wX ad cA) A s S H locs) (hl : lv_has ls 4 [(0, .ref (ad 51)), (1, .int v1), (2, .int v2)]) (hrc4 : ∀ (v1 : Int32) (v2 : Int32) (S : St) (H : Heap) (locs : List Loc) (ls : Array Slot), sd_Wd D vwCl cA sd_nw (wX ad cA) A s S H locs → lv_has ls 4 [(0, .ref (ad 51)), (1, .int v1), (2, .int v2)] → rc4 v1 v2 S = some q → W p l e rX5_showShoalest s m args below meth c H locs 0 0 (MQ below (sd_Qv D vwCl (wX ad cA) A q) args s 0 0 A) (F0 m 4 ls [])) (hm : mX5_showShoalest_4b z rc4 v1 v2 S = some q) : W p l e rX5_showShoalest s m args below meth c H locs 0 0 (MQ below (sd_Qv D vwCl (wX ad cA) A q) args s 0 0 A) (F0 m 4 ls []) := by
  unfold mX5_showShoalest_4b at hm
  have hx := C0.1
  have hb := C0.2.1
  refine lv_iload_n hx hb dX5_showShoalest_4 rfl (lv_at hl 2 rfl) ?_
  refine lv_aload_n hx hb dX5_showShoalest_5 rfl (lv_at hl 0 rfl) ?_
  refine sd_get C0 h (C := RX5) (T := TX5) (N := 6) kcX5 51 (aX_51 ad cA _) rfl 2 (by decide) kfX5_15 (v := .int (fI S 13)) rfl dX5_showShoalest_6 ?_
  refine lv_icmp_ge (tgt := 53) hx hb dX5_showShoalest_9 (by decide) (fun c1 => ?_) (fun c1 => ?_)
  · replace hm := ip c1 hm
    exact bX5_showShoalest_53 C0 h (lv_sub hl [0, 1] rfl) hm
  · replace hm := iq c1 hm
    refine lv_aload_n hx hb dX5_showShoalest_12 rfl (lv_at hl 0 rfl) ?_
    refine sd_get C0 h (C := RX5) (T := TX5) (N := 6) kcX5 51 (aX_51 ad cA _) rfl 1 (by decide) kfX5_9 (v := .ref (ad 52)) rfl dX5_showShoalest_13 ?_
    refine lv_iload_n hx hb dX5_showShoalest_16 rfl (lv_at hl 2 rfl) ?_
    obtain ⟨x2, hx2, hm⟩ := bs hm
    refine sd_rd C0 h 52 (aX_52 ad cA _) hx2 dX5_showShoalest_17 ?_
    refine lv_istore_n (lv' := [(3, .int x2), (0, .ref (ad 51)), (1, .int v1), (2, .int v2)]) hx hb dX5_showShoalest_18 rfl hl (by decide) rfl (fun ls hl => ?_)
    refine lv_iload_n hx hb dX5_showShoalest_19 rfl (lv_at hl 2 rfl) ?_
    refine lv_iconst (v := (-1)) hx hb dX5_showShoalest_20 (by decide) ?_
    refine lv_icmp_eq (tgt := 45) hx hb dX5_showShoalest_21 (by decide) (fun c3 => ?_) (fun c3 => ?_)
    · replace hm := ip c3 hm
      refine lv_iload_n hx hb dX5_showShoalest_45 rfl (lv_at hl 0 rfl) ?_
      refine lv_istore_n (lv' := [(1, .int x2), (3, .int x2), (0, .ref (ad 51)), (2, .int v2)]) hx hb dX5_showShoalest_46 rfl hl (by decide) rfl (fun ls hl => ?_)
      refine lv_iinc (v := (v2 + 1)) (lv' := [(2, .int (v2 + 1)), (1, .int x2), (3, .int x2), (0, .ref (ad 51))]) hx hb dX5_showShoalest_47 hl (k := 3) rfl rfl (by decide) rfl (fun ls hl => ?_)
      refine lv_goto (tgt := 4) hx hb dX5_showShoalest_50 (by decide) ?_
      exact hrc4 _ _ _ _ _ _ h (lv_sub hl [3, 1, 0] rfl) hm
    · replace hm := iq c3 hm
      refine lv_aload_n hx hb dX5_showShoalest_24 rfl (lv_at hl 1 rfl) ?_
      refine sd_get C0 h (C := RX5) (T := TX5) (N := 6) kcX5 51 (aX_51 ad cA _) rfl 0 (by decide) kfX5_28 (v := .ref (ad 1)) rfl dX5_showShoalest_25 ?_
      refine sd_get C0 h (C := RX7) (T := TX7) (N := 4) kcX7 1 (aX_1 ad cA _) rfl 3 (by decide) kfX5_83 (v := .ref (ad 21)) rfl dX5_showShoalest_28 ?_
      refine lv_iload_n hx hb dX5_showShoalest_31 rfl (lv_at hl 0 rfl) ?_
      obtain ⟨x4, hx4, hm⟩ := bs hm
      refine sd_rd C0 h 21 (aX_21 ad cA _) hx4 dX5_showShoalest_32 ?_
      refine lv_aload_n hx hb dX5_showShoalest_33 rfl (lv_at hl 1 rfl) ?_
      refine sd_get C0 h (C := RX5) (T := TX5) (N := 6) kcX5 51 (aX_51 ad cA _) rfl 0 (by decide) kfX5_28 (v := .ref (ad 1)) rfl dX5_showShoalest_34 ?_
      refine sd_get C0 h (C := RX7) (T := TX7) (N := 4) kcX7 1 (aX_1 ad cA _) rfl 3 (by decide) kfX5_83 (v := .ref (ad 21)) rfl dX5_showShoalest_37 ?_
      refine lv_iload_n hx hb dX5_showShoalest_40 rfl (lv_at hl 2 rfl) ?_
      obtain ⟨x5, hx5, hm⟩ := bs hm
      refine sd_rd C0 h 21 (aX_21 ad cA _) hx5 dX5_showShoalest_41 ?_
      refine lv_icmp_ge (tgt := 47) hx hb dX5_showShoalest_42 (by decide) (fun c6 => ?_) (fun c6 => ?_)
      · replace hm := ip c6 hm
        refine lv_iinc (v := (v2 + 1)) (lv' := [(2, .int (v2 + 1)), (3, .int x2), (0, .ref (ad 51)), (1, .int v1)]) hx hb dX5_showShoalest_47 hl (k := 3) rfl rfl (by decide) rfl (fun ls hl => ?_)
        refine lv_goto (tgt := 4) hx hb dX5_showShoalest_50 (by decide) ?_
        exact hrc4 _ _ _ _ _ _ h (lv_sub hl [2, 3, 0] rfl) hm
      · replace hm := iq c6 hm
        refine lv_iload_n hx hb dX5_showShoalest_45 rfl (lv_at hl 0 rfl) ?_
        refine lv_istore_n (lv' := [(1, .int x2), (3, .int x2), (0, .ref (ad 51)), (2, .int v2)]) hx hb dX5_showShoalest_46 rfl hl (by decide) rfl (fun ls hl => ?_)
        refine lv_iinc (v := (v2 + 1)) (lv' := [(2, .int (v2 + 1)), (1, .int x2), (3, .int x2), (0, .ref (ad 51))]) hx hb dX5_showShoalest_47 hl (k := 3) rfl rfl (by decide) rfl (fun ls hl => ?_)
        refine lv_goto (tgt := 4) hx hb dX5_showShoalest_50 (by decide) ?_
        exact hrc4 _ _ _ _ _ _ h (lv_sub hl [3, 1, 0] rfl) hm
def mX5_showShoalest_4 (z : Nat) : Nat → Int32 → Int32 → St → Option St
  | 0, _, _, _ => none
  | n + 1, v1, v2, S => mX5_showShoalest_4b z (mX5_showShoalest_4 z n) v1 v2 S
set_option maxHeartbeats 4000000 in
set_option maxRecDepth 100000 in
theorem lX5_showShoalest_4 {p : Program} {l : Launch} {e : Env} {s : State} {m : MethodId} {args : Array Value} {below : List Frame} {meth : Method} {c : Code} {D : va_G} {cA : ClassId} {ad : Nat → Nat} {A : Nat → Prop} {q : St} {z : Nat} (C0 : sd_Cx RX5 cX5_showShoalest 4 none (Cond.code yX5_showShoalest cX5_showShoalest 4 none :: sd_big) p s m args meth c)  : ∀ (n : Nat) (v1 : Int32) (v2 : Int32) (S : St) (H : Heap) (locs : List Loc) (ls : Array Slot), sd_Wd D vwCl cA sd_nw (wX ad cA) A s S H locs → lv_has ls 4 [(0, .ref (ad 51)), (1, .int v1), (2, .int v2)] → mX5_showShoalest_4 z n v1 v2 S = some q → W p l e rX5_showShoalest s m args below meth c H locs 0 0 (MQ below (sd_Qv D vwCl (wX ad cA) A q) args s 0 0 A) (F0 m 4 ls []) := by
  intro n
  induction n with
  | zero =>
    intro v1 v2 S H locs ls h hl hm
    exact nomatch (show none = some q from hm)
  | succ n ih =>
    intro v1 v2 S H locs ls h hl hm
    exact bX5_showShoalest_4b C0 h hl ih hm
def mX5_showShoalest (z : Nat) (S : St) : Option St :=
  mX5_showShoalest_4 z z (-1) 0 S
set_option maxHeartbeats 4000000 in
set_option maxRecDepth 100000 in
theorem bX5_showShoalest {p : Program} {l : Launch} {e : Env} {s : State} {m : MethodId} {args : Array Value} {below : List Frame} {meth : Method} {c : Code} {D : va_G} {cA : ClassId} {ad : Nat → Nat} {A : Nat → Prop} {H : Heap} {locs : List Loc} {ls : Array Slot} {q : St} {z : Nat} {S : St} (C0 : sd_Cx RX5 cX5_showShoalest 4 none (Cond.code yX5_showShoalest cX5_showShoalest 4 none :: sd_big) p s m args meth c) (h : sd_Wd D vwCl cA sd_nw (wX ad cA) A s S H locs) (hl : lv_has ls 4 [(0, .ref (ad 51))])  (hm : mX5_showShoalest z S = some q) : W p l e rX5_showShoalest s m args below meth c H locs 0 0 (MQ below (sd_Qv D vwCl (wX ad cA) A q) args s 0 0 A) (F0 m 0 ls []) := by
  unfold mX5_showShoalest at hm
  have hx := C0.1
  have hb := C0.2.1
  refine lv_iconst (v := (-1)) hx hb dX5_showShoalest_0 (by decide) ?_
  refine lv_istore_n (lv' := [(1, .int (-1)), (0, .ref (ad 51))]) hx hb dX5_showShoalest_1 rfl hl (by decide) rfl (fun ls hl => ?_)
  refine lv_iconst (v := 0) hx hb dX5_showShoalest_2 (by decide) ?_
  refine lv_istore_n (lv' := [(2, .int 0), (1, .int (-1)), (0, .ref (ad 51))]) hx hb dX5_showShoalest_3 rfl hl (by decide) rfl (fun ls hl => ?_)
  exact lX5_showShoalest_4 C0 _ _ _ _ _ _ _ h (lv_sub hl [2, 1, 0] rfl) hm
theorem tX5_showShoalest (l : Launch) (D : va_G) (cA : ClassId) (ad : Nat → Nat) {z : Nat} {S : St}  {q : St} (hm : mX5_showShoalest z S = some q) : sd_MV l D vwCl cA sd_nw (wX ad cA) yX5_showShoalest (Cond.code yX5_showShoalest cX5_showShoalest 4 none :: sd_big) rX5_showShoalest [.ref (ad 51)] S q :=
  sd_ofV (by decide +kernel) (Nat.le_of_ble_eq_true rfl) (fun _ _ _ _ _ _ _ _ _ _ C0 h hl => bX5_showShoalest C0 h (lv_sub hl [0] rfl) hm)

def rX5_distanceToShown : Room := { frames := 1, cells := 0, slots := 0, locals := 24 }
def mX5_distanceToShown_5b (z : Nat) (S : St) (rc5 : Int32 → Int32 → Option Int32) (v1 : Int32) (v2 : Int32) (v3 : Int32) : Option Int32 :=
  if (fI S 14) ≤ v3 then
    some v2
  else
    (rd (fA S 41) 200 v3).bind fun x2 =>
    (mX6_apart S v1 x2).bind fun u3 =>
    (mJ9_min S v2 u3).bind fun u4 =>
    rc5 u4 (v3 + 1)
set_option maxHeartbeats 4000000 in
set_option maxRecDepth 100000 in
theorem bX5_distanceToShown_5b {p : Program} {l : Launch} {e : Env} {s : State} {m : MethodId} {args : Array Value} {below : List Frame} {meth : Method} {c : Code} {D : va_G} {cA : ClassId} {ad : Nat → Nat} {A : Nat → Prop} {H : Heap} {locs : List Loc} {ls : Array Slot} {q : Int32} {z : Nat} {S : St} {rc5 : Int32 → Int32 → Option Int32} {v1 : Int32} {v2 : Int32} {v3 : Int32} (C0 : sd_Cx RX5 cX5_distanceToShown 4 (some .int) (Cond.code yX5_distanceToShown cX5_distanceToShown 4 (some .int) :: sd_big) p s m args meth c) (h : sd_Wd D vwCl cA sd_nw (wX ad cA) A s S H locs) (hl : lv_has ls 4 [(0, .ref (ad 51)), (1, .int v1), (2, .int v2), (3, .int v3)]) (hrc5 : ∀ (v2 : Int32) (v3 : Int32) (H : Heap) (locs : List Loc) (ls : Array Slot), sd_Wd D vwCl cA sd_nw (wX ad cA) A s S H locs → lv_has ls 4 [(0, .ref (ad 51)), (1, .int v1), (2, .int v2), (3, .int v3)] → rc5 v2 v3 = some q → W p l e rX5_distanceToShown s m args below meth c H locs 0 0 (MQ below (sd_Qi D vwCl (wX ad cA) A (q, S)) args s 0 0 A) (F0 m 5 ls [])) (hm : mX5_distanceToShown_5b z S rc5 v1 v2 v3 = some q) : W p l e rX5_distanceToShown s m args below meth c H locs 0 0 (MQ below (sd_Qi D vwCl (wX ad cA) A (q, S)) args s 0 0 A) (F0 m 5 ls []) := by
  unfold mX5_distanceToShown_5b at hm
  have hx := C0.1
  have hb := C0.2.1
  refine lv_iload_n hx hb dX5_distanceToShown_5 rfl (lv_at hl 3 rfl) ?_
  refine lv_aload_n hx hb dX5_distanceToShown_6 rfl (lv_at hl 0 rfl) ?_
  refine sd_get C0 h (C := RX5) (T := TX5) (N := 6) kcX5 51 (aX_51 ad cA _) rfl 4 (by decide) kfX5_22 (v := .int (fI S 14)) rfl dX5_distanceToShown_7 ?_
  refine lv_icmp_ge (tgt := 41) hx hb dX5_distanceToShown_10 (by decide) (fun c1 => ?_) (fun c1 => ?_)
  · replace hm := ip c1 hm
    refine lv_iload_n hx hb dX5_distanceToShown_41 rfl (lv_at hl 2 rfl) ?_
    exact sd_iret C0 h (congrArg (fun x => (x, S)) (Option.some.inj hm)) dX5_distanceToShown_42
  · replace hm := iq c1 hm
    refine lv_iload_n hx hb dX5_distanceToShown_13 rfl (lv_at hl 2 rfl) ?_
    refine lv_aload_n hx hb dX5_distanceToShown_14 rfl (lv_at hl 0 rfl) ?_
    refine sd_get C0 h (C := RX5) (T := TX5) (N := 6) kcX5 51 (aX_51 ad cA _) rfl 0 (by decide) kfX5_28 (v := .ref (ad 1)) rfl dX5_distanceToShown_15 ?_
    refine sd_get C0 h (C := RX7) (T := TX7) (N := 4) kcX7 1 (aX_1 ad cA _) rfl 2 (by decide) kfX5_51 (v := .ref (ad 10)) rfl dX5_distanceToShown_18 ?_
    refine lv_iload_n hx hb dX5_distanceToShown_21 rfl (lv_at hl 1 rfl) ?_
    refine lv_aload_n hx hb dX5_distanceToShown_22 rfl (lv_at hl 0 rfl) ?_
    refine sd_get C0 h (C := RX5) (T := TX5) (N := 6) kcX5 51 (aX_51 ad cA _) rfl 3 (by decide) kfX5_19 (v := .ref (ad 53)) rfl dX5_distanceToShown_23 ?_
    refine lv_iload_n hx hb dX5_distanceToShown_26 rfl (lv_at hl 3 rfl) ?_
    obtain ⟨x2, hx2, hm⟩ := bs hm
    refine sd_rd C0 h 53 (aX_53 ad cA _) hx2 dX5_distanceToShown_27 ?_
    obtain ⟨u3, hu3, hm⟩ := bs hm
    refine sd_Vi C0 h kYX6_apart kmX5_90 10 (aX_10 ad cA _) rfl [.int v1, .int x2] (tX6_apart l D cA ad hu3) rfl hl.1 rfl (Nat.le_of_ble_eq_true rfl) (by decide) dX5_distanceToShown_28 (by decide) (fun H locs h => ?_)
    obtain ⟨u4, hu4, hm⟩ := bs hm
    refine sd_Si C0 h kYJ9_min_7cf53 kmX5_94 [.int v2, .int u3] (tJ9_min l D cA ad hu4) rfl hl.1 rfl (Nat.le_of_ble_eq_true rfl) (by decide) dX5_distanceToShown_31 (by decide) (fun H locs h => ?_)
    refine lv_istore_n (lv' := [(2, .int u4), (0, .ref (ad 51)), (1, .int v1), (3, .int v3)]) hx hb dX5_distanceToShown_34 rfl hl (by decide) rfl (fun ls hl => ?_)
    refine lv_iinc (v := (v3 + 1)) (lv' := [(3, .int (v3 + 1)), (2, .int u4), (0, .ref (ad 51)), (1, .int v1)]) hx hb dX5_distanceToShown_35 hl (k := 3) rfl rfl (by decide) rfl (fun ls hl => ?_)
    refine lv_goto (tgt := 5) hx hb dX5_distanceToShown_38 (by decide) ?_
    exact hrc5 _ _ _ _ _ h (lv_sub hl [2, 3, 1, 0] rfl) hm
def mX5_distanceToShown_5 (z : Nat) (S : St) (v1 : Int32) : Nat → Int32 → Int32 → Option Int32
  | 0, _, _ => none
  | n + 1, v2, v3 => mX5_distanceToShown_5b z S (mX5_distanceToShown_5 z S v1 n) v1 v2 v3
set_option maxHeartbeats 4000000 in
set_option maxRecDepth 100000 in
theorem lX5_distanceToShown_5 {p : Program} {l : Launch} {e : Env} {s : State} {m : MethodId} {args : Array Value} {below : List Frame} {meth : Method} {c : Code} {D : va_G} {cA : ClassId} {ad : Nat → Nat} {A : Nat → Prop} {q : Int32} {z : Nat} {S : St} {v1 : Int32} (C0 : sd_Cx RX5 cX5_distanceToShown 4 (some .int) (Cond.code yX5_distanceToShown cX5_distanceToShown 4 (some .int) :: sd_big) p s m args meth c)  : ∀ (n : Nat) (v2 : Int32) (v3 : Int32) (H : Heap) (locs : List Loc) (ls : Array Slot), sd_Wd D vwCl cA sd_nw (wX ad cA) A s S H locs → lv_has ls 4 [(0, .ref (ad 51)), (1, .int v1), (2, .int v2), (3, .int v3)] → mX5_distanceToShown_5 z S v1 n v2 v3 = some q → W p l e rX5_distanceToShown s m args below meth c H locs 0 0 (MQ below (sd_Qi D vwCl (wX ad cA) A (q, S)) args s 0 0 A) (F0 m 5 ls []) := by
  intro n
  induction n with
  | zero =>
    intro v2 v3 H locs ls h hl hm
    exact nomatch (show none = some q from hm)
  | succ n ih =>
    intro v2 v3 H locs ls h hl hm
    exact bX5_distanceToShown_5b C0 h hl ih hm
def mX5_distanceToShown (z : Nat) (S : St) (v1 : Int32) : Option Int32 :=
  mX5_distanceToShown_5 z S v1 z 1000000 0
set_option maxHeartbeats 4000000 in
set_option maxRecDepth 100000 in
theorem bX5_distanceToShown {p : Program} {l : Launch} {e : Env} {s : State} {m : MethodId} {args : Array Value} {below : List Frame} {meth : Method} {c : Code} {D : va_G} {cA : ClassId} {ad : Nat → Nat} {A : Nat → Prop} {H : Heap} {locs : List Loc} {ls : Array Slot} {q : Int32} {z : Nat} {S : St} {v1 : Int32} (C0 : sd_Cx RX5 cX5_distanceToShown 4 (some .int) (Cond.code yX5_distanceToShown cX5_distanceToShown 4 (some .int) :: sd_big) p s m args meth c) (h : sd_Wd D vwCl cA sd_nw (wX ad cA) A s S H locs) (hl : lv_has ls 4 [(0, .ref (ad 51)), (1, .int v1)])  (hm : mX5_distanceToShown z S v1 = some q) : W p l e rX5_distanceToShown s m args below meth c H locs 0 0 (MQ below (sd_Qi D vwCl (wX ad cA) A (q, S)) args s 0 0 A) (F0 m 0 ls []) := by
  unfold mX5_distanceToShown at hm
  have hx := C0.1
  have hb := C0.2.1
  refine lv_ldc (v := 1000000) hx hb C0.2.2.2.1 (C0.2.2.2.2.1 _ (List.mem_cons_of_mem _ kkX5_89)) dX5_distanceToShown_0 ?_
  refine lv_istore_n (lv' := [(2, .int 1000000), (0, .ref (ad 51)), (1, .int v1)]) hx hb dX5_distanceToShown_2 rfl hl (by decide) rfl (fun ls hl => ?_)
  refine lv_iconst (v := 0) hx hb dX5_distanceToShown_3 (by decide) ?_
  refine lv_istore_n (lv' := [(3, .int 0), (2, .int 1000000), (0, .ref (ad 51)), (1, .int v1)]) hx hb dX5_distanceToShown_4 rfl hl (by decide) rfl (fun ls hl => ?_)
  exact lX5_distanceToShown_5 C0 _ _ _ _ _ _ h (lv_sub hl [2, 3, 1, 0] rfl) hm
theorem tX5_distanceToShown (l : Launch) (D : va_G) (cA : ClassId) (ad : Nat → Nat) {z : Nat} {S : St} {v1 : Int32} {q : Int32} (hm : mX5_distanceToShown z S v1 = some q) : sd_MI l D vwCl cA sd_nw (wX ad cA) yX5_distanceToShown (Cond.code yX5_distanceToShown cX5_distanceToShown 4 (some .int) :: sd_big) rX5_distanceToShown [.ref (ad 51), .int v1] S (q, S) :=
  sd_ofI (by decide +kernel) (Nat.le_of_ble_eq_true rfl) (fun _ _ _ _ _ _ _ _ _ _ C0 h hl => bX5_distanceToShown C0 h (lv_sub hl [0, 1] rfl) hm)

def rX5_showFarthest : Room := { frames := 2, cells := 0, slots := 0, locals := 47 }
def mX5_showFarthest_60 (z : Nat) (v1 : Int32) (S : St) : Option St :=
  if v1 = (-1) then
    some S
  else
    (mX5_add v1 2 S).bind fun u2 =>
    some u2
set_option maxHeartbeats 4000000 in
set_option maxRecDepth 100000 in
theorem bX5_showFarthest_60 {p : Program} {l : Launch} {e : Env} {s : State} {m : MethodId} {args : Array Value} {below : List Frame} {meth : Method} {c : Code} {D : va_G} {cA : ClassId} {ad : Nat → Nat} {A : Nat → Prop} {H : Heap} {locs : List Loc} {ls : Array Slot} {q : St} {z : Nat} {v1 : Int32} {S : St} (C0 : sd_Cx RX5 cX5_showFarthest 6 none (Cond.code yX5_showFarthest cX5_showFarthest 6 none :: sd_big) p s m args meth c) (h : sd_Wd D vwCl cA sd_nw (wX ad cA) A s S H locs) (hl : lv_has ls 6 [(0, .ref (ad 51)), (1, .int v1)])  (hm : mX5_showFarthest_60 z v1 S = some q) : W p l e rX5_showFarthest s m args below meth c H locs 0 0 (MQ below (sd_Qv D vwCl (wX ad cA) A q) args s 0 0 A) (F0 m 60 ls []) := by
  unfold mX5_showFarthest_60 at hm
  have hx := C0.1
  have hb := C0.2.1
  refine lv_iload_n hx hb dX5_showFarthest_60 rfl (lv_at hl 1 rfl) ?_
  refine lv_iconst (v := (-1)) hx hb dX5_showFarthest_61 (by decide) ?_
  refine lv_icmp_eq (tgt := 71) hx hb dX5_showFarthest_62 (by decide) (fun c1 => ?_) (fun c1 => ?_)
  · replace hm := ip c1 hm
    exact sd_vret C0 h (Option.some.inj hm) dX5_showFarthest_71
  · replace hm := iq c1 hm
    refine lv_aload_n hx hb dX5_showFarthest_65 rfl (lv_at hl 0 rfl) ?_
    refine lv_iload_n hx hb dX5_showFarthest_66 rfl (lv_at hl 1 rfl) ?_
    refine lv_iconst (v := 2) hx hb dX5_showFarthest_67 (by decide) ?_
    obtain ⟨u2, hu2, hm⟩ := bs hm
    refine sd_Vv C0 h kYX5_add kmX5_74 51 (aX_51 ad cA _) rfl [.int v1, .int 2] (tX5_add l D cA ad hu2) rfl hl.1 rfl (Nat.le_of_ble_eq_true rfl) (by decide) dX5_showFarthest_68 (by decide) (fun H locs h => ?_)
    exact sd_vret C0 h (Option.some.inj hm) dX5_showFarthest_71
def mX5_showFarthest_6b (z : Nat) (rc6 : Int32 → Int32 → Int32 → St → Option St) (v1 : Int32) (v2 : Int32) (v3 : Int32) (S : St) : Option St :=
  if (fI S 13) ≤ v3 then
    mX5_showFarthest_60 z v1 S
  else
    (rd (fA S 40) 200 v3).bind fun x2 =>
    (rd (fA S 42) 200 x2).bind fun x3 =>
    if x3 = 6 then
      (mX5_distanceToShown z S x2).bind fun u5 =>
      if u5 ≤ v2 then
        rc6 v1 v2 (v3 + 1) S
      else
        rc6 x2 u5 (v3 + 1) S
    else
      rc6 v1 v2 (v3 + 1) S
set_option maxHeartbeats 4000000 in
set_option maxRecDepth 100000 in
theorem bX5_showFarthest_6b {p : Program} {l : Launch} {e : Env} {s : State} {m : MethodId} {args : Array Value} {below : List Frame} {meth : Method} {c : Code} {D : va_G} {cA : ClassId} {ad : Nat → Nat} {A : Nat → Prop} {H : Heap} {locs : List Loc} {ls : Array Slot} {q : St} {z : Nat} {rc6 : Int32 → Int32 → Int32 → St → Option St} {v1 : Int32} {v2 : Int32} {v3 : Int32} {S : St} (C0 : sd_Cx RX5 cX5_showFarthest 6 none (Cond.code yX5_showFarthest cX5_showFarthest 6 none :: sd_big) p s m args meth c) (h : sd_Wd D vwCl cA sd_nw (wX ad cA) A s S H locs) (hl : lv_has ls 6 [(0, .ref (ad 51)), (1, .int v1), (2, .int v2), (3, .int v3)]) (hrc6 : ∀ (v1 : Int32) (v2 : Int32) (v3 : Int32) (S : St) (H : Heap) (locs : List Loc) (ls : Array Slot), sd_Wd D vwCl cA sd_nw (wX ad cA) A s S H locs → lv_has ls 6 [(0, .ref (ad 51)), (1, .int v1), (2, .int v2), (3, .int v3)] → rc6 v1 v2 v3 S = some q → W p l e rX5_showFarthest s m args below meth c H locs 0 0 (MQ below (sd_Qv D vwCl (wX ad cA) A q) args s 0 0 A) (F0 m 6 ls [])) (hm : mX5_showFarthest_6b z rc6 v1 v2 v3 S = some q) : W p l e rX5_showFarthest s m args below meth c H locs 0 0 (MQ below (sd_Qv D vwCl (wX ad cA) A q) args s 0 0 A) (F0 m 6 ls []) := by
  unfold mX5_showFarthest_6b at hm
  have hx := C0.1
  have hb := C0.2.1
  refine lv_iload_n hx hb dX5_showFarthest_6 rfl (lv_at hl 3 rfl) ?_
  refine lv_aload_n hx hb dX5_showFarthest_7 rfl (lv_at hl 0 rfl) ?_
  refine sd_get C0 h (C := RX5) (T := TX5) (N := 6) kcX5 51 (aX_51 ad cA _) rfl 2 (by decide) kfX5_15 (v := .int (fI S 13)) rfl dX5_showFarthest_8 ?_
  refine lv_icmp_ge (tgt := 60) hx hb dX5_showFarthest_11 (by decide) (fun c1 => ?_) (fun c1 => ?_)
  · replace hm := ip c1 hm
    exact bX5_showFarthest_60 C0 h (lv_sub hl [0, 1] rfl) hm
  · replace hm := iq c1 hm
    refine lv_aload_n hx hb dX5_showFarthest_14 rfl (lv_at hl 0 rfl) ?_
    refine sd_get C0 h (C := RX5) (T := TX5) (N := 6) kcX5 51 (aX_51 ad cA _) rfl 1 (by decide) kfX5_9 (v := .ref (ad 52)) rfl dX5_showFarthest_15 ?_
    refine lv_iload_n hx hb dX5_showFarthest_18 rfl (lv_at hl 3 rfl) ?_
    obtain ⟨x2, hx2, hm⟩ := bs hm
    refine sd_rd C0 h 52 (aX_52 ad cA _) hx2 dX5_showFarthest_19 ?_
    refine lv_istore (lv' := [(4, .int x2), (0, .ref (ad 51)), (1, .int v1), (2, .int v2), (3, .int v3)]) hx hb dX5_showFarthest_20 hl (by decide) rfl (fun ls hl => ?_)
    refine lv_aload_n hx hb dX5_showFarthest_22 rfl (lv_at hl 1 rfl) ?_
    refine sd_get C0 h (C := RX5) (T := TX5) (N := 6) kcX5 51 (aX_51 ad cA _) rfl 5 (by decide) kfX5_25 (v := .ref (ad 54)) rfl dX5_showFarthest_23 ?_
    refine lv_iload hx hb dX5_showFarthest_26 (lv_at hl 0 rfl) ?_
    obtain ⟨x3, hx3, hm⟩ := bs hm
    refine sd_rd C0 h 54 (aX_54 ad cA _) hx3 dX5_showFarthest_28 ?_
    refine lv_bipush (v := 6) hx hb dX5_showFarthest_29 (by decide) ?_
    refine lv_icmp_ne (tgt := 54) hx hb dX5_showFarthest_31 (by decide) (fun c4 => ?_) (fun c4 => ?_)
    · replace hm := iq c4 hm
      refine lv_iinc (v := (v3 + 1)) (lv' := [(3, .int (v3 + 1)), (4, .int x2), (0, .ref (ad 51)), (1, .int v1), (2, .int v2)]) hx hb dX5_showFarthest_54 hl (k := 4) rfl rfl (by decide) rfl (fun ls hl => ?_)
      refine lv_goto (tgt := 6) hx hb dX5_showFarthest_57 (by decide) ?_
      exact hrc6 _ _ _ _ _ _ _ h (lv_sub hl [2, 3, 4, 0] rfl) hm
    · replace hm := ip c4 hm
      refine lv_aload_n hx hb dX5_showFarthest_34 rfl (lv_at hl 1 rfl) ?_
      refine lv_iload hx hb dX5_showFarthest_35 (lv_at hl 0 rfl) ?_
      obtain ⟨u5, hu5, hm⟩ := bs hm
      refine sd_Vi C0 h kYX5_distanceToShown kmX5_86 51 (aX_51 ad cA _) rfl [.int x2] (tX5_distanceToShown l D cA ad hu5) rfl hl.1 rfl (Nat.le_of_ble_eq_true rfl) (by decide) dX5_showFarthest_37 (by decide) (fun H locs h => ?_)
      refine lv_istore (lv' := [(5, .int u5), (4, .int x2), (0, .ref (ad 51)), (1, .int v1), (2, .int v2), (3, .int v3)]) hx hb dX5_showFarthest_40 hl (by decide) rfl (fun ls hl => ?_)
      refine lv_iload hx hb dX5_showFarthest_42 (lv_at hl 0 rfl) ?_
      refine lv_iload_n hx hb dX5_showFarthest_44 rfl (lv_at hl 4 rfl) ?_
      refine lv_icmp_le (tgt := 54) hx hb dX5_showFarthest_45 (by decide) (fun c6 => ?_) (fun c6 => ?_)
      · replace hm := ip c6 hm
        refine lv_iinc (v := (v3 + 1)) (lv' := [(3, .int (v3 + 1)), (5, .int u5), (4, .int x2), (0, .ref (ad 51)), (1, .int v1), (2, .int v2)]) hx hb dX5_showFarthest_54 hl (k := 5) rfl rfl (by decide) rfl (fun ls hl => ?_)
        refine lv_goto (tgt := 6) hx hb dX5_showFarthest_57 (by decide) ?_
        exact hrc6 _ _ _ _ _ _ _ h (lv_sub hl [3, 4, 5, 0] rfl) hm
      · replace hm := iq c6 hm
        refine lv_iload hx hb dX5_showFarthest_48 (lv_at hl 0 rfl) ?_
        refine lv_istore_n (lv' := [(2, .int u5), (5, .int u5), (4, .int x2), (0, .ref (ad 51)), (1, .int v1), (3, .int v3)]) hx hb dX5_showFarthest_50 rfl hl (by decide) rfl (fun ls hl => ?_)
        refine lv_iload hx hb dX5_showFarthest_51 (lv_at hl 2 rfl) ?_
        refine lv_istore_n (lv' := [(1, .int x2), (2, .int u5), (5, .int u5), (4, .int x2), (0, .ref (ad 51)), (3, .int v3)]) hx hb dX5_showFarthest_53 rfl hl (by decide) rfl (fun ls hl => ?_)
        refine lv_iinc (v := (v3 + 1)) (lv' := [(3, .int (v3 + 1)), (1, .int x2), (2, .int u5), (5, .int u5), (4, .int x2), (0, .ref (ad 51))]) hx hb dX5_showFarthest_54 hl (k := 5) rfl rfl (by decide) rfl (fun ls hl => ?_)
        refine lv_goto (tgt := 6) hx hb dX5_showFarthest_57 (by decide) ?_
        exact hrc6 _ _ _ _ _ _ _ h (lv_sub hl [5, 1, 2, 0] rfl) hm
def mX5_showFarthest_6 (z : Nat) : Nat → Int32 → Int32 → Int32 → St → Option St
  | 0, _, _, _, _ => none
  | n + 1, v1, v2, v3, S => mX5_showFarthest_6b z (mX5_showFarthest_6 z n) v1 v2 v3 S
set_option maxHeartbeats 4000000 in
set_option maxRecDepth 100000 in
theorem lX5_showFarthest_6 {p : Program} {l : Launch} {e : Env} {s : State} {m : MethodId} {args : Array Value} {below : List Frame} {meth : Method} {c : Code} {D : va_G} {cA : ClassId} {ad : Nat → Nat} {A : Nat → Prop} {q : St} {z : Nat} (C0 : sd_Cx RX5 cX5_showFarthest 6 none (Cond.code yX5_showFarthest cX5_showFarthest 6 none :: sd_big) p s m args meth c)  : ∀ (n : Nat) (v1 : Int32) (v2 : Int32) (v3 : Int32) (S : St) (H : Heap) (locs : List Loc) (ls : Array Slot), sd_Wd D vwCl cA sd_nw (wX ad cA) A s S H locs → lv_has ls 6 [(0, .ref (ad 51)), (1, .int v1), (2, .int v2), (3, .int v3)] → mX5_showFarthest_6 z n v1 v2 v3 S = some q → W p l e rX5_showFarthest s m args below meth c H locs 0 0 (MQ below (sd_Qv D vwCl (wX ad cA) A q) args s 0 0 A) (F0 m 6 ls []) := by
  intro n
  induction n with
  | zero =>
    intro v1 v2 v3 S H locs ls h hl hm
    exact nomatch (show none = some q from hm)
  | succ n ih =>
    intro v1 v2 v3 S H locs ls h hl hm
    exact bX5_showFarthest_6b C0 h hl ih hm
def mX5_showFarthest (z : Nat) (S : St) : Option St :=
  mX5_showFarthest_6 z z (-1) (-1) 0 S
set_option maxHeartbeats 4000000 in
set_option maxRecDepth 100000 in
theorem bX5_showFarthest {p : Program} {l : Launch} {e : Env} {s : State} {m : MethodId} {args : Array Value} {below : List Frame} {meth : Method} {c : Code} {D : va_G} {cA : ClassId} {ad : Nat → Nat} {A : Nat → Prop} {H : Heap} {locs : List Loc} {ls : Array Slot} {q : St} {z : Nat} {S : St} (C0 : sd_Cx RX5 cX5_showFarthest 6 none (Cond.code yX5_showFarthest cX5_showFarthest 6 none :: sd_big) p s m args meth c) (h : sd_Wd D vwCl cA sd_nw (wX ad cA) A s S H locs) (hl : lv_has ls 6 [(0, .ref (ad 51))])  (hm : mX5_showFarthest z S = some q) : W p l e rX5_showFarthest s m args below meth c H locs 0 0 (MQ below (sd_Qv D vwCl (wX ad cA) A q) args s 0 0 A) (F0 m 0 ls []) := by
  unfold mX5_showFarthest at hm
  have hx := C0.1
  have hb := C0.2.1
  refine lv_iconst (v := (-1)) hx hb dX5_showFarthest_0 (by decide) ?_
  refine lv_istore_n (lv' := [(1, .int (-1)), (0, .ref (ad 51))]) hx hb dX5_showFarthest_1 rfl hl (by decide) rfl (fun ls hl => ?_)
  refine lv_iconst (v := (-1)) hx hb dX5_showFarthest_2 (by decide) ?_
  refine lv_istore_n (lv' := [(2, .int (-1)), (1, .int (-1)), (0, .ref (ad 51))]) hx hb dX5_showFarthest_3 rfl hl (by decide) rfl (fun ls hl => ?_)
  refine lv_iconst (v := 0) hx hb dX5_showFarthest_4 (by decide) ?_
  refine lv_istore_n (lv' := [(3, .int 0), (2, .int (-1)), (1, .int (-1)), (0, .ref (ad 51))]) hx hb dX5_showFarthest_5 rfl hl (by decide) rfl (fun ls hl => ?_)
  exact lX5_showFarthest_6 C0 _ _ _ _ _ _ _ _ h (lv_sub hl [3, 2, 1, 0] rfl) hm
theorem tX5_showFarthest (l : Launch) (D : va_G) (cA : ClassId) (ad : Nat → Nat) {z : Nat} {S : St}  {q : St} (hm : mX5_showFarthest z S = some q) : sd_MV l D vwCl cA sd_nw (wX ad cA) yX5_showFarthest (Cond.code yX5_showFarthest cX5_showFarthest 6 none :: sd_big) rX5_showFarthest [.ref (ad 51)] S q :=
  sd_ofV (by decide +kernel) (Nat.le_of_ble_eq_true rfl) (fun _ _ _ _ _ _ _ _ _ _ C0 h hl => bX5_showFarthest C0 h (lv_sub hl [0] rfl) hm)

def rX5_draw : Room := { frames := 4, cells := 0, slots := 0, locals := 96 }
def mX5_draw_30b (z : Nat) (rc30 : Int32 → St → Option St) (v2 : Int32) (v4 : Int32) (S : St) : Option St :=
  if v2 ≤ v4 then
    some S
  else
    if v2 ≤ (fI S 14) then
      rc30 (v4 + 1) S
    else
      (mX5_showFarthest z S).bind fun u3 =>
      rc30 (v4 + 1) u3
set_option maxHeartbeats 4000000 in
set_option maxRecDepth 100000 in
theorem bX5_draw_30b {p : Program} {l : Launch} {e : Env} {s : State} {m : MethodId} {args : Array Value} {below : List Frame} {meth : Method} {c : Code} {D : va_G} {cA : ClassId} {ad : Nat → Nat} {A : Nat → Prop} {H : Heap} {locs : List Loc} {ls : Array Slot} {q : St} {z : Nat} {rc30 : Int32 → St → Option St} {v2 : Int32} {v4 : Int32} {S : St} (C0 : sd_Cx RX5 cX5_draw 5 none (Cond.code yX5_draw cX5_draw 5 none :: sd_big) p s m args meth c) (h : sd_Wd D vwCl cA sd_nw (wX ad cA) A s S H locs) (hl : lv_has ls 5 [(0, .ref (ad 51)), (2, .int v2), (4, .int v4)]) (hrc30 : ∀ (v4 : Int32) (S : St) (H : Heap) (locs : List Loc) (ls : Array Slot), sd_Wd D vwCl cA sd_nw (wX ad cA) A s S H locs → lv_has ls 5 [(0, .ref (ad 51)), (2, .int v2), (4, .int v4)] → rc30 v4 S = some q → W p l e rX5_draw s m args below meth c H locs 0 0 (MQ below (sd_Qv D vwCl (wX ad cA) A q) args s 0 0 A) (F0 m 30 ls [])) (hm : mX5_draw_30b z rc30 v2 v4 S = some q) : W p l e rX5_draw s m args below meth c H locs 0 0 (MQ below (sd_Qv D vwCl (wX ad cA) A q) args s 0 0 A) (F0 m 30 ls []) := by
  unfold mX5_draw_30b at hm
  have hx := C0.1
  have hb := C0.2.1
  refine lv_iload hx hb dX5_draw_30 (lv_at hl 2 rfl) ?_
  refine lv_iload_n hx hb dX5_draw_32 rfl (lv_at hl 1 rfl) ?_
  refine lv_icmp_ge (tgt := 54) hx hb dX5_draw_33 (by decide) (fun c1 => ?_) (fun c1 => ?_)
  · replace hm := ip c1 hm
    exact sd_vret C0 h (Option.some.inj hm) dX5_draw_54
  · replace hm := iq c1 hm
    refine lv_aload_n hx hb dX5_draw_36 rfl (lv_at hl 0 rfl) ?_
    refine sd_get C0 h (C := RX5) (T := TX5) (N := 6) kcX5 51 (aX_51 ad cA _) rfl 4 (by decide) kfX5_22 (v := .int (fI S 14)) rfl dX5_draw_37 ?_
    refine lv_iload_n hx hb dX5_draw_40 rfl (lv_at hl 1 rfl) ?_
    refine lv_icmp_ge (tgt := 48) hx hb dX5_draw_41 (by decide) (fun c2 => ?_) (fun c2 => ?_)
    · replace hm := ip c2 hm
      refine lv_iinc (v := (v4 + 1)) (lv' := [(4, .int (v4 + 1)), (0, .ref (ad 51)), (2, .int v2)]) hx hb dX5_draw_48 hl (k := 2) rfl rfl (by decide) rfl (fun ls hl => ?_)
      refine lv_goto (tgt := 30) hx hb dX5_draw_51 (by decide) ?_
      exact hrc30 _ _ _ _ _ h (lv_sub hl [1, 2, 0] rfl) hm
    · replace hm := iq c2 hm
      refine lv_aload_n hx hb dX5_draw_44 rfl (lv_at hl 0 rfl) ?_
      obtain ⟨u3, hu3, hm⟩ := bs hm
      refine sd_Vv C0 h kYX5_showFarthest kmX5_48 51 (aX_51 ad cA _) rfl [] (tX5_showFarthest l D cA ad hu3) rfl hl.1 rfl (Nat.le_of_ble_eq_true rfl) (by decide) dX5_draw_45 (by decide) (fun H locs h => ?_)
      refine lv_iinc (v := (v4 + 1)) (lv' := [(4, .int (v4 + 1)), (0, .ref (ad 51)), (2, .int v2)]) hx hb dX5_draw_48 hl (k := 2) rfl rfl (by decide) rfl (fun ls hl => ?_)
      refine lv_goto (tgt := 30) hx hb dX5_draw_51 (by decide) ?_
      exact hrc30 _ _ _ _ _ h (lv_sub hl [1, 2, 0] rfl) hm
def mX5_draw_30 (z : Nat) (v2 : Int32) : Nat → Int32 → St → Option St
  | 0, _, _ => none
  | n + 1, v4, S => mX5_draw_30b z (mX5_draw_30 z v2 n) v2 v4 S
set_option maxHeartbeats 4000000 in
set_option maxRecDepth 100000 in
theorem lX5_draw_30 {p : Program} {l : Launch} {e : Env} {s : State} {m : MethodId} {args : Array Value} {below : List Frame} {meth : Method} {c : Code} {D : va_G} {cA : ClassId} {ad : Nat → Nat} {A : Nat → Prop} {q : St} {z : Nat} {v2 : Int32} (C0 : sd_Cx RX5 cX5_draw 5 none (Cond.code yX5_draw cX5_draw 5 none :: sd_big) p s m args meth c)  : ∀ (n : Nat) (v4 : Int32) (S : St) (H : Heap) (locs : List Loc) (ls : Array Slot), sd_Wd D vwCl cA sd_nw (wX ad cA) A s S H locs → lv_has ls 5 [(0, .ref (ad 51)), (2, .int v2), (4, .int v4)] → mX5_draw_30 z v2 n v4 S = some q → W p l e rX5_draw s m args below meth c H locs 0 0 (MQ below (sd_Qv D vwCl (wX ad cA) A q) args s 0 0 A) (F0 m 30 ls []) := by
  intro n
  induction n with
  | zero =>
    intro v4 S H locs ls h hl hm
    exact nomatch (show none = some q from hm)
  | succ n ih =>
    intro v4 S H locs ls h hl hm
    exact bX5_draw_30b C0 h hl ih hm
def mX5_draw (z : Nat) (v1 : Int32) (v2 : Int32) (v3 : Int32) (S : St) : Option St :=
  (mX7_measure z S).bind fun u1 =>
  (mX5_findAll z v1 v3 u1).bind fun u2 =>
  (mX5_showAlways z v1 (sI u2 14 0)).bind fun u3 =>
  (mX5_showShoalest z u3).bind fun u4 =>
  mX5_draw_30 z v2 z 0 u4
set_option maxHeartbeats 4000000 in
set_option maxRecDepth 100000 in
theorem bX5_draw {p : Program} {l : Launch} {e : Env} {s : State} {m : MethodId} {args : Array Value} {below : List Frame} {meth : Method} {c : Code} {D : va_G} {cA : ClassId} {ad : Nat → Nat} {A : Nat → Prop} {H : Heap} {locs : List Loc} {ls : Array Slot} {q : St} {z : Nat} {v1 : Int32} {v2 : Int32} {v3 : Int32} {S : St} (C0 : sd_Cx RX5 cX5_draw 5 none (Cond.code yX5_draw cX5_draw 5 none :: sd_big) p s m args meth c) (h : sd_Wd D vwCl cA sd_nw (wX ad cA) A s S H locs) (hl : lv_has ls 5 [(0, .ref (ad 51)), (1, .int v1), (2, .int v2), (3, .int v3)])  (hm : mX5_draw z v1 v2 v3 S = some q) : W p l e rX5_draw s m args below meth c H locs 0 0 (MQ below (sd_Qv D vwCl (wX ad cA) A q) args s 0 0 A) (F0 m 0 ls []) := by
  unfold mX5_draw at hm
  have hx := C0.1
  have hb := C0.2.1
  refine lv_aload_n hx hb dX5_draw_0 rfl (lv_at hl 0 rfl) ?_
  refine sd_get C0 h (C := RX5) (T := TX5) (N := 6) kcX5 51 (aX_51 ad cA _) rfl 0 (by decide) kfX5_28 (v := .ref (ad 1)) rfl dX5_draw_1 ?_
  obtain ⟨u1, hu1, hm⟩ := bs hm
  refine sd_Vv C0 h kYX7_measure kmX5_32 1 (aX_1 ad cA _) rfl [] (tX7_measure l D cA ad hu1) rfl hl.1 rfl (Nat.le_of_ble_eq_true rfl) (by decide) dX5_draw_4 (by decide) (fun H locs h => ?_)
  refine lv_aload_n hx hb dX5_draw_7 rfl (lv_at hl 0 rfl) ?_
  refine lv_iload_n hx hb dX5_draw_8 rfl (lv_at hl 1 rfl) ?_
  refine lv_iload_n hx hb dX5_draw_9 rfl (lv_at hl 3 rfl) ?_
  obtain ⟨u2, hu2, hm⟩ := bs hm
  refine sd_Vv C0 h kYX5_findAll kmX5_37 51 (aX_51 ad cA _) rfl [.int v1, .int v3] (tX5_findAll l D cA ad hu2) rfl hl.1 rfl (Nat.le_of_ble_eq_true rfl) (by decide) dX5_draw_10 (by decide) (fun H locs h => ?_)
  refine lv_aload_n hx hb dX5_draw_13 rfl (lv_at hl 0 rfl) ?_
  refine lv_iconst (v := 0) hx hb dX5_draw_14 (by decide) ?_
  refine sd_put C0 h (C := RX5) (T := TX5) (N := 6) (S1 := (sI u2 14 0)) kcX5 tyX5 tyX5_ok nmX5 51 (aX_51 ad cA _) rfl 4 (by decide) kfX5_22 rfl (ty := .int) (by decide +kernel) rfl rfl (Nat.le_of_ble_eq_true rfl) (eX_51_4 ad cA _ _) dX5_draw_15 (fun H locs h => ?_)
  refine lv_aload_n hx hb dX5_draw_18 rfl (lv_at hl 0 rfl) ?_
  refine lv_iload_n hx hb dX5_draw_19 rfl (lv_at hl 1 rfl) ?_
  obtain ⟨u3, hu3, hm⟩ := bs hm
  refine sd_Vv C0 h kYX5_showAlways kmX5_41 51 (aX_51 ad cA _) rfl [.int v1] (tX5_showAlways l D cA ad hu3) rfl hl.1 rfl (Nat.le_of_ble_eq_true rfl) (by decide) dX5_draw_20 (by decide) (fun H locs h => ?_)
  refine lv_aload_n hx hb dX5_draw_23 rfl (lv_at hl 0 rfl) ?_
  obtain ⟨u4, hu4, hm⟩ := bs hm
  refine sd_Vv C0 h kYX5_showShoalest kmX5_45 51 (aX_51 ad cA _) rfl [] (tX5_showShoalest l D cA ad hu4) rfl hl.1 rfl (Nat.le_of_ble_eq_true rfl) (by decide) dX5_draw_24 (by decide) (fun H locs h => ?_)
  refine lv_iconst (v := 0) hx hb dX5_draw_27 (by decide) ?_
  refine lv_istore (lv' := [(4, .int 0), (0, .ref (ad 51)), (1, .int v1), (2, .int v2), (3, .int v3)]) hx hb dX5_draw_28 hl (by decide) rfl (fun ls hl => ?_)
  exact lX5_draw_30 C0 _ _ _ _ _ _ h (lv_sub hl [1, 3, 0] rfl) hm
theorem tX5_draw (l : Launch) (D : va_G) (cA : ClassId) (ad : Nat → Nat) {z : Nat} {S : St} {v1 : Int32} {v2 : Int32} {v3 : Int32} {q : St} (hm : mX5_draw z v1 v2 v3 S = some q) : sd_MV l D vwCl cA sd_nw (wX ad cA) yX5_draw (Cond.code yX5_draw cX5_draw 5 none :: sd_big) rX5_draw [.ref (ad 51), .int v1, .int v2, .int v3] S q :=
  sd_ofV (by decide +kernel) (Nat.le_of_ble_eq_true rfl) (fun _ _ _ _ _ _ _ _ _ _ C0 h hl => bX5_draw C0 h (lv_sub hl [0, 1, 2, 3] rfl) hm)

def rX9_shown : Room := { frames := 5, cells := 0, slots := 0, locals := 120 }
def mX9_shown (z : Nat) (v1 : Int32) (v2 : Int32) (v3 : Int32) (v4 : Int32) (S : St) : Option (Int32 × St) :=
  (mX9_isDay S v1).bind fun u1 =>
  if u1 = 0 then
    some ((-1), S)
  else
    (mX9_isDensity S v2).bind fun u3 =>
    if u3 = 0 then
      some ((-1), S)
    else
      (mX9_isSquare S v3).bind fun u5 =>
      if u5 = 0 then
        some ((-1), S)
      else
        (mX5_draw z v1 v2 v3 S).bind fun u7 =>
        if v4 < 0 then
          some ((-1), u7)
        else
          if (fI u7 14) ≤ v4 then
            some ((-1), u7)
          else
            (rd (fA u7 41) 200 v4).bind fun x10 =>
            some (x10, u7)
set_option maxHeartbeats 4000000 in
set_option maxRecDepth 100000 in
theorem bX9_shown {p : Program} {l : Launch} {e : Env} {s : State} {m : MethodId} {args : Array Value} {below : List Frame} {meth : Method} {c : Code} {D : va_G} {cA : ClassId} {ad : Nat → Nat} {A : Nat → Prop} {H : Heap} {locs : List Loc} {ls : Array Slot} {q : (Int32 × St)} {z : Nat} {v1 : Int32} {v2 : Int32} {v3 : Int32} {v4 : Int32} {S : St} (C0 : sd_Cx RX9 cX9_shown 5 (some .int) (Cond.code yX9_shown cX9_shown 5 (some .int) :: sd_big) p s m args meth c) (h : sd_Wd D vwCl cA sd_nw (wX ad cA) A s S H locs) (hl : lv_has ls 5 [(0, .ref (ad 0)), (1, .int v1), (2, .int v2), (3, .int v3), (4, .int v4)])  (hm : mX9_shown z v1 v2 v3 v4 S = some q) : W p l e rX9_shown s m args below meth c H locs 0 0 (MQ below (sd_Qi D vwCl (wX ad cA) A q) args s 0 0 A) (F0 m 0 ls []) := by
  unfold mX9_shown at hm
  have hx := C0.1
  have hb := C0.2.1
  refine lv_iload_n hx hb dX9_shown_0 rfl (lv_at hl 1 rfl) ?_
  obtain ⟨u1, hu1, hm⟩ := bs hm
  refine sd_Si C0 h kYX9_isDay kmX9_62 [.int v1] (tX9_isDay l D cA ad hu1) rfl hl.1 rfl (Nat.le_of_ble_eq_true rfl) (by decide) dX9_shown_1 (by decide) (fun H locs h => ?_)
  refine lv_if_eq (tgt := 21) hx hb dX9_shown_4 (by decide) (fun c2 => ?_) (fun c2 => ?_)
  · replace hm := ip c2 hm
    refine lv_iconst (v := (-1)) hx hb dX9_shown_21 (by decide) ?_
    exact sd_iret C0 h (Option.some.inj hm) dX9_shown_22
  · replace hm := iq c2 hm
    refine lv_iload_n hx hb dX9_shown_7 rfl (lv_at hl 2 rfl) ?_
    obtain ⟨u3, hu3, hm⟩ := bs hm
    refine sd_Si C0 h kYX9_isDensity kmX9_231 [.int v2] (tX9_isDensity l D cA ad hu3) rfl hl.1 rfl (Nat.le_of_ble_eq_true rfl) (by decide) dX9_shown_8 (by decide) (fun H locs h => ?_)
    refine lv_if_eq (tgt := 21) hx hb dX9_shown_11 (by decide) (fun c4 => ?_) (fun c4 => ?_)
    · replace hm := ip c4 hm
      refine lv_iconst (v := (-1)) hx hb dX9_shown_21 (by decide) ?_
      exact sd_iret C0 h (Option.some.inj hm) dX9_shown_22
    · replace hm := iq c4 hm
      refine lv_iload_n hx hb dX9_shown_14 rfl (lv_at hl 3 rfl) ?_
      obtain ⟨u5, hu5, hm⟩ := bs hm
      refine sd_Si C0 h kYX9_isSquare kmX9_234 [.int v3] (tX9_isSquare l D cA ad hu5) rfl hl.1 rfl (Nat.le_of_ble_eq_true rfl) (by decide) dX9_shown_15 (by decide) (fun H locs h => ?_)
      refine lv_if_ne (tgt := 23) hx hb dX9_shown_18 (by decide) (fun c6 => ?_) (fun c6 => ?_)
      · replace hm := iq c6 hm
        refine lv_aload_n hx hb dX9_shown_23 rfl (lv_at hl 0 rfl) ?_
        refine sd_get C0 h (C := RX9) (T := TX9) (N := 8) kcX9 0 (aX_0 ad cA _) rfl 4 (by decide) kfX9_38 (v := .ref (ad 51)) rfl dX9_shown_24 ?_
        refine lv_iload_n hx hb dX9_shown_27 rfl (lv_at hl 1 rfl) ?_
        refine lv_iload_n hx hb dX9_shown_28 rfl (lv_at hl 2 rfl) ?_
        refine lv_iload_n hx hb dX9_shown_29 rfl (lv_at hl 3 rfl) ?_
        obtain ⟨u7, hu7, hm⟩ := bs hm
        refine sd_Vv C0 h kYX5_draw kmX9_237 51 (aX_51 ad cA _) rfl [.int v1, .int v2, .int v3] (tX5_draw l D cA ad hu7) rfl hl.1 rfl (Nat.le_of_ble_eq_true rfl) (by decide) dX9_shown_30 (by decide) (fun H locs h => ?_)
        refine lv_iload hx hb dX9_shown_33 (lv_at hl 4 rfl) ?_
        refine lv_if_lt (tgt := 63) hx hb dX9_shown_35 (by decide) (fun c8 => ?_) (fun c8 => ?_)
        · replace hm := ip c8 hm
          refine lv_iconst (v := (-1)) hx hb dX9_shown_63 (by decide) ?_
          exact sd_iret C0 h (Option.some.inj hm) dX9_shown_64
        · replace hm := iq c8 hm
          refine lv_iload hx hb dX9_shown_38 (lv_at hl 4 rfl) ?_
          refine lv_aload_n hx hb dX9_shown_40 rfl (lv_at hl 0 rfl) ?_
          refine sd_get C0 h (C := RX9) (T := TX9) (N := 8) kcX9 0 (aX_0 ad cA _) rfl 4 (by decide) kfX9_38 (v := .ref (ad 51)) rfl dX9_shown_41 ?_
          refine sd_get C0 h (C := RX5) (T := TX5) (N := 6) kcX5 51 (aX_51 ad cA _) rfl 4 (by decide) kfX9_240 (v := .int (fI u7 14)) rfl dX9_shown_44 ?_
          refine lv_icmp_ge (tgt := 63) hx hb dX9_shown_47 (by decide) (fun c9 => ?_) (fun c9 => ?_)
          · replace hm := ip c9 hm
            refine lv_iconst (v := (-1)) hx hb dX9_shown_63 (by decide) ?_
            exact sd_iret C0 h (Option.some.inj hm) dX9_shown_64
          · replace hm := iq c9 hm
            refine lv_aload_n hx hb dX9_shown_50 rfl (lv_at hl 0 rfl) ?_
            refine sd_get C0 h (C := RX9) (T := TX9) (N := 8) kcX9 0 (aX_0 ad cA _) rfl 4 (by decide) kfX9_38 (v := .ref (ad 51)) rfl dX9_shown_51 ?_
            refine sd_get C0 h (C := RX5) (T := TX5) (N := 6) kcX5 51 (aX_51 ad cA _) rfl 3 (by decide) kfX9_243 (v := .ref (ad 53)) rfl dX9_shown_54 ?_
            refine lv_iload hx hb dX9_shown_57 (lv_at hl 4 rfl) ?_
            obtain ⟨x10, hx10, hm⟩ := bs hm
            refine sd_rd C0 h 53 (aX_53 ad cA _) hx10 dX9_shown_59 ?_
            refine lv_goto (tgt := 64) hx hb dX9_shown_60 (by decide) ?_
            exact sd_iret C0 h (Option.some.inj hm) dX9_shown_64
      · replace hm := ip c6 hm
        refine lv_iconst (v := (-1)) hx hb dX9_shown_21 (by decide) ?_
        exact sd_iret C0 h (Option.some.inj hm) dX9_shown_22
theorem tX9_shown (l : Launch) (D : va_G) (cA : ClassId) (ad : Nat → Nat) {z : Nat} {S : St} {v1 : Int32} {v2 : Int32} {v3 : Int32} {v4 : Int32} {q : (Int32 × St)} (hm : mX9_shown z v1 v2 v3 v4 S = some q) : sd_MI l D vwCl cA sd_nw (wX ad cA) yX9_shown (Cond.code yX9_shown cX9_shown 5 (some .int) :: sd_big) rX9_shown [.ref (ad 0), .int v1, .int v2, .int v3, .int v4] S q :=
  sd_ofI (by decide +kernel) (Nat.le_of_ble_eq_true rfl) (fun _ _ _ _ _ _ _ _ _ _ C0 h hl => bX9_shown C0 h (lv_sub hl [0, 1, 2, 3, 4] rfl) hm)

def rX9_why : Room := { frames := 5, cells := 0, slots := 0, locals := 120 }
def mX9_why (z : Nat) (v1 : Int32) (v2 : Int32) (v3 : Int32) (S : St) : Option (Int32 × St) :=
  (mX9_isDay S v1).bind fun u1 =>
  if u1 = 0 then
    some ((-1), S)
  else
    (mX9_isDensity S v2).bind fun u3 =>
    if u3 = 0 then
      some ((-1), S)
    else
      (mX6_has S v3).bind fun u5 =>
      if u5 = 0 then
        some ((-1), S)
      else
        (rd (fA S 6) 200 v3).bind fun x7 =>
        if x7 = 2 then
          some (3, S)
        else
          (mX6_isThere S v3 v1).bind fun u9 =>
          if u9 = 0 then
            some (4, S)
          else
            (mX7_corrected z v3 S).bind fun u11 =>
            if u11.1 = (-30000) then
              some (5, u11.2)
            else
              (mX6_squareOf u11.2 v3).bind fun u13 =>
              (mX5_draw z v1 v2 u13 u11.2).bind fun u14 =>
              (rd (fA u14 42) 200 v3).bind fun x15 =>
              some (x15, u14)
set_option maxHeartbeats 4000000 in
set_option maxRecDepth 100000 in
theorem bX9_why {p : Program} {l : Launch} {e : Env} {s : State} {m : MethodId} {args : Array Value} {below : List Frame} {meth : Method} {c : Code} {D : va_G} {cA : ClassId} {ad : Nat → Nat} {A : Nat → Prop} {H : Heap} {locs : List Loc} {ls : Array Slot} {q : (Int32 × St)} {z : Nat} {v1 : Int32} {v2 : Int32} {v3 : Int32} {S : St} (C0 : sd_Cx RX9 cX9_why 4 (some .int) (Cond.code yX9_why cX9_why 4 (some .int) :: sd_big) p s m args meth c) (h : sd_Wd D vwCl cA sd_nw (wX ad cA) A s S H locs) (hl : lv_has ls 4 [(0, .ref (ad 0)), (1, .int v1), (2, .int v2), (3, .int v3)])  (hm : mX9_why z v1 v2 v3 S = some q) : W p l e rX9_why s m args below meth c H locs 0 0 (MQ below (sd_Qi D vwCl (wX ad cA) A q) args s 0 0 A) (F0 m 0 ls []) := by
  unfold mX9_why at hm
  have hx := C0.1
  have hb := C0.2.1
  refine lv_iload_n hx hb dX9_why_0 rfl (lv_at hl 1 rfl) ?_
  obtain ⟨u1, hu1, hm⟩ := bs hm
  refine sd_Si C0 h kYX9_isDay kmX9_62 [.int v1] (tX9_isDay l D cA ad hu1) rfl hl.1 rfl (Nat.le_of_ble_eq_true rfl) (by decide) dX9_why_1 (by decide) (fun H locs h => ?_)
  refine lv_if_eq (tgt := 28) hx hb dX9_why_4 (by decide) (fun c2 => ?_) (fun c2 => ?_)
  · replace hm := ip c2 hm
    refine lv_iconst (v := (-1)) hx hb dX9_why_28 (by decide) ?_
    exact sd_iret C0 h (Option.some.inj hm) dX9_why_29
  · replace hm := iq c2 hm
    refine lv_iload_n hx hb dX9_why_7 rfl (lv_at hl 2 rfl) ?_
    obtain ⟨u3, hu3, hm⟩ := bs hm
    refine sd_Si C0 h kYX9_isDensity kmX9_231 [.int v2] (tX9_isDensity l D cA ad hu3) rfl hl.1 rfl (Nat.le_of_ble_eq_true rfl) (by decide) dX9_why_8 (by decide) (fun H locs h => ?_)
    refine lv_if_eq (tgt := 28) hx hb dX9_why_11 (by decide) (fun c4 => ?_) (fun c4 => ?_)
    · replace hm := ip c4 hm
      refine lv_iconst (v := (-1)) hx hb dX9_why_28 (by decide) ?_
      exact sd_iret C0 h (Option.some.inj hm) dX9_why_29
    · replace hm := iq c4 hm
      refine lv_aload_n hx hb dX9_why_14 rfl (lv_at hl 0 rfl) ?_
      refine sd_get C0 h (C := RX9) (T := TX9) (N := 8) kcX9 0 (aX_0 ad cA _) rfl 0 (by decide) kfX9_10 (v := .ref (ad 1)) rfl dX9_why_15 ?_
      refine sd_get C0 h (C := RX7) (T := TX7) (N := 4) kcX7 1 (aX_1 ad cA _) rfl 2 (by decide) kfX9_131 (v := .ref (ad 10)) rfl dX9_why_18 ?_
      refine lv_iload_n hx hb dX9_why_21 rfl (lv_at hl 3 rfl) ?_
      obtain ⟨u5, hu5, hm⟩ := bs hm
      refine sd_Vi C0 h kYX6_has kmX9_148 10 (aX_10 ad cA _) rfl [.int v3] (tX6_has l D cA ad hu5) rfl hl.1 rfl (Nat.le_of_ble_eq_true rfl) (by decide) dX9_why_22 (by decide) (fun H locs h => ?_)
      refine lv_if_ne (tgt := 30) hx hb dX9_why_25 (by decide) (fun c6 => ?_) (fun c6 => ?_)
      · replace hm := iq c6 hm
        refine lv_aload_n hx hb dX9_why_30 rfl (lv_at hl 0 rfl) ?_
        refine sd_get C0 h (C := RX9) (T := TX9) (N := 8) kcX9 0 (aX_0 ad cA _) rfl 0 (by decide) kfX9_10 (v := .ref (ad 1)) rfl dX9_why_31 ?_
        refine sd_get C0 h (C := RX7) (T := TX7) (N := 4) kcX7 1 (aX_1 ad cA _) rfl 2 (by decide) kfX9_131 (v := .ref (ad 10)) rfl dX9_why_34 ?_
        refine sd_get C0 h (C := RX6) (T := TX6) (N := 11) kcX6 10 (aX_10 ad cA _) rfl 0 (by decide) kfX9_158 (v := .ref (ad 11)) rfl dX9_why_37 ?_
        refine lv_iload_n hx hb dX9_why_40 rfl (lv_at hl 3 rfl) ?_
        obtain ⟨x7, hx7, hm⟩ := bs hm
        refine sd_rd C0 h 11 (aX_11 ad cA _) hx7 dX9_why_41 ?_
        refine lv_iconst (v := 2) hx hb dX9_why_42 (by decide) ?_
        refine lv_icmp_ne (tgt := 48) hx hb dX9_why_43 (by decide) (fun c8 => ?_) (fun c8 => ?_)
        · replace hm := iq c8 hm
          refine lv_aload_n hx hb dX9_why_48 rfl (lv_at hl 0 rfl) ?_
          refine sd_get C0 h (C := RX9) (T := TX9) (N := 8) kcX9 0 (aX_0 ad cA _) rfl 0 (by decide) kfX9_10 (v := .ref (ad 1)) rfl dX9_why_49 ?_
          refine sd_get C0 h (C := RX7) (T := TX7) (N := 4) kcX7 1 (aX_1 ad cA _) rfl 2 (by decide) kfX9_131 (v := .ref (ad 10)) rfl dX9_why_52 ?_
          refine lv_iload_n hx hb dX9_why_55 rfl (lv_at hl 3 rfl) ?_
          refine lv_iload_n hx hb dX9_why_56 rfl (lv_at hl 1 rfl) ?_
          obtain ⟨u9, hu9, hm⟩ := bs hm
          refine sd_Vi C0 h kYX6_isThere kmX9_246 10 (aX_10 ad cA _) rfl [.int v3, .int v1] (tX6_isThere l D cA ad hu9) rfl hl.1 rfl (Nat.le_of_ble_eq_true rfl) (by decide) dX9_why_57 (by decide) (fun H locs h => ?_)
          refine lv_if_ne (tgt := 65) hx hb dX9_why_60 (by decide) (fun c10 => ?_) (fun c10 => ?_)
          · replace hm := iq c10 hm
            refine lv_aload_n hx hb dX9_why_65 rfl (lv_at hl 0 rfl) ?_
            refine sd_get C0 h (C := RX9) (T := TX9) (N := 8) kcX9 0 (aX_0 ad cA _) rfl 0 (by decide) kfX9_10 (v := .ref (ad 1)) rfl dX9_why_66 ?_
            refine lv_iload_n hx hb dX9_why_69 rfl (lv_at hl 3 rfl) ?_
            obtain ⟨u11, hu11, hm⟩ := bs hm
            refine sd_Vi C0 h kYX7_corrected kmX9_182 1 (aX_1 ad cA _) rfl [.int v3] (tX7_corrected l D cA ad hu11) rfl hl.1 rfl (Nat.le_of_ble_eq_true rfl) (by decide) dX9_why_70 (by decide) (fun H locs h => ?_)
            refine lv_sipush (v := (-30000)) hx hb dX9_why_73 (by decide) ?_
            refine lv_icmp_ne (tgt := 81) hx hb dX9_why_76 (by decide) (fun c12 => ?_) (fun c12 => ?_)
            · replace hm := iq c12 hm
              refine lv_aload_n hx hb dX9_why_81 rfl (lv_at hl 0 rfl) ?_
              refine sd_get C0 h (C := RX9) (T := TX9) (N := 8) kcX9 0 (aX_0 ad cA _) rfl 4 (by decide) kfX9_38 (v := .ref (ad 51)) rfl dX9_why_82 ?_
              refine lv_iload_n hx hb dX9_why_85 rfl (lv_at hl 1 rfl) ?_
              refine lv_iload_n hx hb dX9_why_86 rfl (lv_at hl 2 rfl) ?_
              refine lv_aload_n hx hb dX9_why_87 rfl (lv_at hl 0 rfl) ?_
              refine sd_get C0 h (C := RX9) (T := TX9) (N := 8) kcX9 0 (aX_0 ad cA _) rfl 0 (by decide) kfX9_10 (v := .ref (ad 1)) rfl dX9_why_88 ?_
              refine sd_get C0 h (C := RX7) (T := TX7) (N := 4) kcX7 1 (aX_1 ad cA _) rfl 2 (by decide) kfX9_131 (v := .ref (ad 10)) rfl dX9_why_91 ?_
              refine lv_iload_n hx hb dX9_why_94 rfl (lv_at hl 3 rfl) ?_
              obtain ⟨u13, hu13, hm⟩ := bs hm
              refine sd_Vi C0 h kYX6_squareOf kmX9_249 10 (aX_10 ad cA _) rfl [.int v3] (tX6_squareOf l D cA ad hu13) rfl hl.1 rfl (Nat.le_of_ble_eq_true rfl) (by decide) dX9_why_95 (by decide) (fun H locs h => ?_)
              obtain ⟨u14, hu14, hm⟩ := bs hm
              refine sd_Vv C0 h kYX5_draw kmX9_237 51 (aX_51 ad cA _) rfl [.int v1, .int v2, .int u13] (tX5_draw l D cA ad hu14) rfl hl.1 rfl (Nat.le_of_ble_eq_true rfl) (by decide) dX9_why_98 (by decide) (fun H locs h => ?_)
              refine lv_aload_n hx hb dX9_why_101 rfl (lv_at hl 0 rfl) ?_
              refine sd_get C0 h (C := RX9) (T := TX9) (N := 8) kcX9 0 (aX_0 ad cA _) rfl 4 (by decide) kfX9_38 (v := .ref (ad 51)) rfl dX9_why_102 ?_
              refine sd_get C0 h (C := RX5) (T := TX5) (N := 6) kcX5 51 (aX_51 ad cA _) rfl 5 (by decide) kfX9_252 (v := .ref (ad 54)) rfl dX9_why_105 ?_
              refine lv_iload_n hx hb dX9_why_108 rfl (lv_at hl 3 rfl) ?_
              obtain ⟨x15, hx15, hm⟩ := bs hm
              refine sd_rd C0 h 54 (aX_54 ad cA _) hx15 dX9_why_109 ?_
              exact sd_iret C0 h (Option.some.inj hm) dX9_why_110
            · replace hm := ip c12 hm
              refine lv_iconst (v := 5) hx hb dX9_why_79 (by decide) ?_
              exact sd_iret C0 h (Option.some.inj hm) dX9_why_80
          · replace hm := ip c10 hm
            refine lv_iconst (v := 4) hx hb dX9_why_63 (by decide) ?_
            exact sd_iret C0 h (Option.some.inj hm) dX9_why_64
        · replace hm := ip c8 hm
          refine lv_iconst (v := 3) hx hb dX9_why_46 (by decide) ?_
          exact sd_iret C0 h (Option.some.inj hm) dX9_why_47
      · replace hm := ip c6 hm
        refine lv_iconst (v := (-1)) hx hb dX9_why_28 (by decide) ?_
        exact sd_iret C0 h (Option.some.inj hm) dX9_why_29
theorem tX9_why (l : Launch) (D : va_G) (cA : ClassId) (ad : Nat → Nat) {z : Nat} {S : St} {v1 : Int32} {v2 : Int32} {v3 : Int32} {q : (Int32 × St)} (hm : mX9_why z v1 v2 v3 S = some q) : sd_MI l D vwCl cA sd_nw (wX ad cA) yX9_why (Cond.code yX9_why cX9_why 4 (some .int) :: sd_big) rX9_why [.ref (ad 0), .int v1, .int v2, .int v3] S q :=
  sd_ofI (by decide +kernel) (Nat.le_of_ble_eq_true rfl) (fun _ _ _ _ _ _ _ _ _ _ C0 h hl => bX9_why C0 h (lv_sub hl [0, 1, 2, 3] rfl) hm)

def rJ7_fill_X57 : Room := { frames := 0, cells := 0, slots := 0, locals := 0 }
def mJ7_fill_X57_5b (z : Nat) (rc5 : Int32 → St → Option St) (v1 : Int32) (v3 : Int32) (v2 : Int32) (S : St) : Option St :=
  if v3 ≤ v2 then
    some S
  else
    (wr (fA S 44) 256 v2 v1).bind fun g2 =>
    rc5 (v2 + 1) (sA S 44 g2)
set_option maxHeartbeats 4000000 in
set_option maxRecDepth 100000 in
theorem bJ7_fill_X57_5b {p : Program} {l : Launch} {e : Env} {s : State} {m : MethodId} {args : Array Value} {below : List Frame} {meth : Method} {c : Code} {D : va_G} {cA : ClassId} {ad : Nat → Nat} {A : Nat → Prop} {H : Heap} {locs : List Loc} {ls : Array Slot} {q : St} {z : Nat} {rc5 : Int32 → St → Option St} {v1 : Int32} {v3 : Int32} {v2 : Int32} {S : St} (C0 : sd_Cx RJ7 cJ7_fill_53178 4 none (Cond.code yJ7_fill_53178 cJ7_fill_53178 4 none :: sd_big) p s m args meth c) (h : sd_Wd D vwCl cA sd_nw (wX ad cA) A s S H locs) (hl : lv_has ls 4 [(0, .ref (ad 57)), (1, .int v1), (2, .int v2), (3, .int v3)]) (hrc5 : ∀ (v2 : Int32) (S : St) (H : Heap) (locs : List Loc) (ls : Array Slot), sd_Wd D vwCl cA sd_nw (wX ad cA) A s S H locs → lv_has ls 4 [(0, .ref (ad 57)), (1, .int v1), (2, .int v2), (3, .int v3)] → rc5 v2 S = some q → W p l e rJ7_fill_X57 s m args below meth c H locs 0 0 (MQ below (sd_Qv D vwCl (wX ad cA) A q) args s 0 0 A) (F0 m 5 ls [])) (hm : mJ7_fill_X57_5b z rc5 v1 v3 v2 S = some q) : W p l e rJ7_fill_X57 s m args below meth c H locs 0 0 (MQ below (sd_Qv D vwCl (wX ad cA) A q) args s 0 0 A) (F0 m 5 ls []) := by
  unfold mJ7_fill_X57_5b at hm
  have hx := C0.1
  have hb := C0.2.1
  refine lv_iload_n hx hb dJ7_fill_53178_5 rfl (lv_at hl 2 rfl) ?_
  refine lv_iload_n hx hb dJ7_fill_53178_6 rfl (lv_at hl 3 rfl) ?_
  refine lv_icmp_ge (tgt := 20) hx hb dJ7_fill_53178_7 (by decide) (fun c1 => ?_) (fun c1 => ?_)
  · replace hm := ip c1 hm
    exact sd_vret C0 h (Option.some.inj hm) dJ7_fill_53178_20
  · replace hm := iq c1 hm
    refine lv_aload_n hx hb dJ7_fill_53178_10 rfl (lv_at hl 0 rfl) ?_
    refine lv_iload_n hx hb dJ7_fill_53178_11 rfl (lv_at hl 2 rfl) ?_
    refine lv_iload_n hx hb dJ7_fill_53178_12 rfl (lv_at hl 1 rfl) ?_
    obtain ⟨g2, hg2, hm⟩ := bs hm
    refine sd_wr C0 h (S1 := (sA S 44 g2)) 57 (aX_57 ad cA _) hg2 (eX_57 ad cA _ _) dJ7_fill_53178_13 (fun H locs h => ?_)
    refine lv_iinc (v := (v2 + 1)) (lv' := [(2, .int (v2 + 1)), (0, .ref (ad 57)), (1, .int v1), (3, .int v3)]) hx hb dJ7_fill_53178_14 hl (k := 2) rfl rfl (by decide) rfl (fun ls hl => ?_)
    refine lv_goto (tgt := 5) hx hb dJ7_fill_53178_17 (by decide) ?_
    exact hrc5 _ _ _ _ _ h (lv_sub hl [1, 2, 0, 3] rfl) hm
def mJ7_fill_X57_5 (z : Nat) (v1 : Int32) (v3 : Int32) : Nat → Int32 → St → Option St
  | 0, _, _ => none
  | n + 1, v2, S => mJ7_fill_X57_5b z (mJ7_fill_X57_5 z v1 v3 n) v1 v3 v2 S
set_option maxHeartbeats 4000000 in
set_option maxRecDepth 100000 in
theorem lJ7_fill_X57_5 {p : Program} {l : Launch} {e : Env} {s : State} {m : MethodId} {args : Array Value} {below : List Frame} {meth : Method} {c : Code} {D : va_G} {cA : ClassId} {ad : Nat → Nat} {A : Nat → Prop} {q : St} {z : Nat} {v1 : Int32} {v3 : Int32} (C0 : sd_Cx RJ7 cJ7_fill_53178 4 none (Cond.code yJ7_fill_53178 cJ7_fill_53178 4 none :: sd_big) p s m args meth c)  : ∀ (n : Nat) (v2 : Int32) (S : St) (H : Heap) (locs : List Loc) (ls : Array Slot), sd_Wd D vwCl cA sd_nw (wX ad cA) A s S H locs → lv_has ls 4 [(0, .ref (ad 57)), (1, .int v1), (2, .int v2), (3, .int v3)] → mJ7_fill_X57_5 z v1 v3 n v2 S = some q → W p l e rJ7_fill_X57 s m args below meth c H locs 0 0 (MQ below (sd_Qv D vwCl (wX ad cA) A q) args s 0 0 A) (F0 m 5 ls []) := by
  intro n
  induction n with
  | zero =>
    intro v2 S H locs ls h hl hm
    exact nomatch (show none = some q from hm)
  | succ n ih =>
    intro v2 S H locs ls h hl hm
    exact bJ7_fill_X57_5b C0 h hl ih hm
def mJ7_fill_X57 (z : Nat) (v1 : Int32) (S : St) : Option St :=
  mJ7_fill_X57_5 z v1 256 z 0 S
set_option maxHeartbeats 4000000 in
set_option maxRecDepth 100000 in
theorem bJ7_fill_X57 {p : Program} {l : Launch} {e : Env} {s : State} {m : MethodId} {args : Array Value} {below : List Frame} {meth : Method} {c : Code} {D : va_G} {cA : ClassId} {ad : Nat → Nat} {A : Nat → Prop} {H : Heap} {locs : List Loc} {ls : Array Slot} {q : St} {z : Nat} {v1 : Int32} {S : St} (C0 : sd_Cx RJ7 cJ7_fill_53178 4 none (Cond.code yJ7_fill_53178 cJ7_fill_53178 4 none :: sd_big) p s m args meth c) (h : sd_Wd D vwCl cA sd_nw (wX ad cA) A s S H locs) (hl : lv_has ls 4 [(0, .ref (ad 57)), (1, .int v1)])  (hm : mJ7_fill_X57 z v1 S = some q) : W p l e rJ7_fill_X57 s m args below meth c H locs 0 0 (MQ below (sd_Qv D vwCl (wX ad cA) A q) args s 0 0 A) (F0 m 0 ls []) := by
  unfold mJ7_fill_X57 at hm
  have hx := C0.1
  have hb := C0.2.1
  refine lv_iconst (v := 0) hx hb dJ7_fill_53178_0 (by decide) ?_
  refine lv_istore_n (lv' := [(2, .int 0), (0, .ref (ad 57)), (1, .int v1)]) hx hb dJ7_fill_53178_1 rfl hl (by decide) rfl (fun ls hl => ?_)
  refine lv_aload_n hx hb dJ7_fill_53178_2 rfl (lv_at hl 1 rfl) ?_
  refine sd_len C0 h 57 (aX_57 ad cA _) (v := 256) rfl dJ7_fill_53178_3 ?_
  refine lv_istore_n (lv' := [(3, .int 256), (2, .int 0), (0, .ref (ad 57)), (1, .int v1)]) hx hb dJ7_fill_53178_4 rfl hl (by decide) rfl (fun ls hl => ?_)
  exact lJ7_fill_X57_5 C0 _ _ _ _ _ _ h (lv_sub hl [2, 3, 1, 0] rfl) hm
theorem tJ7_fill_X57 (l : Launch) (D : va_G) (cA : ClassId) (ad : Nat → Nat) {z : Nat} {S : St} {v1 : Int32} {q : St} (hm : mJ7_fill_X57 z v1 S = some q) : sd_MV l D vwCl cA sd_nw (wX ad cA) yJ7_fill_53178 (Cond.code yJ7_fill_53178 cJ7_fill_53178 4 none :: sd_big) rJ7_fill_X57 [.ref (ad 57), .int v1] S q :=
  sd_ofV (by decide +kernel) (Nat.le_of_ble_eq_true rfl) (fun _ _ _ _ _ _ _ _ _ _ C0 h hl => bJ7_fill_X57 C0 h (lv_sub hl [0, 1] rfl) hm)

def rJ7_fill_X56 : Room := { frames := 0, cells := 0, slots := 0, locals := 0 }
def mJ7_fill_X56_5b (z : Nat) (rc5 : Int32 → St → Option St) (v1 : Int32) (v3 : Int32) (v2 : Int32) (S : St) : Option St :=
  if v3 ≤ v2 then
    some S
  else
    (wr (fA S 43) 256 v2 v1).bind fun g2 =>
    rc5 (v2 + 1) (sA S 43 g2)
set_option maxHeartbeats 4000000 in
set_option maxRecDepth 100000 in
theorem bJ7_fill_X56_5b {p : Program} {l : Launch} {e : Env} {s : State} {m : MethodId} {args : Array Value} {below : List Frame} {meth : Method} {c : Code} {D : va_G} {cA : ClassId} {ad : Nat → Nat} {A : Nat → Prop} {H : Heap} {locs : List Loc} {ls : Array Slot} {q : St} {z : Nat} {rc5 : Int32 → St → Option St} {v1 : Int32} {v3 : Int32} {v2 : Int32} {S : St} (C0 : sd_Cx RJ7 cJ7_fill_53178 4 none (Cond.code yJ7_fill_53178 cJ7_fill_53178 4 none :: sd_big) p s m args meth c) (h : sd_Wd D vwCl cA sd_nw (wX ad cA) A s S H locs) (hl : lv_has ls 4 [(0, .ref (ad 56)), (1, .int v1), (2, .int v2), (3, .int v3)]) (hrc5 : ∀ (v2 : Int32) (S : St) (H : Heap) (locs : List Loc) (ls : Array Slot), sd_Wd D vwCl cA sd_nw (wX ad cA) A s S H locs → lv_has ls 4 [(0, .ref (ad 56)), (1, .int v1), (2, .int v2), (3, .int v3)] → rc5 v2 S = some q → W p l e rJ7_fill_X56 s m args below meth c H locs 0 0 (MQ below (sd_Qv D vwCl (wX ad cA) A q) args s 0 0 A) (F0 m 5 ls [])) (hm : mJ7_fill_X56_5b z rc5 v1 v3 v2 S = some q) : W p l e rJ7_fill_X56 s m args below meth c H locs 0 0 (MQ below (sd_Qv D vwCl (wX ad cA) A q) args s 0 0 A) (F0 m 5 ls []) := by
  unfold mJ7_fill_X56_5b at hm
  have hx := C0.1
  have hb := C0.2.1
  refine lv_iload_n hx hb dJ7_fill_53178_5 rfl (lv_at hl 2 rfl) ?_
  refine lv_iload_n hx hb dJ7_fill_53178_6 rfl (lv_at hl 3 rfl) ?_
  refine lv_icmp_ge (tgt := 20) hx hb dJ7_fill_53178_7 (by decide) (fun c1 => ?_) (fun c1 => ?_)
  · replace hm := ip c1 hm
    exact sd_vret C0 h (Option.some.inj hm) dJ7_fill_53178_20
  · replace hm := iq c1 hm
    refine lv_aload_n hx hb dJ7_fill_53178_10 rfl (lv_at hl 0 rfl) ?_
    refine lv_iload_n hx hb dJ7_fill_53178_11 rfl (lv_at hl 2 rfl) ?_
    refine lv_iload_n hx hb dJ7_fill_53178_12 rfl (lv_at hl 1 rfl) ?_
    obtain ⟨g2, hg2, hm⟩ := bs hm
    refine sd_wr C0 h (S1 := (sA S 43 g2)) 56 (aX_56 ad cA _) hg2 (eX_56 ad cA _ _) dJ7_fill_53178_13 (fun H locs h => ?_)
    refine lv_iinc (v := (v2 + 1)) (lv' := [(2, .int (v2 + 1)), (0, .ref (ad 56)), (1, .int v1), (3, .int v3)]) hx hb dJ7_fill_53178_14 hl (k := 2) rfl rfl (by decide) rfl (fun ls hl => ?_)
    refine lv_goto (tgt := 5) hx hb dJ7_fill_53178_17 (by decide) ?_
    exact hrc5 _ _ _ _ _ h (lv_sub hl [1, 2, 0, 3] rfl) hm
def mJ7_fill_X56_5 (z : Nat) (v1 : Int32) (v3 : Int32) : Nat → Int32 → St → Option St
  | 0, _, _ => none
  | n + 1, v2, S => mJ7_fill_X56_5b z (mJ7_fill_X56_5 z v1 v3 n) v1 v3 v2 S
set_option maxHeartbeats 4000000 in
set_option maxRecDepth 100000 in
theorem lJ7_fill_X56_5 {p : Program} {l : Launch} {e : Env} {s : State} {m : MethodId} {args : Array Value} {below : List Frame} {meth : Method} {c : Code} {D : va_G} {cA : ClassId} {ad : Nat → Nat} {A : Nat → Prop} {q : St} {z : Nat} {v1 : Int32} {v3 : Int32} (C0 : sd_Cx RJ7 cJ7_fill_53178 4 none (Cond.code yJ7_fill_53178 cJ7_fill_53178 4 none :: sd_big) p s m args meth c)  : ∀ (n : Nat) (v2 : Int32) (S : St) (H : Heap) (locs : List Loc) (ls : Array Slot), sd_Wd D vwCl cA sd_nw (wX ad cA) A s S H locs → lv_has ls 4 [(0, .ref (ad 56)), (1, .int v1), (2, .int v2), (3, .int v3)] → mJ7_fill_X56_5 z v1 v3 n v2 S = some q → W p l e rJ7_fill_X56 s m args below meth c H locs 0 0 (MQ below (sd_Qv D vwCl (wX ad cA) A q) args s 0 0 A) (F0 m 5 ls []) := by
  intro n
  induction n with
  | zero =>
    intro v2 S H locs ls h hl hm
    exact nomatch (show none = some q from hm)
  | succ n ih =>
    intro v2 S H locs ls h hl hm
    exact bJ7_fill_X56_5b C0 h hl ih hm
def mJ7_fill_X56 (z : Nat) (v1 : Int32) (S : St) : Option St :=
  mJ7_fill_X56_5 z v1 256 z 0 S
set_option maxHeartbeats 4000000 in
set_option maxRecDepth 100000 in
theorem bJ7_fill_X56 {p : Program} {l : Launch} {e : Env} {s : State} {m : MethodId} {args : Array Value} {below : List Frame} {meth : Method} {c : Code} {D : va_G} {cA : ClassId} {ad : Nat → Nat} {A : Nat → Prop} {H : Heap} {locs : List Loc} {ls : Array Slot} {q : St} {z : Nat} {v1 : Int32} {S : St} (C0 : sd_Cx RJ7 cJ7_fill_53178 4 none (Cond.code yJ7_fill_53178 cJ7_fill_53178 4 none :: sd_big) p s m args meth c) (h : sd_Wd D vwCl cA sd_nw (wX ad cA) A s S H locs) (hl : lv_has ls 4 [(0, .ref (ad 56)), (1, .int v1)])  (hm : mJ7_fill_X56 z v1 S = some q) : W p l e rJ7_fill_X56 s m args below meth c H locs 0 0 (MQ below (sd_Qv D vwCl (wX ad cA) A q) args s 0 0 A) (F0 m 0 ls []) := by
  unfold mJ7_fill_X56 at hm
  have hx := C0.1
  have hb := C0.2.1
  refine lv_iconst (v := 0) hx hb dJ7_fill_53178_0 (by decide) ?_
  refine lv_istore_n (lv' := [(2, .int 0), (0, .ref (ad 56)), (1, .int v1)]) hx hb dJ7_fill_53178_1 rfl hl (by decide) rfl (fun ls hl => ?_)
  refine lv_aload_n hx hb dJ7_fill_53178_2 rfl (lv_at hl 1 rfl) ?_
  refine sd_len C0 h 56 (aX_56 ad cA _) (v := 256) rfl dJ7_fill_53178_3 ?_
  refine lv_istore_n (lv' := [(3, .int 256), (2, .int 0), (0, .ref (ad 56)), (1, .int v1)]) hx hb dJ7_fill_53178_4 rfl hl (by decide) rfl (fun ls hl => ?_)
  exact lJ7_fill_X56_5 C0 _ _ _ _ _ _ h (lv_sub hl [2, 3, 1, 0] rfl) hm
theorem tJ7_fill_X56 (l : Launch) (D : va_G) (cA : ClassId) (ad : Nat → Nat) {z : Nat} {S : St} {v1 : Int32} {q : St} (hm : mJ7_fill_X56 z v1 S = some q) : sd_MV l D vwCl cA sd_nw (wX ad cA) yJ7_fill_53178 (Cond.code yJ7_fill_53178 cJ7_fill_53178 4 none :: sd_big) rJ7_fill_X56 [.ref (ad 56), .int v1] S q :=
  sd_ofV (by decide +kernel) (Nat.le_of_ble_eq_true rfl) (fun _ _ _ _ _ _ _ _ _ _ C0 h hl => bJ7_fill_X56 C0 h (lv_sub hl [0, 1] rfl) hm)

def rX2_enterSpan : Room := { frames := 1, cells := 0, slots := 0, locals := 21 }
def mX2_enterSpan_89b (z : Nat) (rc79 : Int32 → St → Option St) (rc89 : Int32 → St → Option St) (v1 : Int32) (v3 : Int32) (v4 : Int32) (v6 : Int32) (v7 : Int32) (v8 : Int32) (S : St) : Option St :=
  if v4 ≤ v8 then
    rc79 (v7 + 1) S
  else
    (rd (fA S 43) 256 ((16 * v7) + v8)).bind fun x2 =>
    (rd (fA S 16) 200 v1).bind fun x3 =>
    (mJ9_max S x2 x3).bind fun u4 =>
    (wr (fA S 43) 256 ((16 * v7) + v8) u4).bind fun g5 =>
    rc89 (v8 + 1) (sA S 43 g5)
set_option maxHeartbeats 4000000 in
set_option maxRecDepth 100000 in
theorem bX2_enterSpan_89b {p : Program} {l : Launch} {e : Env} {s : State} {m : MethodId} {args : Array Value} {below : List Frame} {meth : Method} {c : Code} {D : va_G} {cA : ClassId} {ad : Nat → Nat} {A : Nat → Prop} {H : Heap} {locs : List Loc} {ls : Array Slot} {q : St} {z : Nat} {rc79 : Int32 → St → Option St} {rc89 : Int32 → St → Option St} {v1 : Int32} {v3 : Int32} {v4 : Int32} {v6 : Int32} {v7 : Int32} {v8 : Int32} {S : St} (C0 : sd_Cx RX2 cX2_enterSpan 10 none (Cond.code yX2_enterSpan cX2_enterSpan 10 none :: sd_big) p s m args meth c) (h : sd_Wd D vwCl cA sd_nw (wX ad cA) A s S H locs) (hl : lv_has ls 10 [(0, .ref (ad 55)), (1, .int v1), (3, .int v3), (4, .int v4), (6, .int v6), (7, .int v7), (8, .int v8)]) (hrc79 : ∀ (v7 : Int32) (S : St) (H : Heap) (locs : List Loc) (ls : Array Slot), sd_Wd D vwCl cA sd_nw (wX ad cA) A s S H locs → lv_has ls 10 [(0, .ref (ad 55)), (1, .int v1), (3, .int v3), (4, .int v4), (6, .int v6), (7, .int v7)] → rc79 v7 S = some q → W p l e rX2_enterSpan s m args below meth c H locs 0 0 (MQ below (sd_Qv D vwCl (wX ad cA) A q) args s 0 0 A) (F0 m 79 ls [])) (hrc89 : ∀ (v8 : Int32) (S : St) (H : Heap) (locs : List Loc) (ls : Array Slot), sd_Wd D vwCl cA sd_nw (wX ad cA) A s S H locs → lv_has ls 10 [(0, .ref (ad 55)), (1, .int v1), (3, .int v3), (4, .int v4), (6, .int v6), (7, .int v7), (8, .int v8)] → rc89 v8 S = some q → W p l e rX2_enterSpan s m args below meth c H locs 0 0 (MQ below (sd_Qv D vwCl (wX ad cA) A q) args s 0 0 A) (F0 m 89 ls [])) (hm : mX2_enterSpan_89b z rc79 rc89 v1 v3 v4 v6 v7 v8 S = some q) : W p l e rX2_enterSpan s m args below meth c H locs 0 0 (MQ below (sd_Qv D vwCl (wX ad cA) A q) args s 0 0 A) (F0 m 89 ls []) := by
  unfold mX2_enterSpan_89b at hm
  have hx := C0.1
  have hb := C0.2.1
  refine lv_iload hx hb dX2_enterSpan_89 (lv_at hl 6 rfl) ?_
  refine lv_iload hx hb dX2_enterSpan_91 (lv_at hl 3 rfl) ?_
  refine lv_icmp_ge (tgt := 138) hx hb dX2_enterSpan_93 (by decide) (fun c1 => ?_) (fun c1 => ?_)
  · replace hm := ip c1 hm
    refine lv_iinc (v := (v7 + 1)) (lv' := [(7, .int (v7 + 1)), (0, .ref (ad 55)), (1, .int v1), (3, .int v3), (4, .int v4), (6, .int v6), (8, .int v8)]) hx hb dX2_enterSpan_138 hl (k := 5) rfl rfl (by decide) rfl (fun ls hl => ?_)
    refine lv_goto (tgt := 79) hx hb dX2_enterSpan_141 (by decide) ?_
    exact hrc79 _ _ _ _ _ h (lv_sub hl [1, 2, 3, 4, 5, 0] rfl) hm
  · replace hm := iq c1 hm
    refine lv_bipush (v := 16) hx hb dX2_enterSpan_96 (by decide) ?_
    refine lv_iload hx hb dX2_enterSpan_98 (lv_at hl 5 rfl) ?_
    refine lv_imul hx hb dX2_enterSpan_100 ?_
    refine lv_iload hx hb dX2_enterSpan_101 (lv_at hl 6 rfl) ?_
    refine lv_iadd hx hb dX2_enterSpan_103 ?_
    refine lv_istore (lv' := [(9, .int ((16 * v7) + v8)), (0, .ref (ad 55)), (1, .int v1), (3, .int v3), (4, .int v4), (6, .int v6), (7, .int v7), (8, .int v8)]) hx hb dX2_enterSpan_104 hl (by decide) rfl (fun ls hl => ?_)
    refine lv_aload_n hx hb dX2_enterSpan_106 rfl (lv_at hl 1 rfl) ?_
    refine sd_get C0 h (C := RX2) (T := TX2) (N := 3) kcX2 55 (aX_55 ad cA _) rfl 1 (by decide) kfX2_9 (v := .ref (ad 56)) rfl dX2_enterSpan_107 ?_
    refine lv_iload hx hb dX2_enterSpan_110 (lv_at hl 0 rfl) ?_
    refine lv_aload_n hx hb dX2_enterSpan_112 rfl (lv_at hl 1 rfl) ?_
    refine sd_get C0 h (C := RX2) (T := TX2) (N := 3) kcX2 55 (aX_55 ad cA _) rfl 1 (by decide) kfX2_9 (v := .ref (ad 56)) rfl dX2_enterSpan_113 ?_
    refine lv_iload hx hb dX2_enterSpan_116 (lv_at hl 0 rfl) ?_
    obtain ⟨x2, hx2, hm⟩ := bs hm
    refine sd_rd C0 h 56 (aX_56 ad cA _) hx2 dX2_enterSpan_118 ?_
    refine lv_aload_n hx hb dX2_enterSpan_119 rfl (lv_at hl 1 rfl) ?_
    refine sd_get C0 h (C := RX2) (T := TX2) (N := 3) kcX2 55 (aX_55 ad cA _) rfl 0 (by decide) kfX2_18 (v := .ref (ad 1)) rfl dX2_enterSpan_120 ?_
    refine sd_get C0 h (C := RX7) (T := TX7) (N := 4) kcX7 1 (aX_1 ad cA _) rfl 3 (by decide) kfX2_61 (v := .ref (ad 21)) rfl dX2_enterSpan_123 ?_
    refine lv_iload_n hx hb dX2_enterSpan_126 rfl (lv_at hl 2 rfl) ?_
    obtain ⟨x3, hx3, hm⟩ := bs hm
    refine sd_rd C0 h 21 (aX_21 ad cA _) hx3 dX2_enterSpan_127 ?_
    obtain ⟨u4, hu4, hm⟩ := bs hm
    refine sd_Si C0 h kYJ9_max_7cf53 kmX2_74 [.int x2, .int x3] (tJ9_max l D cA ad hu4) rfl hl.1 rfl (Nat.le_of_ble_eq_true rfl) (by decide) dX2_enterSpan_128 (by decide) (fun H locs h => ?_)
    obtain ⟨g5, hg5, hm⟩ := bs hm
    refine sd_wr C0 h (S1 := (sA S 43 g5)) 56 (aX_56 ad cA _) hg5 (eX_56 ad cA _ _) dX2_enterSpan_131 (fun H locs h => ?_)
    refine lv_iinc (v := (v8 + 1)) (lv' := [(8, .int (v8 + 1)), (9, .int ((16 * v7) + v8)), (0, .ref (ad 55)), (1, .int v1), (3, .int v3), (4, .int v4), (6, .int v6), (7, .int v7)]) hx hb dX2_enterSpan_132 hl (k := 7) rfl rfl (by decide) rfl (fun ls hl => ?_)
    refine lv_goto (tgt := 89) hx hb dX2_enterSpan_135 (by decide) ?_
    exact hrc89 _ _ _ _ _ h (lv_sub hl [2, 3, 4, 5, 6, 7, 0] rfl) hm
def mX2_enterSpan_89 (z : Nat) (rc79 : Int32 → St → Option St) (v1 : Int32) (v3 : Int32) (v4 : Int32) (v6 : Int32) (v7 : Int32) : Nat → Int32 → St → Option St
  | 0, _, _ => none
  | n + 1, v8, S => mX2_enterSpan_89b z rc79 (mX2_enterSpan_89 z rc79 v1 v3 v4 v6 v7 n) v1 v3 v4 v6 v7 v8 S
set_option maxHeartbeats 4000000 in
set_option maxRecDepth 100000 in
theorem lX2_enterSpan_89 {p : Program} {l : Launch} {e : Env} {s : State} {m : MethodId} {args : Array Value} {below : List Frame} {meth : Method} {c : Code} {D : va_G} {cA : ClassId} {ad : Nat → Nat} {A : Nat → Prop} {q : St} {z : Nat} {rc79 : Int32 → St → Option St} {v1 : Int32} {v3 : Int32} {v4 : Int32} {v6 : Int32} {v7 : Int32} (C0 : sd_Cx RX2 cX2_enterSpan 10 none (Cond.code yX2_enterSpan cX2_enterSpan 10 none :: sd_big) p s m args meth c) (hrc79 : ∀ (v7 : Int32) (S : St) (H : Heap) (locs : List Loc) (ls : Array Slot), sd_Wd D vwCl cA sd_nw (wX ad cA) A s S H locs → lv_has ls 10 [(0, .ref (ad 55)), (1, .int v1), (3, .int v3), (4, .int v4), (6, .int v6), (7, .int v7)] → rc79 v7 S = some q → W p l e rX2_enterSpan s m args below meth c H locs 0 0 (MQ below (sd_Qv D vwCl (wX ad cA) A q) args s 0 0 A) (F0 m 79 ls [])) : ∀ (n : Nat) (v8 : Int32) (S : St) (H : Heap) (locs : List Loc) (ls : Array Slot), sd_Wd D vwCl cA sd_nw (wX ad cA) A s S H locs → lv_has ls 10 [(0, .ref (ad 55)), (1, .int v1), (3, .int v3), (4, .int v4), (6, .int v6), (7, .int v7), (8, .int v8)] → mX2_enterSpan_89 z rc79 v1 v3 v4 v6 v7 n v8 S = some q → W p l e rX2_enterSpan s m args below meth c H locs 0 0 (MQ below (sd_Qv D vwCl (wX ad cA) A q) args s 0 0 A) (F0 m 89 ls []) := by
  intro n
  induction n with
  | zero =>
    intro v8 S H locs ls h hl hm
    exact nomatch (show none = some q from hm)
  | succ n ih =>
    intro v8 S H locs ls h hl hm
    exact bX2_enterSpan_89b C0 h hl hrc79 ih hm
def mX2_enterSpan_79b (z : Nat) (rc79 : Int32 → St → Option St) (v1 : Int32) (v3 : Int32) (v4 : Int32) (v6 : Int32) (v7 : Int32) (S : St) : Option St :=
  if v6 ≤ v7 then
    some S
  else
    mX2_enterSpan_89 z rc79 v1 v3 v4 v6 v7 z v3 S
set_option maxHeartbeats 4000000 in
set_option maxRecDepth 100000 in
theorem bX2_enterSpan_79b {p : Program} {l : Launch} {e : Env} {s : State} {m : MethodId} {args : Array Value} {below : List Frame} {meth : Method} {c : Code} {D : va_G} {cA : ClassId} {ad : Nat → Nat} {A : Nat → Prop} {H : Heap} {locs : List Loc} {ls : Array Slot} {q : St} {z : Nat} {rc79 : Int32 → St → Option St} {v1 : Int32} {v3 : Int32} {v4 : Int32} {v6 : Int32} {v7 : Int32} {S : St} (C0 : sd_Cx RX2 cX2_enterSpan 10 none (Cond.code yX2_enterSpan cX2_enterSpan 10 none :: sd_big) p s m args meth c) (h : sd_Wd D vwCl cA sd_nw (wX ad cA) A s S H locs) (hl : lv_has ls 10 [(0, .ref (ad 55)), (1, .int v1), (3, .int v3), (4, .int v4), (6, .int v6), (7, .int v7)]) (hrc79 : ∀ (v7 : Int32) (S : St) (H : Heap) (locs : List Loc) (ls : Array Slot), sd_Wd D vwCl cA sd_nw (wX ad cA) A s S H locs → lv_has ls 10 [(0, .ref (ad 55)), (1, .int v1), (3, .int v3), (4, .int v4), (6, .int v6), (7, .int v7)] → rc79 v7 S = some q → W p l e rX2_enterSpan s m args below meth c H locs 0 0 (MQ below (sd_Qv D vwCl (wX ad cA) A q) args s 0 0 A) (F0 m 79 ls [])) (hm : mX2_enterSpan_79b z rc79 v1 v3 v4 v6 v7 S = some q) : W p l e rX2_enterSpan s m args below meth c H locs 0 0 (MQ below (sd_Qv D vwCl (wX ad cA) A q) args s 0 0 A) (F0 m 79 ls []) := by
  unfold mX2_enterSpan_79b at hm
  have hx := C0.1
  have hb := C0.2.1
  refine lv_iload hx hb dX2_enterSpan_79 (lv_at hl 5 rfl) ?_
  refine lv_iload hx hb dX2_enterSpan_81 (lv_at hl 4 rfl) ?_
  refine lv_icmp_ge (tgt := 144) hx hb dX2_enterSpan_83 (by decide) (fun c1 => ?_) (fun c1 => ?_)
  · replace hm := ip c1 hm
    exact sd_vret C0 h (Option.some.inj hm) dX2_enterSpan_144
  · replace hm := iq c1 hm
    refine lv_iload_n hx hb dX2_enterSpan_86 rfl (lv_at hl 2 rfl) ?_
    refine lv_istore (lv' := [(8, .int v3), (0, .ref (ad 55)), (1, .int v1), (3, .int v3), (4, .int v4), (6, .int v6), (7, .int v7)]) hx hb dX2_enterSpan_87 hl (by decide) rfl (fun ls hl => ?_)
    exact lX2_enterSpan_89 C0 hrc79 _ _ _ _ _ _ h (lv_sub hl [1, 2, 3, 4, 5, 6, 0] rfl) hm
def mX2_enterSpan_79 (z : Nat) (v1 : Int32) (v3 : Int32) (v4 : Int32) (v6 : Int32) : Nat → Int32 → St → Option St
  | 0, _, _ => none
  | n + 1, v7, S => mX2_enterSpan_79b z (mX2_enterSpan_79 z v1 v3 v4 v6 n) v1 v3 v4 v6 v7 S
set_option maxHeartbeats 4000000 in
set_option maxRecDepth 100000 in
theorem lX2_enterSpan_79 {p : Program} {l : Launch} {e : Env} {s : State} {m : MethodId} {args : Array Value} {below : List Frame} {meth : Method} {c : Code} {D : va_G} {cA : ClassId} {ad : Nat → Nat} {A : Nat → Prop} {q : St} {z : Nat} {v1 : Int32} {v3 : Int32} {v4 : Int32} {v6 : Int32} (C0 : sd_Cx RX2 cX2_enterSpan 10 none (Cond.code yX2_enterSpan cX2_enterSpan 10 none :: sd_big) p s m args meth c)  : ∀ (n : Nat) (v7 : Int32) (S : St) (H : Heap) (locs : List Loc) (ls : Array Slot), sd_Wd D vwCl cA sd_nw (wX ad cA) A s S H locs → lv_has ls 10 [(0, .ref (ad 55)), (1, .int v1), (3, .int v3), (4, .int v4), (6, .int v6), (7, .int v7)] → mX2_enterSpan_79 z v1 v3 v4 v6 n v7 S = some q → W p l e rX2_enterSpan s m args below meth c H locs 0 0 (MQ below (sd_Qv D vwCl (wX ad cA) A q) args s 0 0 A) (F0 m 79 ls []) := by
  intro n
  induction n with
  | zero =>
    intro v7 S H locs ls h hl hm
    exact nomatch (show none = some q from hm)
  | succ n ih =>
    intro v7 S H locs ls h hl hm
    exact bX2_enterSpan_79b C0 h hl ih hm
def mX2_enterSpan (z : Nat) (v1 : Int32) (S : St) : Option St :=
  (rd (fA S 7) 200 v1).bind fun x1 =>
  (rd (fA S 7) 200 v1).bind fun x2 =>
  (rd (fA S 14) 200 v1).bind fun x3 =>
  (rd (fA S 8) 200 v1).bind fun x4 =>
  (rd (fA S 8) 200 v1).bind fun x5 =>
  (rd (fA S 15) 200 v1).bind fun x6 =>
  mX2_enterSpan_79 z v1 (((x1 + 16) - 1) / 16) ((x2 + x3) / 16) ((x5 + x6) / 16) z (((x4 + 16) - 1) / 16) S
set_option maxHeartbeats 4000000 in
set_option maxRecDepth 100000 in
theorem bX2_enterSpan {p : Program} {l : Launch} {e : Env} {s : State} {m : MethodId} {args : Array Value} {below : List Frame} {meth : Method} {c : Code} {D : va_G} {cA : ClassId} {ad : Nat → Nat} {A : Nat → Prop} {H : Heap} {locs : List Loc} {ls : Array Slot} {q : St} {z : Nat} {v1 : Int32} {S : St} (C0 : sd_Cx RX2 cX2_enterSpan 10 none (Cond.code yX2_enterSpan cX2_enterSpan 10 none :: sd_big) p s m args meth c) (h : sd_Wd D vwCl cA sd_nw (wX ad cA) A s S H locs) (hl : lv_has ls 10 [(0, .ref (ad 55)), (1, .int v1)])  (hm : mX2_enterSpan z v1 S = some q) : W p l e rX2_enterSpan s m args below meth c H locs 0 0 (MQ below (sd_Qv D vwCl (wX ad cA) A q) args s 0 0 A) (F0 m 0 ls []) := by
  unfold mX2_enterSpan at hm
  have hx := C0.1
  have hb := C0.2.1
  refine lv_aload_n hx hb dX2_enterSpan_0 rfl (lv_at hl 0 rfl) ?_
  refine sd_get C0 h (C := RX2) (T := TX2) (N := 3) kcX2 55 (aX_55 ad cA _) rfl 0 (by decide) kfX2_18 (v := .ref (ad 1)) rfl dX2_enterSpan_1 ?_
  refine sd_get C0 h (C := RX7) (T := TX7) (N := 4) kcX7 1 (aX_1 ad cA _) rfl 2 (by decide) kfX2_33 (v := .ref (ad 10)) rfl dX2_enterSpan_4 ?_
  refine lv_astore_n (lv' := [(2, .ref (ad 10)), (0, .ref (ad 55)), (1, .int v1)]) hx hb dX2_enterSpan_7 rfl hl (by decide) rfl (fun ls hl => ?_)
  refine lv_aload_n hx hb dX2_enterSpan_8 rfl (lv_at hl 0 rfl) ?_
  refine sd_get C0 h (C := RX6) (T := TX6) (N := 11) kcX6 10 (aX_10 ad cA _) rfl 1 (by decide) kfX2_62 (v := .ref (ad 12)) rfl dX2_enterSpan_9 ?_
  refine lv_iload_n hx hb dX2_enterSpan_12 rfl (lv_at hl 2 rfl) ?_
  obtain ⟨x1, hx1, hm⟩ := bs hm
  refine sd_rd C0 h 12 (aX_12 ad cA _) hx1 dX2_enterSpan_13 ?_
  refine lv_bipush (v := 16) hx hb dX2_enterSpan_14 (by decide) ?_
  refine lv_iadd hx hb dX2_enterSpan_16 ?_
  refine lv_iconst (v := 1) hx hb dX2_enterSpan_17 (by decide) ?_
  refine lv_isub hx hb dX2_enterSpan_18 ?_
  refine lv_bipush (v := 16) hx hb dX2_enterSpan_19 (by decide) ?_
  refine lv_idiv hx hb dX2_enterSpan_21 (by decide) ?_
  refine lv_istore_n (lv' := [(3, .int (((x1 + 16) - 1) / 16)), (2, .ref (ad 10)), (0, .ref (ad 55)), (1, .int v1)]) hx hb dX2_enterSpan_22 rfl hl (by decide) rfl (fun ls hl => ?_)
  refine lv_aload_n hx hb dX2_enterSpan_23 rfl (lv_at hl 1 rfl) ?_
  refine sd_get C0 h (C := RX6) (T := TX6) (N := 11) kcX6 10 (aX_10 ad cA _) rfl 1 (by decide) kfX2_62 (v := .ref (ad 12)) rfl dX2_enterSpan_24 ?_
  refine lv_iload_n hx hb dX2_enterSpan_27 rfl (lv_at hl 3 rfl) ?_
  obtain ⟨x2, hx2, hm⟩ := bs hm
  refine sd_rd C0 h 12 (aX_12 ad cA _) hx2 dX2_enterSpan_28 ?_
  refine lv_aload_n hx hb dX2_enterSpan_29 rfl (lv_at hl 1 rfl) ?_
  refine sd_get C0 h (C := RX6) (T := TX6) (N := 11) kcX6 10 (aX_10 ad cA _) rfl 8 (by decide) kfX2_65 (v := .ref (ad 19)) rfl dX2_enterSpan_30 ?_
  refine lv_iload_n hx hb dX2_enterSpan_33 rfl (lv_at hl 3 rfl) ?_
  obtain ⟨x3, hx3, hm⟩ := bs hm
  refine sd_rd C0 h 19 (aX_19 ad cA _) hx3 dX2_enterSpan_34 ?_
  refine lv_iadd hx hb dX2_enterSpan_35 ?_
  refine lv_bipush (v := 16) hx hb dX2_enterSpan_36 (by decide) ?_
  refine lv_idiv hx hb dX2_enterSpan_38 (by decide) ?_
  refine lv_istore (lv' := [(4, .int ((x2 + x3) / 16)), (3, .int (((x1 + 16) - 1) / 16)), (2, .ref (ad 10)), (0, .ref (ad 55)), (1, .int v1)]) hx hb dX2_enterSpan_39 hl (by decide) rfl (fun ls hl => ?_)
  refine lv_aload_n hx hb dX2_enterSpan_41 rfl (lv_at hl 2 rfl) ?_
  refine sd_get C0 h (C := RX6) (T := TX6) (N := 11) kcX6 10 (aX_10 ad cA _) rfl 2 (by decide) kfX2_68 (v := .ref (ad 13)) rfl dX2_enterSpan_42 ?_
  refine lv_iload_n hx hb dX2_enterSpan_45 rfl (lv_at hl 4 rfl) ?_
  obtain ⟨x4, hx4, hm⟩ := bs hm
  refine sd_rd C0 h 13 (aX_13 ad cA _) hx4 dX2_enterSpan_46 ?_
  refine lv_bipush (v := 16) hx hb dX2_enterSpan_47 (by decide) ?_
  refine lv_iadd hx hb dX2_enterSpan_49 ?_
  refine lv_iconst (v := 1) hx hb dX2_enterSpan_50 (by decide) ?_
  refine lv_isub hx hb dX2_enterSpan_51 ?_
  refine lv_bipush (v := 16) hx hb dX2_enterSpan_52 (by decide) ?_
  refine lv_idiv hx hb dX2_enterSpan_54 (by decide) ?_
  refine lv_istore (lv' := [(5, .int (((x4 + 16) - 1) / 16)), (4, .int ((x2 + x3) / 16)), (3, .int (((x1 + 16) - 1) / 16)), (2, .ref (ad 10)), (0, .ref (ad 55)), (1, .int v1)]) hx hb dX2_enterSpan_55 hl (by decide) rfl (fun ls hl => ?_)
  refine lv_aload_n hx hb dX2_enterSpan_57 rfl (lv_at hl 3 rfl) ?_
  refine sd_get C0 h (C := RX6) (T := TX6) (N := 11) kcX6 10 (aX_10 ad cA _) rfl 2 (by decide) kfX2_68 (v := .ref (ad 13)) rfl dX2_enterSpan_58 ?_
  refine lv_iload_n hx hb dX2_enterSpan_61 rfl (lv_at hl 5 rfl) ?_
  obtain ⟨x5, hx5, hm⟩ := bs hm
  refine sd_rd C0 h 13 (aX_13 ad cA _) hx5 dX2_enterSpan_62 ?_
  refine lv_aload_n hx hb dX2_enterSpan_63 rfl (lv_at hl 3 rfl) ?_
  refine sd_get C0 h (C := RX6) (T := TX6) (N := 11) kcX6 10 (aX_10 ad cA _) rfl 9 (by decide) kfX2_71 (v := .ref (ad 20)) rfl dX2_enterSpan_64 ?_
  refine lv_iload_n hx hb dX2_enterSpan_67 rfl (lv_at hl 5 rfl) ?_
  obtain ⟨x6, hx6, hm⟩ := bs hm
  refine sd_rd C0 h 20 (aX_20 ad cA _) hx6 dX2_enterSpan_68 ?_
  refine lv_iadd hx hb dX2_enterSpan_69 ?_
  refine lv_bipush (v := 16) hx hb dX2_enterSpan_70 (by decide) ?_
  refine lv_idiv hx hb dX2_enterSpan_72 (by decide) ?_
  refine lv_istore (lv' := [(6, .int ((x5 + x6) / 16)), (5, .int (((x4 + 16) - 1) / 16)), (4, .int ((x2 + x3) / 16)), (3, .int (((x1 + 16) - 1) / 16)), (2, .ref (ad 10)), (0, .ref (ad 55)), (1, .int v1)]) hx hb dX2_enterSpan_73 hl (by decide) rfl (fun ls hl => ?_)
  refine lv_iload hx hb dX2_enterSpan_75 (lv_at hl 1 rfl) ?_
  refine lv_istore (lv' := [(7, .int (((x4 + 16) - 1) / 16)), (6, .int ((x5 + x6) / 16)), (5, .int (((x4 + 16) - 1) / 16)), (4, .int ((x2 + x3) / 16)), (3, .int (((x1 + 16) - 1) / 16)), (2, .ref (ad 10)), (0, .ref (ad 55)), (1, .int v1)]) hx hb dX2_enterSpan_77 hl (by decide) rfl (fun ls hl => ?_)
  exact lX2_enterSpan_79 C0 _ _ _ _ _ _ h (lv_sub hl [6, 7, 4, 3, 1, 0] rfl) hm
theorem tX2_enterSpan (l : Launch) (D : va_G) (cA : ClassId) (ad : Nat → Nat) {z : Nat} {S : St} {v1 : Int32} {q : St} (hm : mX2_enterSpan z v1 S = some q) : sd_MV l D vwCl cA sd_nw (wX ad cA) yX2_enterSpan (Cond.code yX2_enterSpan cX2_enterSpan 10 none :: sd_big) rX2_enterSpan [.ref (ad 55), .int v1] S q :=
  sd_ofV (by decide +kernel) (Nat.le_of_ble_eq_true rfl) (fun _ _ _ _ _ _ _ _ _ _ C0 h hl => bX2_enterSpan C0 h (lv_sub hl [0, 1] rfl) hm)

def rX2_enter : Room := { frames := 2, cells := 0, slots := 0, locals := 50 }
def mX2_enter_64 (z : Nat) (v1 : Int32) (v2 : Int32) (S : St) : Option St :=
  (rd (fA S 16) 200 v1).bind fun x1 =>
  (wr (fA S 44) 256 v2 x1).bind fun g2 =>
  some (sA S 44 g2)
set_option maxHeartbeats 4000000 in
set_option maxRecDepth 100000 in
theorem bX2_enter_64 {p : Program} {l : Launch} {e : Env} {s : State} {m : MethodId} {args : Array Value} {below : List Frame} {meth : Method} {c : Code} {D : va_G} {cA : ClassId} {ad : Nat → Nat} {A : Nat → Prop} {H : Heap} {locs : List Loc} {ls : Array Slot} {q : St} {z : Nat} {v1 : Int32} {v2 : Int32} {S : St} (C0 : sd_Cx RX2 cX2_enter 3 none (Cond.code yX2_enter cX2_enter 3 none :: sd_big) p s m args meth c) (h : sd_Wd D vwCl cA sd_nw (wX ad cA) A s S H locs) (hl : lv_has ls 3 [(0, .ref (ad 55)), (1, .int v1), (2, .int v2)])  (hm : mX2_enter_64 z v1 v2 S = some q) : W p l e rX2_enter s m args below meth c H locs 0 0 (MQ below (sd_Qv D vwCl (wX ad cA) A q) args s 0 0 A) (F0 m 64 ls []) := by
  unfold mX2_enter_64 at hm
  have hx := C0.1
  have hb := C0.2.1
  refine lv_aload_n hx hb dX2_enter_64 rfl (lv_at hl 0 rfl) ?_
  refine sd_get C0 h (C := RX2) (T := TX2) (N := 3) kcX2 55 (aX_55 ad cA _) rfl 2 (by decide) kfX2_15 (v := .ref (ad 57)) rfl dX2_enter_65 ?_
  refine lv_iload_n hx hb dX2_enter_68 rfl (lv_at hl 2 rfl) ?_
  refine lv_aload_n hx hb dX2_enter_69 rfl (lv_at hl 0 rfl) ?_
  refine sd_get C0 h (C := RX2) (T := TX2) (N := 3) kcX2 55 (aX_55 ad cA _) rfl 0 (by decide) kfX2_18 (v := .ref (ad 1)) rfl dX2_enter_70 ?_
  refine sd_get C0 h (C := RX7) (T := TX7) (N := 4) kcX7 1 (aX_1 ad cA _) rfl 3 (by decide) kfX2_61 (v := .ref (ad 21)) rfl dX2_enter_73 ?_
  refine lv_iload_n hx hb dX2_enter_76 rfl (lv_at hl 1 rfl) ?_
  obtain ⟨x1, hx1, hm⟩ := bs hm
  refine sd_rd C0 h 21 (aX_21 ad cA _) hx1 dX2_enter_77 ?_
  obtain ⟨g2, hg2, hm⟩ := bs hm
  refine sd_wr C0 h (S1 := (sA S 44 g2)) 57 (aX_57 ad cA _) hg2 (eX_57 ad cA _ _) dX2_enter_78 (fun H locs h => ?_)
  exact sd_vret C0 h (Option.some.inj hm) dX2_enter_79
def mX2_enter (z : Nat) (v1 : Int32) (S : St) : Option St :=
  (rd (fA S 6) 200 v1).bind fun x1 =>
  if x1 = 2 then
    (mX2_enterSpan z v1 S).bind fun u9 =>
    some u9
  else
    (mX6_squareOf S v1).bind fun u3 =>
    (rd (fA S 44) 256 u3).bind fun x4 =>
    if x4 = (-30000) then
      mX2_enter_64 z v1 u3 S
    else
      (rd (fA S 16) 200 v1).bind fun x6 =>
      (rd (fA S 44) 256 u3).bind fun x7 =>
      if x7 ≤ x6 then
        some S
      else
        mX2_enter_64 z v1 u3 S
set_option maxHeartbeats 4000000 in
set_option maxRecDepth 100000 in
theorem bX2_enter {p : Program} {l : Launch} {e : Env} {s : State} {m : MethodId} {args : Array Value} {below : List Frame} {meth : Method} {c : Code} {D : va_G} {cA : ClassId} {ad : Nat → Nat} {A : Nat → Prop} {H : Heap} {locs : List Loc} {ls : Array Slot} {q : St} {z : Nat} {v1 : Int32} {S : St} (C0 : sd_Cx RX2 cX2_enter 3 none (Cond.code yX2_enter cX2_enter 3 none :: sd_big) p s m args meth c) (h : sd_Wd D vwCl cA sd_nw (wX ad cA) A s S H locs) (hl : lv_has ls 3 [(0, .ref (ad 55)), (1, .int v1)])  (hm : mX2_enter z v1 S = some q) : W p l e rX2_enter s m args below meth c H locs 0 0 (MQ below (sd_Qv D vwCl (wX ad cA) A q) args s 0 0 A) (F0 m 0 ls []) := by
  unfold mX2_enter at hm
  have hx := C0.1
  have hb := C0.2.1
  refine lv_aload_n hx hb dX2_enter_0 rfl (lv_at hl 0 rfl) ?_
  refine sd_get C0 h (C := RX2) (T := TX2) (N := 3) kcX2 55 (aX_55 ad cA _) rfl 0 (by decide) kfX2_18 (v := .ref (ad 1)) rfl dX2_enter_1 ?_
  refine sd_get C0 h (C := RX7) (T := TX7) (N := 4) kcX7 1 (aX_1 ad cA _) rfl 2 (by decide) kfX2_33 (v := .ref (ad 10)) rfl dX2_enter_4 ?_
  refine sd_get C0 h (C := RX6) (T := TX6) (N := 11) kcX6 10 (aX_10 ad cA _) rfl 0 (by decide) kfX2_51 (v := .ref (ad 11)) rfl dX2_enter_7 ?_
  refine lv_iload_n hx hb dX2_enter_10 rfl (lv_at hl 1 rfl) ?_
  obtain ⟨x1, hx1, hm⟩ := bs hm
  refine sd_rd C0 h 11 (aX_11 ad cA _) hx1 dX2_enter_11 ?_
  refine lv_iconst (v := 2) hx hb dX2_enter_12 (by decide) ?_
  refine lv_icmp_ne (tgt := 22) hx hb dX2_enter_13 (by decide) (fun c2 => ?_) (fun c2 => ?_)
  · replace hm := iq c2 hm
    refine lv_aload_n hx hb dX2_enter_22 rfl (lv_at hl 0 rfl) ?_
    refine sd_get C0 h (C := RX2) (T := TX2) (N := 3) kcX2 55 (aX_55 ad cA _) rfl 0 (by decide) kfX2_18 (v := .ref (ad 1)) rfl dX2_enter_23 ?_
    refine sd_get C0 h (C := RX7) (T := TX7) (N := 4) kcX7 1 (aX_1 ad cA _) rfl 2 (by decide) kfX2_33 (v := .ref (ad 10)) rfl dX2_enter_26 ?_
    refine lv_iload_n hx hb dX2_enter_29 rfl (lv_at hl 1 rfl) ?_
    obtain ⟨u3, hu3, hm⟩ := bs hm
    refine sd_Vi C0 h kYX6_squareOf kmX2_57 10 (aX_10 ad cA _) rfl [.int v1] (tX6_squareOf l D cA ad hu3) rfl hl.1 rfl (Nat.le_of_ble_eq_true rfl) (by decide) dX2_enter_30 (by decide) (fun H locs h => ?_)
    refine lv_istore_n (lv' := [(2, .int u3), (0, .ref (ad 55)), (1, .int v1)]) hx hb dX2_enter_33 rfl hl (by decide) rfl (fun ls hl => ?_)
    refine lv_aload_n hx hb dX2_enter_34 rfl (lv_at hl 1 rfl) ?_
    refine sd_get C0 h (C := RX2) (T := TX2) (N := 3) kcX2 55 (aX_55 ad cA _) rfl 2 (by decide) kfX2_15 (v := .ref (ad 57)) rfl dX2_enter_35 ?_
    refine lv_iload_n hx hb dX2_enter_38 rfl (lv_at hl 0 rfl) ?_
    obtain ⟨x4, hx4, hm⟩ := bs hm
    refine sd_rd C0 h 57 (aX_57 ad cA _) hx4 dX2_enter_39 ?_
    refine lv_sipush (v := (-30000)) hx hb dX2_enter_40 (by decide) ?_
    refine lv_icmp_eq (tgt := 64) hx hb dX2_enter_43 (by decide) (fun c5 => ?_) (fun c5 => ?_)
    · replace hm := ip c5 hm
      exact bX2_enter_64 C0 h (lv_sub hl [1, 2, 0] rfl) hm
    · replace hm := iq c5 hm
      refine lv_aload_n hx hb dX2_enter_46 rfl (lv_at hl 1 rfl) ?_
      refine sd_get C0 h (C := RX2) (T := TX2) (N := 3) kcX2 55 (aX_55 ad cA _) rfl 0 (by decide) kfX2_18 (v := .ref (ad 1)) rfl dX2_enter_47 ?_
      refine sd_get C0 h (C := RX7) (T := TX7) (N := 4) kcX7 1 (aX_1 ad cA _) rfl 3 (by decide) kfX2_61 (v := .ref (ad 21)) rfl dX2_enter_50 ?_
      refine lv_iload_n hx hb dX2_enter_53 rfl (lv_at hl 2 rfl) ?_
      obtain ⟨x6, hx6, hm⟩ := bs hm
      refine sd_rd C0 h 21 (aX_21 ad cA _) hx6 dX2_enter_54 ?_
      refine lv_aload_n hx hb dX2_enter_55 rfl (lv_at hl 1 rfl) ?_
      refine sd_get C0 h (C := RX2) (T := TX2) (N := 3) kcX2 55 (aX_55 ad cA _) rfl 2 (by decide) kfX2_15 (v := .ref (ad 57)) rfl dX2_enter_56 ?_
      refine lv_iload_n hx hb dX2_enter_59 rfl (lv_at hl 0 rfl) ?_
      obtain ⟨x7, hx7, hm⟩ := bs hm
      refine sd_rd C0 h 57 (aX_57 ad cA _) hx7 dX2_enter_60 ?_
      refine lv_icmp_ge (tgt := 79) hx hb dX2_enter_61 (by decide) (fun c8 => ?_) (fun c8 => ?_)
      · replace hm := ip c8 hm
        exact sd_vret C0 h (Option.some.inj hm) dX2_enter_79
      · replace hm := iq c8 hm
        exact bX2_enter_64 C0 h (lv_sub hl [1, 2, 0] rfl) hm
  · replace hm := ip c2 hm
    refine lv_aload_n hx hb dX2_enter_16 rfl (lv_at hl 0 rfl) ?_
    refine lv_iload_n hx hb dX2_enter_17 rfl (lv_at hl 1 rfl) ?_
    obtain ⟨u9, hu9, hm⟩ := bs hm
    refine sd_Vv C0 h kYX2_enterSpan kmX2_54 55 (aX_55 ad cA _) rfl [.int v1] (tX2_enterSpan l D cA ad hu9) rfl hl.1 rfl (Nat.le_of_ble_eq_true rfl) (by decide) dX2_enter_18 (by decide) (fun H locs h => ?_)
    exact sd_vret C0 h (Option.some.inj hm) dX2_enter_21
theorem tX2_enter (l : Launch) (D : va_G) (cA : ClassId) (ad : Nat → Nat) {z : Nat} {S : St} {v1 : Int32} {q : St} (hm : mX2_enter z v1 S = some q) : sd_MV l D vwCl cA sd_nw (wX ad cA) yX2_enter (Cond.code yX2_enter cX2_enter 3 none :: sd_big) rX2_enter [.ref (ad 55), .int v1] S q :=
  sd_ofV (by decide +kernel) (Nat.le_of_ble_eq_true rfl) (fun _ _ _ _ _ _ _ _ _ _ C0 h hl => bX2_enter C0 h (lv_sub hl [0, 1] rfl) hm)

def rX2_draw : Room := { frames := 4, cells := 0, slots := 0, locals := 96 }
def mX2_draw_68b (z : Nat) (rc68 : Int32 → St → Option St) (v2 : Int32) (S : St) : Option St :=
  if 256 ≤ v2 then
    some S
  else
    (rd (fA S 44) 256 v2).bind fun x2 =>
    if x2 = (-30000) then
      (rd (fA S 43) 256 v2).bind fun x4 =>
      (wr (fA S 44) 256 v2 x4).bind fun g5 =>
      rc68 (v2 + 1) (sA S 44 g5)
    else
      rc68 (v2 + 1) S
set_option maxHeartbeats 4000000 in
set_option maxRecDepth 100000 in
theorem bX2_draw_68b {p : Program} {l : Launch} {e : Env} {s : State} {m : MethodId} {args : Array Value} {below : List Frame} {meth : Method} {c : Code} {D : va_G} {cA : ClassId} {ad : Nat → Nat} {A : Nat → Prop} {H : Heap} {locs : List Loc} {ls : Array Slot} {q : St} {z : Nat} {rc68 : Int32 → St → Option St} {v2 : Int32} {S : St} (C0 : sd_Cx RX2 cX2_draw 3 none (Cond.code yX2_draw cX2_draw 3 none :: sd_big) p s m args meth c) (h : sd_Wd D vwCl cA sd_nw (wX ad cA) A s S H locs) (hl : lv_has ls 3 [(0, .ref (ad 55)), (2, .int v2)]) (hrc68 : ∀ (v2 : Int32) (S : St) (H : Heap) (locs : List Loc) (ls : Array Slot), sd_Wd D vwCl cA sd_nw (wX ad cA) A s S H locs → lv_has ls 3 [(0, .ref (ad 55)), (2, .int v2)] → rc68 v2 S = some q → W p l e rX2_draw s m args below meth c H locs 0 0 (MQ below (sd_Qv D vwCl (wX ad cA) A q) args s 0 0 A) (F0 m 68 ls [])) (hm : mX2_draw_68b z rc68 v2 S = some q) : W p l e rX2_draw s m args below meth c H locs 0 0 (MQ below (sd_Qv D vwCl (wX ad cA) A q) args s 0 0 A) (F0 m 68 ls []) := by
  unfold mX2_draw_68b at hm
  have hx := C0.1
  have hb := C0.2.1
  refine lv_iload_n hx hb dX2_draw_68 rfl (lv_at hl 1 rfl) ?_
  refine lv_sipush (v := 256) hx hb dX2_draw_69 (by decide) ?_
  refine lv_icmp_ge (tgt := 105) hx hb dX2_draw_72 (by decide) (fun c1 => ?_) (fun c1 => ?_)
  · replace hm := ip c1 hm
    exact sd_vret C0 h (Option.some.inj hm) dX2_draw_105
  · replace hm := iq c1 hm
    refine lv_aload_n hx hb dX2_draw_75 rfl (lv_at hl 0 rfl) ?_
    refine sd_get C0 h (C := RX2) (T := TX2) (N := 3) kcX2 55 (aX_55 ad cA _) rfl 2 (by decide) kfX2_15 (v := .ref (ad 57)) rfl dX2_draw_76 ?_
    refine lv_iload_n hx hb dX2_draw_79 rfl (lv_at hl 1 rfl) ?_
    obtain ⟨x2, hx2, hm⟩ := bs hm
    refine sd_rd C0 h 57 (aX_57 ad cA _) hx2 dX2_draw_80 ?_
    refine lv_sipush (v := (-30000)) hx hb dX2_draw_81 (by decide) ?_
    refine lv_icmp_ne (tgt := 99) hx hb dX2_draw_84 (by decide) (fun c3 => ?_) (fun c3 => ?_)
    · replace hm := iq c3 hm
      refine lv_iinc (v := (v2 + 1)) (lv' := [(2, .int (v2 + 1)), (0, .ref (ad 55))]) hx hb dX2_draw_99 hl (k := 1) rfl rfl (by decide) rfl (fun ls hl => ?_)
      refine lv_goto (tgt := 68) hx hb dX2_draw_102 (by decide) ?_
      exact hrc68 _ _ _ _ _ h (lv_sub hl [1, 0] rfl) hm
    · replace hm := ip c3 hm
      refine lv_aload_n hx hb dX2_draw_87 rfl (lv_at hl 0 rfl) ?_
      refine sd_get C0 h (C := RX2) (T := TX2) (N := 3) kcX2 55 (aX_55 ad cA _) rfl 2 (by decide) kfX2_15 (v := .ref (ad 57)) rfl dX2_draw_88 ?_
      refine lv_iload_n hx hb dX2_draw_91 rfl (lv_at hl 1 rfl) ?_
      refine lv_aload_n hx hb dX2_draw_92 rfl (lv_at hl 0 rfl) ?_
      refine sd_get C0 h (C := RX2) (T := TX2) (N := 3) kcX2 55 (aX_55 ad cA _) rfl 1 (by decide) kfX2_9 (v := .ref (ad 56)) rfl dX2_draw_93 ?_
      refine lv_iload_n hx hb dX2_draw_96 rfl (lv_at hl 1 rfl) ?_
      obtain ⟨x4, hx4, hm⟩ := bs hm
      refine sd_rd C0 h 56 (aX_56 ad cA _) hx4 dX2_draw_97 ?_
      obtain ⟨g5, hg5, hm⟩ := bs hm
      refine sd_wr C0 h (S1 := (sA S 44 g5)) 57 (aX_57 ad cA _) hg5 (eX_57 ad cA _ _) dX2_draw_98 (fun H locs h => ?_)
      refine lv_iinc (v := (v2 + 1)) (lv' := [(2, .int (v2 + 1)), (0, .ref (ad 55))]) hx hb dX2_draw_99 hl (k := 1) rfl rfl (by decide) rfl (fun ls hl => ?_)
      refine lv_goto (tgt := 68) hx hb dX2_draw_102 (by decide) ?_
      exact hrc68 _ _ _ _ _ h (lv_sub hl [1, 0] rfl) hm
def mX2_draw_68 (z : Nat) : Nat → Int32 → St → Option St
  | 0, _, _ => none
  | n + 1, v2, S => mX2_draw_68b z (mX2_draw_68 z n) v2 S
set_option maxHeartbeats 4000000 in
set_option maxRecDepth 100000 in
theorem lX2_draw_68 {p : Program} {l : Launch} {e : Env} {s : State} {m : MethodId} {args : Array Value} {below : List Frame} {meth : Method} {c : Code} {D : va_G} {cA : ClassId} {ad : Nat → Nat} {A : Nat → Prop} {q : St} {z : Nat} (C0 : sd_Cx RX2 cX2_draw 3 none (Cond.code yX2_draw cX2_draw 3 none :: sd_big) p s m args meth c)  : ∀ (n : Nat) (v2 : Int32) (S : St) (H : Heap) (locs : List Loc) (ls : Array Slot), sd_Wd D vwCl cA sd_nw (wX ad cA) A s S H locs → lv_has ls 3 [(0, .ref (ad 55)), (2, .int v2)] → mX2_draw_68 z n v2 S = some q → W p l e rX2_draw s m args below meth c H locs 0 0 (MQ below (sd_Qv D vwCl (wX ad cA) A q) args s 0 0 A) (F0 m 68 ls []) := by
  intro n
  induction n with
  | zero =>
    intro v2 S H locs ls h hl hm
    exact nomatch (show none = some q from hm)
  | succ n ih =>
    intro v2 S H locs ls h hl hm
    exact bX2_draw_68b C0 h hl ih hm
def mX2_draw_29b (z : Nat) (rc29 : Int32 → St → Option St) (v1 : Int32) (v2 : Int32) (S : St) : Option St :=
  if (fI S 2) ≤ v2 then
    mX2_draw_68 z z 0 S
  else
    (mX7_counts S v2 v1).bind fun u2 =>
    if u2 = 0 then
      rc29 (v2 + 1) S
    else
      (mX2_enter z v2 S).bind fun u4 =>
      rc29 (v2 + 1) u4
set_option maxHeartbeats 4000000 in
set_option maxRecDepth 100000 in
theorem bX2_draw_29b {p : Program} {l : Launch} {e : Env} {s : State} {m : MethodId} {args : Array Value} {below : List Frame} {meth : Method} {c : Code} {D : va_G} {cA : ClassId} {ad : Nat → Nat} {A : Nat → Prop} {H : Heap} {locs : List Loc} {ls : Array Slot} {q : St} {z : Nat} {rc29 : Int32 → St → Option St} {v1 : Int32} {v2 : Int32} {S : St} (C0 : sd_Cx RX2 cX2_draw 3 none (Cond.code yX2_draw cX2_draw 3 none :: sd_big) p s m args meth c) (h : sd_Wd D vwCl cA sd_nw (wX ad cA) A s S H locs) (hl : lv_has ls 3 [(0, .ref (ad 55)), (1, .int v1), (2, .int v2)]) (hrc29 : ∀ (v2 : Int32) (S : St) (H : Heap) (locs : List Loc) (ls : Array Slot), sd_Wd D vwCl cA sd_nw (wX ad cA) A s S H locs → lv_has ls 3 [(0, .ref (ad 55)), (1, .int v1), (2, .int v2)] → rc29 v2 S = some q → W p l e rX2_draw s m args below meth c H locs 0 0 (MQ below (sd_Qv D vwCl (wX ad cA) A q) args s 0 0 A) (F0 m 29 ls [])) (hm : mX2_draw_29b z rc29 v1 v2 S = some q) : W p l e rX2_draw s m args below meth c H locs 0 0 (MQ below (sd_Qv D vwCl (wX ad cA) A q) args s 0 0 A) (F0 m 29 ls []) := by
  unfold mX2_draw_29b at hm
  have hx := C0.1
  have hb := C0.2.1
  refine lv_iload_n hx hb dX2_draw_29 rfl (lv_at hl 2 rfl) ?_
  refine lv_aload_n hx hb dX2_draw_30 rfl (lv_at hl 0 rfl) ?_
  refine sd_get C0 h (C := RX2) (T := TX2) (N := 3) kcX2 55 (aX_55 ad cA _) rfl 0 (by decide) kfX2_18 (v := .ref (ad 1)) rfl dX2_draw_31 ?_
  refine sd_get C0 h (C := RX7) (T := TX7) (N := 4) kcX7 1 (aX_1 ad cA _) rfl 2 (by decide) kfX2_33 (v := .ref (ad 10)) rfl dX2_draw_34 ?_
  refine sd_get C0 h (C := RX6) (T := TX6) (N := 11) kcX6 10 (aX_10 ad cA _) rfl 10 (by decide) kfX2_37 (v := .int (fI S 2)) rfl dX2_draw_37 ?_
  refine lv_icmp_ge (tgt := 66) hx hb dX2_draw_40 (by decide) (fun c1 => ?_) (fun c1 => ?_)
  · replace hm := ip c1 hm
    refine lv_iconst (v := 0) hx hb dX2_draw_66 (by decide) ?_
    refine lv_istore_n (lv' := [(2, .int 0), (0, .ref (ad 55)), (1, .int v1)]) hx hb dX2_draw_67 rfl hl (by decide) rfl (fun ls hl => ?_)
    exact lX2_draw_68 C0 _ _ _ _ _ _ h (lv_sub hl [1, 0] rfl) hm
  · replace hm := iq c1 hm
    refine lv_aload_n hx hb dX2_draw_43 rfl (lv_at hl 0 rfl) ?_
    refine sd_get C0 h (C := RX2) (T := TX2) (N := 3) kcX2 55 (aX_55 ad cA _) rfl 0 (by decide) kfX2_18 (v := .ref (ad 1)) rfl dX2_draw_44 ?_
    refine lv_iload_n hx hb dX2_draw_47 rfl (lv_at hl 2 rfl) ?_
    refine lv_iload_n hx hb dX2_draw_48 rfl (lv_at hl 1 rfl) ?_
    obtain ⟨u2, hu2, hm⟩ := bs hm
    refine sd_Vi C0 h kYX7_counts kmX2_43 1 (aX_1 ad cA _) rfl [.int v2, .int v1] (tX7_counts l D cA ad hu2) rfl hl.1 rfl (Nat.le_of_ble_eq_true rfl) (by decide) dX2_draw_49 (by decide) (fun H locs h => ?_)
    refine lv_if_eq (tgt := 60) hx hb dX2_draw_52 (by decide) (fun c3 => ?_) (fun c3 => ?_)
    · replace hm := ip c3 hm
      refine lv_iinc (v := (v2 + 1)) (lv' := [(2, .int (v2 + 1)), (0, .ref (ad 55)), (1, .int v1)]) hx hb dX2_draw_60 hl (k := 2) rfl rfl (by decide) rfl (fun ls hl => ?_)
      refine lv_goto (tgt := 29) hx hb dX2_draw_63 (by decide) ?_
      exact hrc29 _ _ _ _ _ h (lv_sub hl [1, 2, 0] rfl) hm
    · replace hm := iq c3 hm
      refine lv_aload_n hx hb dX2_draw_55 rfl (lv_at hl 0 rfl) ?_
      refine lv_iload_n hx hb dX2_draw_56 rfl (lv_at hl 2 rfl) ?_
      obtain ⟨u4, hu4, hm⟩ := bs hm
      refine sd_Vv C0 h kYX2_enter kmX2_47 55 (aX_55 ad cA _) rfl [.int v2] (tX2_enter l D cA ad hu4) rfl hl.1 rfl (Nat.le_of_ble_eq_true rfl) (by decide) dX2_draw_57 (by decide) (fun H locs h => ?_)
      refine lv_iinc (v := (v2 + 1)) (lv' := [(2, .int (v2 + 1)), (0, .ref (ad 55)), (1, .int v1)]) hx hb dX2_draw_60 hl (k := 2) rfl rfl (by decide) rfl (fun ls hl => ?_)
      refine lv_goto (tgt := 29) hx hb dX2_draw_63 (by decide) ?_
      exact hrc29 _ _ _ _ _ h (lv_sub hl [1, 2, 0] rfl) hm
def mX2_draw_29 (z : Nat) (v1 : Int32) : Nat → Int32 → St → Option St
  | 0, _, _ => none
  | n + 1, v2, S => mX2_draw_29b z (mX2_draw_29 z v1 n) v1 v2 S
set_option maxHeartbeats 4000000 in
set_option maxRecDepth 100000 in
theorem lX2_draw_29 {p : Program} {l : Launch} {e : Env} {s : State} {m : MethodId} {args : Array Value} {below : List Frame} {meth : Method} {c : Code} {D : va_G} {cA : ClassId} {ad : Nat → Nat} {A : Nat → Prop} {q : St} {z : Nat} {v1 : Int32} (C0 : sd_Cx RX2 cX2_draw 3 none (Cond.code yX2_draw cX2_draw 3 none :: sd_big) p s m args meth c)  : ∀ (n : Nat) (v2 : Int32) (S : St) (H : Heap) (locs : List Loc) (ls : Array Slot), sd_Wd D vwCl cA sd_nw (wX ad cA) A s S H locs → lv_has ls 3 [(0, .ref (ad 55)), (1, .int v1), (2, .int v2)] → mX2_draw_29 z v1 n v2 S = some q → W p l e rX2_draw s m args below meth c H locs 0 0 (MQ below (sd_Qv D vwCl (wX ad cA) A q) args s 0 0 A) (F0 m 29 ls []) := by
  intro n
  induction n with
  | zero =>
    intro v2 S H locs ls h hl hm
    exact nomatch (show none = some q from hm)
  | succ n ih =>
    intro v2 S H locs ls h hl hm
    exact bX2_draw_29b C0 h hl ih hm
def mX2_draw (z : Nat) (v1 : Int32) (S : St) : Option St :=
  (mX7_measure z S).bind fun u1 =>
  (mJ7_fill_X57 z (-30000) u1).bind fun u2 =>
  (mJ7_fill_X56 z (-30000) u2).bind fun u3 =>
  mX2_draw_29 z v1 z 0 u3
set_option maxHeartbeats 4000000 in
set_option maxRecDepth 100000 in
theorem bX2_draw {p : Program} {l : Launch} {e : Env} {s : State} {m : MethodId} {args : Array Value} {below : List Frame} {meth : Method} {c : Code} {D : va_G} {cA : ClassId} {ad : Nat → Nat} {A : Nat → Prop} {H : Heap} {locs : List Loc} {ls : Array Slot} {q : St} {z : Nat} {v1 : Int32} {S : St} (C0 : sd_Cx RX2 cX2_draw 3 none (Cond.code yX2_draw cX2_draw 3 none :: sd_big) p s m args meth c) (h : sd_Wd D vwCl cA sd_nw (wX ad cA) A s S H locs) (hl : lv_has ls 3 [(0, .ref (ad 55)), (1, .int v1)])  (hm : mX2_draw z v1 S = some q) : W p l e rX2_draw s m args below meth c H locs 0 0 (MQ below (sd_Qv D vwCl (wX ad cA) A q) args s 0 0 A) (F0 m 0 ls []) := by
  unfold mX2_draw at hm
  have hx := C0.1
  have hb := C0.2.1
  refine lv_aload_n hx hb dX2_draw_0 rfl (lv_at hl 0 rfl) ?_
  refine sd_get C0 h (C := RX2) (T := TX2) (N := 3) kcX2 55 (aX_55 ad cA _) rfl 0 (by decide) kfX2_18 (v := .ref (ad 1)) rfl dX2_draw_1 ?_
  obtain ⟨u1, hu1, hm⟩ := bs hm
  refine sd_Vv C0 h kYX7_measure kmX2_22 1 (aX_1 ad cA _) rfl [] (tX7_measure l D cA ad hu1) rfl hl.1 rfl (Nat.le_of_ble_eq_true rfl) (by decide) dX2_draw_4 (by decide) (fun H locs h => ?_)
  refine lv_aload_n hx hb dX2_draw_7 rfl (lv_at hl 0 rfl) ?_
  refine sd_get C0 h (C := RX2) (T := TX2) (N := 3) kcX2 55 (aX_55 ad cA _) rfl 2 (by decide) kfX2_15 (v := .ref (ad 57)) rfl dX2_draw_8 ?_
  refine lv_sipush (v := (-30000)) hx hb dX2_draw_11 (by decide) ?_
  obtain ⟨u2, hu2, hm⟩ := bs hm
  refine sd_Sv C0 h kYJ7_fill_53178 kmX2_27 [.ref (ad 57), .int (-30000)] (tJ7_fill_X57 l D cA ad hu2) rfl hl.1 rfl (Nat.le_of_ble_eq_true rfl) (by decide) dX2_draw_14 (by decide) (fun H locs h => ?_)
  refine lv_aload_n hx hb dX2_draw_17 rfl (lv_at hl 0 rfl) ?_
  refine sd_get C0 h (C := RX2) (T := TX2) (N := 3) kcX2 55 (aX_55 ad cA _) rfl 1 (by decide) kfX2_9 (v := .ref (ad 56)) rfl dX2_draw_18 ?_
  refine lv_sipush (v := (-30000)) hx hb dX2_draw_21 (by decide) ?_
  obtain ⟨u3, hu3, hm⟩ := bs hm
  refine sd_Sv C0 h kYJ7_fill_53178 kmX2_27 [.ref (ad 56), .int (-30000)] (tJ7_fill_X56 l D cA ad hu3) rfl hl.1 rfl (Nat.le_of_ble_eq_true rfl) (by decide) dX2_draw_24 (by decide) (fun H locs h => ?_)
  refine lv_iconst (v := 0) hx hb dX2_draw_27 (by decide) ?_
  refine lv_istore_n (lv' := [(2, .int 0), (0, .ref (ad 55)), (1, .int v1)]) hx hb dX2_draw_28 rfl hl (by decide) rfl (fun ls hl => ?_)
  exact lX2_draw_29 C0 _ _ _ _ _ _ h (lv_sub hl [1, 2, 0] rfl) hm
theorem tX2_draw (l : Launch) (D : va_G) (cA : ClassId) (ad : Nat → Nat) {z : Nat} {S : St} {v1 : Int32} {q : St} (hm : mX2_draw z v1 S = some q) : sd_MV l D vwCl cA sd_nw (wX ad cA) yX2_draw (Cond.code yX2_draw cX2_draw 3 none :: sd_big) rX2_draw [.ref (ad 55), .int v1] S q :=
  sd_ofV (by decide +kernel) (Nat.le_of_ble_eq_true rfl) (fun _ _ _ _ _ _ _ _ _ _ C0 h hl => bX2_draw C0 h (lv_sub hl [0, 1] rfl) hm)
