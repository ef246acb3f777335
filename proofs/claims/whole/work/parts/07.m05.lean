def rX10_waits : Room := { frames := 1, cells := 0, slots := 0, locals := 33 }
def mX10_waits (z : Nat) (v1 : Int32) (S : St) : Option (Int32 × St) :=
  (mX10_of S v1 0).bind fun u1 =>
  if 3 ≤ u1 then
    some (0, S)
  else
    (mX10_of S v1 4).bind fun u3 =>
    (mX10_of S v1 6).bind fun u4 =>
    (mX10_tideAt z u3 u4 S).bind fun u5 =>
    if u5.1 = 0 then
      some (1, u5.2)
    else
      some (0, u5.2)
set_option maxHeartbeats 4000000 in
set_option maxRecDepth 100000 in
theorem bX10_waits {p : Program} {l : Launch} {e : Env} {s : State} {m : MethodId} {args : Array Value} {below : List Frame} {meth : Method} {c : Code} {D : va_G} {cA : ClassId} {ad : Nat → Nat} {A : Nat → Prop} {H : Heap} {locs : List Loc} {ls : Array Slot} {q : (Int32 × St)} {z : Nat} {v1 : Int32} {S : St} (C0 : sd_Cx RX10 cX10_waits 2 (some .boolean) (Cond.code yX10_waits cX10_waits 2 (some .boolean) :: sd_big) p s m args meth c) (h : sd_Wd D vwCl cA sd_nw (wY ad cA) A s S H locs) (hl : lv_has ls 2 [(0, .ref (ad 0)), (1, .int v1)])  (hm : mX10_waits z v1 S = some q) : W p l e rX10_waits s m args below meth c H locs 0 0 (MQ below (sd_Qi D vwCl (wY ad cA) A q) args s 0 0 A) (F0 m 0 ls []) := by
  unfold mX10_waits at hm
  have hx := C0.1
  have hb := C0.2.1
  refine lv_aload_n hx hb dX10_waits_0 rfl (lv_at hl 0 rfl) ?_
  refine lv_iload_n hx hb dX10_waits_1 rfl (lv_at hl 1 rfl) ?_
  refine lv_iconst (v := 0) hx hb dX10_waits_2 (by decide) ?_
  obtain ⟨u1, hu1, hm⟩ := bs hm
  refine sd_Vi C0 h kYX10_of kmX10_96 0 (aY_0 ad cA _) rfl [.int v1, .int 0] (tX10_of l D cA ad hu1) rfl hl.1 rfl (Nat.le_of_ble_eq_true rfl) (by decide) dX10_waits_3 (by decide) (fun H locs h => ?_)
  refine lv_iconst (v := 3) hx hb dX10_waits_6 (by decide) ?_
  refine lv_icmp_ge (tgt := 34) hx hb dX10_waits_7 (by decide) (fun c2 => ?_) (fun c2 => ?_)
  · replace hm := ip c2 hm
    refine lv_iconst (v := 0) hx hb dX10_waits_34 (by decide) ?_
    exact sd_zret C0 h (Option.some.inj hm) rfl dX10_waits_35
  · replace hm := iq c2 hm
    refine lv_aload_n hx hb dX10_waits_10 rfl (lv_at hl 0 rfl) ?_
    refine lv_aload_n hx hb dX10_waits_11 rfl (lv_at hl 0 rfl) ?_
    refine lv_iload_n hx hb dX10_waits_12 rfl (lv_at hl 1 rfl) ?_
    refine lv_iconst (v := 4) hx hb dX10_waits_13 (by decide) ?_
    obtain ⟨u3, hu3, hm⟩ := bs hm
    refine sd_Vi C0 h kYX10_of kmX10_96 0 (aY_0 ad cA _) rfl [.int v1, .int 4] (tX10_of l D cA ad hu3) rfl hl.1 rfl (Nat.le_of_ble_eq_true rfl) (by decide) dX10_waits_14 (by decide) (fun H locs h => ?_)
    refine lv_aload_n hx hb dX10_waits_17 rfl (lv_at hl 0 rfl) ?_
    refine lv_iload_n hx hb dX10_waits_18 rfl (lv_at hl 1 rfl) ?_
    refine lv_bipush (v := 6) hx hb dX10_waits_19 (by decide) ?_
    obtain ⟨u4, hu4, hm⟩ := bs hm
    refine sd_Vi C0 h kYX10_of kmX10_96 0 (aY_0 ad cA _) rfl [.int v1, .int 6] (tX10_of l D cA ad hu4) rfl hl.1 rfl (Nat.le_of_ble_eq_true rfl) (by decide) dX10_waits_21 (by decide) (fun H locs h => ?_)
    obtain ⟨u5, hu5, hm⟩ := bs hm
    refine sd_Vi C0 h kYX10_tideAt kmX10_64 0 (aY_0 ad cA _) rfl [.int u3, .int u4] (tX10_tideAt l D cA ad hu5) rfl hl.1 rfl (Nat.le_of_ble_eq_true rfl) (by decide) dX10_waits_24 (by decide) (fun H locs h => ?_)
    refine lv_if_ne (tgt := 34) hx hb dX10_waits_27 (by decide) (fun c6 => ?_) (fun c6 => ?_)
    · replace hm := iq c6 hm
      refine lv_iconst (v := 0) hx hb dX10_waits_34 (by decide) ?_
      exact sd_zret C0 h (Option.some.inj hm) rfl dX10_waits_35
    · replace hm := ip c6 hm
      refine lv_iconst (v := 1) hx hb dX10_waits_30 (by decide) ?_
      refine lv_goto (tgt := 35) hx hb dX10_waits_31 (by decide) ?_
      exact sd_zret C0 h (Option.some.inj hm) rfl dX10_waits_35
theorem tX10_waits (l : Launch) (D : va_G) (cA : ClassId) (ad : Nat → Nat) {z : Nat} {S : St} {v1 : Int32} {q : (Int32 × St)} (hm : mX10_waits z v1 S = some q) : sd_MI l D vwCl cA sd_nw (wY ad cA) yX10_waits (Cond.code yX10_waits cX10_waits 2 (some .boolean) :: sd_big) rX10_waits [.ref (ad 0), .int v1] S q :=
  sd_ofI (by decide +kernel) (Nat.le_of_ble_eq_true rfl) (fun _ _ _ _ _ _ _ _ _ _ C0 h hl => bX10_waits C0 h (lv_sub hl [0, 1] rfl) hm)

def rX10_count : Room := { frames := 2, cells := 0, slots := 0, locals := 54 }
def mX10_count_68 (z : Nat) (rc44 : Int32 → Int32 → St → Option (Int32 × St)) (v3 : Int32) (t0 : Int32) (t1 : Int32) (S : St) : Option (Int32 × St) :=
  rc44 (t0 + t1) (v3 + 1) S
set_option maxHeartbeats 4000000 in
set_option maxRecDepth 100000 in
theorem bX10_count_68 {p : Program} {l : Launch} {e : Env} {s : State} {m : MethodId} {args : Array Value} {below : List Frame} {meth : Method} {c : Code} {D : va_G} {cA : ClassId} {ad : Nat → Nat} {A : Nat → Prop} {H : Heap} {locs : List Loc} {ls : Array Slot} {q : (Int32 × St)} {z : Nat} {rc44 : Int32 → Int32 → St → Option (Int32 × St)} {v3 : Int32} {t0 : Int32} {t1 : Int32} {S : St} (C0 : sd_Cx RX10 cX10_count 4 (some .int) (Cond.code yX10_count cX10_count 4 (some .int) :: sd_big) p s m args meth c) (h : sd_Wd D vwCl cA sd_nw (wY ad cA) A s S H locs) (hl : lv_has ls 4 [(0, .ref (ad 0)), (3, .int v3)]) (hrc44 : ∀ (v2 : Int32) (v3 : Int32) (S : St) (H : Heap) (locs : List Loc) (ls : Array Slot), sd_Wd D vwCl cA sd_nw (wY ad cA) A s S H locs → lv_has ls 4 [(0, .ref (ad 0)), (2, .int v2), (3, .int v3)] → rc44 v2 v3 S = some q → W p l e rX10_count s m args below meth c H locs 0 0 (MQ below (sd_Qi D vwCl (wY ad cA) A q) args s 0 0 A) (F0 m 44 ls [])) (hm : mX10_count_68 z rc44 v3 t0 t1 S = some q) : W p l e rX10_count s m args below meth c H locs 0 0 (MQ below (sd_Qi D vwCl (wY ad cA) A q) args s 0 0 A) (F0 m 68 ls [.int t1, .int t0]) := by
  unfold mX10_count_68 at hm
  have hx := C0.1
  have hb := C0.2.1
  refine lv_iadd hx hb dX10_count_68 ?_
  refine lv_istore_n (lv' := [(2, .int (t0 + t1)), (0, .ref (ad 0)), (3, .int v3)]) hx hb dX10_count_69 rfl hl (by decide) rfl (fun ls hl => ?_)
  refine lv_iinc (v := (v3 + 1)) (lv' := [(3, .int (v3 + 1)), (2, .int (t0 + t1)), (0, .ref (ad 0))]) hx hb dX10_count_70 hl (k := 2) rfl rfl (by decide) rfl (fun ls hl => ?_)
  refine lv_goto (tgt := 44) hx hb dX10_count_73 (by decide) ?_
  exact hrc44 _ _ _ _ _ _ h (lv_sub hl [2, 1, 0] rfl) hm
def mX10_count_44b (z : Nat) (rc44 : Int32 → Int32 → St → Option (Int32 × St)) (v2 : Int32) (v3 : Int32) (S : St) : Option (Int32 × St) :=
  (rd (fA S 0) 4564 1).bind fun x1 =>
  if x1 ≤ v3 then
    some (v2, S)
  else
    (mX10_waits z v3 S).bind fun u3 =>
    if u3.1 = 0 then
      mX10_count_68 z rc44 v3 v2 0 u3.2
    else
      mX10_count_68 z rc44 v3 v2 1 u3.2
set_option maxHeartbeats 4000000 in
set_option maxRecDepth 100000 in
theorem bX10_count_44b {p : Program} {l : Launch} {e : Env} {s : State} {m : MethodId} {args : Array Value} {below : List Frame} {meth : Method} {c : Code} {D : va_G} {cA : ClassId} {ad : Nat → Nat} {A : Nat → Prop} {H : Heap} {locs : List Loc} {ls : Array Slot} {q : (Int32 × St)} {z : Nat} {rc44 : Int32 → Int32 → St → Option (Int32 × St)} {v2 : Int32} {v3 : Int32} {S : St} (C0 : sd_Cx RX10 cX10_count 4 (some .int) (Cond.code yX10_count cX10_count 4 (some .int) :: sd_big) p s m args meth c) (h : sd_Wd D vwCl cA sd_nw (wY ad cA) A s S H locs) (hl : lv_has ls 4 [(0, .ref (ad 0)), (2, .int v2), (3, .int v3)]) (hrc44 : ∀ (v2 : Int32) (v3 : Int32) (S : St) (H : Heap) (locs : List Loc) (ls : Array Slot), sd_Wd D vwCl cA sd_nw (wY ad cA) A s S H locs → lv_has ls 4 [(0, .ref (ad 0)), (2, .int v2), (3, .int v3)] → rc44 v2 v3 S = some q → W p l e rX10_count s m args below meth c H locs 0 0 (MQ below (sd_Qi D vwCl (wY ad cA) A q) args s 0 0 A) (F0 m 44 ls [])) (hm : mX10_count_44b z rc44 v2 v3 S = some q) : W p l e rX10_count s m args below meth c H locs 0 0 (MQ below (sd_Qi D vwCl (wY ad cA) A q) args s 0 0 A) (F0 m 44 ls []) := by
  unfold mX10_count_44b at hm
  have hx := C0.1
  have hb := C0.2.1
  refine lv_iload_n hx hb dX10_count_44 rfl (lv_at hl 2 rfl) ?_
  refine lv_aload_n hx hb dX10_count_45 rfl (lv_at hl 0 rfl) ?_
  refine sd_get C0 h (C := RX10) (T := TX10) (N := 17) kcX10 0 (aY_0 ad cA _) rfl 0 (by decide) kfX10_7 (v := .ref (ad 1)) rfl dX10_count_46 ?_
  refine lv_iconst (v := 1) hx hb dX10_count_49 (by decide) ?_
  obtain ⟨x1, hx1, hm⟩ := bs hm
  refine sd_rd C0 h 1 (aY_1 ad cA _) hx1 dX10_count_50 ?_
  refine lv_icmp_ge (tgt := 76) hx hb dX10_count_51 (by decide) (fun c2 => ?_) (fun c2 => ?_)
  · replace hm := ip c2 hm
    refine lv_iload_n hx hb dX10_count_76 rfl (lv_at hl 1 rfl) ?_
    exact sd_iret C0 h (Option.some.inj hm) dX10_count_77
  · replace hm := iq c2 hm
    refine lv_iload_n hx hb dX10_count_54 rfl (lv_at hl 1 rfl) ?_
    refine lv_aload_n hx hb dX10_count_55 rfl (lv_at hl 0 rfl) ?_
    refine lv_iload_n hx hb dX10_count_56 rfl (lv_at hl 2 rfl) ?_
    obtain ⟨u3, hu3, hm⟩ := bs hm
    refine sd_Vi C0 h kYX10_waits kmX10_101 0 (aY_0 ad cA _) rfl [.int v3] (tX10_waits l D cA ad hu3) rfl hl.1 rfl (Nat.le_of_ble_eq_true rfl) (by decide) dX10_count_57 (by decide) (fun H locs h => ?_)
    refine lv_if_eq (tgt := 67) hx hb dX10_count_60 (by decide) (fun c4 => ?_) (fun c4 => ?_)
    · replace hm := ip c4 hm
      refine lv_iconst (v := 0) hx hb dX10_count_67 (by decide) ?_
      exact bX10_count_68 C0 h (lv_sub hl [0, 2] rfl) hrc44 hm
    · replace hm := iq c4 hm
      refine lv_iconst (v := 1) hx hb dX10_count_63 (by decide) ?_
      refine lv_goto (tgt := 68) hx hb dX10_count_64 (by decide) ?_
      exact bX10_count_68 C0 h (lv_sub hl [0, 2] rfl) hrc44 hm
def mX10_count_44 (z : Nat) : Nat → Int32 → Int32 → St → Option (Int32 × St)
  | 0, _, _, _ => none
  | n + 1, v2, v3, S => mX10_count_44b z (mX10_count_44 z n) v2 v3 S
set_option maxHeartbeats 4000000 in
set_option maxRecDepth 100000 in
theorem lX10_count_44 {p : Program} {l : Launch} {e : Env} {s : State} {m : MethodId} {args : Array Value} {below : List Frame} {meth : Method} {c : Code} {D : va_G} {cA : ClassId} {ad : Nat → Nat} {A : Nat → Prop} {q : (Int32 × St)} {z : Nat} (C0 : sd_Cx RX10 cX10_count 4 (some .int) (Cond.code yX10_count cX10_count 4 (some .int) :: sd_big) p s m args meth c)  : ∀ (n : Nat) (v2 : Int32) (v3 : Int32) (S : St) (H : Heap) (locs : List Loc) (ls : Array Slot), sd_Wd D vwCl cA sd_nw (wY ad cA) A s S H locs → lv_has ls 4 [(0, .ref (ad 0)), (2, .int v2), (3, .int v3)] → mX10_count_44 z n v2 v3 S = some q → W p l e rX10_count s m args below meth c H locs 0 0 (MQ below (sd_Qi D vwCl (wY ad cA) A q) args s 0 0 A) (F0 m 44 ls []) := by
  intro n
  induction n with
  | zero =>
    intro v2 v3 S H locs ls h hl hm
    exact nomatch (show none = some q from hm)
  | succ n ih =>
    intro v2 v3 S H locs ls h hl hm
    exact bX10_count_44b C0 h hl ih hm
def mX10_count (z : Nat) (v1 : Int32) (S : St) : Option (Int32 × St) :=
  if v1 = 0 then
    (rd (fA S 0) 4564 0).bind fun x6 =>
    some (x6, S)
  else
    if v1 = 1 then
      (rd (fA S 0) 4564 1).bind fun x5 =>
      some (x5, S)
    else
      if v1 = 3 then
        some ((fI S 0), S)
      else
        if v1 = 2 then
          mX10_count_44 z z 0 0 S
        else
          some ((-1), S)
set_option maxHeartbeats 4000000 in
set_option maxRecDepth 100000 in
theorem bX10_count {p : Program} {l : Launch} {e : Env} {s : State} {m : MethodId} {args : Array Value} {below : List Frame} {meth : Method} {c : Code} {D : va_G} {cA : ClassId} {ad : Nat → Nat} {A : Nat → Prop} {H : Heap} {locs : List Loc} {ls : Array Slot} {q : (Int32 × St)} {z : Nat} {v1 : Int32} {S : St} (C0 : sd_Cx RX10 cX10_count 4 (some .int) (Cond.code yX10_count cX10_count 4 (some .int) :: sd_big) p s m args meth c) (h : sd_Wd D vwCl cA sd_nw (wY ad cA) A s S H locs) (hl : lv_has ls 4 [(0, .ref (ad 0)), (1, .int v1)])  (hm : mX10_count z v1 S = some q) : W p l e rX10_count s m args below meth c H locs 0 0 (MQ below (sd_Qi D vwCl (wY ad cA) A q) args s 0 0 A) (F0 m 0 ls []) := by
  unfold mX10_count at hm
  have hx := C0.1
  have hb := C0.2.1
  refine lv_iload_n hx hb dX10_count_0 rfl (lv_at hl 1 rfl) ?_
  refine lv_if_ne (tgt := 11) hx hb dX10_count_1 (by decide) (fun c1 => ?_) (fun c1 => ?_)
  · replace hm := iq c1 hm
    refine lv_iload_n hx hb dX10_count_11 rfl (lv_at hl 1 rfl) ?_
    refine lv_iconst (v := 1) hx hb dX10_count_12 (by decide) ?_
    refine lv_icmp_ne (tgt := 23) hx hb dX10_count_13 (by decide) (fun c2 => ?_) (fun c2 => ?_)
    · replace hm := iq c2 hm
      refine lv_iload_n hx hb dX10_count_23 rfl (lv_at hl 1 rfl) ?_
      refine lv_iconst (v := 3) hx hb dX10_count_24 (by decide) ?_
      refine lv_icmp_ne (tgt := 33) hx hb dX10_count_25 (by decide) (fun c3 => ?_) (fun c3 => ?_)
      · replace hm := iq c3 hm
        refine lv_iload_n hx hb dX10_count_33 rfl (lv_at hl 1 rfl) ?_
        refine lv_iconst (v := 2) hx hb dX10_count_34 (by decide) ?_
        refine lv_icmp_eq (tgt := 40) hx hb dX10_count_35 (by decide) (fun c4 => ?_) (fun c4 => ?_)
        · replace hm := ip c4 hm
          refine lv_iconst (v := 0) hx hb dX10_count_40 (by decide) ?_
          refine lv_istore_n (lv' := [(2, .int 0), (0, .ref (ad 0)), (1, .int v1)]) hx hb dX10_count_41 rfl hl (by decide) rfl (fun ls hl => ?_)
          refine lv_iconst (v := 0) hx hb dX10_count_42 (by decide) ?_
          refine lv_istore_n (lv' := [(3, .int 0), (2, .int 0), (0, .ref (ad 0)), (1, .int v1)]) hx hb dX10_count_43 rfl hl (by decide) rfl (fun ls hl => ?_)
          exact lX10_count_44 C0 _ _ _ _ _ _ _ h (lv_sub hl [2, 1, 0] rfl) hm
        · replace hm := iq c4 hm
          refine lv_iconst (v := (-1)) hx hb dX10_count_38 (by decide) ?_
          exact sd_iret C0 h (Option.some.inj hm) dX10_count_39
      · replace hm := ip c3 hm
        refine lv_aload_n hx hb dX10_count_28 rfl (lv_at hl 0 rfl) ?_
        refine sd_get C0 h (C := RX10) (T := TX10) (N := 17) kcX10 0 (aY_0 ad cA _) rfl 3 (by decide) kfX10_39 (v := .int (fI S 0)) rfl dX10_count_29 ?_
        exact sd_iret C0 h (Option.some.inj hm) dX10_count_32
    · replace hm := ip c2 hm
      refine lv_aload_n hx hb dX10_count_16 rfl (lv_at hl 0 rfl) ?_
      refine sd_get C0 h (C := RX10) (T := TX10) (N := 17) kcX10 0 (aY_0 ad cA _) rfl 0 (by decide) kfX10_7 (v := .ref (ad 1)) rfl dX10_count_17 ?_
      refine lv_iconst (v := 1) hx hb dX10_count_20 (by decide) ?_
      obtain ⟨x5, hx5, hm⟩ := bs hm
      refine sd_rd C0 h 1 (aY_1 ad cA _) hx5 dX10_count_21 ?_
      exact sd_iret C0 h (Option.some.inj hm) dX10_count_22
  · replace hm := ip c1 hm
    refine lv_aload_n hx hb dX10_count_4 rfl (lv_at hl 0 rfl) ?_
    refine sd_get C0 h (C := RX10) (T := TX10) (N := 17) kcX10 0 (aY_0 ad cA _) rfl 0 (by decide) kfX10_7 (v := .ref (ad 1)) rfl dX10_count_5 ?_
    refine lv_iconst (v := 0) hx hb dX10_count_8 (by decide) ?_
    obtain ⟨x6, hx6, hm⟩ := bs hm
    refine sd_rd C0 h 1 (aY_1 ad cA _) hx6 dX10_count_9 ?_
    exact sd_iret C0 h (Option.some.inj hm) dX10_count_10
theorem tX10_count (l : Launch) (D : va_G) (cA : ClassId) (ad : Nat → Nat) {z : Nat} {S : St} {v1 : Int32} {q : (Int32 × St)} (hm : mX10_count z v1 S = some q) : sd_MI l D vwCl cA sd_nw (wY ad cA) yX10_count (Cond.code yX10_count cX10_count 4 (some .int) :: sd_big) rX10_count [.ref (ad 0), .int v1] S q :=
  sd_ofI (by decide +kernel) (Nat.le_of_ble_eq_true rfl) (fun _ _ _ _ _ _ _ _ _ _ C0 h hl => bX10_count C0 h (lv_sub hl [0, 1] rfl) hm)

def rX10_sounding : Room := { frames := 2, cells := 0, slots := 0, locals := 54 }
def mX10_sounding (z : Nat) (v1 : Int32) (v2 : Int32) (S : St) : Option (Int32 × St) :=
  (mX10_isSounding S v1).bind fun u1 =>
  if u1 = 0 then
    some ((-1), S)
  else
    (mX10_in S v2 0 10).bind fun u3 =>
    if u3 = 0 then
      some ((-1), S)
    else
      if v2 = 10 then
        (mX10_waits z v1 S).bind fun u7 =>
        if u7.1 = 0 then
          some (0, u7.2)
        else
          some (1, u7.2)
      else
        (mX10_of S v1 v2).bind fun u6 =>
        some (u6, S)
set_option maxHeartbeats 4000000 in
set_option maxRecDepth 100000 in
theorem bX10_sounding {p : Program} {l : Launch} {e : Env} {s : State} {m : MethodId} {args : Array Value} {below : List Frame} {meth : Method} {c : Code} {D : va_G} {cA : ClassId} {ad : Nat → Nat} {A : Nat → Prop} {H : Heap} {locs : List Loc} {ls : Array Slot} {q : (Int32 × St)} {z : Nat} {v1 : Int32} {v2 : Int32} {S : St} (C0 : sd_Cx RX10 cX10_sounding 3 (some .int) (Cond.code yX10_sounding cX10_sounding 3 (some .int) :: sd_big) p s m args meth c) (h : sd_Wd D vwCl cA sd_nw (wY ad cA) A s S H locs) (hl : lv_has ls 3 [(0, .ref (ad 0)), (1, .int v1), (2, .int v2)])  (hm : mX10_sounding z v1 v2 S = some q) : W p l e rX10_sounding s m args below meth c H locs 0 0 (MQ below (sd_Qi D vwCl (wY ad cA) A q) args s 0 0 A) (F0 m 0 ls []) := by
  unfold mX10_sounding at hm
  have hx := C0.1
  have hb := C0.2.1
  refine lv_aload_n hx hb dX10_sounding_0 rfl (lv_at hl 0 rfl) ?_
  refine lv_iload_n hx hb dX10_sounding_1 rfl (lv_at hl 1 rfl) ?_
  obtain ⟨u1, hu1, hm⟩ := bs hm
  refine sd_Vi C0 h kYX10_isSounding kmX10_93 0 (aY_0 ad cA _) rfl [.int v1] (tX10_isSounding l D cA ad hu1) rfl hl.1 rfl (Nat.le_of_ble_eq_true rfl) (by decide) dX10_sounding_2 (by decide) (fun H locs h => ?_)
  refine lv_if_eq (tgt := 18) hx hb dX10_sounding_5 (by decide) (fun c2 => ?_) (fun c2 => ?_)
  · replace hm := ip c2 hm
    refine lv_iconst (v := (-1)) hx hb dX10_sounding_18 (by decide) ?_
    exact sd_iret C0 h (Option.some.inj hm) dX10_sounding_19
  · replace hm := iq c2 hm
    refine lv_iload_n hx hb dX10_sounding_8 rfl (lv_at hl 2 rfl) ?_
    refine lv_iconst (v := 0) hx hb dX10_sounding_9 (by decide) ?_
    refine lv_bipush (v := 10) hx hb dX10_sounding_10 (by decide) ?_
    obtain ⟨u3, hu3, hm⟩ := bs hm
    refine sd_Si C0 h kYX10_in kmX10_46 [.int v2, .int 0, .int 10] (tX10_in l D cA ad hu3) rfl hl.1 rfl (Nat.le_of_ble_eq_true rfl) (by decide) dX10_sounding_12 (by decide) (fun H locs h => ?_)
    refine lv_if_ne (tgt := 20) hx hb dX10_sounding_15 (by decide) (fun c4 => ?_) (fun c4 => ?_)
    · replace hm := iq c4 hm
      refine lv_iload_n hx hb dX10_sounding_20 rfl (lv_at hl 2 rfl) ?_
      refine lv_bipush (v := 10) hx hb dX10_sounding_21 (by decide) ?_
      refine lv_icmp_ne (tgt := 42) hx hb dX10_sounding_23 (by decide) (fun c5 => ?_) (fun c5 => ?_)
      · replace hm := iq c5 hm
        refine lv_aload_n hx hb dX10_sounding_42 rfl (lv_at hl 0 rfl) ?_
        refine lv_iload_n hx hb dX10_sounding_43 rfl (lv_at hl 1 rfl) ?_
        refine lv_iload_n hx hb dX10_sounding_44 rfl (lv_at hl 2 rfl) ?_
        obtain ⟨u6, hu6, hm⟩ := bs hm
        refine sd_Vi C0 h kYX10_of kmX10_96 0 (aY_0 ad cA _) rfl [.int v1, .int v2] (tX10_of l D cA ad hu6) rfl hl.1 rfl (Nat.le_of_ble_eq_true rfl) (by decide) dX10_sounding_45 (by decide) (fun H locs h => ?_)
        exact sd_iret C0 h (Option.some.inj hm) dX10_sounding_48
      · replace hm := ip c5 hm
        refine lv_aload_n hx hb dX10_sounding_26 rfl (lv_at hl 0 rfl) ?_
        refine lv_iload_n hx hb dX10_sounding_27 rfl (lv_at hl 1 rfl) ?_
        obtain ⟨u7, hu7, hm⟩ := bs hm
        refine sd_Vi C0 h kYX10_waits kmX10_101 0 (aY_0 ad cA _) rfl [.int v1] (tX10_waits l D cA ad hu7) rfl hl.1 rfl (Nat.le_of_ble_eq_true rfl) (by decide) dX10_sounding_28 (by decide) (fun H locs h => ?_)
        refine lv_if_eq (tgt := 38) hx hb dX10_sounding_31 (by decide) (fun c8 => ?_) (fun c8 => ?_)
        · replace hm := ip c8 hm
          refine lv_iconst (v := 0) hx hb dX10_sounding_38 (by decide) ?_
          refine lv_goto (tgt := 48) hx hb dX10_sounding_39 (by decide) ?_
          exact sd_iret C0 h (Option.some.inj hm) dX10_sounding_48
        · replace hm := iq c8 hm
          refine lv_iconst (v := 1) hx hb dX10_sounding_34 (by decide) ?_
          refine lv_goto (tgt := 48) hx hb dX10_sounding_35 (by decide) ?_
          exact sd_iret C0 h (Option.some.inj hm) dX10_sounding_48
    · replace hm := ip c4 hm
      refine lv_iconst (v := (-1)) hx hb dX10_sounding_18 (by decide) ?_
      exact sd_iret C0 h (Option.some.inj hm) dX10_sounding_19
theorem tX10_sounding (l : Launch) (D : va_G) (cA : ClassId) (ad : Nat → Nat) {z : Nat} {S : St} {v1 : Int32} {v2 : Int32} {q : (Int32 × St)} (hm : mX10_sounding z v1 v2 S = some q) : sd_MI l D vwCl cA sd_nw (wY ad cA) yX10_sounding (Cond.code yX10_sounding cX10_sounding 3 (some .int) :: sd_big) rX10_sounding [.ref (ad 0), .int v1, .int v2] S q :=
  sd_ofI (by decide +kernel) (Nat.le_of_ble_eq_true rfl) (fun _ _ _ _ _ _ _ _ _ _ C0 h hl => bX10_sounding C0 h (lv_sub hl [0, 1, 2] rfl) hm)

def rX10_below : Room := { frames := 0, cells := 0, slots := 0, locals := 0 }
def mX10_below (S : St) (w0 : Int64) (w2 : Int64) : Option Int64 :=
  if w2 = 0 then none else
  if w2 = 0 then none else
  if 0 ≤ (lg_cmp (w0 - w0 / w2 * w2) 0) then
    some (w0 / w2)
  else
    some ((w0 / w2) - 1)
set_option maxHeartbeats 4000000 in
set_option maxRecDepth 100000 in
theorem bX10_below {p : Program} {l : Launch} {e : Env} {s : State} {m : MethodId} {args : Array Value} {below : List Frame} {meth : Method} {c : Code} {D : va_G} {cA : ClassId} {ad : Nat → Nat} {A : Nat → Prop} {H : Heap} {locs : List Loc} {ls : Array Slot} {q : Int64} {S : St} {w0 : Int64} {w2 : Int64} (C0 : sd_Cx RX10 cX10_below 6 (some .long) (Cond.code yX10_below cX10_below 6 (some .long) :: sd_big) p s m args meth c) (h : sd_Wd D vwCl cA sd_nw (wY ad cA) A s S H locs) (hl : lv_has ls 6 [(0, .long w0), (2, .long w2)])  (hm : mX10_below S w0 w2 = some q) : W p l e rX10_below s m args below meth c H locs 0 0 (MQ below (sd_Ql D vwCl (wY ad cA) A (q, S)) args s 0 0 A) (F0 m 0 ls []) := by
  unfold mX10_below at hm
  have hx := C0.1
  have hb := C0.2.1
  refine lv_lload_n hx hb dX10_below_0 rfl (lv_at hl 0 rfl) ?_
  refine lv_lload_n hx hb dX10_below_1 rfl (lv_at hl 1 rfl) ?_
  obtain ⟨n1, hm⟩ := dv hm
  refine lv_ldiv hx hb dX10_below_2 n1 ?_
  refine lv_lstore (lv' := [(4, .long (w0 / w2)), (0, .long w0), (2, .long w2)]) hx hb dX10_below_3 hl (by decide) rfl (fun ls hl => ?_)
  refine lv_lload_n hx hb dX10_below_5 rfl (lv_at hl 1 rfl) ?_
  refine lv_lload_n hx hb dX10_below_6 rfl (lv_at hl 2 rfl) ?_
  obtain ⟨n2, hm⟩ := dv hm
  refine lv_lrem hx hb dX10_below_7 n2 ?_
  refine lv_lconst (v := 0) hx hb dX10_below_8 (by decide) ?_
  refine W.lcmp hx hb dX10_below_9 ?_
  refine lv_if_ge (tgt := 20) hx hb dX10_below_10 (by decide) (fun c3 => ?_) (fun c3 => ?_)
  · replace hm := ip c3 hm
    refine lv_lload hx hb dX10_below_20 (lv_at hl 0 rfl) ?_
    exact sd_lret C0 h (congrArg (fun x => (x, S)) (Option.some.inj hm)) dX10_below_22
  · replace hm := iq c3 hm
    refine lv_lload hx hb dX10_below_13 (lv_at hl 0 rfl) ?_
    refine lv_lconst (v := 1) hx hb dX10_below_15 (by decide) ?_
    refine lv_lsub hx hb dX10_below_16 ?_
    refine lv_goto (tgt := 22) hx hb dX10_below_17 (by decide) ?_
    exact sd_lret C0 h (congrArg (fun x => (x, S)) (Option.some.inj hm)) dX10_below_22
theorem tX10_below (l : Launch) (D : va_G) (cA : ClassId) (ad : Nat → Nat) {S : St} {w0 : Int64} {w2 : Int64} {q : Int64} (hm : mX10_below S w0 w2 = some q) : sd_ML l D vwCl cA sd_nw (wY ad cA) yX10_below (Cond.code yX10_below cX10_below 6 (some .long) :: sd_big) rX10_below [.long w0, .long w2] S (q, S) :=
  sd_ofL (by decide +kernel) (Nat.le_of_ble_eq_true rfl) (fun _ _ _ _ _ _ _ _ _ _ C0 h hl => bX10_below C0 h (lv_sub hl [0, 1] rfl) hm)

def rX10_corrected : Room := { frames := 1, cells := 0, slots := 0, locals := 33 }
def mX10_corrected_71 (z : Nat) (v1 : Int32) (v2 : Int32) (t0 : Int64) (S : St) : Option (Int32 × St) :=
  (mX10_of S v1 3).bind fun u1 =>
  (mX10_lineOf S v2 2).bind fun u2 =>
  (mX10_below S (((((u1).toInt64 * t0) * (fL S 1)) + ((2000 * (u2).toInt64) * (fL S 1))) - (2000 * (fL S 0))) (2000 * (fL S 1))).bind fun u3 =>
  some ((u3).toInt32, S)
set_option maxHeartbeats 4000000 in
set_option maxRecDepth 100000 in
theorem bX10_corrected_71 {p : Program} {l : Launch} {e : Env} {s : State} {m : MethodId} {args : Array Value} {below : List Frame} {meth : Method} {c : Code} {D : va_G} {cA : ClassId} {ad : Nat → Nat} {A : Nat → Prop} {H : Heap} {locs : List Loc} {ls : Array Slot} {q : (Int32 × St)} {z : Nat} {v1 : Int32} {v2 : Int32} {t0 : Int64} {S : St} (C0 : sd_Cx RX10 cX10_corrected 7 (some .int) (Cond.code yX10_corrected cX10_corrected 7 (some .int) :: sd_big) p s m args meth c) (h : sd_Wd D vwCl cA sd_nw (wY ad cA) A s S H locs) (hl : lv_has ls 7 [(0, .ref (ad 0)), (1, .int v1), (2, .int v2)])  (hm : mX10_corrected_71 z v1 v2 t0 S = some q) : W p l e rX10_corrected s m args below meth c H locs 0 0 (MQ below (sd_Qi D vwCl (wY ad cA) A q) args s 0 0 A) (F0 m 71 ls [.long t0]) := by
  unfold mX10_corrected_71 at hm
  have hx := C0.1
  have hb := C0.2.1
  refine lv_lstore_n (lv' := [(3, .long t0), (0, .ref (ad 0)), (1, .int v1), (2, .int v2)]) hx hb dX10_corrected_71 rfl hl (by decide) rfl (fun ls hl => ?_)
  refine lv_aload_n hx hb dX10_corrected_72 rfl (lv_at hl 1 rfl) ?_
  refine lv_iload_n hx hb dX10_corrected_73 rfl (lv_at hl 2 rfl) ?_
  refine lv_iconst (v := 3) hx hb dX10_corrected_74 (by decide) ?_
  obtain ⟨u1, hu1, hm⟩ := bs hm
  refine sd_Vi C0 h kYX10_of kmX10_96 0 (aY_0 ad cA _) rfl [.int v1, .int 3] (tX10_of l D cA ad hu1) rfl hl.1 rfl (Nat.le_of_ble_eq_true rfl) (by decide) dX10_corrected_75 (by decide) (fun H locs h => ?_)
  refine lv_i2l hx hb dX10_corrected_78 (v := (u1).toInt64) rfl ?_
  refine lv_lload_n hx hb dX10_corrected_79 rfl (lv_at hl 0 rfl) ?_
  refine lv_lmul hx hb dX10_corrected_80 ?_
  refine lv_aload_n hx hb dX10_corrected_81 rfl (lv_at hl 1 rfl) ?_
  refine sd_get C0 h (C := RX10) (T := TX10) (N := 17) kcX10 0 (aY_0 ad cA _) rfl 7 (by decide) kfX10_57 (v := .long (fL S 1)) rfl dX10_corrected_82 ?_
  refine lv_lmul hx hb dX10_corrected_85 ?_
  refine lv_ldc2 (v := 2000) hx hb C0.2.2.2.1 (C0.2.2.2.2.1 _ (List.mem_cons_of_mem _ kkX10_99)) dX10_corrected_86 ?_
  refine lv_aload_n hx hb dX10_corrected_89 rfl (lv_at hl 1 rfl) ?_
  refine lv_iload_n hx hb dX10_corrected_90 rfl (lv_at hl 3 rfl) ?_
  refine lv_iconst (v := 2) hx hb dX10_corrected_91 (by decide) ?_
  obtain ⟨u2, hu2, hm⟩ := bs hm
  refine sd_Vi C0 h kYX10_lineOf kmX10_79 0 (aY_0 ad cA _) rfl [.int v2, .int 2] (tX10_lineOf l D cA ad hu2) rfl hl.1 rfl (Nat.le_of_ble_eq_true rfl) (by decide) dX10_corrected_92 (by decide) (fun H locs h => ?_)
  refine lv_i2l hx hb dX10_corrected_95 (v := (u2).toInt64) rfl ?_
  refine lv_lmul hx hb dX10_corrected_96 ?_
  refine lv_aload_n hx hb dX10_corrected_97 rfl (lv_at hl 1 rfl) ?_
  refine sd_get C0 h (C := RX10) (T := TX10) (N := 17) kcX10 0 (aY_0 ad cA _) rfl 7 (by decide) kfX10_57 (v := .long (fL S 1)) rfl dX10_corrected_98 ?_
  refine lv_lmul hx hb dX10_corrected_101 ?_
  refine lv_ladd hx hb dX10_corrected_102 ?_
  refine lv_ldc2 (v := 2000) hx hb C0.2.2.2.1 (C0.2.2.2.2.1 _ (List.mem_cons_of_mem _ kkX10_99)) dX10_corrected_103 ?_
  refine lv_aload_n hx hb dX10_corrected_106 rfl (lv_at hl 1 rfl) ?_
  refine sd_get C0 h (C := RX10) (T := TX10) (N := 17) kcX10 0 (aY_0 ad cA _) rfl 6 (by decide) kfX10_61 (v := .long (fL S 0)) rfl dX10_corrected_107 ?_
  refine lv_lmul hx hb dX10_corrected_110 ?_
  refine lv_lsub hx hb dX10_corrected_111 ?_
  refine lv_lstore (lv' := [(5, .long (((((u1).toInt64 * t0) * (fL S 1)) + ((2000 * (u2).toInt64) * (fL S 1))) - (2000 * (fL S 0)))), (3, .long t0), (0, .ref (ad 0)), (1, .int v1), (2, .int v2)]) hx hb dX10_corrected_112 hl (by decide) rfl (fun ls hl => ?_)
  refine lv_lload hx hb dX10_corrected_114 (lv_at hl 0 rfl) ?_
  refine lv_ldc2 (v := 2000) hx hb C0.2.2.2.1 (C0.2.2.2.2.1 _ (List.mem_cons_of_mem _ kkX10_99)) dX10_corrected_116 ?_
  refine lv_aload_n hx hb dX10_corrected_119 rfl (lv_at hl 2 rfl) ?_
  refine sd_get C0 h (C := RX10) (T := TX10) (N := 17) kcX10 0 (aY_0 ad cA _) rfl 7 (by decide) kfX10_57 (v := .long (fL S 1)) rfl dX10_corrected_120 ?_
  refine lv_lmul hx hb dX10_corrected_123 ?_
  obtain ⟨u3, hu3, hm⟩ := bs hm
  refine sd_Sl C0 h kYX10_below kmX10_68 [.long (((((u1).toInt64 * t0) * (fL S 1)) + ((2000 * (u2).toInt64) * (fL S 1))) - (2000 * (fL S 0))), .long (2000 * (fL S 1))] (tX10_below l D cA ad hu3) rfl hl.1 rfl (Nat.le_of_ble_eq_true rfl) (by decide) dX10_corrected_124 (by decide) (fun H locs h => ?_)
  refine lv_l2i hx hb dX10_corrected_127 (v := (u3).toInt32) rfl ?_
  exact sd_iret C0 h (Option.some.inj hm) dX10_corrected_128
def mX10_corrected (z : Nat) (v1 : Int32) (S : St) : Option (Int32 × St) :=
  (mX10_of S v1 0).bind fun u1 =>
  if u1 < 3 then
    (mX10_of S v1 4).bind fun u3 =>
    (mX10_of S v1 6).bind fun u4 =>
    (mX10_tideAt z u3 u4 S).bind fun u5 =>
    if u5.1 = 0 then
      some ((-30000), u5.2)
    else
      (mX10_of u5.2 v1 5).bind fun u7 =>
      (mX10_of u5.2 v1 0).bind fun u8 =>
      if u8 = 1 then
        (mX10_lineOf u5.2 u7 1).bind fun u10 =>
        mX10_corrected_71 z v1 u7 ((u10).toInt64) u5.2
      else
        mX10_corrected_71 z v1 u7 2000 u5.2
  else
    (mX10_of S v1 3).bind fun u11 =>
    some (u11, S)
set_option maxHeartbeats 4000000 in
set_option maxRecDepth 100000 in
theorem bX10_corrected {p : Program} {l : Launch} {e : Env} {s : State} {m : MethodId} {args : Array Value} {below : List Frame} {meth : Method} {c : Code} {D : va_G} {cA : ClassId} {ad : Nat → Nat} {A : Nat → Prop} {H : Heap} {locs : List Loc} {ls : Array Slot} {q : (Int32 × St)} {z : Nat} {v1 : Int32} {S : St} (C0 : sd_Cx RX10 cX10_corrected 7 (some .int) (Cond.code yX10_corrected cX10_corrected 7 (some .int) :: sd_big) p s m args meth c) (h : sd_Wd D vwCl cA sd_nw (wY ad cA) A s S H locs) (hl : lv_has ls 7 [(0, .ref (ad 0)), (1, .int v1)])  (hm : mX10_corrected z v1 S = some q) : W p l e rX10_corrected s m args below meth c H locs 0 0 (MQ below (sd_Qi D vwCl (wY ad cA) A q) args s 0 0 A) (F0 m 0 ls []) := by
  unfold mX10_corrected at hm
  have hx := C0.1
  have hb := C0.2.1
  refine lv_aload_n hx hb dX10_corrected_0 rfl (lv_at hl 0 rfl) ?_
  refine lv_iload_n hx hb dX10_corrected_1 rfl (lv_at hl 1 rfl) ?_
  refine lv_iconst (v := 0) hx hb dX10_corrected_2 (by decide) ?_
  obtain ⟨u1, hu1, hm⟩ := bs hm
  refine sd_Vi C0 h kYX10_of kmX10_96 0 (aY_0 ad cA _) rfl [.int v1, .int 0] (tX10_of l D cA ad hu1) rfl hl.1 rfl (Nat.le_of_ble_eq_true rfl) (by decide) dX10_corrected_3 (by decide) (fun H locs h => ?_)
  refine lv_iconst (v := 3) hx hb dX10_corrected_6 (by decide) ?_
  refine lv_icmp_lt (tgt := 17) hx hb dX10_corrected_7 (by decide) (fun c2 => ?_) (fun c2 => ?_)
  · replace hm := ip c2 hm
    refine lv_aload_n hx hb dX10_corrected_17 rfl (lv_at hl 0 rfl) ?_
    refine lv_aload_n hx hb dX10_corrected_18 rfl (lv_at hl 0 rfl) ?_
    refine lv_iload_n hx hb dX10_corrected_19 rfl (lv_at hl 1 rfl) ?_
    refine lv_iconst (v := 4) hx hb dX10_corrected_20 (by decide) ?_
    obtain ⟨u3, hu3, hm⟩ := bs hm
    refine sd_Vi C0 h kYX10_of kmX10_96 0 (aY_0 ad cA _) rfl [.int v1, .int 4] (tX10_of l D cA ad hu3) rfl hl.1 rfl (Nat.le_of_ble_eq_true rfl) (by decide) dX10_corrected_21 (by decide) (fun H locs h => ?_)
    refine lv_aload_n hx hb dX10_corrected_24 rfl (lv_at hl 0 rfl) ?_
    refine lv_iload_n hx hb dX10_corrected_25 rfl (lv_at hl 1 rfl) ?_
    refine lv_bipush (v := 6) hx hb dX10_corrected_26 (by decide) ?_
    obtain ⟨u4, hu4, hm⟩ := bs hm
    refine sd_Vi C0 h kYX10_of kmX10_96 0 (aY_0 ad cA _) rfl [.int v1, .int 6] (tX10_of l D cA ad hu4) rfl hl.1 rfl (Nat.le_of_ble_eq_true rfl) (by decide) dX10_corrected_28 (by decide) (fun H locs h => ?_)
    obtain ⟨u5, hu5, hm⟩ := bs hm
    refine sd_Vi C0 h kYX10_tideAt kmX10_64 0 (aY_0 ad cA _) rfl [.int u3, .int u4] (tX10_tideAt l D cA ad hu5) rfl hl.1 rfl (Nat.le_of_ble_eq_true rfl) (by decide) dX10_corrected_31 (by decide) (fun H locs h => ?_)
    refine lv_if_ne (tgt := 41) hx hb dX10_corrected_34 (by decide) (fun c6 => ?_) (fun c6 => ?_)
    · replace hm := iq c6 hm
      refine lv_aload_n hx hb dX10_corrected_41 rfl (lv_at hl 0 rfl) ?_
      refine lv_iload_n hx hb dX10_corrected_42 rfl (lv_at hl 1 rfl) ?_
      refine lv_iconst (v := 5) hx hb dX10_corrected_43 (by decide) ?_
      obtain ⟨u7, hu7, hm⟩ := bs hm
      refine sd_Vi C0 h kYX10_of kmX10_96 0 (aY_0 ad cA _) rfl [.int v1, .int 5] (tX10_of l D cA ad hu7) rfl hl.1 rfl (Nat.le_of_ble_eq_true rfl) (by decide) dX10_corrected_44 (by decide) (fun H locs h => ?_)
      refine lv_istore_n (lv' := [(2, .int u7), (0, .ref (ad 0)), (1, .int v1)]) hx hb dX10_corrected_47 rfl hl (by decide) rfl (fun ls hl => ?_)
      refine lv_aload_n hx hb dX10_corrected_48 rfl (lv_at hl 1 rfl) ?_
      refine lv_iload_n hx hb dX10_corrected_49 rfl (lv_at hl 2 rfl) ?_
      refine lv_iconst (v := 0) hx hb dX10_corrected_50 (by decide) ?_
      obtain ⟨u8, hu8, hm⟩ := bs hm
      refine sd_Vi C0 h kYX10_of kmX10_96 0 (aY_0 ad cA _) rfl [.int v1, .int 0] (tX10_of l D cA ad hu8) rfl hl.1 rfl (Nat.le_of_ble_eq_true rfl) (by decide) dX10_corrected_51 (by decide) (fun H locs h => ?_)
      refine lv_iconst (v := 1) hx hb dX10_corrected_54 (by decide) ?_
      refine lv_icmp_ne (tgt := 68) hx hb dX10_corrected_55 (by decide) (fun c9 => ?_) (fun c9 => ?_)
      · replace hm := iq c9 hm
        refine lv_ldc2 (v := 2000) hx hb C0.2.2.2.1 (C0.2.2.2.2.1 _ (List.mem_cons_of_mem _ kkX10_99)) dX10_corrected_68 ?_
        exact bX10_corrected_71 C0 h (lv_sub hl [1, 2, 0] rfl) hm
      · replace hm := ip c9 hm
        refine lv_aload_n hx hb dX10_corrected_58 rfl (lv_at hl 1 rfl) ?_
        refine lv_iload_n hx hb dX10_corrected_59 rfl (lv_at hl 0 rfl) ?_
        refine lv_iconst (v := 1) hx hb dX10_corrected_60 (by decide) ?_
        obtain ⟨u10, hu10, hm⟩ := bs hm
        refine sd_Vi C0 h kYX10_lineOf kmX10_79 0 (aY_0 ad cA _) rfl [.int u7, .int 1] (tX10_lineOf l D cA ad hu10) rfl hl.1 rfl (Nat.le_of_ble_eq_true rfl) (by decide) dX10_corrected_61 (by decide) (fun H locs h => ?_)
        refine lv_i2l hx hb dX10_corrected_64 (v := (u10).toInt64) rfl ?_
        refine lv_goto (tgt := 71) hx hb dX10_corrected_65 (by decide) ?_
        exact bX10_corrected_71 C0 h (lv_sub hl [1, 2, 0] rfl) hm
    · replace hm := ip c6 hm
      refine lv_sipush (v := (-30000)) hx hb dX10_corrected_37 (by decide) ?_
      exact sd_iret C0 h (Option.some.inj hm) dX10_corrected_40
  · replace hm := iq c2 hm
    refine lv_aload_n hx hb dX10_corrected_10 rfl (lv_at hl 0 rfl) ?_
    refine lv_iload_n hx hb dX10_corrected_11 rfl (lv_at hl 1 rfl) ?_
    refine lv_iconst (v := 3) hx hb dX10_corrected_12 (by decide) ?_
    obtain ⟨u11, hu11, hm⟩ := bs hm
    refine sd_Vi C0 h kYX10_of kmX10_96 0 (aY_0 ad cA _) rfl [.int v1, .int 3] (tX10_of l D cA ad hu11) rfl hl.1 rfl (Nat.le_of_ble_eq_true rfl) (by decide) dX10_corrected_13 (by decide) (fun H locs h => ?_)
    exact sd_iret C0 h (Option.some.inj hm) dX10_corrected_16
theorem tX10_corrected (l : Launch) (D : va_G) (cA : ClassId) (ad : Nat → Nat) {z : Nat} {S : St} {v1 : Int32} {q : (Int32 × St)} (hm : mX10_corrected z v1 S = some q) : sd_MI l D vwCl cA sd_nw (wY ad cA) yX10_corrected (Cond.code yX10_corrected cX10_corrected 7 (some .int) :: sd_big) rX10_corrected [.ref (ad 0), .int v1] S q :=
  sd_ofI (by decide +kernel) (Nat.le_of_ble_eq_true rfl) (fun _ _ _ _ _ _ _ _ _ _ C0 h hl => bX10_corrected C0 h (lv_sub hl [0, 1] rfl) hm)

def rX10_depth : Room := { frames := 2, cells := 0, slots := 0, locals := 59 }
def mX10_depth (z : Nat) (v1 : Int32) (S : St) : Option (Int32 × St) :=
  (mX10_isSounding S v1).bind fun u1 =>
  if u1 = 0 then
    some ((-30000), S)
  else
    (mX10_corrected z v1 S).bind fun u3 =>
    some (u3.1, u3.2)
set_option maxHeartbeats 4000000 in
set_option maxRecDepth 100000 in
theorem bX10_depth {p : Program} {l : Launch} {e : Env} {s : State} {m : MethodId} {args : Array Value} {below : List Frame} {meth : Method} {c : Code} {D : va_G} {cA : ClassId} {ad : Nat → Nat} {A : Nat → Prop} {H : Heap} {locs : List Loc} {ls : Array Slot} {q : (Int32 × St)} {z : Nat} {v1 : Int32} {S : St} (C0 : sd_Cx RX10 cX10_depth 2 (some .int) (Cond.code yX10_depth cX10_depth 2 (some .int) :: sd_big) p s m args meth c) (h : sd_Wd D vwCl cA sd_nw (wY ad cA) A s S H locs) (hl : lv_has ls 2 [(0, .ref (ad 0)), (1, .int v1)])  (hm : mX10_depth z v1 S = some q) : W p l e rX10_depth s m args below meth c H locs 0 0 (MQ below (sd_Qi D vwCl (wY ad cA) A q) args s 0 0 A) (F0 m 0 ls []) := by
  unfold mX10_depth at hm
  have hx := C0.1
  have hb := C0.2.1
  refine lv_aload_n hx hb dX10_depth_0 rfl (lv_at hl 0 rfl) ?_
  refine lv_iload_n hx hb dX10_depth_1 rfl (lv_at hl 1 rfl) ?_
  obtain ⟨u1, hu1, hm⟩ := bs hm
  refine sd_Vi C0 h kYX10_isSounding kmX10_93 0 (aY_0 ad cA _) rfl [.int v1] (tX10_isSounding l D cA ad hu1) rfl hl.1 rfl (Nat.le_of_ble_eq_true rfl) (by decide) dX10_depth_2 (by decide) (fun H locs h => ?_)
  refine lv_if_eq (tgt := 16) hx hb dX10_depth_5 (by decide) (fun c2 => ?_) (fun c2 => ?_)
  · replace hm := ip c2 hm
    refine lv_sipush (v := (-30000)) hx hb dX10_depth_16 (by decide) ?_
    exact sd_iret C0 h (Option.some.inj hm) dX10_depth_19
  · replace hm := iq c2 hm
    refine lv_aload_n hx hb dX10_depth_8 rfl (lv_at hl 0 rfl) ?_
    refine lv_iload_n hx hb dX10_depth_9 rfl (lv_at hl 1 rfl) ?_
    obtain ⟨u3, hu3, hm⟩ := bs hm
    refine sd_Vi C0 h kYX10_corrected kmX10_104 0 (aY_0 ad cA _) rfl [.int v1] (tX10_corrected l D cA ad hu3) rfl hl.1 rfl (Nat.le_of_ble_eq_true rfl) (by decide) dX10_depth_10 (by decide) (fun H locs h => ?_)
    refine lv_goto (tgt := 19) hx hb dX10_depth_13 (by decide) ?_
    exact sd_iret C0 h (Option.some.inj hm) dX10_depth_19
theorem tX10_depth (l : Launch) (D : va_G) (cA : ClassId) (ad : Nat → Nat) {z : Nat} {S : St} {v1 : Int32} {q : (Int32 × St)} (hm : mX10_depth z v1 S = some q) : sd_MI l D vwCl cA sd_nw (wY ad cA) yX10_depth (Cond.code yX10_depth cX10_depth 2 (some .int) :: sd_big) rX10_depth [.ref (ad 0), .int v1] S q :=
  sd_ofI (by decide +kernel) (Nat.le_of_ble_eq_true rfl) (fun _ _ _ _ _ _ _ _ _ _ C0 h hl => bX10_depth C0 h (lv_sub hl [0, 1] rfl) hm)

def rX10_boat : Room := { frames := 2, cells := 0, slots := 0, locals := 43 }
def mX10_boat_64 (z : Nat) (S : St) (rc36 : Int32 → Int32 → Option Int32) (v1 : Int32) (v4 : Int32) (t0 : Int32) (t1 : Int32) : Option Int32 :=
  rc36 (t0 + t1) (v4 + 1)
set_option maxHeartbeats 4000000 in
set_option maxRecDepth 100000 in
theorem bX10_boat_64 {p : Program} {l : Launch} {e : Env} {s : State} {m : MethodId} {args : Array Value} {below : List Frame} {meth : Method} {c : Code} {D : va_G} {cA : ClassId} {ad : Nat → Nat} {A : Nat → Prop} {H : Heap} {locs : List Loc} {ls : Array Slot} {q : Int32} {z : Nat} {S : St} {rc36 : Int32 → Int32 → Option Int32} {v1 : Int32} {v4 : Int32} {t0 : Int32} {t1 : Int32} (C0 : sd_Cx RX10 cX10_boat 5 (some .int) (Cond.code yX10_boat cX10_boat 5 (some .int) :: sd_big) p s m args meth c) (h : sd_Wd D vwCl cA sd_nw (wY ad cA) A s S H locs) (hl : lv_has ls 5 [(0, .ref (ad 0)), (1, .int v1), (4, .int v4)]) (hrc36 : ∀ (v3 : Int32) (v4 : Int32) (H : Heap) (locs : List Loc) (ls : Array Slot), sd_Wd D vwCl cA sd_nw (wY ad cA) A s S H locs → lv_has ls 5 [(0, .ref (ad 0)), (1, .int v1), (3, .int v3), (4, .int v4)] → rc36 v3 v4 = some q → W p l e rX10_boat s m args below meth c H locs 0 0 (MQ below (sd_Qi D vwCl (wY ad cA) A (q, S)) args s 0 0 A) (F0 m 36 ls [])) (hm : mX10_boat_64 z S rc36 v1 v4 t0 t1 = some q) : W p l e rX10_boat s m args below meth c H locs 0 0 (MQ below (sd_Qi D vwCl (wY ad cA) A (q, S)) args s 0 0 A) (F0 m 64 ls [.int t1, .int t0]) := by
  unfold mX10_boat_64 at hm
  have hx := C0.1
  have hb := C0.2.1
  refine lv_iadd hx hb dX10_boat_64 ?_
  refine lv_istore_n (lv' := [(3, .int (t0 + t1)), (0, .ref (ad 0)), (1, .int v1), (4, .int v4)]) hx hb dX10_boat_65 rfl hl (by decide) rfl (fun ls hl => ?_)
  refine lv_iinc (v := (v4 + 1)) (lv' := [(4, .int (v4 + 1)), (3, .int (t0 + t1)), (0, .ref (ad 0)), (1, .int v1)]) hx hb dX10_boat_66 hl (k := 3) rfl rfl (by decide) rfl (fun ls hl => ?_)
  refine lv_goto (tgt := 36) hx hb dX10_boat_69 (by decide) ?_
  exact hrc36 _ _ _ _ _ h (lv_sub hl [2, 3, 1, 0] rfl) hm
def mX10_boat_36b (z : Nat) (S : St) (rc36 : Int32 → Int32 → Option Int32) (v1 : Int32) (v3 : Int32) (v4 : Int32) : Option Int32 :=
  (rd (fA S 0) 4564 1).bind fun x1 =>
  if x1 ≤ v4 then
    some v3
  else
    (mX10_of S v4 5).bind fun u3 =>
    if u3 = v1 then
      mX10_boat_64 z S rc36 v1 v4 v3 1
    else
      mX10_boat_64 z S rc36 v1 v4 v3 0
set_option maxHeartbeats 4000000 in
set_option maxRecDepth 100000 in
theorem bX10_boat_36b {p : Program} {l : Launch} {e : Env} {s : State} {m : MethodId} {args : Array Value} {below : List Frame} {meth : Method} {c : Code} {D : va_G} {cA : ClassId} {ad : Nat → Nat} {A : Nat → Prop} {H : Heap} {locs : List Loc} {ls : Array Slot} {q : Int32} {z : Nat} {S : St} {rc36 : Int32 → Int32 → Option Int32} {v1 : Int32} {v3 : Int32} {v4 : Int32} (C0 : sd_Cx RX10 cX10_boat 5 (some .int) (Cond.code yX10_boat cX10_boat 5 (some .int) :: sd_big) p s m args meth c) (h : sd_Wd D vwCl cA sd_nw (wY ad cA) A s S H locs) (hl : lv_has ls 5 [(0, .ref (ad 0)), (1, .int v1), (3, .int v3), (4, .int v4)]) (hrc36 : ∀ (v3 : Int32) (v4 : Int32) (H : Heap) (locs : List Loc) (ls : Array Slot), sd_Wd D vwCl cA sd_nw (wY ad cA) A s S H locs → lv_has ls 5 [(0, .ref (ad 0)), (1, .int v1), (3, .int v3), (4, .int v4)] → rc36 v3 v4 = some q → W p l e rX10_boat s m args below meth c H locs 0 0 (MQ below (sd_Qi D vwCl (wY ad cA) A (q, S)) args s 0 0 A) (F0 m 36 ls [])) (hm : mX10_boat_36b z S rc36 v1 v3 v4 = some q) : W p l e rX10_boat s m args below meth c H locs 0 0 (MQ below (sd_Qi D vwCl (wY ad cA) A (q, S)) args s 0 0 A) (F0 m 36 ls []) := by
  unfold mX10_boat_36b at hm
  have hx := C0.1
  have hb := C0.2.1
  refine lv_iload hx hb dX10_boat_36 (lv_at hl 3 rfl) ?_
  refine lv_aload_n hx hb dX10_boat_38 rfl (lv_at hl 0 rfl) ?_
  refine sd_get C0 h (C := RX10) (T := TX10) (N := 17) kcX10 0 (aY_0 ad cA _) rfl 0 (by decide) kfX10_7 (v := .ref (ad 1)) rfl dX10_boat_39 ?_
  refine lv_iconst (v := 1) hx hb dX10_boat_42 (by decide) ?_
  obtain ⟨x1, hx1, hm⟩ := bs hm
  refine sd_rd C0 h 1 (aY_1 ad cA _) hx1 dX10_boat_43 ?_
  refine lv_icmp_ge (tgt := 72) hx hb dX10_boat_44 (by decide) (fun c2 => ?_) (fun c2 => ?_)
  · replace hm := ip c2 hm
    refine lv_iload_n hx hb dX10_boat_72 rfl (lv_at hl 2 rfl) ?_
    exact sd_iret C0 h (congrArg (fun x => (x, S)) (Option.some.inj hm)) dX10_boat_73
  · replace hm := iq c2 hm
    refine lv_iload_n hx hb dX10_boat_47 rfl (lv_at hl 2 rfl) ?_
    refine lv_aload_n hx hb dX10_boat_48 rfl (lv_at hl 0 rfl) ?_
    refine lv_iload hx hb dX10_boat_49 (lv_at hl 3 rfl) ?_
    refine lv_iconst (v := 5) hx hb dX10_boat_51 (by decide) ?_
    obtain ⟨u3, hu3, hm⟩ := bs hm
    refine sd_Vi C0 h kYX10_of kmX10_96 0 (aY_0 ad cA _) rfl [.int v4, .int 5] (tX10_of l D cA ad hu3) rfl hl.1 rfl (Nat.le_of_ble_eq_true rfl) (by decide) dX10_boat_52 (by decide) (fun H locs h => ?_)
    refine lv_iload_n hx hb dX10_boat_55 rfl (lv_at hl 1 rfl) ?_
    refine lv_icmp_ne (tgt := 63) hx hb dX10_boat_56 (by decide) (fun c4 => ?_) (fun c4 => ?_)
    · replace hm := iq c4 hm
      refine lv_iconst (v := 0) hx hb dX10_boat_63 (by decide) ?_
      exact bX10_boat_64 C0 h (lv_sub hl [0, 1, 3] rfl) hrc36 hm
    · replace hm := ip c4 hm
      refine lv_iconst (v := 1) hx hb dX10_boat_59 (by decide) ?_
      refine lv_goto (tgt := 64) hx hb dX10_boat_60 (by decide) ?_
      exact bX10_boat_64 C0 h (lv_sub hl [0, 1, 3] rfl) hrc36 hm
def mX10_boat_36 (z : Nat) (S : St) (v1 : Int32) : Nat → Int32 → Int32 → Option Int32
  | 0, _, _ => none
  | n + 1, v3, v4 => mX10_boat_36b z S (mX10_boat_36 z S v1 n) v1 v3 v4
set_option maxHeartbeats 4000000 in
set_option maxRecDepth 100000 in
theorem lX10_boat_36 {p : Program} {l : Launch} {e : Env} {s : State} {m : MethodId} {args : Array Value} {below : List Frame} {meth : Method} {c : Code} {D : va_G} {cA : ClassId} {ad : Nat → Nat} {A : Nat → Prop} {q : Int32} {z : Nat} {S : St} {v1 : Int32} (C0 : sd_Cx RX10 cX10_boat 5 (some .int) (Cond.code yX10_boat cX10_boat 5 (some .int) :: sd_big) p s m args meth c)  : ∀ (n : Nat) (v3 : Int32) (v4 : Int32) (H : Heap) (locs : List Loc) (ls : Array Slot), sd_Wd D vwCl cA sd_nw (wY ad cA) A s S H locs → lv_has ls 5 [(0, .ref (ad 0)), (1, .int v1), (3, .int v3), (4, .int v4)] → mX10_boat_36 z S v1 n v3 v4 = some q → W p l e rX10_boat s m args below meth c H locs 0 0 (MQ below (sd_Qi D vwCl (wY ad cA) A (q, S)) args s 0 0 A) (F0 m 36 ls []) := by
  intro n
  induction n with
  | zero =>
    intro v3 v4 H locs ls h hl hm
    exact nomatch (show none = some q from hm)
  | succ n ih =>
    intro v3 v4 H locs ls h hl hm
    exact bX10_boat_36b C0 h hl ih hm
def mX10_boat (z : Nat) (S : St) (v1 : Int32) (v2 : Int32) : Option Int32 :=
  (mX10_isLine S v1).bind fun u1 =>
  if u1 = 0 then
    some (-1)
  else
    (mX10_in S v2 0 3).bind fun u3 =>
    if u3 = 0 then
      some (-1)
    else
      if 3 ≤ v2 then
        mX10_boat_36 z S v1 z 0 0
      else
        (mX10_lineOf S v1 v2).bind fun u6 =>
        some u6
set_option maxHeartbeats 4000000 in
set_option maxRecDepth 100000 in
theorem bX10_boat {p : Program} {l : Launch} {e : Env} {s : State} {m : MethodId} {args : Array Value} {below : List Frame} {meth : Method} {c : Code} {D : va_G} {cA : ClassId} {ad : Nat → Nat} {A : Nat → Prop} {H : Heap} {locs : List Loc} {ls : Array Slot} {q : Int32} {z : Nat} {S : St} {v1 : Int32} {v2 : Int32} (C0 : sd_Cx RX10 cX10_boat 5 (some .int) (Cond.code yX10_boat cX10_boat 5 (some .int) :: sd_big) p s m args meth c) (h : sd_Wd D vwCl cA sd_nw (wY ad cA) A s S H locs) (hl : lv_has ls 5 [(0, .ref (ad 0)), (1, .int v1), (2, .int v2)])  (hm : mX10_boat z S v1 v2 = some q) : W p l e rX10_boat s m args below meth c H locs 0 0 (MQ below (sd_Qi D vwCl (wY ad cA) A (q, S)) args s 0 0 A) (F0 m 0 ls []) := by
  unfold mX10_boat at hm
  have hx := C0.1
  have hb := C0.2.1
  refine lv_aload_n hx hb dX10_boat_0 rfl (lv_at hl 0 rfl) ?_
  refine lv_iload_n hx hb dX10_boat_1 rfl (lv_at hl 1 rfl) ?_
  obtain ⟨u1, hu1, hm⟩ := bs hm
  refine sd_Vi C0 h kYX10_isLine kmX10_53 0 (aY_0 ad cA _) rfl [.int v1] (tX10_isLine l D cA ad hu1) rfl hl.1 rfl (Nat.le_of_ble_eq_true rfl) (by decide) dX10_boat_2 (by decide) (fun H locs h => ?_)
  refine lv_if_eq (tgt := 17) hx hb dX10_boat_5 (by decide) (fun c2 => ?_) (fun c2 => ?_)
  · replace hm := ip c2 hm
    refine lv_iconst (v := (-1)) hx hb dX10_boat_17 (by decide) ?_
    exact sd_iret C0 h (congrArg (fun x => (x, S)) (Option.some.inj hm)) dX10_boat_18
  · replace hm := iq c2 hm
    refine lv_iload_n hx hb dX10_boat_8 rfl (lv_at hl 2 rfl) ?_
    refine lv_iconst (v := 0) hx hb dX10_boat_9 (by decide) ?_
    refine lv_iconst (v := 3) hx hb dX10_boat_10 (by decide) ?_
    obtain ⟨u3, hu3, hm⟩ := bs hm
    refine sd_Si C0 h kYX10_in kmX10_46 [.int v2, .int 0, .int 3] (tX10_in l D cA ad hu3) rfl hl.1 rfl (Nat.le_of_ble_eq_true rfl) (by decide) dX10_boat_11 (by decide) (fun H locs h => ?_)
    refine lv_if_ne (tgt := 19) hx hb dX10_boat_14 (by decide) (fun c4 => ?_) (fun c4 => ?_)
    · replace hm := iq c4 hm
      refine lv_iload_n hx hb dX10_boat_19 rfl (lv_at hl 2 rfl) ?_
      refine lv_iconst (v := 3) hx hb dX10_boat_20 (by decide) ?_
      refine lv_icmp_ge (tgt := 31) hx hb dX10_boat_21 (by decide) (fun c5 => ?_) (fun c5 => ?_)
      · replace hm := ip c5 hm
        refine lv_iconst (v := 0) hx hb dX10_boat_31 (by decide) ?_
        refine lv_istore_n (lv' := [(3, .int 0), (0, .ref (ad 0)), (1, .int v1), (2, .int v2)]) hx hb dX10_boat_32 rfl hl (by decide) rfl (fun ls hl => ?_)
        refine lv_iconst (v := 0) hx hb dX10_boat_33 (by decide) ?_
        refine lv_istore (lv' := [(4, .int 0), (3, .int 0), (0, .ref (ad 0)), (1, .int v1), (2, .int v2)]) hx hb dX10_boat_34 hl (by decide) rfl (fun ls hl => ?_)
        exact lX10_boat_36 C0 _ _ _ _ _ _ h (lv_sub hl [2, 3, 1, 0] rfl) hm
      · replace hm := iq c5 hm
        refine lv_aload_n hx hb dX10_boat_24 rfl (lv_at hl 0 rfl) ?_
        refine lv_iload_n hx hb dX10_boat_25 rfl (lv_at hl 1 rfl) ?_
        refine lv_iload_n hx hb dX10_boat_26 rfl (lv_at hl 2 rfl) ?_
        obtain ⟨u6, hu6, hm⟩ := bs hm
        refine sd_Vi C0 h kYX10_lineOf kmX10_79 0 (aY_0 ad cA _) rfl [.int v1, .int v2] (tX10_lineOf l D cA ad hu6) rfl hl.1 rfl (Nat.le_of_ble_eq_true rfl) (by decide) dX10_boat_27 (by decide) (fun H locs h => ?_)
        exact sd_iret C0 h (congrArg (fun x => (x, S)) (Option.some.inj hm)) dX10_boat_30
    · replace hm := ip c4 hm
      refine lv_iconst (v := (-1)) hx hb dX10_boat_17 (by decide) ?_
      exact sd_iret C0 h (congrArg (fun x => (x, S)) (Option.some.inj hm)) dX10_boat_18
theorem tX10_boat (l : Launch) (D : va_G) (cA : ClassId) (ad : Nat → Nat) {z : Nat} {S : St} {v1 : Int32} {v2 : Int32} {q : Int32} (hm : mX10_boat z S v1 v2 = some q) : sd_MI l D vwCl cA sd_nw (wY ad cA) yX10_boat (Cond.code yX10_boat cX10_boat 5 (some .int) :: sd_big) rX10_boat [.ref (ad 0), .int v1, .int v2] S (q, S) :=
  sd_ofI (by decide +kernel) (Nat.le_of_ble_eq_true rfl) (fun _ _ _ _ _ _ _ _ _ _ C0 h hl => bX10_boat C0 h (lv_sub hl [0, 1, 2] rfl) hm)

def rX10_water : Room := { frames := 1, cells := 0, slots := 0, locals := 33 }
def mX10_water (z : Nat) (v1 : Int32) (v2 : Int32) (v3 : Int32) (S : St) : Option (Int32 × St) :=
  (mX10_in S v1 0 99).bind fun u1 =>
  if u1 = 0 then
    some ((-30000), S)
  else
    (mX10_in S v2 0 1439).bind fun u3 =>
    if u3 = 0 then
      some ((-30000), S)
    else
      (mX10_in S v3 1 1439).bind fun u5 =>
      if u5 = 0 then
        some ((-30000), S)
      else
        (mX10_tideAt z v1 v2 S).bind fun u7 =>
        if u7.1 = 0 then
          some ((-30000), u7.2)
        else
          (mX10_below u7.2 ((fL u7.2 0) * (v3).toInt64) (fL u7.2 1)).bind fun u9 =>
          some ((u9).toInt32, u7.2)
set_option maxHeartbeats 4000000 in
set_option maxRecDepth 100000 in
theorem bX10_water {p : Program} {l : Launch} {e : Env} {s : State} {m : MethodId} {args : Array Value} {below : List Frame} {meth : Method} {c : Code} {D : va_G} {cA : ClassId} {ad : Nat → Nat} {A : Nat → Prop} {H : Heap} {locs : List Loc} {ls : Array Slot} {q : (Int32 × St)} {z : Nat} {v1 : Int32} {v2 : Int32} {v3 : Int32} {S : St} (C0 : sd_Cx RX10 cX10_water 4 (some .int) (Cond.code yX10_water cX10_water 4 (some .int) :: sd_big) p s m args meth c) (h : sd_Wd D vwCl cA sd_nw (wY ad cA) A s S H locs) (hl : lv_has ls 4 [(0, .ref (ad 0)), (1, .int v1), (2, .int v2), (3, .int v3)])  (hm : mX10_water z v1 v2 v3 S = some q) : W p l e rX10_water s m args below meth c H locs 0 0 (MQ below (sd_Qi D vwCl (wY ad cA) A q) args s 0 0 A) (F0 m 0 ls []) := by
  unfold mX10_water at hm
  have hx := C0.1
  have hb := C0.2.1
  refine lv_iload_n hx hb dX10_water_0 rfl (lv_at hl 1 rfl) ?_
  refine lv_iconst (v := 0) hx hb dX10_water_1 (by decide) ?_
  refine lv_bipush (v := 99) hx hb dX10_water_2 (by decide) ?_
  obtain ⟨u1, hu1, hm⟩ := bs hm
  refine sd_Si C0 h kYX10_in kmX10_46 [.int v1, .int 0, .int 99] (tX10_in l D cA ad hu1) rfl hl.1 rfl (Nat.le_of_ble_eq_true rfl) (by decide) dX10_water_4 (by decide) (fun H locs h => ?_)
  refine lv_if_eq (tgt := 41) hx hb dX10_water_7 (by decide) (fun c2 => ?_) (fun c2 => ?_)
  · replace hm := ip c2 hm
    refine lv_sipush (v := (-30000)) hx hb dX10_water_41 (by decide) ?_
    exact sd_iret C0 h (Option.some.inj hm) dX10_water_44
  · replace hm := iq c2 hm
    refine lv_iload_n hx hb dX10_water_10 rfl (lv_at hl 2 rfl) ?_
    refine lv_iconst (v := 0) hx hb dX10_water_11 (by decide) ?_
    refine lv_sipush (v := 1439) hx hb dX10_water_12 (by decide) ?_
    obtain ⟨u3, hu3, hm⟩ := bs hm
    refine sd_Si C0 h kYX10_in kmX10_46 [.int v2, .int 0, .int 1439] (tX10_in l D cA ad hu3) rfl hl.1 rfl (Nat.le_of_ble_eq_true rfl) (by decide) dX10_water_15 (by decide) (fun H locs h => ?_)
    refine lv_if_eq (tgt := 41) hx hb dX10_water_18 (by decide) (fun c4 => ?_) (fun c4 => ?_)
    · replace hm := ip c4 hm
      refine lv_sipush (v := (-30000)) hx hb dX10_water_41 (by decide) ?_
      exact sd_iret C0 h (Option.some.inj hm) dX10_water_44
    · replace hm := iq c4 hm
      refine lv_iload_n hx hb dX10_water_21 rfl (lv_at hl 3 rfl) ?_
      refine lv_iconst (v := 1) hx hb dX10_water_22 (by decide) ?_
      refine lv_sipush (v := 1439) hx hb dX10_water_23 (by decide) ?_
      obtain ⟨u5, hu5, hm⟩ := bs hm
      refine sd_Si C0 h kYX10_in kmX10_46 [.int v3, .int 1, .int 1439] (tX10_in l D cA ad hu5) rfl hl.1 rfl (Nat.le_of_ble_eq_true rfl) (by decide) dX10_water_26 (by decide) (fun H locs h => ?_)
      refine lv_if_eq (tgt := 41) hx hb dX10_water_29 (by decide) (fun c6 => ?_) (fun c6 => ?_)
      · replace hm := ip c6 hm
        refine lv_sipush (v := (-30000)) hx hb dX10_water_41 (by decide) ?_
        exact sd_iret C0 h (Option.some.inj hm) dX10_water_44
      · replace hm := iq c6 hm
        refine lv_aload_n hx hb dX10_water_32 rfl (lv_at hl 0 rfl) ?_
        refine lv_iload_n hx hb dX10_water_33 rfl (lv_at hl 1 rfl) ?_
        refine lv_iload_n hx hb dX10_water_34 rfl (lv_at hl 2 rfl) ?_
        obtain ⟨u7, hu7, hm⟩ := bs hm
        refine sd_Vi C0 h kYX10_tideAt kmX10_64 0 (aY_0 ad cA _) rfl [.int v1, .int v2] (tX10_tideAt l D cA ad hu7) rfl hl.1 rfl (Nat.le_of_ble_eq_true rfl) (by decide) dX10_water_35 (by decide) (fun H locs h => ?_)
        refine lv_if_ne (tgt := 45) hx hb dX10_water_38 (by decide) (fun c8 => ?_) (fun c8 => ?_)
        · replace hm := iq c8 hm
          refine lv_aload_n hx hb dX10_water_45 rfl (lv_at hl 0 rfl) ?_
          refine sd_get C0 h (C := RX10) (T := TX10) (N := 17) kcX10 0 (aY_0 ad cA _) rfl 6 (by decide) kfX10_61 (v := .long (fL u7.2 0)) rfl dX10_water_46 ?_
          refine lv_iload_n hx hb dX10_water_49 rfl (lv_at hl 3 rfl) ?_
          refine lv_i2l hx hb dX10_water_50 (v := (v3).toInt64) rfl ?_
          refine lv_lmul hx hb dX10_water_51 ?_
          refine lv_aload_n hx hb dX10_water_52 rfl (lv_at hl 0 rfl) ?_
          refine sd_get C0 h (C := RX10) (T := TX10) (N := 17) kcX10 0 (aY_0 ad cA _) rfl 7 (by decide) kfX10_57 (v := .long (fL u7.2 1)) rfl dX10_water_53 ?_
          obtain ⟨u9, hu9, hm⟩ := bs hm
          refine sd_Sl C0 h kYX10_below kmX10_68 [.long ((fL u7.2 0) * (v3).toInt64), .long (fL u7.2 1)] (tX10_below l D cA ad hu9) rfl hl.1 rfl (Nat.le_of_ble_eq_true rfl) (by decide) dX10_water_56 (by decide) (fun H locs h => ?_)
          refine lv_l2i hx hb dX10_water_59 (v := (u9).toInt32) rfl ?_
          exact sd_iret C0 h (Option.some.inj hm) dX10_water_60
        · replace hm := ip c8 hm
          refine lv_sipush (v := (-30000)) hx hb dX10_water_41 (by decide) ?_
          exact sd_iret C0 h (Option.some.inj hm) dX10_water_44
theorem tX10_water (l : Launch) (D : va_G) (cA : ClassId) (ad : Nat → Nat) {z : Nat} {S : St} {v1 : Int32} {v2 : Int32} {v3 : Int32} {q : (Int32 × St)} (hm : mX10_water z v1 v2 v3 S = some q) : sd_MI l D vwCl cA sd_nw (wY ad cA) yX10_water (Cond.code yX10_water cX10_water 4 (some .int) :: sd_big) rX10_water [.ref (ad 0), .int v1, .int v2, .int v3] S q :=
  sd_ofI (by decide +kernel) (Nat.le_of_ble_eq_true rfl) (fun _ _ _ _ _ _ _ _ _ _ C0 h hl => bX10_water C0 h (lv_sub hl [0, 1, 2, 3] rfl) hm)

def rX10_isOf : Room := { frames := 2, cells := 0, slots := 0, locals := 54 }
def mX10_isOf (z : Nat) (v1 : Int32) (v2 : Int32) (S : St) : Option (Int32 × St) :=
  (mX10_of S v1 5).bind fun u1 =>
  if u1 = v2 then
    (mX10_of S v1 0).bind fun u3 =>
    if 2 ≤ u3 then
      some (0, S)
    else
      (mX10_waits z v1 S).bind fun u5 =>
      if u5.1 = 0 then
        some (1, u5.2)
      else
        some (0, u5.2)
  else
    some (0, S)
set_option maxHeartbeats 4000000 in
set_option maxRecDepth 100000 in
theorem bX10_isOf {p : Program} {l : Launch} {e : Env} {s : State} {m : MethodId} {args : Array Value} {below : List Frame} {meth : Method} {c : Code} {D : va_G} {cA : ClassId} {ad : Nat → Nat} {A : Nat → Prop} {H : Heap} {locs : List Loc} {ls : Array Slot} {q : (Int32 × St)} {z : Nat} {v1 : Int32} {v2 : Int32} {S : St} (C0 : sd_Cx RX10 cX10_isOf 3 (some .boolean) (Cond.code yX10_isOf cX10_isOf 3 (some .boolean) :: sd_big) p s m args meth c) (h : sd_Wd D vwCl cA sd_nw (wY ad cA) A s S H locs) (hl : lv_has ls 3 [(0, .ref (ad 0)), (1, .int v1), (2, .int v2)])  (hm : mX10_isOf z v1 v2 S = some q) : W p l e rX10_isOf s m args below meth c H locs 0 0 (MQ below (sd_Qi D vwCl (wY ad cA) A q) args s 0 0 A) (F0 m 0 ls []) := by
  unfold mX10_isOf at hm
  have hx := C0.1
  have hb := C0.2.1
  refine lv_aload_n hx hb dX10_isOf_0 rfl (lv_at hl 0 rfl) ?_
  refine lv_iload_n hx hb dX10_isOf_1 rfl (lv_at hl 1 rfl) ?_
  refine lv_iconst (v := 5) hx hb dX10_isOf_2 (by decide) ?_
  obtain ⟨u1, hu1, hm⟩ := bs hm
  refine sd_Vi C0 h kYX10_of kmX10_96 0 (aY_0 ad cA _) rfl [.int v1, .int 5] (tX10_of l D cA ad hu1) rfl hl.1 rfl (Nat.le_of_ble_eq_true rfl) (by decide) dX10_isOf_3 (by decide) (fun H locs h => ?_)
  refine lv_iload_n hx hb dX10_isOf_6 rfl (lv_at hl 2 rfl) ?_
  refine lv_icmp_ne (tgt := 32) hx hb dX10_isOf_7 (by decide) (fun c2 => ?_) (fun c2 => ?_)
  · replace hm := iq c2 hm
    refine lv_iconst (v := 0) hx hb dX10_isOf_32 (by decide) ?_
    exact sd_zret C0 h (Option.some.inj hm) rfl dX10_isOf_33
  · replace hm := ip c2 hm
    refine lv_aload_n hx hb dX10_isOf_10 rfl (lv_at hl 0 rfl) ?_
    refine lv_iload_n hx hb dX10_isOf_11 rfl (lv_at hl 1 rfl) ?_
    refine lv_iconst (v := 0) hx hb dX10_isOf_12 (by decide) ?_
    obtain ⟨u3, hu3, hm⟩ := bs hm
    refine sd_Vi C0 h kYX10_of kmX10_96 0 (aY_0 ad cA _) rfl [.int v1, .int 0] (tX10_of l D cA ad hu3) rfl hl.1 rfl (Nat.le_of_ble_eq_true rfl) (by decide) dX10_isOf_13 (by decide) (fun H locs h => ?_)
    refine lv_iconst (v := 2) hx hb dX10_isOf_16 (by decide) ?_
    refine lv_icmp_ge (tgt := 32) hx hb dX10_isOf_17 (by decide) (fun c4 => ?_) (fun c4 => ?_)
    · replace hm := ip c4 hm
      refine lv_iconst (v := 0) hx hb dX10_isOf_32 (by decide) ?_
      exact sd_zret C0 h (Option.some.inj hm) rfl dX10_isOf_33
    · replace hm := iq c4 hm
      refine lv_aload_n hx hb dX10_isOf_20 rfl (lv_at hl 0 rfl) ?_
      refine lv_iload_n hx hb dX10_isOf_21 rfl (lv_at hl 1 rfl) ?_
      obtain ⟨u5, hu5, hm⟩ := bs hm
      refine sd_Vi C0 h kYX10_waits kmX10_101 0 (aY_0 ad cA _) rfl [.int v1] (tX10_waits l D cA ad hu5) rfl hl.1 rfl (Nat.le_of_ble_eq_true rfl) (by decide) dX10_isOf_22 (by decide) (fun H locs h => ?_)
      refine lv_if_ne (tgt := 32) hx hb dX10_isOf_25 (by decide) (fun c6 => ?_) (fun c6 => ?_)
      · replace hm := iq c6 hm
        refine lv_iconst (v := 0) hx hb dX10_isOf_32 (by decide) ?_
        exact sd_zret C0 h (Option.some.inj hm) rfl dX10_isOf_33
      · replace hm := ip c6 hm
        refine lv_iconst (v := 1) hx hb dX10_isOf_28 (by decide) ?_
        refine lv_goto (tgt := 33) hx hb dX10_isOf_29 (by decide) ?_
        exact sd_zret C0 h (Option.some.inj hm) rfl dX10_isOf_33
theorem tX10_isOf (l : Launch) (D : va_G) (cA : ClassId) (ad : Nat → Nat) {z : Nat} {S : St} {v1 : Int32} {v2 : Int32} {q : (Int32 × St)} (hm : mX10_isOf z v1 v2 S = some q) : sd_MI l D vwCl cA sd_nw (wY ad cA) yX10_isOf (Cond.code yX10_isOf cX10_isOf 3 (some .boolean) :: sd_big) rX10_isOf [.ref (ad 0), .int v1, .int v2] S q :=
  sd_ofI (by decide +kernel) (Nat.le_of_ble_eq_true rfl) (fun _ _ _ _ _ _ _ _ _ _ C0 h hl => bX10_isOf C0 h (lv_sub hl [0, 1, 2] rfl) hm)

def rX10_far : Room := { frames := 1, cells := 0, slots := 0, locals := 22 }
def mX10_far (S : St) (v1 : Int32) (v2 : Int32) : Option Int32 :=
  (mX10_of S v1 1).bind fun u1 =>
  (mX10_of S v2 1).bind fun u2 =>
  (mX10_of S v1 2).bind fun u3 =>
  (mX10_of S v2 2).bind fun u4 =>
  some (((u1 - u2) * (u1 - u2)) + ((u3 - u4) * (u3 - u4)))
set_option maxHeartbeats 4000000 in
set_option maxRecDepth 100000 in
theorem bX10_far {p : Program} {l : Launch} {e : Env} {s : State} {m : MethodId} {args : Array Value} {below : List Frame} {meth : Method} {c : Code} {D : va_G} {cA : ClassId} {ad : Nat → Nat} {A : Nat → Prop} {H : Heap} {locs : List Loc} {ls : Array Slot} {q : Int32} {S : St} {v1 : Int32} {v2 : Int32} (C0 : sd_Cx RX10 cX10_far 5 (some .int) (Cond.code yX10_far cX10_far 5 (some .int) :: sd_big) p s m args meth c) (h : sd_Wd D vwCl cA sd_nw (wY ad cA) A s S H locs) (hl : lv_has ls 5 [(0, .ref (ad 0)), (1, .int v1), (2, .int v2)])  (hm : mX10_far S v1 v2 = some q) : W p l e rX10_far s m args below meth c H locs 0 0 (MQ below (sd_Qi D vwCl (wY ad cA) A (q, S)) args s 0 0 A) (F0 m 0 ls []) := by
  unfold mX10_far at hm
  have hx := C0.1
  have hb := C0.2.1
  refine lv_aload_n hx hb dX10_far_0 rfl (lv_at hl 0 rfl) ?_
  refine lv_iload_n hx hb dX10_far_1 rfl (lv_at hl 1 rfl) ?_
  refine lv_iconst (v := 1) hx hb dX10_far_2 (by decide) ?_
  obtain ⟨u1, hu1, hm⟩ := bs hm
  refine sd_Vi C0 h kYX10_of kmX10_96 0 (aY_0 ad cA _) rfl [.int v1, .int 1] (tX10_of l D cA ad hu1) rfl hl.1 rfl (Nat.le_of_ble_eq_true rfl) (by decide) dX10_far_3 (by decide) (fun H locs h => ?_)
  refine lv_aload_n hx hb dX10_far_6 rfl (lv_at hl 0 rfl) ?_
  refine lv_iload_n hx hb dX10_far_7 rfl (lv_at hl 2 rfl) ?_
  refine lv_iconst (v := 1) hx hb dX10_far_8 (by decide) ?_
  obtain ⟨u2, hu2, hm⟩ := bs hm
  refine sd_Vi C0 h kYX10_of kmX10_96 0 (aY_0 ad cA _) rfl [.int v2, .int 1] (tX10_of l D cA ad hu2) rfl hl.1 rfl (Nat.le_of_ble_eq_true rfl) (by decide) dX10_far_9 (by decide) (fun H locs h => ?_)
  refine lv_isub hx hb dX10_far_12 ?_
  refine lv_istore_n (lv' := [(3, .int (u1 - u2)), (0, .ref (ad 0)), (1, .int v1), (2, .int v2)]) hx hb dX10_far_13 rfl hl (by decide) rfl (fun ls hl => ?_)
  refine lv_aload_n hx hb dX10_far_14 rfl (lv_at hl 1 rfl) ?_
  refine lv_iload_n hx hb dX10_far_15 rfl (lv_at hl 2 rfl) ?_
  refine lv_iconst (v := 2) hx hb dX10_far_16 (by decide) ?_
  obtain ⟨u3, hu3, hm⟩ := bs hm
  refine sd_Vi C0 h kYX10_of kmX10_96 0 (aY_0 ad cA _) rfl [.int v1, .int 2] (tX10_of l D cA ad hu3) rfl hl.1 rfl (Nat.le_of_ble_eq_true rfl) (by decide) dX10_far_17 (by decide) (fun H locs h => ?_)
  refine lv_aload_n hx hb dX10_far_20 rfl (lv_at hl 1 rfl) ?_
  refine lv_iload_n hx hb dX10_far_21 rfl (lv_at hl 3 rfl) ?_
  refine lv_iconst (v := 2) hx hb dX10_far_22 (by decide) ?_
  obtain ⟨u4, hu4, hm⟩ := bs hm
  refine sd_Vi C0 h kYX10_of kmX10_96 0 (aY_0 ad cA _) rfl [.int v2, .int 2] (tX10_of l D cA ad hu4) rfl hl.1 rfl (Nat.le_of_ble_eq_true rfl) (by decide) dX10_far_23 (by decide) (fun H locs h => ?_)
  refine lv_isub hx hb dX10_far_26 ?_
  refine lv_istore (lv' := [(4, .int (u3 - u4)), (3, .int (u1 - u2)), (0, .ref (ad 0)), (1, .int v1), (2, .int v2)]) hx hb dX10_far_27 hl (by decide) rfl (fun ls hl => ?_)
  refine lv_iload_n hx hb dX10_far_29 rfl (lv_at hl 1 rfl) ?_
  refine lv_iload_n hx hb dX10_far_30 rfl (lv_at hl 1 rfl) ?_
  refine lv_imul hx hb dX10_far_31 ?_
  refine lv_iload hx hb dX10_far_32 (lv_at hl 0 rfl) ?_
  refine lv_iload hx hb dX10_far_34 (lv_at hl 0 rfl) ?_
  refine lv_imul hx hb dX10_far_36 ?_
  refine lv_iadd hx hb dX10_far_37 ?_
  exact sd_iret C0 h (congrArg (fun x => (x, S)) (Option.some.inj hm)) dX10_far_38
theorem tX10_far (l : Launch) (D : va_G) (cA : ClassId) (ad : Nat → Nat) {S : St} {v1 : Int32} {v2 : Int32} {q : Int32} (hm : mX10_far S v1 v2 = some q) : sd_MI l D vwCl cA sd_nw (wY ad cA) yX10_far (Cond.code yX10_far cX10_far 5 (some .int) :: sd_big) rX10_far [.ref (ad 0), .int v1, .int v2] S (q, S) :=
  sd_ofI (by decide +kernel) (Nat.le_of_ble_eq_true rfl) (fun _ _ _ _ _ _ _ _ _ _ C0 h hl => bX10_far C0 h (lv_sub hl [0, 1, 2] rfl) hm)

def rX10_crosses : Room := { frames := 3, cells := 0, slots := 0, locals := 76 }
def mX10_crosses_117 (z : Nat) (v3 : Int32) (S : St) : Option (Int32 × St) :=
  if (fI S 3) < 0 then
    some (0, S)
  else
    if (v3 * v3) < (fI S 5) then
      some (0, S)
    else
      some (1, S)
set_option maxHeartbeats 4000000 in
set_option maxRecDepth 100000 in
theorem bX10_crosses_117 {p : Program} {l : Launch} {e : Env} {s : State} {m : MethodId} {args : Array Value} {below : List Frame} {meth : Method} {c : Code} {D : va_G} {cA : ClassId} {ad : Nat → Nat} {A : Nat → Prop} {H : Heap} {locs : List Loc} {ls : Array Slot} {q : (Int32 × St)} {z : Nat} {v3 : Int32} {S : St} (C0 : sd_Cx RX10 cX10_crosses 6 (some .boolean) (Cond.code yX10_crosses cX10_crosses 6 (some .boolean) :: sd_big) p s m args meth c) (h : sd_Wd D vwCl cA sd_nw (wY ad cA) A s S H locs) (hl : lv_has ls 6 [(0, .ref (ad 0)), (3, .int v3)])  (hm : mX10_crosses_117 z v3 S = some q) : W p l e rX10_crosses s m args below meth c H locs 0 0 (MQ below (sd_Qi D vwCl (wY ad cA) A q) args s 0 0 A) (F0 m 117 ls []) := by
  unfold mX10_crosses_117 at hm
  have hx := C0.1
  have hb := C0.2.1
  refine lv_aload_n hx hb dX10_crosses_117 rfl (lv_at hl 0 rfl) ?_
  refine sd_get C0 h (C := RX10) (T := TX10) (N := 17) kcX10 0 (aY_0 ad cA _) rfl 8 (by decide) kfX10_107 (v := .int (fI S 3)) rfl dX10_crosses_118 ?_
  refine lv_if_lt (tgt := 138) hx hb dX10_crosses_121 (by decide) (fun c1 => ?_) (fun c1 => ?_)
  · replace hm := ip c1 hm
    refine lv_iconst (v := 0) hx hb dX10_crosses_138 (by decide) ?_
    exact sd_zret C0 h (Option.some.inj hm) rfl dX10_crosses_139
  · replace hm := iq c1 hm
    refine lv_aload_n hx hb dX10_crosses_124 rfl (lv_at hl 0 rfl) ?_
    refine sd_get C0 h (C := RX10) (T := TX10) (N := 17) kcX10 0 (aY_0 ad cA _) rfl 10 (by decide) kfX10_116 (v := .int (fI S 5)) rfl dX10_crosses_125 ?_
    refine lv_iload_n hx hb dX10_crosses_128 rfl (lv_at hl 1 rfl) ?_
    refine lv_iload_n hx hb dX10_crosses_129 rfl (lv_at hl 1 rfl) ?_
    refine lv_imul hx hb dX10_crosses_130 ?_
    refine lv_icmp_gt (tgt := 138) hx hb dX10_crosses_131 (by decide) (fun c2 => ?_) (fun c2 => ?_)
    · replace hm := ip c2 hm
      refine lv_iconst (v := 0) hx hb dX10_crosses_138 (by decide) ?_
      exact sd_zret C0 h (Option.some.inj hm) rfl dX10_crosses_139
    · replace hm := iq c2 hm
      refine lv_iconst (v := 1) hx hb dX10_crosses_134 (by decide) ?_
      refine lv_goto (tgt := 139) hx hb dX10_crosses_135 (by decide) ?_
      exact sd_zret C0 h (Option.some.inj hm) rfl dX10_crosses_139
def mX10_crosses_81 (z : Nat) (rc8 : Int32 → St → Option (Int32 × St)) (rc35 : Int32 → St → Option (Int32 × St)) (v1 : Int32) (v2 : Int32) (v3 : Int32) (v4 : Int32) (v5 : Int32) (S : St) : Option (Int32 × St) :=
  (mX10_far (sI (sI S 3 v4) 4 v5) v4 v5).bind fun u1 =>
  rc35 (v5 + 1) (sI (sI (sI S 3 v4) 4 v5) 5 u1)
set_option maxHeartbeats 4000000 in
set_option maxRecDepth 100000 in
theorem bX10_crosses_81 {p : Program} {l : Launch} {e : Env} {s : State} {m : MethodId} {args : Array Value} {below : List Frame} {meth : Method} {c : Code} {D : va_G} {cA : ClassId} {ad : Nat → Nat} {A : Nat → Prop} {H : Heap} {locs : List Loc} {ls : Array Slot} {q : (Int32 × St)} {z : Nat} {rc8 : Int32 → St → Option (Int32 × St)} {rc35 : Int32 → St → Option (Int32 × St)} {v1 : Int32} {v2 : Int32} {v3 : Int32} {v4 : Int32} {v5 : Int32} {S : St} (C0 : sd_Cx RX10 cX10_crosses 6 (some .boolean) (Cond.code yX10_crosses cX10_crosses 6 (some .boolean) :: sd_big) p s m args meth c) (h : sd_Wd D vwCl cA sd_nw (wY ad cA) A s S H locs) (hl : lv_has ls 6 [(0, .ref (ad 0)), (1, .int v1), (2, .int v2), (3, .int v3), (4, .int v4), (5, .int v5)]) (hrc8 : ∀ (v4 : Int32) (S : St) (H : Heap) (locs : List Loc) (ls : Array Slot), sd_Wd D vwCl cA sd_nw (wY ad cA) A s S H locs → lv_has ls 6 [(0, .ref (ad 0)), (1, .int v1), (2, .int v2), (3, .int v3), (4, .int v4)] → rc8 v4 S = some q → W p l e rX10_crosses s m args below meth c H locs 0 0 (MQ below (sd_Qi D vwCl (wY ad cA) A q) args s 0 0 A) (F0 m 8 ls [])) (hrc35 : ∀ (v5 : Int32) (S : St) (H : Heap) (locs : List Loc) (ls : Array Slot), sd_Wd D vwCl cA sd_nw (wY ad cA) A s S H locs → lv_has ls 6 [(0, .ref (ad 0)), (1, .int v1), (2, .int v2), (3, .int v3), (4, .int v4), (5, .int v5)] → rc35 v5 S = some q → W p l e rX10_crosses s m args below meth c H locs 0 0 (MQ below (sd_Qi D vwCl (wY ad cA) A q) args s 0 0 A) (F0 m 35 ls [])) (hm : mX10_crosses_81 z rc8 rc35 v1 v2 v3 v4 v5 S = some q) : W p l e rX10_crosses s m args below meth c H locs 0 0 (MQ below (sd_Qi D vwCl (wY ad cA) A q) args s 0 0 A) (F0 m 81 ls []) := by
  unfold mX10_crosses_81 at hm
  have hx := C0.1
  have hb := C0.2.1
  refine lv_aload_n hx hb dX10_crosses_81 rfl (lv_at hl 0 rfl) ?_
  refine lv_iload hx hb dX10_crosses_82 (lv_at hl 4 rfl) ?_
  refine sd_put C0 h (C := RX10) (T := TX10) (N := 17) (S1 := (sI S 3 v4)) kcX10 tyX10 tyX10_ok nmX10 0 (aY_0 ad cA _) rfl 8 (by decide) kfX10_107 rfl (ty := .int) (by decide +kernel) rfl rfl (Nat.le_of_ble_eq_true rfl) (eY_0_8 ad cA _ _) dX10_crosses_84 (fun H locs h => ?_)
  refine lv_aload_n hx hb dX10_crosses_87 rfl (lv_at hl 0 rfl) ?_
  refine lv_iload hx hb dX10_crosses_88 (lv_at hl 5 rfl) ?_
  refine sd_put C0 h (C := RX10) (T := TX10) (N := 17) (S1 := (sI (sI S 3 v4) 4 v5)) kcX10 tyX10 tyX10_ok nmX10 0 (aY_0 ad cA _) rfl 9 (by decide) kfX10_119 rfl (ty := .int) (by decide +kernel) rfl rfl (Nat.le_of_ble_eq_true rfl) (eY_0_9 ad cA _ _) dX10_crosses_90 (fun H locs h => ?_)
  refine lv_aload_n hx hb dX10_crosses_93 rfl (lv_at hl 0 rfl) ?_
  refine lv_aload_n hx hb dX10_crosses_94 rfl (lv_at hl 0 rfl) ?_
  refine lv_iload hx hb dX10_crosses_95 (lv_at hl 4 rfl) ?_
  refine lv_iload hx hb dX10_crosses_97 (lv_at hl 5 rfl) ?_
  obtain ⟨u1, hu1, hm⟩ := bs hm
  refine sd_Vi C0 h kYX10_far kmX10_113 0 (aY_0 ad cA _) rfl [.int v4, .int v5] (tX10_far l D cA ad hu1) rfl hl.1 rfl (Nat.le_of_ble_eq_true rfl) (by decide) dX10_crosses_99 (by decide) (fun H locs h => ?_)
  refine sd_put C0 h (C := RX10) (T := TX10) (N := 17) (S1 := (sI (sI (sI S 3 v4) 4 v5) 5 u1)) kcX10 tyX10 tyX10_ok nmX10 0 (aY_0 ad cA _) rfl 10 (by decide) kfX10_116 rfl (ty := .int) (by decide +kernel) rfl rfl (Nat.le_of_ble_eq_true rfl) (eY_0_10 ad cA _ _) dX10_crosses_102 (fun H locs h => ?_)
  refine lv_iinc (v := (v5 + 1)) (lv' := [(5, .int (v5 + 1)), (0, .ref (ad 0)), (1, .int v1), (2, .int v2), (3, .int v3), (4, .int v4)]) hx hb dX10_crosses_105 hl (k := 5) rfl rfl (by decide) rfl (fun ls hl => ?_)
  refine lv_goto (tgt := 35) hx hb dX10_crosses_108 (by decide) ?_
  exact hrc35 _ _ _ _ _ h (lv_sub hl [1, 2, 3, 4, 5, 0] rfl) hm
def mX10_crosses_35b (z : Nat) (rc8 : Int32 → St → Option (Int32 × St)) (rc35 : Int32 → St → Option (Int32 × St)) (v1 : Int32) (v2 : Int32) (v3 : Int32) (v4 : Int32) (v5 : Int32) (S : St) : Option (Int32 × St) :=
  (rd (fA S 0) 4564 1).bind fun x1 =>
  if x1 ≤ v5 then
    rc8 (v4 + 1) S
  else
    (mX10_isOf z v5 v2 S).bind fun u3 =>
    if u3.1 = 0 then
      rc35 (v5 + 1) u3.2
    else
      if (fI u3.2 3) < 0 then
        mX10_crosses_81 z rc8 rc35 v1 v2 v3 v4 v5 u3.2
      else
        (mX10_far u3.2 v4 v5).bind fun u6 =>
        if u6 < (fI u3.2 5) then
          mX10_crosses_81 z rc8 rc35 v1 v2 v3 v4 v5 u3.2
        else
          rc35 (v5 + 1) u3.2
set_option maxHeartbeats 4000000 in
set_option maxRecDepth 100000 in
theorem bX10_crosses_35b {p : Program} {l : Launch} {e : Env} {s : State} {m : MethodId} {args : Array Value} {below : List Frame} {meth : Method} {c : Code} {D : va_G} {cA : ClassId} {ad : Nat → Nat} {A : Nat → Prop} {H : Heap} {locs : List Loc} {ls : Array Slot} {q : (Int32 × St)} {z : Nat} {rc8 : Int32 → St → Option (Int32 × St)} {rc35 : Int32 → St → Option (Int32 × St)} {v1 : Int32} {v2 : Int32} {v3 : Int32} {v4 : Int32} {v5 : Int32} {S : St} (C0 : sd_Cx RX10 cX10_crosses 6 (some .boolean) (Cond.code yX10_crosses cX10_crosses 6 (some .boolean) :: sd_big) p s m args meth c) (h : sd_Wd D vwCl cA sd_nw (wY ad cA) A s S H locs) (hl : lv_has ls 6 [(0, .ref (ad 0)), (1, .int v1), (2, .int v2), (3, .int v3), (4, .int v4), (5, .int v5)]) (hrc8 : ∀ (v4 : Int32) (S : St) (H : Heap) (locs : List Loc) (ls : Array Slot), sd_Wd D vwCl cA sd_nw (wY ad cA) A s S H locs → lv_has ls 6 [(0, .ref (ad 0)), (1, .int v1), (2, .int v2), (3, .int v3), (4, .int v4)] → rc8 v4 S = some q → W p l e rX10_crosses s m args below meth c H locs 0 0 (MQ below (sd_Qi D vwCl (wY ad cA) A q) args s 0 0 A) (F0 m 8 ls [])) (hrc35 : ∀ (v5 : Int32) (S : St) (H : Heap) (locs : List Loc) (ls : Array Slot), sd_Wd D vwCl cA sd_nw (wY ad cA) A s S H locs → lv_has ls 6 [(0, .ref (ad 0)), (1, .int v1), (2, .int v2), (3, .int v3), (4, .int v4), (5, .int v5)] → rc35 v5 S = some q → W p l e rX10_crosses s m args below meth c H locs 0 0 (MQ below (sd_Qi D vwCl (wY ad cA) A q) args s 0 0 A) (F0 m 35 ls [])) (hm : mX10_crosses_35b z rc8 rc35 v1 v2 v3 v4 v5 S = some q) : W p l e rX10_crosses s m args below meth c H locs 0 0 (MQ below (sd_Qi D vwCl (wY ad cA) A q) args s 0 0 A) (F0 m 35 ls []) := by
  unfold mX10_crosses_35b at hm
  have hx := C0.1
  have hb := C0.2.1
  refine lv_iload hx hb dX10_crosses_35 (lv_at hl 5 rfl) ?_
  refine lv_aload_n hx hb dX10_crosses_37 rfl (lv_at hl 0 rfl) ?_
  refine sd_get C0 h (C := RX10) (T := TX10) (N := 17) kcX10 0 (aY_0 ad cA _) rfl 0 (by decide) kfX10_7 (v := .ref (ad 1)) rfl dX10_crosses_38 ?_
  refine lv_iconst (v := 1) hx hb dX10_crosses_41 (by decide) ?_
  obtain ⟨x1, hx1, hm⟩ := bs hm
  refine sd_rd C0 h 1 (aY_1 ad cA _) hx1 dX10_crosses_42 ?_
  refine lv_icmp_ge (tgt := 111) hx hb dX10_crosses_43 (by decide) (fun c2 => ?_) (fun c2 => ?_)
  · replace hm := ip c2 hm
    refine lv_iinc (v := (v4 + 1)) (lv' := [(4, .int (v4 + 1)), (0, .ref (ad 0)), (1, .int v1), (2, .int v2), (3, .int v3), (5, .int v5)]) hx hb dX10_crosses_111 hl (k := 4) rfl rfl (by decide) rfl (fun ls hl => ?_)
    refine lv_goto (tgt := 8) hx hb dX10_crosses_114 (by decide) ?_
    exact hrc8 _ _ _ _ _ h (lv_sub hl [1, 2, 3, 4, 0] rfl) hm
  · replace hm := iq c2 hm
    refine lv_aload_n hx hb dX10_crosses_46 rfl (lv_at hl 0 rfl) ?_
    refine lv_iload hx hb dX10_crosses_47 (lv_at hl 5 rfl) ?_
    refine lv_iload_n hx hb dX10_crosses_49 rfl (lv_at hl 2 rfl) ?_
    obtain ⟨u3, hu3, hm⟩ := bs hm
    refine sd_Vi C0 h kYX10_isOf kmX10_110 0 (aY_0 ad cA _) rfl [.int v5, .int v2] (tX10_isOf l D cA ad hu3) rfl hl.1 rfl (Nat.le_of_ble_eq_true rfl) (by decide) dX10_crosses_50 (by decide) (fun H locs h => ?_)
    refine lv_if_eq (tgt := 105) hx hb dX10_crosses_53 (by decide) (fun c4 => ?_) (fun c4 => ?_)
    · replace hm := ip c4 hm
      refine lv_iinc (v := (v5 + 1)) (lv' := [(5, .int (v5 + 1)), (0, .ref (ad 0)), (1, .int v1), (2, .int v2), (3, .int v3), (4, .int v4)]) hx hb dX10_crosses_105 hl (k := 5) rfl rfl (by decide) rfl (fun ls hl => ?_)
      refine lv_goto (tgt := 35) hx hb dX10_crosses_108 (by decide) ?_
      exact hrc35 _ _ _ _ _ h (lv_sub hl [1, 2, 3, 4, 5, 0] rfl) hm
    · replace hm := iq c4 hm
      refine lv_aload_n hx hb dX10_crosses_56 rfl (lv_at hl 0 rfl) ?_
      refine sd_get C0 h (C := RX10) (T := TX10) (N := 17) kcX10 0 (aY_0 ad cA _) rfl 8 (by decide) kfX10_107 (v := .int (fI u3.2 3)) rfl dX10_crosses_57 ?_
      refine lv_if_lt (tgt := 81) hx hb dX10_crosses_60 (by decide) (fun c5 => ?_) (fun c5 => ?_)
      · replace hm := ip c5 hm
        exact bX10_crosses_81 C0 h (lv_sub hl [0, 1, 2, 3, 4, 5] rfl) hrc8 hrc35 hm
      · replace hm := iq c5 hm
        refine lv_aload_n hx hb dX10_crosses_63 rfl (lv_at hl 0 rfl) ?_
        refine lv_iload hx hb dX10_crosses_64 (lv_at hl 4 rfl) ?_
        refine lv_iload hx hb dX10_crosses_66 (lv_at hl 5 rfl) ?_
        obtain ⟨u6, hu6, hm⟩ := bs hm
        refine sd_Vi C0 h kYX10_far kmX10_113 0 (aY_0 ad cA _) rfl [.int v4, .int v5] (tX10_far l D cA ad hu6) rfl hl.1 rfl (Nat.le_of_ble_eq_true rfl) (by decide) dX10_crosses_68 (by decide) (fun H locs h => ?_)
        refine lv_aload_n hx hb dX10_crosses_71 rfl (lv_at hl 0 rfl) ?_
        refine sd_get C0 h (C := RX10) (T := TX10) (N := 17) kcX10 0 (aY_0 ad cA _) rfl 10 (by decide) kfX10_116 (v := .int (fI u3.2 5)) rfl dX10_crosses_72 ?_
        refine lv_icmp_lt (tgt := 81) hx hb dX10_crosses_75 (by decide) (fun c7 => ?_) (fun c7 => ?_)
        · replace hm := ip c7 hm
          exact bX10_crosses_81 C0 h (lv_sub hl [0, 1, 2, 3, 4, 5] rfl) hrc8 hrc35 hm
        · replace hm := iq c7 hm
          refine lv_goto (tgt := 105) hx hb dX10_crosses_78 (by decide) ?_
          refine lv_iinc (v := (v5 + 1)) (lv' := [(5, .int (v5 + 1)), (0, .ref (ad 0)), (1, .int v1), (2, .int v2), (3, .int v3), (4, .int v4)]) hx hb dX10_crosses_105 hl (k := 5) rfl rfl (by decide) rfl (fun ls hl => ?_)
          refine lv_goto (tgt := 35) hx hb dX10_crosses_108 (by decide) ?_
          exact hrc35 _ _ _ _ _ h (lv_sub hl [1, 2, 3, 4, 5, 0] rfl) hm
def mX10_crosses_35 (z : Nat) (rc8 : Int32 → St → Option (Int32 × St)) (v1 : Int32) (v2 : Int32) (v3 : Int32) (v4 : Int32) : Nat → Int32 → St → Option (Int32 × St)
  | 0, _, _ => none
  | n + 1, v5, S => mX10_crosses_35b z rc8 (mX10_crosses_35 z rc8 v1 v2 v3 v4 n) v1 v2 v3 v4 v5 S
set_option maxHeartbeats 4000000 in
set_option maxRecDepth 100000 in
theorem lX10_crosses_35 {p : Program} {l : Launch} {e : Env} {s : State} {m : MethodId} {args : Array Value} {below : List Frame} {meth : Method} {c : Code} {D : va_G} {cA : ClassId} {ad : Nat → Nat} {A : Nat → Prop} {q : (Int32 × St)} {z : Nat} {rc8 : Int32 → St → Option (Int32 × St)} {v1 : Int32} {v2 : Int32} {v3 : Int32} {v4 : Int32} (C0 : sd_Cx RX10 cX10_crosses 6 (some .boolean) (Cond.code yX10_crosses cX10_crosses 6 (some .boolean) :: sd_big) p s m args meth c) (hrc8 : ∀ (v4 : Int32) (S : St) (H : Heap) (locs : List Loc) (ls : Array Slot), sd_Wd D vwCl cA sd_nw (wY ad cA) A s S H locs → lv_has ls 6 [(0, .ref (ad 0)), (1, .int v1), (2, .int v2), (3, .int v3), (4, .int v4)] → rc8 v4 S = some q → W p l e rX10_crosses s m args below meth c H locs 0 0 (MQ below (sd_Qi D vwCl (wY ad cA) A q) args s 0 0 A) (F0 m 8 ls [])) : ∀ (n : Nat) (v5 : Int32) (S : St) (H : Heap) (locs : List Loc) (ls : Array Slot), sd_Wd D vwCl cA sd_nw (wY ad cA) A s S H locs → lv_has ls 6 [(0, .ref (ad 0)), (1, .int v1), (2, .int v2), (3, .int v3), (4, .int v4), (5, .int v5)] → mX10_crosses_35 z rc8 v1 v2 v3 v4 n v5 S = some q → W p l e rX10_crosses s m args below meth c H locs 0 0 (MQ below (sd_Qi D vwCl (wY ad cA) A q) args s 0 0 A) (F0 m 35 ls []) := by
  intro n
  induction n with
  | zero =>
    intro v5 S H locs ls h hl hm
    exact nomatch (show none = some q from hm)
  | succ n ih =>
    intro v5 S H locs ls h hl hm
    exact bX10_crosses_35b C0 h hl hrc8 ih hm
def mX10_crosses_8b (z : Nat) (rc8 : Int32 → St → Option (Int32 × St)) (v1 : Int32) (v2 : Int32) (v3 : Int32) (v4 : Int32) (S : St) : Option (Int32 × St) :=
  (rd (fA S 0) 4564 1).bind fun x1 =>
  if x1 ≤ v4 then
    mX10_crosses_117 z v3 S
  else
    (mX10_isOf z v4 v1 S).bind fun u3 =>
    if u3.1 = 0 then
      rc8 (v4 + 1) u3.2
    else
      mX10_crosses_35 z rc8 v1 v2 v3 v4 z 0 u3.2
set_option maxHeartbeats 4000000 in
set_option maxRecDepth 100000 in
theorem bX10_crosses_8b {p : Program} {l : Launch} {e : Env} {s : State} {m : MethodId} {args : Array Value} {below : List Frame} {meth : Method} {c : Code} {D : va_G} {cA : ClassId} {ad : Nat → Nat} {A : Nat → Prop} {H : Heap} {locs : List Loc} {ls : Array Slot} {q : (Int32 × St)} {z : Nat} {rc8 : Int32 → St → Option (Int32 × St)} {v1 : Int32} {v2 : Int32} {v3 : Int32} {v4 : Int32} {S : St} (C0 : sd_Cx RX10 cX10_crosses 6 (some .boolean) (Cond.code yX10_crosses cX10_crosses 6 (some .boolean) :: sd_big) p s m args meth c) (h : sd_Wd D vwCl cA sd_nw (wY ad cA) A s S H locs) (hl : lv_has ls 6 [(0, .ref (ad 0)), (1, .int v1), (2, .int v2), (3, .int v3), (4, .int v4)]) (hrc8 : ∀ (v4 : Int32) (S : St) (H : Heap) (locs : List Loc) (ls : Array Slot), sd_Wd D vwCl cA sd_nw (wY ad cA) A s S H locs → lv_has ls 6 [(0, .ref (ad 0)), (1, .int v1), (2, .int v2), (3, .int v3), (4, .int v4)] → rc8 v4 S = some q → W p l e rX10_crosses s m args below meth c H locs 0 0 (MQ below (sd_Qi D vwCl (wY ad cA) A q) args s 0 0 A) (F0 m 8 ls [])) (hm : mX10_crosses_8b z rc8 v1 v2 v3 v4 S = some q) : W p l e rX10_crosses s m args below meth c H locs 0 0 (MQ below (sd_Qi D vwCl (wY ad cA) A q) args s 0 0 A) (F0 m 8 ls []) := by
  unfold mX10_crosses_8b at hm
  have hx := C0.1
  have hb := C0.2.1
  refine lv_iload hx hb dX10_crosses_8 (lv_at hl 4 rfl) ?_
  refine lv_aload_n hx hb dX10_crosses_10 rfl (lv_at hl 0 rfl) ?_
  refine sd_get C0 h (C := RX10) (T := TX10) (N := 17) kcX10 0 (aY_0 ad cA _) rfl 0 (by decide) kfX10_7 (v := .ref (ad 1)) rfl dX10_crosses_11 ?_
  refine lv_iconst (v := 1) hx hb dX10_crosses_14 (by decide) ?_
  obtain ⟨x1, hx1, hm⟩ := bs hm
  refine sd_rd C0 h 1 (aY_1 ad cA _) hx1 dX10_crosses_15 ?_
  refine lv_icmp_ge (tgt := 117) hx hb dX10_crosses_16 (by decide) (fun c2 => ?_) (fun c2 => ?_)
  · replace hm := ip c2 hm
    exact bX10_crosses_117 C0 h (lv_sub hl [0, 3] rfl) hm
  · replace hm := iq c2 hm
    refine lv_aload_n hx hb dX10_crosses_19 rfl (lv_at hl 0 rfl) ?_
    refine lv_iload hx hb dX10_crosses_20 (lv_at hl 4 rfl) ?_
    refine lv_iload_n hx hb dX10_crosses_22 rfl (lv_at hl 1 rfl) ?_
    obtain ⟨u3, hu3, hm⟩ := bs hm
    refine sd_Vi C0 h kYX10_isOf kmX10_110 0 (aY_0 ad cA _) rfl [.int v4, .int v1] (tX10_isOf l D cA ad hu3) rfl hl.1 rfl (Nat.le_of_ble_eq_true rfl) (by decide) dX10_crosses_23 (by decide) (fun H locs h => ?_)
    refine lv_if_ne (tgt := 32) hx hb dX10_crosses_26 (by decide) (fun c4 => ?_) (fun c4 => ?_)
    · replace hm := iq c4 hm
      refine lv_iconst (v := 0) hx hb dX10_crosses_32 (by decide) ?_
      refine lv_istore (lv' := [(5, .int 0), (0, .ref (ad 0)), (1, .int v1), (2, .int v2), (3, .int v3), (4, .int v4)]) hx hb dX10_crosses_33 hl (by decide) rfl (fun ls hl => ?_)
      exact lX10_crosses_35 C0 hrc8 _ _ _ _ _ _ h (lv_sub hl [1, 2, 3, 4, 5, 0] rfl) hm
    · replace hm := ip c4 hm
      refine lv_goto (tgt := 111) hx hb dX10_crosses_29 (by decide) ?_
      refine lv_iinc (v := (v4 + 1)) (lv' := [(4, .int (v4 + 1)), (0, .ref (ad 0)), (1, .int v1), (2, .int v2), (3, .int v3)]) hx hb dX10_crosses_111 hl (k := 4) rfl rfl (by decide) rfl (fun ls hl => ?_)
      refine lv_goto (tgt := 8) hx hb dX10_crosses_114 (by decide) ?_
      exact hrc8 _ _ _ _ _ h (lv_sub hl [1, 2, 3, 4, 0] rfl) hm
def mX10_crosses_8 (z : Nat) (v1 : Int32) (v2 : Int32) (v3 : Int32) : Nat → Int32 → St → Option (Int32 × St)
  | 0, _, _ => none
  | n + 1, v4, S => mX10_crosses_8b z (mX10_crosses_8 z v1 v2 v3 n) v1 v2 v3 v4 S
set_option maxHeartbeats 4000000 in
set_option maxRecDepth 100000 in
theorem lX10_crosses_8 {p : Program} {l : Launch} {e : Env} {s : State} {m : MethodId} {args : Array Value} {below : List Frame} {meth : Method} {c : Code} {D : va_G} {cA : ClassId} {ad : Nat → Nat} {A : Nat → Prop} {q : (Int32 × St)} {z : Nat} {v1 : Int32} {v2 : Int32} {v3 : Int32} (C0 : sd_Cx RX10 cX10_crosses 6 (some .boolean) (Cond.code yX10_crosses cX10_crosses 6 (some .boolean) :: sd_big) p s m args meth c)  : ∀ (n : Nat) (v4 : Int32) (S : St) (H : Heap) (locs : List Loc) (ls : Array Slot), sd_Wd D vwCl cA sd_nw (wY ad cA) A s S H locs → lv_has ls 6 [(0, .ref (ad 0)), (1, .int v1), (2, .int v2), (3, .int v3), (4, .int v4)] → mX10_crosses_8 z v1 v2 v3 n v4 S = some q → W p l e rX10_crosses s m args below meth c H locs 0 0 (MQ below (sd_Qi D vwCl (wY ad cA) A q) args s 0 0 A) (F0 m 8 ls []) := by
  intro n
  induction n with
  | zero =>
    intro v4 S H locs ls h hl hm
    exact nomatch (show none = some q from hm)
  | succ n ih =>
    intro v4 S H locs ls h hl hm
    exact bX10_crosses_8b C0 h hl ih hm
def mX10_crosses (z : Nat) (v1 : Int32) (v2 : Int32) (v3 : Int32) (S : St) : Option (Int32 × St) :=
  mX10_crosses_8 z v1 v2 v3 z 0 (sI S 3 (-1))
set_option maxHeartbeats 4000000 in
set_option maxRecDepth 100000 in
theorem bX10_crosses {p : Program} {l : Launch} {e : Env} {s : State} {m : MethodId} {args : Array Value} {below : List Frame} {meth : Method} {c : Code} {D : va_G} {cA : ClassId} {ad : Nat → Nat} {A : Nat → Prop} {H : Heap} {locs : List Loc} {ls : Array Slot} {q : (Int32 × St)} {z : Nat} {v1 : Int32} {v2 : Int32} {v3 : Int32} {S : St} (C0 : sd_Cx RX10 cX10_crosses 6 (some .boolean) (Cond.code yX10_crosses cX10_crosses 6 (some .boolean) :: sd_big) p s m args meth c) (h : sd_Wd D vwCl cA sd_nw (wY ad cA) A s S H locs) (hl : lv_has ls 6 [(0, .ref (ad 0)), (1, .int v1), (2, .int v2), (3, .int v3)])  (hm : mX10_crosses z v1 v2 v3 S = some q) : W p l e rX10_crosses s m args below meth c H locs 0 0 (MQ below (sd_Qi D vwCl (wY ad cA) A q) args s 0 0 A) (F0 m 0 ls []) := by
  unfold mX10_crosses at hm
  have hx := C0.1
  have hb := C0.2.1
  refine lv_aload_n hx hb dX10_crosses_0 rfl (lv_at hl 0 rfl) ?_
  refine lv_iconst (v := (-1)) hx hb dX10_crosses_1 (by decide) ?_
  refine sd_put C0 h (C := RX10) (T := TX10) (N := 17) (S1 := (sI S 3 (-1))) kcX10 tyX10 tyX10_ok nmX10 0 (aY_0 ad cA _) rfl 8 (by decide) kfX10_107 rfl (ty := .int) (by decide +kernel) rfl rfl (Nat.le_of_ble_eq_true rfl) (eY_0_8 ad cA _ _) dX10_crosses_2 (fun H locs h => ?_)
  refine lv_iconst (v := 0) hx hb dX10_crosses_5 (by decide) ?_
  refine lv_istore (lv' := [(4, .int 0), (0, .ref (ad 0)), (1, .int v1), (2, .int v2), (3, .int v3)]) hx hb dX10_crosses_6 hl (by decide) rfl (fun ls hl => ?_)
  exact lX10_crosses_8 C0 _ _ _ _ _ _ h (lv_sub hl [1, 2, 3, 4, 0] rfl) hm
theorem tX10_crosses (l : Launch) (D : va_G) (cA : ClassId) (ad : Nat → Nat) {z : Nat} {S : St} {v1 : Int32} {v2 : Int32} {v3 : Int32} {q : (Int32 × St)} (hm : mX10_crosses z v1 v2 v3 S = some q) : sd_MI l D vwCl cA sd_nw (wY ad cA) yX10_crosses (Cond.code yX10_crosses cX10_crosses 6 (some .boolean) :: sd_big) rX10_crosses [.ref (ad 0), .int v1, .int v2, .int v3] S q :=
  sd_ofI (by decide +kernel) (Nat.le_of_ble_eq_true rfl) (fun _ _ _ _ _ _ _ _ _ _ C0 h hl => bX10_crosses C0 h (lv_sub hl [0, 1, 2, 3] rfl) hm)

def rX10_cross : Room := { frames := 4, cells := 0, slots := 0, locals := 101 }
def mX10_cross_47 (z : Nat) (v4 : Int32) (t0 : Int32) (S : St) : Option (Int32 × St) :=
  if t0 = 0 then
    if v4 = 3 then
      some ((-30000), S)
    else
      some ((-1), S)
  else
    if v4 = 0 then
      some ((fI S 5), S)
    else
    if v4 = 1 then
      some ((fI S 3), S)
    else
    if v4 = 2 then
      some ((fI S 4), S)
    else
    if v4 = 3 then
      (mX10_corrected z (fI S 3) S).bind fun u6 =>
      (mX10_corrected z (fI u6.2 4) u6.2).bind fun u7 =>
      some ((u6.1 - u7.1), u7.2)
    else
      some ((-1), S)
set_option maxHeartbeats 4000000 in
set_option maxRecDepth 100000 in
theorem bX10_cross_47 {p : Program} {l : Launch} {e : Env} {s : State} {m : MethodId} {args : Array Value} {below : List Frame} {meth : Method} {c : Code} {D : va_G} {cA : ClassId} {ad : Nat → Nat} {A : Nat → Prop} {H : Heap} {locs : List Loc} {ls : Array Slot} {q : (Int32 × St)} {z : Nat} {v4 : Int32} {t0 : Int32} {S : St} (C0 : sd_Cx RX10 cX10_cross 6 (some .int) (Cond.code yX10_cross cX10_cross 6 (some .int) :: sd_big) p s m args meth c) (h : sd_Wd D vwCl cA sd_nw (wY ad cA) A s S H locs) (hl : lv_has ls 6 [(0, .ref (ad 0)), (4, .int v4)])  (hm : mX10_cross_47 z v4 t0 S = some q) : W p l e rX10_cross s m args below meth c H locs 0 0 (MQ below (sd_Qi D vwCl (wY ad cA) A q) args s 0 0 A) (F0 m 47 ls [.int t0]) := by
  unfold mX10_cross_47 at hm
  have hx := C0.1
  have hb := C0.2.1
  refine lv_istore (lv' := [(5, .int t0), (0, .ref (ad 0)), (4, .int v4)]) hx hb dX10_cross_47 hl (by decide) rfl (fun ls hl => ?_)
  refine lv_iload hx hb dX10_cross_49 (lv_at hl 0 rfl) ?_
  refine lv_if_ne (tgt := 68) hx hb dX10_cross_51 (by decide) (fun c1 => ?_) (fun c1 => ?_)
  · replace hm := iq c1 hm
    refine lv_iload hx hb dX10_cross_68 (lv_at hl 2 rfl) ?_
    by_cases c2 : v4 = 0
    · replace hm := ip c2 hm
      refine lv_tableIn (off := 30) (tgt := 100) hx hb dX10_cross_70 (by rw [c2]; decide) (by rw [c2]; decide) (by rw [c2]; rfl) (by decide) ?_
      refine lv_aload_n hx hb dX10_cross_100 rfl (lv_at hl 1 rfl) ?_
      refine sd_get C0 h (C := RX10) (T := TX10) (N := 17) kcX10 0 (aY_0 ad cA _) rfl 10 (by decide) kfX10_116 (v := .int (fI S 5)) rfl dX10_cross_101 ?_
      exact sd_iret C0 h (Option.some.inj hm) dX10_cross_104
    · replace hm := iq c2 hm
      by_cases c3 : v4 = 1
      · replace hm := ip c3 hm
        refine lv_tableIn (off := 35) (tgt := 105) hx hb dX10_cross_70 (by rw [c3]; decide) (by rw [c3]; decide) (by rw [c3]; rfl) (by decide) ?_
        refine lv_aload_n hx hb dX10_cross_105 rfl (lv_at hl 1 rfl) ?_
        refine sd_get C0 h (C := RX10) (T := TX10) (N := 17) kcX10 0 (aY_0 ad cA _) rfl 8 (by decide) kfX10_107 (v := .int (fI S 3)) rfl dX10_cross_106 ?_
        exact sd_iret C0 h (Option.some.inj hm) dX10_cross_109
      · replace hm := iq c3 hm
        by_cases c4 : v4 = 2
        · replace hm := ip c4 hm
          refine lv_tableIn (off := 40) (tgt := 110) hx hb dX10_cross_70 (by rw [c4]; decide) (by rw [c4]; decide) (by rw [c4]; rfl) (by decide) ?_
          refine lv_aload_n hx hb dX10_cross_110 rfl (lv_at hl 1 rfl) ?_
          refine sd_get C0 h (C := RX10) (T := TX10) (N := 17) kcX10 0 (aY_0 ad cA _) rfl 9 (by decide) kfX10_119 (v := .int (fI S 4)) rfl dX10_cross_111 ?_
          exact sd_iret C0 h (Option.some.inj hm) dX10_cross_114
        · replace hm := iq c4 hm
          by_cases c5 : v4 = 3
          · replace hm := ip c5 hm
            refine lv_tableIn (off := 45) (tgt := 115) hx hb dX10_cross_70 (by rw [c5]; decide) (by rw [c5]; decide) (by rw [c5]; rfl) (by decide) ?_
            refine lv_aload_n hx hb dX10_cross_115 rfl (lv_at hl 1 rfl) ?_
            refine lv_aload_n hx hb dX10_cross_116 rfl (lv_at hl 1 rfl) ?_
            refine sd_get C0 h (C := RX10) (T := TX10) (N := 17) kcX10 0 (aY_0 ad cA _) rfl 8 (by decide) kfX10_107 (v := .int (fI S 3)) rfl dX10_cross_117 ?_
            obtain ⟨u6, hu6, hm⟩ := bs hm
            refine sd_Vi C0 h kYX10_corrected kmX10_104 0 (aY_0 ad cA _) rfl [.int (fI S 3)] (tX10_corrected l D cA ad hu6) rfl hl.1 rfl (Nat.le_of_ble_eq_true rfl) (by decide) dX10_cross_120 (by decide) (fun H locs h => ?_)
            refine lv_aload_n hx hb dX10_cross_123 rfl (lv_at hl 1 rfl) ?_
            refine lv_aload_n hx hb dX10_cross_124 rfl (lv_at hl 1 rfl) ?_
            refine sd_get C0 h (C := RX10) (T := TX10) (N := 17) kcX10 0 (aY_0 ad cA _) rfl 9 (by decide) kfX10_119 (v := .int (fI u6.2 4)) rfl dX10_cross_125 ?_
            obtain ⟨u7, hu7, hm⟩ := bs hm
            refine sd_Vi C0 h kYX10_corrected kmX10_104 0 (aY_0 ad cA _) rfl [.int (fI u6.2 4)] (tX10_corrected l D cA ad hu7) rfl hl.1 rfl (Nat.le_of_ble_eq_true rfl) (by decide) dX10_cross_128 (by decide) (fun H locs h => ?_)
            refine lv_isub hx hb dX10_cross_131 ?_
            exact sd_iret C0 h (Option.some.inj hm) dX10_cross_132
          · replace hm := iq c5 hm
            have c2 := lv_neT c2 (a := 0) (by decide)
            have c3 := lv_neT c3 (a := 1) (by decide)
            have c4 := lv_neT c4 (a := 2) (by decide)
            have c5 := lv_neT c5 (a := 3) (by decide)
            refine lv_tableOut (tgt := 133) hx hb dX10_cross_70 (by omega) (by decide) ?_
            refine lv_iconst (v := (-1)) hx hb dX10_cross_133 (by decide) ?_
            exact sd_iret C0 h (Option.some.inj hm) dX10_cross_134
  · replace hm := ip c1 hm
    refine lv_iload hx hb dX10_cross_54 (lv_at hl 2 rfl) ?_
    refine lv_iconst (v := 3) hx hb dX10_cross_56 (by decide) ?_
    refine lv_icmp_ne (tgt := 66) hx hb dX10_cross_57 (by decide) (fun c8 => ?_) (fun c8 => ?_)
    · replace hm := iq c8 hm
      refine lv_iconst (v := (-1)) hx hb dX10_cross_66 (by decide) ?_
      exact sd_iret C0 h (Option.some.inj hm) dX10_cross_67
    · replace hm := ip c8 hm
      refine lv_sipush (v := (-30000)) hx hb dX10_cross_60 (by decide) ?_
      refine lv_goto (tgt := 67) hx hb dX10_cross_63 (by decide) ?_
      exact sd_iret C0 h (Option.some.inj hm) dX10_cross_67
def mX10_cross (z : Nat) (v1 : Int32) (v2 : Int32) (v3 : Int32) (v4 : Int32) (S : St) : Option (Int32 × St) :=
  (mX10_isLine S v1).bind fun u1 =>
  if u1 = 0 then
    mX10_cross_47 z v4 0 S
  else
    (mX10_isLine S v2).bind fun u3 =>
    if u3 = 0 then
      mX10_cross_47 z v4 0 S
    else
      if v2 ≤ v1 then
        mX10_cross_47 z v4 0 S
      else
        (mX10_in S v3 0 400).bind fun u6 =>
        if u6 = 0 then
          mX10_cross_47 z v4 0 S
        else
          (mX10_crosses z v1 v2 v3 S).bind fun u8 =>
          if u8.1 = 0 then
            mX10_cross_47 z v4 0 u8.2
          else
            mX10_cross_47 z v4 1 u8.2
set_option maxHeartbeats 4000000 in
set_option maxRecDepth 100000 in
theorem bX10_cross {p : Program} {l : Launch} {e : Env} {s : State} {m : MethodId} {args : Array Value} {below : List Frame} {meth : Method} {c : Code} {D : va_G} {cA : ClassId} {ad : Nat → Nat} {A : Nat → Prop} {H : Heap} {locs : List Loc} {ls : Array Slot} {q : (Int32 × St)} {z : Nat} {v1 : Int32} {v2 : Int32} {v3 : Int32} {v4 : Int32} {S : St} (C0 : sd_Cx RX10 cX10_cross 6 (some .int) (Cond.code yX10_cross cX10_cross 6 (some .int) :: sd_big) p s m args meth c) (h : sd_Wd D vwCl cA sd_nw (wY ad cA) A s S H locs) (hl : lv_has ls 6 [(0, .ref (ad 0)), (1, .int v1), (2, .int v2), (3, .int v3), (4, .int v4)])  (hm : mX10_cross z v1 v2 v3 v4 S = some q) : W p l e rX10_cross s m args below meth c H locs 0 0 (MQ below (sd_Qi D vwCl (wY ad cA) A q) args s 0 0 A) (F0 m 0 ls []) := by
  unfold mX10_cross at hm
  have hx := C0.1
  have hb := C0.2.1
  refine lv_aload_n hx hb dX10_cross_0 rfl (lv_at hl 0 rfl) ?_
  refine lv_iload_n hx hb dX10_cross_1 rfl (lv_at hl 1 rfl) ?_
  obtain ⟨u1, hu1, hm⟩ := bs hm
  refine sd_Vi C0 h kYX10_isLine kmX10_53 0 (aY_0 ad cA _) rfl [.int v1] (tX10_isLine l D cA ad hu1) rfl hl.1 rfl (Nat.le_of_ble_eq_true rfl) (by decide) dX10_cross_2 (by decide) (fun H locs h => ?_)
  refine lv_if_eq (tgt := 46) hx hb dX10_cross_5 (by decide) (fun c2 => ?_) (fun c2 => ?_)
  · replace hm := ip c2 hm
    refine lv_iconst (v := 0) hx hb dX10_cross_46 (by decide) ?_
    exact bX10_cross_47 C0 h (lv_sub hl [0, 4] rfl) hm
  · replace hm := iq c2 hm
    refine lv_aload_n hx hb dX10_cross_8 rfl (lv_at hl 0 rfl) ?_
    refine lv_iload_n hx hb dX10_cross_9 rfl (lv_at hl 2 rfl) ?_
    obtain ⟨u3, hu3, hm⟩ := bs hm
    refine sd_Vi C0 h kYX10_isLine kmX10_53 0 (aY_0 ad cA _) rfl [.int v2] (tX10_isLine l D cA ad hu3) rfl hl.1 rfl (Nat.le_of_ble_eq_true rfl) (by decide) dX10_cross_10 (by decide) (fun H locs h => ?_)
    refine lv_if_eq (tgt := 46) hx hb dX10_cross_13 (by decide) (fun c4 => ?_) (fun c4 => ?_)
    · replace hm := ip c4 hm
      refine lv_iconst (v := 0) hx hb dX10_cross_46 (by decide) ?_
      exact bX10_cross_47 C0 h (lv_sub hl [0, 4] rfl) hm
    · replace hm := iq c4 hm
      refine lv_iload_n hx hb dX10_cross_16 rfl (lv_at hl 1 rfl) ?_
      refine lv_iload_n hx hb dX10_cross_17 rfl (lv_at hl 2 rfl) ?_
      refine lv_icmp_ge (tgt := 46) hx hb dX10_cross_18 (by decide) (fun c5 => ?_) (fun c5 => ?_)
      · replace hm := ip c5 hm
        refine lv_iconst (v := 0) hx hb dX10_cross_46 (by decide) ?_
        exact bX10_cross_47 C0 h (lv_sub hl [0, 4] rfl) hm
      · replace hm := iq c5 hm
        refine lv_iload_n hx hb dX10_cross_21 rfl (lv_at hl 3 rfl) ?_
        refine lv_iconst (v := 0) hx hb dX10_cross_22 (by decide) ?_
        refine lv_sipush (v := 400) hx hb dX10_cross_23 (by decide) ?_
        obtain ⟨u6, hu6, hm⟩ := bs hm
        refine sd_Si C0 h kYX10_in kmX10_46 [.int v3, .int 0, .int 400] (tX10_in l D cA ad hu6) rfl hl.1 rfl (Nat.le_of_ble_eq_true rfl) (by decide) dX10_cross_26 (by decide) (fun H locs h => ?_)
        refine lv_if_eq (tgt := 46) hx hb dX10_cross_29 (by decide) (fun c7 => ?_) (fun c7 => ?_)
        · replace hm := ip c7 hm
          refine lv_iconst (v := 0) hx hb dX10_cross_46 (by decide) ?_
          exact bX10_cross_47 C0 h (lv_sub hl [0, 4] rfl) hm
        · replace hm := iq c7 hm
          refine lv_aload_n hx hb dX10_cross_32 rfl (lv_at hl 0 rfl) ?_
          refine lv_iload_n hx hb dX10_cross_33 rfl (lv_at hl 1 rfl) ?_
          refine lv_iload_n hx hb dX10_cross_34 rfl (lv_at hl 2 rfl) ?_
          refine lv_iload_n hx hb dX10_cross_35 rfl (lv_at hl 3 rfl) ?_
          obtain ⟨u8, hu8, hm⟩ := bs hm
          refine sd_Vi C0 h kYX10_crosses kmX10_122 0 (aY_0 ad cA _) rfl [.int v1, .int v2, .int v3] (tX10_crosses l D cA ad hu8) rfl hl.1 rfl (Nat.le_of_ble_eq_true rfl) (by decide) dX10_cross_36 (by decide) (fun H locs h => ?_)
          refine lv_if_eq (tgt := 46) hx hb dX10_cross_39 (by decide) (fun c9 => ?_) (fun c9 => ?_)
          · replace hm := ip c9 hm
            refine lv_iconst (v := 0) hx hb dX10_cross_46 (by decide) ?_
            exact bX10_cross_47 C0 h (lv_sub hl [0, 4] rfl) hm
          · replace hm := iq c9 hm
            refine lv_iconst (v := 1) hx hb dX10_cross_42 (by decide) ?_
            refine lv_goto (tgt := 47) hx hb dX10_cross_43 (by decide) ?_
            exact bX10_cross_47 C0 h (lv_sub hl [0, 4] rfl) hm
theorem tX10_cross (l : Launch) (D : va_G) (cA : ClassId) (ad : Nat → Nat) {z : Nat} {S : St} {v1 : Int32} {v2 : Int32} {v3 : Int32} {v4 : Int32} {q : (Int32 × St)} (hm : mX10_cross z v1 v2 v3 v4 S = some q) : sd_MI l D vwCl cA sd_nw (wY ad cA) yX10_cross (Cond.code yX10_cross cX10_cross 6 (some .int) :: sd_big) rX10_cross [.ref (ad 0), .int v1, .int v2, .int v3, .int v4] S q :=
  sd_ofI (by decide +kernel) (Nat.le_of_ble_eq_true rfl) (fun _ _ _ _ _ _ _ _ _ _ C0 h hl => bX10_cross C0 h (lv_sub hl [0, 1, 2, 3, 4] rfl) hm)

def rX10_worst : Room := { frames := 4, cells := 0, slots := 0, locals := 101 }
def mX10_worst_143 (z : Nat) (rc20 : Int32 → Int32 → Int32 → St → Option (Int32 × St)) (v1 : Int32) (v2 : Int32) (v3 : Int32) (v4 : Int32) (v5 : Int32) (v6 : Int32) (S : St) : Option (Int32 × St) :=
  if v6 = 0 then
    rc20 v2 v3 (v4 + 1) S
  else
    if v2 < 0 then
      rc20 v4 v5 (v4 + 1) S
    else
      if v3 < v5 then
        rc20 v4 v5 (v4 + 1) S
      else
        rc20 v2 v3 (v4 + 1) S
set_option maxHeartbeats 4000000 in
set_option maxRecDepth 100000 in
theorem bX10_worst_143 {p : Program} {l : Launch} {e : Env} {s : State} {m : MethodId} {args : Array Value} {below : List Frame} {meth : Method} {c : Code} {D : va_G} {cA : ClassId} {ad : Nat → Nat} {A : Nat → Prop} {H : Heap} {locs : List Loc} {ls : Array Slot} {q : (Int32 × St)} {z : Nat} {rc20 : Int32 → Int32 → Int32 → St → Option (Int32 × St)} {v1 : Int32} {v2 : Int32} {v3 : Int32} {v4 : Int32} {v5 : Int32} {v6 : Int32} {S : St} (C0 : sd_Cx RX10 cX10_worst 9 (some .int) (Cond.code yX10_worst cX10_worst 9 (some .int) :: sd_big) p s m args meth c) (h : sd_Wd D vwCl cA sd_nw (wY ad cA) A s S H locs) (hl : lv_has ls 9 [(0, .ref (ad 0)), (1, .int v1), (2, .int v2), (3, .int v3), (4, .int v4), (5, .int v5), (6, .int v6)]) (hrc20 : ∀ (v2 : Int32) (v3 : Int32) (v4 : Int32) (S : St) (H : Heap) (locs : List Loc) (ls : Array Slot), sd_Wd D vwCl cA sd_nw (wY ad cA) A s S H locs → lv_has ls 9 [(0, .ref (ad 0)), (1, .int v1), (2, .int v2), (3, .int v3), (4, .int v4)] → rc20 v2 v3 v4 S = some q → W p l e rX10_worst s m args below meth c H locs 0 0 (MQ below (sd_Qi D vwCl (wY ad cA) A q) args s 0 0 A) (F0 m 20 ls [])) (hm : mX10_worst_143 z rc20 v1 v2 v3 v4 v5 v6 S = some q) : W p l e rX10_worst s m args below meth c H locs 0 0 (MQ below (sd_Qi D vwCl (wY ad cA) A q) args s 0 0 A) (F0 m 143 ls []) := by
  unfold mX10_worst_143 at hm
  have hx := C0.1
  have hb := C0.2.1
  refine lv_iload hx hb dX10_worst_143 (lv_at hl 6 rfl) ?_
  refine lv_if_eq (tgt := 167) hx hb dX10_worst_145 (by decide) (fun c1 => ?_) (fun c1 => ?_)
  · replace hm := ip c1 hm
    refine lv_iinc (v := (v4 + 1)) (lv' := [(4, .int (v4 + 1)), (0, .ref (ad 0)), (1, .int v1), (2, .int v2), (3, .int v3), (5, .int v5), (6, .int v6)]) hx hb dX10_worst_167 hl (k := 4) rfl rfl (by decide) rfl (fun ls hl => ?_)
    refine lv_goto (tgt := 20) hx hb dX10_worst_170 (by decide) ?_
    exact hrc20 _ _ _ _ _ _ _ h (lv_sub hl [1, 2, 3, 4, 0] rfl) hm
  · replace hm := iq c1 hm
    refine lv_iload_n hx hb dX10_worst_148 rfl (lv_at hl 2 rfl) ?_
    refine lv_if_lt (tgt := 161) hx hb dX10_worst_149 (by decide) (fun c2 => ?_) (fun c2 => ?_)
    · replace hm := ip c2 hm
      refine lv_iload hx hb dX10_worst_161 (lv_at hl 4 rfl) ?_
      refine lv_istore_n (lv' := [(2, .int v4), (0, .ref (ad 0)), (1, .int v1), (3, .int v3), (4, .int v4), (5, .int v5), (6, .int v6)]) hx hb dX10_worst_163 rfl hl (by decide) rfl (fun ls hl => ?_)
      refine lv_iload hx hb dX10_worst_164 (lv_at hl 5 rfl) ?_
      refine lv_istore_n (lv' := [(3, .int v5), (2, .int v4), (0, .ref (ad 0)), (1, .int v1), (4, .int v4), (5, .int v5), (6, .int v6)]) hx hb dX10_worst_166 rfl hl (by decide) rfl (fun ls hl => ?_)
      refine lv_iinc (v := (v4 + 1)) (lv' := [(4, .int (v4 + 1)), (3, .int v5), (2, .int v4), (0, .ref (ad 0)), (1, .int v1), (5, .int v5), (6, .int v6)]) hx hb dX10_worst_167 hl (k := 4) rfl rfl (by decide) rfl (fun ls hl => ?_)
      refine lv_goto (tgt := 20) hx hb dX10_worst_170 (by decide) ?_
      exact hrc20 _ _ _ _ _ _ _ h (lv_sub hl [3, 4, 2, 1, 0] rfl) hm
    · replace hm := iq c2 hm
      refine lv_iload hx hb dX10_worst_152 (lv_at hl 5 rfl) ?_
      refine lv_iload_n hx hb dX10_worst_154 rfl (lv_at hl 3 rfl) ?_
      refine lv_icmp_gt (tgt := 161) hx hb dX10_worst_155 (by decide) (fun c3 => ?_) (fun c3 => ?_)
      · replace hm := ip c3 hm
        refine lv_iload hx hb dX10_worst_161 (lv_at hl 4 rfl) ?_
        refine lv_istore_n (lv' := [(2, .int v4), (0, .ref (ad 0)), (1, .int v1), (3, .int v3), (4, .int v4), (5, .int v5), (6, .int v6)]) hx hb dX10_worst_163 rfl hl (by decide) rfl (fun ls hl => ?_)
        refine lv_iload hx hb dX10_worst_164 (lv_at hl 5 rfl) ?_
        refine lv_istore_n (lv' := [(3, .int v5), (2, .int v4), (0, .ref (ad 0)), (1, .int v1), (4, .int v4), (5, .int v5), (6, .int v6)]) hx hb dX10_worst_166 rfl hl (by decide) rfl (fun ls hl => ?_)
        refine lv_iinc (v := (v4 + 1)) (lv' := [(4, .int (v4 + 1)), (3, .int v5), (2, .int v4), (0, .ref (ad 0)), (1, .int v1), (5, .int v5), (6, .int v6)]) hx hb dX10_worst_167 hl (k := 4) rfl rfl (by decide) rfl (fun ls hl => ?_)
        refine lv_goto (tgt := 20) hx hb dX10_worst_170 (by decide) ?_
        exact hrc20 _ _ _ _ _ _ _ h (lv_sub hl [3, 4, 2, 1, 0] rfl) hm
      · replace hm := iq c3 hm
        refine lv_goto (tgt := 167) hx hb dX10_worst_158 (by decide) ?_
        refine lv_iinc (v := (v4 + 1)) (lv' := [(4, .int (v4 + 1)), (0, .ref (ad 0)), (1, .int v1), (2, .int v2), (3, .int v3), (5, .int v5), (6, .int v6)]) hx hb dX10_worst_167 hl (k := 4) rfl rfl (by decide) rfl (fun ls hl => ?_)
        refine lv_goto (tgt := 20) hx hb dX10_worst_170 (by decide) ?_
        exact hrc20 _ _ _ _ _ _ _ h (lv_sub hl [1, 2, 3, 4, 0] rfl) hm
def mX10_worst_131 (z : Nat) (rc20 : Int32 → Int32 → Int32 → St → Option (Int32 × St)) (rc40 : Int32 → Int32 → Int32 → St → Option (Int32 × St)) (v1 : Int32) (v2 : Int32) (v3 : Int32) (v4 : Int32) (v7 : Int32) (t0 : Int32) (t1 : Int32) (S : St) : Option (Int32 × St) :=
  rc40 (t0 + t1) 1 (v7 + 1) S
set_option maxHeartbeats 4000000 in
set_option maxRecDepth 100000 in
theorem bX10_worst_131 {p : Program} {l : Launch} {e : Env} {s : State} {m : MethodId} {args : Array Value} {below : List Frame} {meth : Method} {c : Code} {D : va_G} {cA : ClassId} {ad : Nat → Nat} {A : Nat → Prop} {H : Heap} {locs : List Loc} {ls : Array Slot} {q : (Int32 × St)} {z : Nat} {rc20 : Int32 → Int32 → Int32 → St → Option (Int32 × St)} {rc40 : Int32 → Int32 → Int32 → St → Option (Int32 × St)} {v1 : Int32} {v2 : Int32} {v3 : Int32} {v4 : Int32} {v7 : Int32} {t0 : Int32} {t1 : Int32} {S : St} (C0 : sd_Cx RX10 cX10_worst 9 (some .int) (Cond.code yX10_worst cX10_worst 9 (some .int) :: sd_big) p s m args meth c) (h : sd_Wd D vwCl cA sd_nw (wY ad cA) A s S H locs) (hl : lv_has ls 9 [(0, .ref (ad 0)), (1, .int v1), (2, .int v2), (3, .int v3), (4, .int v4), (7, .int v7)]) (hrc20 : ∀ (v2 : Int32) (v3 : Int32) (v4 : Int32) (S : St) (H : Heap) (locs : List Loc) (ls : Array Slot), sd_Wd D vwCl cA sd_nw (wY ad cA) A s S H locs → lv_has ls 9 [(0, .ref (ad 0)), (1, .int v1), (2, .int v2), (3, .int v3), (4, .int v4)] → rc20 v2 v3 v4 S = some q → W p l e rX10_worst s m args below meth c H locs 0 0 (MQ below (sd_Qi D vwCl (wY ad cA) A q) args s 0 0 A) (F0 m 20 ls [])) (hrc40 : ∀ (v5 : Int32) (v6 : Int32) (v7 : Int32) (S : St) (H : Heap) (locs : List Loc) (ls : Array Slot), sd_Wd D vwCl cA sd_nw (wY ad cA) A s S H locs → lv_has ls 9 [(0, .ref (ad 0)), (1, .int v1), (2, .int v2), (3, .int v3), (4, .int v4), (5, .int v5), (6, .int v6), (7, .int v7)] → rc40 v5 v6 v7 S = some q → W p l e rX10_worst s m args below meth c H locs 0 0 (MQ below (sd_Qi D vwCl (wY ad cA) A q) args s 0 0 A) (F0 m 40 ls [])) (hm : mX10_worst_131 z rc20 rc40 v1 v2 v3 v4 v7 t0 t1 S = some q) : W p l e rX10_worst s m args below meth c H locs 0 0 (MQ below (sd_Qi D vwCl (wY ad cA) A q) args s 0 0 A) (F0 m 131 ls [.int t1, .int t0]) := by
  unfold mX10_worst_131 at hm
  have hx := C0.1
  have hb := C0.2.1
  refine lv_iadd hx hb dX10_worst_131 ?_
  refine lv_istore (lv' := [(5, .int (t0 + t1)), (0, .ref (ad 0)), (1, .int v1), (2, .int v2), (3, .int v3), (4, .int v4), (7, .int v7)]) hx hb dX10_worst_132 hl (by decide) rfl (fun ls hl => ?_)
  refine lv_iconst (v := 1) hx hb dX10_worst_134 (by decide) ?_
  refine lv_istore (lv' := [(6, .int 1), (5, .int (t0 + t1)), (0, .ref (ad 0)), (1, .int v1), (2, .int v2), (3, .int v3), (4, .int v4), (7, .int v7)]) hx hb dX10_worst_135 hl (by decide) rfl (fun ls hl => ?_)
  refine lv_iinc (v := (v7 + 1)) (lv' := [(7, .int (v7 + 1)), (6, .int 1), (5, .int (t0 + t1)), (0, .ref (ad 0)), (1, .int v1), (2, .int v2), (3, .int v3), (4, .int v4)]) hx hb dX10_worst_137 hl (k := 7) rfl rfl (by decide) rfl (fun ls hl => ?_)
  refine lv_goto (tgt := 40) hx hb dX10_worst_140 (by decide) ?_
  exact hrc40 _ _ _ _ _ _ _ h (lv_sub hl [3, 4, 5, 6, 7, 2, 1, 0] rfl) hm
def mX10_worst_87 (z : Nat) (rc20 : Int32 → Int32 → Int32 → St → Option (Int32 × St)) (rc40 : Int32 → Int32 → Int32 → St → Option (Int32 × St)) (v1 : Int32) (v2 : Int32) (v3 : Int32) (v4 : Int32) (v5 : Int32) (v6 : Int32) (v7 : Int32) (t1 : Int32) (t2 : Int32) (S : St) : Option (Int32 × St) :=
  (mX10_crosses z t1 t2 v1 S).bind fun u1 =>
  if u1.1 = 0 then
    rc40 v5 v6 (v7 + 1) u1.2
  else
    (mX10_corrected z (fI u1.2 3) u1.2).bind fun u3 =>
    (mX10_corrected z (fI u3.2 4) u3.2).bind fun u4 =>
    if 0 ≤ (u3.1 - u4.1) then
      mX10_worst_131 z rc20 rc40 v1 v2 v3 v4 v7 v5 (u3.1 - u4.1) u4.2
    else
      mX10_worst_131 z rc20 rc40 v1 v2 v3 v4 v7 v5 (-(u3.1 - u4.1)) u4.2
set_option maxHeartbeats 4000000 in
set_option maxRecDepth 100000 in
theorem bX10_worst_87 {p : Program} {l : Launch} {e : Env} {s : State} {m : MethodId} {args : Array Value} {below : List Frame} {meth : Method} {c : Code} {D : va_G} {cA : ClassId} {ad : Nat → Nat} {A : Nat → Prop} {H : Heap} {locs : List Loc} {ls : Array Slot} {q : (Int32 × St)} {z : Nat} {rc20 : Int32 → Int32 → Int32 → St → Option (Int32 × St)} {rc40 : Int32 → Int32 → Int32 → St → Option (Int32 × St)} {v1 : Int32} {v2 : Int32} {v3 : Int32} {v4 : Int32} {v5 : Int32} {v6 : Int32} {v7 : Int32} {t1 : Int32} {t2 : Int32} {S : St} (C0 : sd_Cx RX10 cX10_worst 9 (some .int) (Cond.code yX10_worst cX10_worst 9 (some .int) :: sd_big) p s m args meth c) (h : sd_Wd D vwCl cA sd_nw (wY ad cA) A s S H locs) (hl : lv_has ls 9 [(0, .ref (ad 0)), (1, .int v1), (2, .int v2), (3, .int v3), (4, .int v4), (5, .int v5), (6, .int v6), (7, .int v7)]) (hrc20 : ∀ (v2 : Int32) (v3 : Int32) (v4 : Int32) (S : St) (H : Heap) (locs : List Loc) (ls : Array Slot), sd_Wd D vwCl cA sd_nw (wY ad cA) A s S H locs → lv_has ls 9 [(0, .ref (ad 0)), (1, .int v1), (2, .int v2), (3, .int v3), (4, .int v4)] → rc20 v2 v3 v4 S = some q → W p l e rX10_worst s m args below meth c H locs 0 0 (MQ below (sd_Qi D vwCl (wY ad cA) A q) args s 0 0 A) (F0 m 20 ls [])) (hrc40 : ∀ (v5 : Int32) (v6 : Int32) (v7 : Int32) (S : St) (H : Heap) (locs : List Loc) (ls : Array Slot), sd_Wd D vwCl cA sd_nw (wY ad cA) A s S H locs → lv_has ls 9 [(0, .ref (ad 0)), (1, .int v1), (2, .int v2), (3, .int v3), (4, .int v4), (5, .int v5), (6, .int v6), (7, .int v7)] → rc40 v5 v6 v7 S = some q → W p l e rX10_worst s m args below meth c H locs 0 0 (MQ below (sd_Qi D vwCl (wY ad cA) A q) args s 0 0 A) (F0 m 40 ls [])) (hm : mX10_worst_87 z rc20 rc40 v1 v2 v3 v4 v5 v6 v7 t1 t2 S = some q) : W p l e rX10_worst s m args below meth c H locs 0 0 (MQ below (sd_Qi D vwCl (wY ad cA) A q) args s 0 0 A) (F0 m 87 ls [.int t2, .int t1, .ref (ad 0)]) := by
  unfold mX10_worst_87 at hm
  have hx := C0.1
  have hb := C0.2.1
  refine lv_iload_n hx hb dX10_worst_87 rfl (lv_at hl 1 rfl) ?_
  obtain ⟨u1, hu1, hm⟩ := bs hm
  refine sd_Vi C0 h kYX10_crosses kmX10_122 0 (aY_0 ad cA _) rfl [.int t1, .int t2, .int v1] (tX10_crosses l D cA ad hu1) rfl hl.1 rfl (Nat.le_of_ble_eq_true rfl) (by decide) dX10_worst_88 (by decide) (fun H locs h => ?_)
  refine lv_if_ne (tgt := 97) hx hb dX10_worst_91 (by decide) (fun c2 => ?_) (fun c2 => ?_)
  · replace hm := iq c2 hm
    refine lv_aload_n hx hb dX10_worst_97 rfl (lv_at hl 0 rfl) ?_
    refine lv_aload_n hx hb dX10_worst_98 rfl (lv_at hl 0 rfl) ?_
    refine sd_get C0 h (C := RX10) (T := TX10) (N := 17) kcX10 0 (aY_0 ad cA _) rfl 8 (by decide) kfX10_107 (v := .int (fI u1.2 3)) rfl dX10_worst_99 ?_
    obtain ⟨u3, hu3, hm⟩ := bs hm
    refine sd_Vi C0 h kYX10_corrected kmX10_104 0 (aY_0 ad cA _) rfl [.int (fI u1.2 3)] (tX10_corrected l D cA ad hu3) rfl hl.1 rfl (Nat.le_of_ble_eq_true rfl) (by decide) dX10_worst_102 (by decide) (fun H locs h => ?_)
    refine lv_aload_n hx hb dX10_worst_105 rfl (lv_at hl 0 rfl) ?_
    refine lv_aload_n hx hb dX10_worst_106 rfl (lv_at hl 0 rfl) ?_
    refine sd_get C0 h (C := RX10) (T := TX10) (N := 17) kcX10 0 (aY_0 ad cA _) rfl 9 (by decide) kfX10_119 (v := .int (fI u3.2 4)) rfl dX10_worst_107 ?_
    obtain ⟨u4, hu4, hm⟩ := bs hm
    refine sd_Vi C0 h kYX10_corrected kmX10_104 0 (aY_0 ad cA _) rfl [.int (fI u3.2 4)] (tX10_corrected l D cA ad hu4) rfl hl.1 rfl (Nat.le_of_ble_eq_true rfl) (by decide) dX10_worst_110 (by decide) (fun H locs h => ?_)
    refine lv_isub hx hb dX10_worst_113 ?_
    refine lv_istore (lv' := [(8, .int (u3.1 - u4.1)), (0, .ref (ad 0)), (1, .int v1), (2, .int v2), (3, .int v3), (4, .int v4), (5, .int v5), (6, .int v6), (7, .int v7)]) hx hb dX10_worst_114 hl (by decide) rfl (fun ls hl => ?_)
    refine lv_iload hx hb dX10_worst_116 (lv_at hl 6 rfl) ?_
    refine lv_iload hx hb dX10_worst_118 (lv_at hl 0 rfl) ?_
    refine lv_if_ge (tgt := 129) hx hb dX10_worst_120 (by decide) (fun c5 => ?_) (fun c5 => ?_)
    · replace hm := ip c5 hm
      refine lv_iload hx hb dX10_worst_129 (lv_at hl 0 rfl) ?_
      exact bX10_worst_131 C0 h (lv_sub hl [1, 2, 3, 4, 5, 8] rfl) hrc20 hrc40 hm
    · replace hm := iq c5 hm
      refine lv_iload hx hb dX10_worst_123 (lv_at hl 0 rfl) ?_
      refine lv_ineg hx hb dX10_worst_125 ?_
      refine lv_goto (tgt := 131) hx hb dX10_worst_126 (by decide) ?_
      exact bX10_worst_131 C0 h (lv_sub hl [1, 2, 3, 4, 5, 8] rfl) hrc20 hrc40 hm
  · replace hm := ip c2 hm
    refine lv_goto (tgt := 137) hx hb dX10_worst_94 (by decide) ?_
    refine lv_iinc (v := (v7 + 1)) (lv' := [(7, .int (v7 + 1)), (0, .ref (ad 0)), (1, .int v1), (2, .int v2), (3, .int v3), (4, .int v4), (5, .int v5), (6, .int v6)]) hx hb dX10_worst_137 hl (k := 7) rfl rfl (by decide) rfl (fun ls hl => ?_)
    refine lv_goto (tgt := 40) hx hb dX10_worst_140 (by decide) ?_
    exact hrc40 _ _ _ _ _ _ _ h (lv_sub hl [1, 2, 3, 4, 5, 6, 7, 0] rfl) hm
def mX10_worst_73 (z : Nat) (rc20 : Int32 → Int32 → Int32 → St → Option (Int32 × St)) (rc40 : Int32 → Int32 → Int32 → St → Option (Int32 × St)) (v1 : Int32) (v2 : Int32) (v3 : Int32) (v4 : Int32) (v5 : Int32) (v6 : Int32) (v7 : Int32) (t1 : Int32) (S : St) : Option (Int32 × St) :=
  if v4 ≤ v7 then
    mX10_worst_87 z rc20 rc40 v1 v2 v3 v4 v5 v6 v7 t1 v7 S
  else
    mX10_worst_87 z rc20 rc40 v1 v2 v3 v4 v5 v6 v7 t1 v4 S
set_option maxHeartbeats 4000000 in
set_option maxRecDepth 100000 in
theorem bX10_worst_73 {p : Program} {l : Launch} {e : Env} {s : State} {m : MethodId} {args : Array Value} {below : List Frame} {meth : Method} {c : Code} {D : va_G} {cA : ClassId} {ad : Nat → Nat} {A : Nat → Prop} {H : Heap} {locs : List Loc} {ls : Array Slot} {q : (Int32 × St)} {z : Nat} {rc20 : Int32 → Int32 → Int32 → St → Option (Int32 × St)} {rc40 : Int32 → Int32 → Int32 → St → Option (Int32 × St)} {v1 : Int32} {v2 : Int32} {v3 : Int32} {v4 : Int32} {v5 : Int32} {v6 : Int32} {v7 : Int32} {t1 : Int32} {S : St} (C0 : sd_Cx RX10 cX10_worst 9 (some .int) (Cond.code yX10_worst cX10_worst 9 (some .int) :: sd_big) p s m args meth c) (h : sd_Wd D vwCl cA sd_nw (wY ad cA) A s S H locs) (hl : lv_has ls 9 [(0, .ref (ad 0)), (1, .int v1), (2, .int v2), (3, .int v3), (4, .int v4), (5, .int v5), (6, .int v6), (7, .int v7)]) (hrc20 : ∀ (v2 : Int32) (v3 : Int32) (v4 : Int32) (S : St) (H : Heap) (locs : List Loc) (ls : Array Slot), sd_Wd D vwCl cA sd_nw (wY ad cA) A s S H locs → lv_has ls 9 [(0, .ref (ad 0)), (1, .int v1), (2, .int v2), (3, .int v3), (4, .int v4)] → rc20 v2 v3 v4 S = some q → W p l e rX10_worst s m args below meth c H locs 0 0 (MQ below (sd_Qi D vwCl (wY ad cA) A q) args s 0 0 A) (F0 m 20 ls [])) (hrc40 : ∀ (v5 : Int32) (v6 : Int32) (v7 : Int32) (S : St) (H : Heap) (locs : List Loc) (ls : Array Slot), sd_Wd D vwCl cA sd_nw (wY ad cA) A s S H locs → lv_has ls 9 [(0, .ref (ad 0)), (1, .int v1), (2, .int v2), (3, .int v3), (4, .int v4), (5, .int v5), (6, .int v6), (7, .int v7)] → rc40 v5 v6 v7 S = some q → W p l e rX10_worst s m args below meth c H locs 0 0 (MQ below (sd_Qi D vwCl (wY ad cA) A q) args s 0 0 A) (F0 m 40 ls [])) (hm : mX10_worst_73 z rc20 rc40 v1 v2 v3 v4 v5 v6 v7 t1 S = some q) : W p l e rX10_worst s m args below meth c H locs 0 0 (MQ below (sd_Qi D vwCl (wY ad cA) A q) args s 0 0 A) (F0 m 73 ls [.int t1, .ref (ad 0)]) := by
  unfold mX10_worst_73 at hm
  have hx := C0.1
  have hb := C0.2.1
  refine lv_iload hx hb dX10_worst_73 (lv_at hl 7 rfl) ?_
  refine lv_iload hx hb dX10_worst_75 (lv_at hl 4 rfl) ?_
  refine lv_icmp_ge (tgt := 85) hx hb dX10_worst_77 (by decide) (fun c1 => ?_) (fun c1 => ?_)
  · replace hm := ip c1 hm
    refine lv_iload hx hb dX10_worst_85 (lv_at hl 7 rfl) ?_
    exact bX10_worst_87 C0 h (lv_sub hl [0, 1, 2, 3, 4, 5, 6, 7] rfl) hrc20 hrc40 hm
  · replace hm := iq c1 hm
    refine lv_iload hx hb dX10_worst_80 (lv_at hl 4 rfl) ?_
    refine lv_goto (tgt := 87) hx hb dX10_worst_82 (by decide) ?_
    exact bX10_worst_87 C0 h (lv_sub hl [0, 1, 2, 3, 4, 5, 6, 7] rfl) hrc20 hrc40 hm
def mX10_worst_40b (z : Nat) (rc20 : Int32 → Int32 → Int32 → St → Option (Int32 × St)) (rc40 : Int32 → Int32 → Int32 → St → Option (Int32 × St)) (v1 : Int32) (v2 : Int32) (v3 : Int32) (v4 : Int32) (v5 : Int32) (v6 : Int32) (v7 : Int32) (S : St) : Option (Int32 × St) :=
  (rd (fA S 0) 4564 0).bind fun x1 =>
  if x1 ≤ v7 then
    mX10_worst_143 z rc20 v1 v2 v3 v4 v5 v6 S
  else
    if v7 = v4 then
      rc40 v5 v6 (v7 + 1) S
    else
      if v4 ≤ v7 then
        mX10_worst_73 z rc20 rc40 v1 v2 v3 v4 v5 v6 v7 v4 S
      else
        mX10_worst_73 z rc20 rc40 v1 v2 v3 v4 v5 v6 v7 v7 S
set_option maxHeartbeats 4000000 in
set_option maxRecDepth 100000 in
theorem bX10_worst_40b {p : Program} {l : Launch} {e : Env} {s : State} {m : MethodId} {args : Array Value} {below : List Frame} {meth : Method} {c : Code} {D : va_G} {cA : ClassId} {ad : Nat → Nat} {A : Nat → Prop} {H : Heap} {locs : List Loc} {ls : Array Slot} {q : (Int32 × St)} {z : Nat} {rc20 : Int32 → Int32 → Int32 → St → Option (Int32 × St)} {rc40 : Int32 → Int32 → Int32 → St → Option (Int32 × St)} {v1 : Int32} {v2 : Int32} {v3 : Int32} {v4 : Int32} {v5 : Int32} {v6 : Int32} {v7 : Int32} {S : St} (C0 : sd_Cx RX10 cX10_worst 9 (some .int) (Cond.code yX10_worst cX10_worst 9 (some .int) :: sd_big) p s m args meth c) (h : sd_Wd D vwCl cA sd_nw (wY ad cA) A s S H locs) (hl : lv_has ls 9 [(0, .ref (ad 0)), (1, .int v1), (2, .int v2), (3, .int v3), (4, .int v4), (5, .int v5), (6, .int v6), (7, .int v7)]) (hrc20 : ∀ (v2 : Int32) (v3 : Int32) (v4 : Int32) (S : St) (H : Heap) (locs : List Loc) (ls : Array Slot), sd_Wd D vwCl cA sd_nw (wY ad cA) A s S H locs → lv_has ls 9 [(0, .ref (ad 0)), (1, .int v1), (2, .int v2), (3, .int v3), (4, .int v4)] → rc20 v2 v3 v4 S = some q → W p l e rX10_worst s m args below meth c H locs 0 0 (MQ below (sd_Qi D vwCl (wY ad cA) A q) args s 0 0 A) (F0 m 20 ls [])) (hrc40 : ∀ (v5 : Int32) (v6 : Int32) (v7 : Int32) (S : St) (H : Heap) (locs : List Loc) (ls : Array Slot), sd_Wd D vwCl cA sd_nw (wY ad cA) A s S H locs → lv_has ls 9 [(0, .ref (ad 0)), (1, .int v1), (2, .int v2), (3, .int v3), (4, .int v4), (5, .int v5), (6, .int v6), (7, .int v7)] → rc40 v5 v6 v7 S = some q → W p l e rX10_worst s m args below meth c H locs 0 0 (MQ below (sd_Qi D vwCl (wY ad cA) A q) args s 0 0 A) (F0 m 40 ls [])) (hm : mX10_worst_40b z rc20 rc40 v1 v2 v3 v4 v5 v6 v7 S = some q) : W p l e rX10_worst s m args below meth c H locs 0 0 (MQ below (sd_Qi D vwCl (wY ad cA) A q) args s 0 0 A) (F0 m 40 ls []) := by
  unfold mX10_worst_40b at hm
  have hx := C0.1
  have hb := C0.2.1
  refine lv_iload hx hb dX10_worst_40 (lv_at hl 7 rfl) ?_
  refine lv_aload_n hx hb dX10_worst_42 rfl (lv_at hl 0 rfl) ?_
  refine sd_get C0 h (C := RX10) (T := TX10) (N := 17) kcX10 0 (aY_0 ad cA _) rfl 0 (by decide) kfX10_7 (v := .ref (ad 1)) rfl dX10_worst_43 ?_
  refine lv_iconst (v := 0) hx hb dX10_worst_46 (by decide) ?_
  obtain ⟨x1, hx1, hm⟩ := bs hm
  refine sd_rd C0 h 1 (aY_1 ad cA _) hx1 dX10_worst_47 ?_
  refine lv_icmp_ge (tgt := 143) hx hb dX10_worst_48 (by decide) (fun c2 => ?_) (fun c2 => ?_)
  · replace hm := ip c2 hm
    exact bX10_worst_143 C0 h (lv_sub hl [0, 1, 2, 3, 4, 5, 6] rfl) hrc20 hm
  · replace hm := iq c2 hm
    refine lv_iload hx hb dX10_worst_51 (lv_at hl 7 rfl) ?_
    refine lv_iload hx hb dX10_worst_53 (lv_at hl 4 rfl) ?_
    refine lv_icmp_eq (tgt := 137) hx hb dX10_worst_55 (by decide) (fun c3 => ?_) (fun c3 => ?_)
    · replace hm := ip c3 hm
      refine lv_iinc (v := (v7 + 1)) (lv' := [(7, .int (v7 + 1)), (0, .ref (ad 0)), (1, .int v1), (2, .int v2), (3, .int v3), (4, .int v4), (5, .int v5), (6, .int v6)]) hx hb dX10_worst_137 hl (k := 7) rfl rfl (by decide) rfl (fun ls hl => ?_)
      refine lv_goto (tgt := 40) hx hb dX10_worst_140 (by decide) ?_
      exact hrc40 _ _ _ _ _ _ _ h (lv_sub hl [1, 2, 3, 4, 5, 6, 7, 0] rfl) hm
    · replace hm := iq c3 hm
      refine lv_aload_n hx hb dX10_worst_58 rfl (lv_at hl 0 rfl) ?_
      refine lv_iload hx hb dX10_worst_59 (lv_at hl 7 rfl) ?_
      refine lv_iload hx hb dX10_worst_61 (lv_at hl 4 rfl) ?_
      refine lv_icmp_ge (tgt := 71) hx hb dX10_worst_63 (by decide) (fun c4 => ?_) (fun c4 => ?_)
      · replace hm := ip c4 hm
        refine lv_iload hx hb dX10_worst_71 (lv_at hl 4 rfl) ?_
        exact bX10_worst_73 C0 h (lv_sub hl [0, 1, 2, 3, 4, 5, 6, 7] rfl) hrc20 hrc40 hm
      · replace hm := iq c4 hm
        refine lv_iload hx hb dX10_worst_66 (lv_at hl 7 rfl) ?_
        refine lv_goto (tgt := 73) hx hb dX10_worst_68 (by decide) ?_
        exact bX10_worst_73 C0 h (lv_sub hl [0, 1, 2, 3, 4, 5, 6, 7] rfl) hrc20 hrc40 hm
def mX10_worst_40 (z : Nat) (rc20 : Int32 → Int32 → Int32 → St → Option (Int32 × St)) (v1 : Int32) (v2 : Int32) (v3 : Int32) (v4 : Int32) : Nat → Int32 → Int32 → Int32 → St → Option (Int32 × St)
  | 0, _, _, _, _ => none
  | n + 1, v5, v6, v7, S => mX10_worst_40b z rc20 (mX10_worst_40 z rc20 v1 v2 v3 v4 n) v1 v2 v3 v4 v5 v6 v7 S
set_option maxHeartbeats 4000000 in
set_option maxRecDepth 100000 in
theorem lX10_worst_40 {p : Program} {l : Launch} {e : Env} {s : State} {m : MethodId} {args : Array Value} {below : List Frame} {meth : Method} {c : Code} {D : va_G} {cA : ClassId} {ad : Nat → Nat} {A : Nat → Prop} {q : (Int32 × St)} {z : Nat} {rc20 : Int32 → Int32 → Int32 → St → Option (Int32 × St)} {v1 : Int32} {v2 : Int32} {v3 : Int32} {v4 : Int32} (C0 : sd_Cx RX10 cX10_worst 9 (some .int) (Cond.code yX10_worst cX10_worst 9 (some .int) :: sd_big) p s m args meth c) (hrc20 : ∀ (v2 : Int32) (v3 : Int32) (v4 : Int32) (S : St) (H : Heap) (locs : List Loc) (ls : Array Slot), sd_Wd D vwCl cA sd_nw (wY ad cA) A s S H locs → lv_has ls 9 [(0, .ref (ad 0)), (1, .int v1), (2, .int v2), (3, .int v3), (4, .int v4)] → rc20 v2 v3 v4 S = some q → W p l e rX10_worst s m args below meth c H locs 0 0 (MQ below (sd_Qi D vwCl (wY ad cA) A q) args s 0 0 A) (F0 m 20 ls [])) : ∀ (n : Nat) (v5 : Int32) (v6 : Int32) (v7 : Int32) (S : St) (H : Heap) (locs : List Loc) (ls : Array Slot), sd_Wd D vwCl cA sd_nw (wY ad cA) A s S H locs → lv_has ls 9 [(0, .ref (ad 0)), (1, .int v1), (2, .int v2), (3, .int v3), (4, .int v4), (5, .int v5), (6, .int v6), (7, .int v7)] → mX10_worst_40 z rc20 v1 v2 v3 v4 n v5 v6 v7 S = some q → W p l e rX10_worst s m args below meth c H locs 0 0 (MQ below (sd_Qi D vwCl (wY ad cA) A q) args s 0 0 A) (F0 m 40 ls []) := by
  intro n
  induction n with
  | zero =>
    intro v5 v6 v7 S H locs ls h hl hm
    exact nomatch (show none = some q from hm)
  | succ n ih =>
    intro v5 v6 v7 S H locs ls h hl hm
    exact bX10_worst_40b C0 h hl hrc20 ih hm
def mX10_worst_20b (z : Nat) (rc20 : Int32 → Int32 → Int32 → St → Option (Int32 × St)) (v1 : Int32) (v2 : Int32) (v3 : Int32) (v4 : Int32) (S : St) : Option (Int32 × St) :=
  (rd (fA S 0) 4564 0).bind fun x1 =>
  if x1 ≤ v4 then
    some (v2, S)
  else
    mX10_worst_40 z rc20 v1 v2 v3 v4 z 0 0 0 S
set_option maxHeartbeats 4000000 in
set_option maxRecDepth 100000 in
theorem bX10_worst_20b {p : Program} {l : Launch} {e : Env} {s : State} {m : MethodId} {args : Array Value} {below : List Frame} {meth : Method} {c : Code} {D : va_G} {cA : ClassId} {ad : Nat → Nat} {A : Nat → Prop} {H : Heap} {locs : List Loc} {ls : Array Slot} {q : (Int32 × St)} {z : Nat} {rc20 : Int32 → Int32 → Int32 → St → Option (Int32 × St)} {v1 : Int32} {v2 : Int32} {v3 : Int32} {v4 : Int32} {S : St} (C0 : sd_Cx RX10 cX10_worst 9 (some .int) (Cond.code yX10_worst cX10_worst 9 (some .int) :: sd_big) p s m args meth c) (h : sd_Wd D vwCl cA sd_nw (wY ad cA) A s S H locs) (hl : lv_has ls 9 [(0, .ref (ad 0)), (1, .int v1), (2, .int v2), (3, .int v3), (4, .int v4)]) (hrc20 : ∀ (v2 : Int32) (v3 : Int32) (v4 : Int32) (S : St) (H : Heap) (locs : List Loc) (ls : Array Slot), sd_Wd D vwCl cA sd_nw (wY ad cA) A s S H locs → lv_has ls 9 [(0, .ref (ad 0)), (1, .int v1), (2, .int v2), (3, .int v3), (4, .int v4)] → rc20 v2 v3 v4 S = some q → W p l e rX10_worst s m args below meth c H locs 0 0 (MQ below (sd_Qi D vwCl (wY ad cA) A q) args s 0 0 A) (F0 m 20 ls [])) (hm : mX10_worst_20b z rc20 v1 v2 v3 v4 S = some q) : W p l e rX10_worst s m args below meth c H locs 0 0 (MQ below (sd_Qi D vwCl (wY ad cA) A q) args s 0 0 A) (F0 m 20 ls []) := by
  unfold mX10_worst_20b at hm
  have hx := C0.1
  have hb := C0.2.1
  refine lv_iload hx hb dX10_worst_20 (lv_at hl 4 rfl) ?_
  refine lv_aload_n hx hb dX10_worst_22 rfl (lv_at hl 0 rfl) ?_
  refine sd_get C0 h (C := RX10) (T := TX10) (N := 17) kcX10 0 (aY_0 ad cA _) rfl 0 (by decide) kfX10_7 (v := .ref (ad 1)) rfl dX10_worst_23 ?_
  refine lv_iconst (v := 0) hx hb dX10_worst_26 (by decide) ?_
  obtain ⟨x1, hx1, hm⟩ := bs hm
  refine sd_rd C0 h 1 (aY_1 ad cA _) hx1 dX10_worst_27 ?_
  refine lv_icmp_ge (tgt := 173) hx hb dX10_worst_28 (by decide) (fun c2 => ?_) (fun c2 => ?_)
  · replace hm := ip c2 hm
    refine lv_iload_n hx hb dX10_worst_173 rfl (lv_at hl 2 rfl) ?_
    exact sd_iret C0 h (Option.some.inj hm) dX10_worst_174
  · replace hm := iq c2 hm
    refine lv_iconst (v := 0) hx hb dX10_worst_31 (by decide) ?_
    refine lv_istore (lv' := [(5, .int 0), (0, .ref (ad 0)), (1, .int v1), (2, .int v2), (3, .int v3), (4, .int v4)]) hx hb dX10_worst_32 hl (by decide) rfl (fun ls hl => ?_)
    refine lv_iconst (v := 0) hx hb dX10_worst_34 (by decide) ?_
    refine lv_istore (lv' := [(6, .int 0), (5, .int 0), (0, .ref (ad 0)), (1, .int v1), (2, .int v2), (3, .int v3), (4, .int v4)]) hx hb dX10_worst_35 hl (by decide) rfl (fun ls hl => ?_)
    refine lv_iconst (v := 0) hx hb dX10_worst_37 (by decide) ?_
    refine lv_istore (lv' := [(7, .int 0), (6, .int 0), (5, .int 0), (0, .ref (ad 0)), (1, .int v1), (2, .int v2), (3, .int v3), (4, .int v4)]) hx hb dX10_worst_38 hl (by decide) rfl (fun ls hl => ?_)
    exact lX10_worst_40 C0 hrc20 _ _ _ _ _ _ _ _ h (lv_sub hl [3, 4, 5, 6, 7, 2, 1, 0] rfl) hm
def mX10_worst_20 (z : Nat) (v1 : Int32) : Nat → Int32 → Int32 → Int32 → St → Option (Int32 × St)
  | 0, _, _, _, _ => none
  | n + 1, v2, v3, v4, S => mX10_worst_20b z (mX10_worst_20 z v1 n) v1 v2 v3 v4 S
set_option maxHeartbeats 4000000 in
set_option maxRecDepth 100000 in
theorem lX10_worst_20 {p : Program} {l : Launch} {e : Env} {s : State} {m : MethodId} {args : Array Value} {below : List Frame} {meth : Method} {c : Code} {D : va_G} {cA : ClassId} {ad : Nat → Nat} {A : Nat → Prop} {q : (Int32 × St)} {z : Nat} {v1 : Int32} (C0 : sd_Cx RX10 cX10_worst 9 (some .int) (Cond.code yX10_worst cX10_worst 9 (some .int) :: sd_big) p s m args meth c)  : ∀ (n : Nat) (v2 : Int32) (v3 : Int32) (v4 : Int32) (S : St) (H : Heap) (locs : List Loc) (ls : Array Slot), sd_Wd D vwCl cA sd_nw (wY ad cA) A s S H locs → lv_has ls 9 [(0, .ref (ad 0)), (1, .int v1), (2, .int v2), (3, .int v3), (4, .int v4)] → mX10_worst_20 z v1 n v2 v3 v4 S = some q → W p l e rX10_worst s m args below meth c H locs 0 0 (MQ below (sd_Qi D vwCl (wY ad cA) A q) args s 0 0 A) (F0 m 20 ls []) := by
  intro n
  induction n with
  | zero =>
    intro v2 v3 v4 S H locs ls h hl hm
    exact nomatch (show none = some q from hm)
  | succ n ih =>
    intro v2 v3 v4 S H locs ls h hl hm
    exact bX10_worst_20b C0 h hl ih hm
def mX10_worst (z : Nat) (v1 : Int32) (S : St) : Option (Int32 × St) :=
  (mX10_in S v1 0 400).bind fun u1 =>
  if u1 = 0 then
    some ((-1), S)
  else
    mX10_worst_20 z v1 z (-1) 0 0 S
set_option maxHeartbeats 4000000 in
set_option maxRecDepth 100000 in
theorem bX10_worst {p : Program} {l : Launch} {e : Env} {s : State} {m : MethodId} {args : Array Value} {below : List Frame} {meth : Method} {c : Code} {D : va_G} {cA : ClassId} {ad : Nat → Nat} {A : Nat → Prop} {H : Heap} {locs : List Loc} {ls : Array Slot} {q : (Int32 × St)} {z : Nat} {v1 : Int32} {S : St} (C0 : sd_Cx RX10 cX10_worst 9 (some .int) (Cond.code yX10_worst cX10_worst 9 (some .int) :: sd_big) p s m args meth c) (h : sd_Wd D vwCl cA sd_nw (wY ad cA) A s S H locs) (hl : lv_has ls 9 [(0, .ref (ad 0)), (1, .int v1)])  (hm : mX10_worst z v1 S = some q) : W p l e rX10_worst s m args below meth c H locs 0 0 (MQ below (sd_Qi D vwCl (wY ad cA) A q) args s 0 0 A) (F0 m 0 ls []) := by
  unfold mX10_worst at hm
  have hx := C0.1
  have hb := C0.2.1
  refine lv_iload_n hx hb dX10_worst_0 rfl (lv_at hl 1 rfl) ?_
  refine lv_iconst (v := 0) hx hb dX10_worst_1 (by decide) ?_
  refine lv_sipush (v := 400) hx hb dX10_worst_2 (by decide) ?_
  obtain ⟨u1, hu1, hm⟩ := bs hm
  refine sd_Si C0 h kYX10_in kmX10_46 [.int v1, .int 0, .int 400] (tX10_in l D cA ad hu1) rfl hl.1 rfl (Nat.le_of_ble_eq_true rfl) (by decide) dX10_worst_5 (by decide) (fun H locs h => ?_)
  refine lv_if_ne (tgt := 13) hx hb dX10_worst_8 (by decide) (fun c2 => ?_) (fun c2 => ?_)
  · replace hm := iq c2 hm
    refine lv_iconst (v := (-1)) hx hb dX10_worst_13 (by decide) ?_
    refine lv_istore_n (lv' := [(2, .int (-1)), (0, .ref (ad 0)), (1, .int v1)]) hx hb dX10_worst_14 rfl hl (by decide) rfl (fun ls hl => ?_)
    refine lv_iconst (v := 0) hx hb dX10_worst_15 (by decide) ?_
    refine lv_istore_n (lv' := [(3, .int 0), (2, .int (-1)), (0, .ref (ad 0)), (1, .int v1)]) hx hb dX10_worst_16 rfl hl (by decide) rfl (fun ls hl => ?_)
    refine lv_iconst (v := 0) hx hb dX10_worst_17 (by decide) ?_
    refine lv_istore (lv' := [(4, .int 0), (3, .int 0), (2, .int (-1)), (0, .ref (ad 0)), (1, .int v1)]) hx hb dX10_worst_18 hl (by decide) rfl (fun ls hl => ?_)
    exact lX10_worst_20 C0 _ _ _ _ _ _ _ _ h (lv_sub hl [3, 4, 2, 1, 0] rfl) hm
  · replace hm := ip c2 hm
    refine lv_iconst (v := (-1)) hx hb dX10_worst_11 (by decide) ?_
    exact sd_iret C0 h (Option.some.inj hm) dX10_worst_12
theorem tX10_worst (l : Launch) (D : va_G) (cA : ClassId) (ad : Nat → Nat) {z : Nat} {S : St} {v1 : Int32} {q : (Int32 × St)} (hm : mX10_worst z v1 S = some q) : sd_MI l D vwCl cA sd_nw (wY ad cA) yX10_worst (Cond.code yX10_worst cX10_worst 9 (some .int) :: sd_big) rX10_worst [.ref (ad 0), .int v1] S q :=
  sd_ofI (by decide +kernel) (Nat.le_of_ble_eq_true rfl) (fun _ _ _ _ _ _ _ _ _ _ C0 h hl => bX10_worst C0 h (lv_sub hl [0, 1] rfl) hm)

def rX10_squareOf : Room := { frames := 0, cells := 0, slots := 0, locals := 0 }
def mX10_squareOf (S : St) (v0 : Int32) (v1 : Int32) : Option Int32 :=
  some ((16 * (v1 / 16)) + (v0 / 16))
set_option maxHeartbeats 4000000 in
set_option maxRecDepth 100000 in
theorem bX10_squareOf {p : Program} {l : Launch} {e : Env} {s : State} {m : MethodId} {args : Array Value} {below : List Frame} {meth : Method} {c : Code} {D : va_G} {cA : ClassId} {ad : Nat → Nat} {A : Nat → Prop} {H : Heap} {locs : List Loc} {ls : Array Slot} {q : Int32} {S : St} {v0 : Int32} {v1 : Int32} (C0 : sd_Cx RX10 cX10_squareOf 2 (some .int) (Cond.code yX10_squareOf cX10_squareOf 2 (some .int) :: sd_big) p s m args meth c) (h : sd_Wd D vwCl cA sd_nw (wY ad cA) A s S H locs) (hl : lv_has ls 2 [(0, .int v0), (1, .int v1)])  (hm : mX10_squareOf S v0 v1 = some q) : W p l e rX10_squareOf s m args below meth c H locs 0 0 (MQ below (sd_Qi D vwCl (wY ad cA) A (q, S)) args s 0 0 A) (F0 m 0 ls []) := by
  unfold mX10_squareOf at hm
  have hx := C0.1
  have hb := C0.2.1
  refine lv_bipush (v := 16) hx hb dX10_squareOf_0 (by decide) ?_
  refine lv_iload_n hx hb dX10_squareOf_2 rfl (lv_at hl 1 rfl) ?_
  refine lv_bipush (v := 16) hx hb dX10_squareOf_3 (by decide) ?_
  refine lv_idiv hx hb dX10_squareOf_5 (by decide) ?_
  refine lv_imul hx hb dX10_squareOf_6 ?_
  refine lv_iload_n hx hb dX10_squareOf_7 rfl (lv_at hl 0 rfl) ?_
  refine lv_bipush (v := 16) hx hb dX10_squareOf_8 (by decide) ?_
  refine lv_idiv hx hb dX10_squareOf_10 (by decide) ?_
  refine lv_iadd hx hb dX10_squareOf_11 ?_
  exact sd_iret C0 h (congrArg (fun x => (x, S)) (Option.some.inj hm)) dX10_squareOf_12
theorem tX10_squareOf (l : Launch) (D : va_G) (cA : ClassId) (ad : Nat → Nat) {S : St} {v0 : Int32} {v1 : Int32} {q : Int32} (hm : mX10_squareOf S v0 v1 = some q) : sd_MI l D vwCl cA sd_nw (wY ad cA) yX10_squareOf (Cond.code yX10_squareOf cX10_squareOf 2 (some .int) :: sd_big) rX10_squareOf [.int v0, .int v1] S (q, S) :=
  sd_ofI (by decide +kernel) (Nat.le_of_ble_eq_true rfl) (fun _ _ _ _ _ _ _ _ _ _ C0 h hl => bX10_squareOf C0 h (lv_sub hl [0, 1] rfl) hm)

def rX10_isThere : Room := { frames := 1, cells := 0, slots := 0, locals := 22 }
def mX10_isThere (S : St) (v1 : Int32) (v2 : Int32) : Option Int32 :=
  (mX10_of S v1 4).bind fun u1 =>
  if v2 < u1 then
    some 0
  else
    (mX10_of S v1 7).bind fun u3 =>
    if u3 ≤ v2 then
      some 0
    else
      some 1
set_option maxHeartbeats 4000000 in
set_option maxRecDepth 100000 in
theorem bX10_isThere {p : Program} {l : Launch} {e : Env} {s : State} {m : MethodId} {args : Array Value} {below : List Frame} {meth : Method} {c : Code} {D : va_G} {cA : ClassId} {ad : Nat → Nat} {A : Nat → Prop} {H : Heap} {locs : List Loc} {ls : Array Slot} {q : Int32} {S : St} {v1 : Int32} {v2 : Int32} (C0 : sd_Cx RX10 cX10_isThere 3 (some .boolean) (Cond.code yX10_isThere cX10_isThere 3 (some .boolean) :: sd_big) p s m args meth c) (h : sd_Wd D vwCl cA sd_nw (wY ad cA) A s S H locs) (hl : lv_has ls 3 [(0, .ref (ad 0)), (1, .int v1), (2, .int v2)])  (hm : mX10_isThere S v1 v2 = some q) : W p l e rX10_isThere s m args below meth c H locs 0 0 (MQ below (sd_Qi D vwCl (wY ad cA) A (q, S)) args s 0 0 A) (F0 m 0 ls []) := by
  unfold mX10_isThere at hm
  have hx := C0.1
  have hb := C0.2.1
  refine lv_aload_n hx hb dX10_isThere_0 rfl (lv_at hl 0 rfl) ?_
  refine lv_iload_n hx hb dX10_isThere_1 rfl (lv_at hl 1 rfl) ?_
  refine lv_iconst (v := 4) hx hb dX10_isThere_2 (by decide) ?_
  obtain ⟨u1, hu1, hm⟩ := bs hm
  refine sd_Vi C0 h kYX10_of kmX10_96 0 (aY_0 ad cA _) rfl [.int v1, .int 4] (tX10_of l D cA ad hu1) rfl hl.1 rfl (Nat.le_of_ble_eq_true rfl) (by decide) dX10_isThere_3 (by decide) (fun H locs h => ?_)
  refine lv_iload_n hx hb dX10_isThere_6 rfl (lv_at hl 2 rfl) ?_
  refine lv_icmp_gt (tgt := 25) hx hb dX10_isThere_7 (by decide) (fun c2 => ?_) (fun c2 => ?_)
  · replace hm := ip c2 hm
    refine lv_iconst (v := 0) hx hb dX10_isThere_25 (by decide) ?_
    exact sd_zret C0 h (congrArg (fun x => (x, S)) (Option.some.inj hm)) rfl dX10_isThere_26
  · replace hm := iq c2 hm
    refine lv_aload_n hx hb dX10_isThere_10 rfl (lv_at hl 0 rfl) ?_
    refine lv_iload_n hx hb dX10_isThere_11 rfl (lv_at hl 1 rfl) ?_
    refine lv_bipush (v := 7) hx hb dX10_isThere_12 (by decide) ?_
    obtain ⟨u3, hu3, hm⟩ := bs hm
    refine sd_Vi C0 h kYX10_of kmX10_96 0 (aY_0 ad cA _) rfl [.int v1, .int 7] (tX10_of l D cA ad hu3) rfl hl.1 rfl (Nat.le_of_ble_eq_true rfl) (by decide) dX10_isThere_14 (by decide) (fun H locs h => ?_)
    refine lv_iload_n hx hb dX10_isThere_17 rfl (lv_at hl 2 rfl) ?_
    refine lv_icmp_le (tgt := 25) hx hb dX10_isThere_18 (by decide) (fun c4 => ?_) (fun c4 => ?_)
    · replace hm := ip c4 hm
      refine lv_iconst (v := 0) hx hb dX10_isThere_25 (by decide) ?_
      exact sd_zret C0 h (congrArg (fun x => (x, S)) (Option.some.inj hm)) rfl dX10_isThere_26
    · replace hm := iq c4 hm
      refine lv_iconst (v := 1) hx hb dX10_isThere_21 (by decide) ?_
      refine lv_goto (tgt := 26) hx hb dX10_isThere_22 (by decide) ?_
      exact sd_zret C0 h (congrArg (fun x => (x, S)) (Option.some.inj hm)) rfl dX10_isThere_26
theorem tX10_isThere (l : Launch) (D : va_G) (cA : ClassId) (ad : Nat → Nat) {S : St} {v1 : Int32} {v2 : Int32} {q : Int32} (hm : mX10_isThere S v1 v2 = some q) : sd_MI l D vwCl cA sd_nw (wY ad cA) yX10_isThere (Cond.code yX10_isThere cX10_isThere 3 (some .boolean) :: sd_big) rX10_isThere [.ref (ad 0), .int v1, .int v2] S (q, S) :=
  sd_ofI (by decide +kernel) (Nat.le_of_ble_eq_true rfl) (fun _ _ _ _ _ _ _ _ _ _ C0 h hl => bX10_isThere C0 h (lv_sub hl [0, 1, 2] rfl) hm)

def rX10_isFound : Room := { frames := 2, cells := 0, slots := 0, locals := 54 }
def mX10_isFound (z : Nat) (v1 : Int32) (v2 : Int32) (v3 : Int32) (S : St) : Option (Int32 × St) :=
  (mX10_of S v1 0).bind fun u1 =>
  if u1 = 2 then
    some (0, S)
  else
    (mX10_of S v1 1).bind fun u3 =>
    (mX10_of S v1 2).bind fun u4 =>
    (mX10_squareOf S u3 u4).bind fun u5 =>
    if u5 = v3 then
      (mX10_isThere S v1 v2).bind fun u7 =>
      if u7 = 0 then
        some (0, S)
      else
        (mX10_waits z v1 S).bind fun u9 =>
        if u9.1 = 0 then
          some (1, u9.2)
        else
          some (0, u9.2)
    else
      some (0, S)
set_option maxHeartbeats 4000000 in
set_option maxRecDepth 100000 in
theorem bX10_isFound {p : Program} {l : Launch} {e : Env} {s : State} {m : MethodId} {args : Array Value} {below : List Frame} {meth : Method} {c : Code} {D : va_G} {cA : ClassId} {ad : Nat → Nat} {A : Nat → Prop} {H : Heap} {locs : List Loc} {ls : Array Slot} {q : (Int32 × St)} {z : Nat} {v1 : Int32} {v2 : Int32} {v3 : Int32} {S : St} (C0 : sd_Cx RX10 cX10_isFound 4 (some .boolean) (Cond.code yX10_isFound cX10_isFound 4 (some .boolean) :: sd_big) p s m args meth c) (h : sd_Wd D vwCl cA sd_nw (wY ad cA) A s S H locs) (hl : lv_has ls 4 [(0, .ref (ad 0)), (1, .int v1), (2, .int v2), (3, .int v3)])  (hm : mX10_isFound z v1 v2 v3 S = some q) : W p l e rX10_isFound s m args below meth c H locs 0 0 (MQ below (sd_Qi D vwCl (wY ad cA) A q) args s 0 0 A) (F0 m 0 ls []) := by
  unfold mX10_isFound at hm
  have hx := C0.1
  have hb := C0.2.1
  refine lv_aload_n hx hb dX10_isFound_0 rfl (lv_at hl 0 rfl) ?_
  refine lv_iload_n hx hb dX10_isFound_1 rfl (lv_at hl 1 rfl) ?_
  refine lv_iconst (v := 0) hx hb dX10_isFound_2 (by decide) ?_
  obtain ⟨u1, hu1, hm⟩ := bs hm
  refine sd_Vi C0 h kYX10_of kmX10_96 0 (aY_0 ad cA _) rfl [.int v1, .int 0] (tX10_of l D cA ad hu1) rfl hl.1 rfl (Nat.le_of_ble_eq_true rfl) (by decide) dX10_isFound_3 (by decide) (fun H locs h => ?_)
  refine lv_iconst (v := 2) hx hb dX10_isFound_6 (by decide) ?_
  refine lv_icmp_eq (tgt := 50) hx hb dX10_isFound_7 (by decide) (fun c2 => ?_) (fun c2 => ?_)
  · replace hm := ip c2 hm
    refine lv_iconst (v := 0) hx hb dX10_isFound_50 (by decide) ?_
    exact sd_zret C0 h (Option.some.inj hm) rfl dX10_isFound_51
  · replace hm := iq c2 hm
    refine lv_aload_n hx hb dX10_isFound_10 rfl (lv_at hl 0 rfl) ?_
    refine lv_iload_n hx hb dX10_isFound_11 rfl (lv_at hl 1 rfl) ?_
    refine lv_iconst (v := 1) hx hb dX10_isFound_12 (by decide) ?_
    obtain ⟨u3, hu3, hm⟩ := bs hm
    refine sd_Vi C0 h kYX10_of kmX10_96 0 (aY_0 ad cA _) rfl [.int v1, .int 1] (tX10_of l D cA ad hu3) rfl hl.1 rfl (Nat.le_of_ble_eq_true rfl) (by decide) dX10_isFound_13 (by decide) (fun H locs h => ?_)
    refine lv_aload_n hx hb dX10_isFound_16 rfl (lv_at hl 0 rfl) ?_
    refine lv_iload_n hx hb dX10_isFound_17 rfl (lv_at hl 1 rfl) ?_
    refine lv_iconst (v := 2) hx hb dX10_isFound_18 (by decide) ?_
    obtain ⟨u4, hu4, hm⟩ := bs hm
    refine sd_Vi C0 h kYX10_of kmX10_96 0 (aY_0 ad cA _) rfl [.int v1, .int 2] (tX10_of l D cA ad hu4) rfl hl.1 rfl (Nat.le_of_ble_eq_true rfl) (by decide) dX10_isFound_19 (by decide) (fun H locs h => ?_)
    obtain ⟨u5, hu5, hm⟩ := bs hm
    refine sd_Si C0 h kYX10_squareOf kmX10_125 [.int u3, .int u4] (tX10_squareOf l D cA ad hu5) rfl hl.1 rfl (Nat.le_of_ble_eq_true rfl) (by decide) dX10_isFound_22 (by decide) (fun H locs h => ?_)
    refine lv_iload_n hx hb dX10_isFound_25 rfl (lv_at hl 3 rfl) ?_
    refine lv_icmp_ne (tgt := 50) hx hb dX10_isFound_26 (by decide) (fun c6 => ?_) (fun c6 => ?_)
    · replace hm := iq c6 hm
      refine lv_iconst (v := 0) hx hb dX10_isFound_50 (by decide) ?_
      exact sd_zret C0 h (Option.some.inj hm) rfl dX10_isFound_51
    · replace hm := ip c6 hm
      refine lv_aload_n hx hb dX10_isFound_29 rfl (lv_at hl 0 rfl) ?_
      refine lv_iload_n hx hb dX10_isFound_30 rfl (lv_at hl 1 rfl) ?_
      refine lv_iload_n hx hb dX10_isFound_31 rfl (lv_at hl 2 rfl) ?_
      obtain ⟨u7, hu7, hm⟩ := bs hm
      refine sd_Vi C0 h kYX10_isThere kmX10_128 0 (aY_0 ad cA _) rfl [.int v1, .int v2] (tX10_isThere l D cA ad hu7) rfl hl.1 rfl (Nat.le_of_ble_eq_true rfl) (by decide) dX10_isFound_32 (by decide) (fun H locs h => ?_)
      refine lv_if_eq (tgt := 50) hx hb dX10_isFound_35 (by decide) (fun c8 => ?_) (fun c8 => ?_)
      · replace hm := ip c8 hm
        refine lv_iconst (v := 0) hx hb dX10_isFound_50 (by decide) ?_
        exact sd_zret C0 h (Option.some.inj hm) rfl dX10_isFound_51
      · replace hm := iq c8 hm
        refine lv_aload_n hx hb dX10_isFound_38 rfl (lv_at hl 0 rfl) ?_
        refine lv_iload_n hx hb dX10_isFound_39 rfl (lv_at hl 1 rfl) ?_
        obtain ⟨u9, hu9, hm⟩ := bs hm
        refine sd_Vi C0 h kYX10_waits kmX10_101 0 (aY_0 ad cA _) rfl [.int v1] (tX10_waits l D cA ad hu9) rfl hl.1 rfl (Nat.le_of_ble_eq_true rfl) (by decide) dX10_isFound_40 (by decide) (fun H locs h => ?_)
        refine lv_if_ne (tgt := 50) hx hb dX10_isFound_43 (by decide) (fun c10 => ?_) (fun c10 => ?_)
        · replace hm := iq c10 hm
          refine lv_iconst (v := 0) hx hb dX10_isFound_50 (by decide) ?_
          exact sd_zret C0 h (Option.some.inj hm) rfl dX10_isFound_51
        · replace hm := ip c10 hm
          refine lv_iconst (v := 1) hx hb dX10_isFound_46 (by decide) ?_
          refine lv_goto (tgt := 51) hx hb dX10_isFound_47 (by decide) ?_
          exact sd_zret C0 h (Option.some.inj hm) rfl dX10_isFound_51
theorem tX10_isFound (l : Launch) (D : va_G) (cA : ClassId) (ad : Nat → Nat) {z : Nat} {S : St} {v1 : Int32} {v2 : Int32} {v3 : Int32} {q : (Int32 × St)} (hm : mX10_isFound z v1 v2 v3 S = some q) : sd_MI l D vwCl cA sd_nw (wY ad cA) yX10_isFound (Cond.code yX10_isFound cX10_isFound 4 (some .boolean) :: sd_big) rX10_isFound [.ref (ad 0), .int v1, .int v2, .int v3] S q :=
  sd_ofI (by decide +kernel) (Nat.le_of_ble_eq_true rfl) (fun _ _ _ _ _ _ _ _ _ _ C0 h hl => bX10_isFound C0 h (lv_sub hl [0, 1, 2, 3] rfl) hm)

def rX10_isSwept : Room := { frames := 2, cells := 0, slots := 0, locals := 54 }
def mX10_isSwept (z : Nat) (v1 : Int32) (v2 : Int32) (S : St) : Option (Int32 × St) :=
  (mX10_of S v1 0).bind fun u1 =>
  if u1 = 2 then
    (mX10_isThere S v1 v2).bind fun u3 =>
    if u3 = 0 then
      some (0, S)
    else
      (mX10_waits z v1 S).bind fun u5 =>
      if u5.1 = 0 then
        some (1, u5.2)
      else
        some (0, u5.2)
  else
    some (0, S)
set_option maxHeartbeats 4000000 in
set_option maxRecDepth 100000 in
theorem bX10_isSwept {p : Program} {l : Launch} {e : Env} {s : State} {m : MethodId} {args : Array Value} {below : List Frame} {meth : Method} {c : Code} {D : va_G} {cA : ClassId} {ad : Nat → Nat} {A : Nat → Prop} {H : Heap} {locs : List Loc} {ls : Array Slot} {q : (Int32 × St)} {z : Nat} {v1 : Int32} {v2 : Int32} {S : St} (C0 : sd_Cx RX10 cX10_isSwept 3 (some .boolean) (Cond.code yX10_isSwept cX10_isSwept 3 (some .boolean) :: sd_big) p s m args meth c) (h : sd_Wd D vwCl cA sd_nw (wY ad cA) A s S H locs) (hl : lv_has ls 3 [(0, .ref (ad 0)), (1, .int v1), (2, .int v2)])  (hm : mX10_isSwept z v1 v2 S = some q) : W p l e rX10_isSwept s m args below meth c H locs 0 0 (MQ below (sd_Qi D vwCl (wY ad cA) A q) args s 0 0 A) (F0 m 0 ls []) := by
  unfold mX10_isSwept at hm
  have hx := C0.1
  have hb := C0.2.1
  refine lv_aload_n hx hb dX10_isSwept_0 rfl (lv_at hl 0 rfl) ?_
  refine lv_iload_n hx hb dX10_isSwept_1 rfl (lv_at hl 1 rfl) ?_
  refine lv_iconst (v := 0) hx hb dX10_isSwept_2 (by decide) ?_
  obtain ⟨u1, hu1, hm⟩ := bs hm
  refine sd_Vi C0 h kYX10_of kmX10_96 0 (aY_0 ad cA _) rfl [.int v1, .int 0] (tX10_of l D cA ad hu1) rfl hl.1 rfl (Nat.le_of_ble_eq_true rfl) (by decide) dX10_isSwept_3 (by decide) (fun H locs h => ?_)
  refine lv_iconst (v := 2) hx hb dX10_isSwept_6 (by decide) ?_
  refine lv_icmp_ne (tgt := 31) hx hb dX10_isSwept_7 (by decide) (fun c2 => ?_) (fun c2 => ?_)
  · replace hm := iq c2 hm
    refine lv_iconst (v := 0) hx hb dX10_isSwept_31 (by decide) ?_
    exact sd_zret C0 h (Option.some.inj hm) rfl dX10_isSwept_32
  · replace hm := ip c2 hm
    refine lv_aload_n hx hb dX10_isSwept_10 rfl (lv_at hl 0 rfl) ?_
    refine lv_iload_n hx hb dX10_isSwept_11 rfl (lv_at hl 1 rfl) ?_
    refine lv_iload_n hx hb dX10_isSwept_12 rfl (lv_at hl 2 rfl) ?_
    obtain ⟨u3, hu3, hm⟩ := bs hm
    refine sd_Vi C0 h kYX10_isThere kmX10_128 0 (aY_0 ad cA _) rfl [.int v1, .int v2] (tX10_isThere l D cA ad hu3) rfl hl.1 rfl (Nat.le_of_ble_eq_true rfl) (by decide) dX10_isSwept_13 (by decide) (fun H locs h => ?_)
    refine lv_if_eq (tgt := 31) hx hb dX10_isSwept_16 (by decide) (fun c4 => ?_) (fun c4 => ?_)
    · replace hm := ip c4 hm
      refine lv_iconst (v := 0) hx hb dX10_isSwept_31 (by decide) ?_
      exact sd_zret C0 h (Option.some.inj hm) rfl dX10_isSwept_32
    · replace hm := iq c4 hm
      refine lv_aload_n hx hb dX10_isSwept_19 rfl (lv_at hl 0 rfl) ?_
      refine lv_iload_n hx hb dX10_isSwept_20 rfl (lv_at hl 1 rfl) ?_
      obtain ⟨u5, hu5, hm⟩ := bs hm
      refine sd_Vi C0 h kYX10_waits kmX10_101 0 (aY_0 ad cA _) rfl [.int v1] (tX10_waits l D cA ad hu5) rfl hl.1 rfl (Nat.le_of_ble_eq_true rfl) (by decide) dX10_isSwept_21 (by decide) (fun H locs h => ?_)
      refine lv_if_ne (tgt := 31) hx hb dX10_isSwept_24 (by decide) (fun c6 => ?_) (fun c6 => ?_)
      · replace hm := iq c6 hm
        refine lv_iconst (v := 0) hx hb dX10_isSwept_31 (by decide) ?_
        exact sd_zret C0 h (Option.some.inj hm) rfl dX10_isSwept_32
      · replace hm := ip c6 hm
        refine lv_iconst (v := 1) hx hb dX10_isSwept_27 (by decide) ?_
        refine lv_goto (tgt := 32) hx hb dX10_isSwept_28 (by decide) ?_
        exact sd_zret C0 h (Option.some.inj hm) rfl dX10_isSwept_32
theorem tX10_isSwept (l : Launch) (D : va_G) (cA : ClassId) (ad : Nat → Nat) {z : Nat} {S : St} {v1 : Int32} {v2 : Int32} {q : (Int32 × St)} (hm : mX10_isSwept z v1 v2 S = some q) : sd_MI l D vwCl cA sd_nw (wY ad cA) yX10_isSwept (Cond.code yX10_isSwept cX10_isSwept 3 (some .boolean) :: sd_big) rX10_isSwept [.ref (ad 0), .int v1, .int v2] S q :=
  sd_ofI (by decide +kernel) (Nat.le_of_ble_eq_true rfl) (fun _ _ _ _ _ _ _ _ _ _ C0 h hl => bX10_isSwept C0 h (lv_sub hl [0, 1, 2] rfl) hm)

def rX10_hasPlace : Room := { frames := 1, cells := 0, slots := 0, locals := 22 }
def mX10_hasPlace (S : St) (v1 : Int32) (v2 : Int32) (v3 : Int32) : Option Int32 :=
  (mX10_of S v1 1).bind fun u1 =>
  if v2 < u1 then
    some 0
  else
    (mX10_of S v1 1).bind fun u3 =>
    (mX10_of S v1 8).bind fun u4 =>
    if (u3 + u4) ≤ v2 then
      some 0
    else
      (mX10_of S v1 2).bind fun u6 =>
      if v3 < u6 then
        some 0
      else
        (mX10_of S v1 2).bind fun u8 =>
        (mX10_of S v1 9).bind fun u9 =>
        if (u8 + u9) ≤ v3 then
          some 0
        else
          some 1
set_option maxHeartbeats 4000000 in
set_option maxRecDepth 100000 in
theorem bX10_hasPlace {p : Program} {l : Launch} {e : Env} {s : State} {m : MethodId} {args : Array Value} {below : List Frame} {meth : Method} {c : Code} {D : va_G} {cA : ClassId} {ad : Nat → Nat} {A : Nat → Prop} {H : Heap} {locs : List Loc} {ls : Array Slot} {q : Int32} {S : St} {v1 : Int32} {v2 : Int32} {v3 : Int32} (C0 : sd_Cx RX10 cX10_hasPlace 4 (some .boolean) (Cond.code yX10_hasPlace cX10_hasPlace 4 (some .boolean) :: sd_big) p s m args meth c) (h : sd_Wd D vwCl cA sd_nw (wY ad cA) A s S H locs) (hl : lv_has ls 4 [(0, .ref (ad 0)), (1, .int v1), (2, .int v2), (3, .int v3)])  (hm : mX10_hasPlace S v1 v2 v3 = some q) : W p l e rX10_hasPlace s m args below meth c H locs 0 0 (MQ below (sd_Qi D vwCl (wY ad cA) A (q, S)) args s 0 0 A) (F0 m 0 ls []) := by
  unfold mX10_hasPlace at hm
  have hx := C0.1
  have hb := C0.2.1
  refine lv_iload_n hx hb dX10_hasPlace_0 rfl (lv_at hl 2 rfl) ?_
  refine lv_aload_n hx hb dX10_hasPlace_1 rfl (lv_at hl 0 rfl) ?_
  refine lv_iload_n hx hb dX10_hasPlace_2 rfl (lv_at hl 1 rfl) ?_
  refine lv_iconst (v := 1) hx hb dX10_hasPlace_3 (by decide) ?_
  obtain ⟨u1, hu1, hm⟩ := bs hm
  refine sd_Vi C0 h kYX10_of kmX10_96 0 (aY_0 ad cA _) rfl [.int v1, .int 1] (tX10_of l D cA ad hu1) rfl hl.1 rfl (Nat.le_of_ble_eq_true rfl) (by decide) dX10_hasPlace_4 (by decide) (fun H locs h => ?_)
  refine lv_icmp_lt (tgt := 60) hx hb dX10_hasPlace_7 (by decide) (fun c2 => ?_) (fun c2 => ?_)
  · replace hm := ip c2 hm
    refine lv_iconst (v := 0) hx hb dX10_hasPlace_60 (by decide) ?_
    exact sd_zret C0 h (congrArg (fun x => (x, S)) (Option.some.inj hm)) rfl dX10_hasPlace_61
  · replace hm := iq c2 hm
    refine lv_iload_n hx hb dX10_hasPlace_10 rfl (lv_at hl 2 rfl) ?_
    refine lv_aload_n hx hb dX10_hasPlace_11 rfl (lv_at hl 0 rfl) ?_
    refine lv_iload_n hx hb dX10_hasPlace_12 rfl (lv_at hl 1 rfl) ?_
    refine lv_iconst (v := 1) hx hb dX10_hasPlace_13 (by decide) ?_
    obtain ⟨u3, hu3, hm⟩ := bs hm
    refine sd_Vi C0 h kYX10_of kmX10_96 0 (aY_0 ad cA _) rfl [.int v1, .int 1] (tX10_of l D cA ad hu3) rfl hl.1 rfl (Nat.le_of_ble_eq_true rfl) (by decide) dX10_hasPlace_14 (by decide) (fun H locs h => ?_)
    refine lv_aload_n hx hb dX10_hasPlace_17 rfl (lv_at hl 0 rfl) ?_
    refine lv_iload_n hx hb dX10_hasPlace_18 rfl (lv_at hl 1 rfl) ?_
    refine lv_bipush (v := 8) hx hb dX10_hasPlace_19 (by decide) ?_
    obtain ⟨u4, hu4, hm⟩ := bs hm
    refine sd_Vi C0 h kYX10_of kmX10_96 0 (aY_0 ad cA _) rfl [.int v1, .int 8] (tX10_of l D cA ad hu4) rfl hl.1 rfl (Nat.le_of_ble_eq_true rfl) (by decide) dX10_hasPlace_21 (by decide) (fun H locs h => ?_)
    refine lv_iadd hx hb dX10_hasPlace_24 ?_
    refine lv_icmp_ge (tgt := 60) hx hb dX10_hasPlace_25 (by decide) (fun c5 => ?_) (fun c5 => ?_)
    · replace hm := ip c5 hm
      refine lv_iconst (v := 0) hx hb dX10_hasPlace_60 (by decide) ?_
      exact sd_zret C0 h (congrArg (fun x => (x, S)) (Option.some.inj hm)) rfl dX10_hasPlace_61
    · replace hm := iq c5 hm
      refine lv_iload_n hx hb dX10_hasPlace_28 rfl (lv_at hl 3 rfl) ?_
      refine lv_aload_n hx hb dX10_hasPlace_29 rfl (lv_at hl 0 rfl) ?_
      refine lv_iload_n hx hb dX10_hasPlace_30 rfl (lv_at hl 1 rfl) ?_
      refine lv_iconst (v := 2) hx hb dX10_hasPlace_31 (by decide) ?_
      obtain ⟨u6, hu6, hm⟩ := bs hm
      refine sd_Vi C0 h kYX10_of kmX10_96 0 (aY_0 ad cA _) rfl [.int v1, .int 2] (tX10_of l D cA ad hu6) rfl hl.1 rfl (Nat.le_of_ble_eq_true rfl) (by decide) dX10_hasPlace_32 (by decide) (fun H locs h => ?_)
      refine lv_icmp_lt (tgt := 60) hx hb dX10_hasPlace_35 (by decide) (fun c7 => ?_) (fun c7 => ?_)
      · replace hm := ip c7 hm
        refine lv_iconst (v := 0) hx hb dX10_hasPlace_60 (by decide) ?_
        exact sd_zret C0 h (congrArg (fun x => (x, S)) (Option.some.inj hm)) rfl dX10_hasPlace_61
      · replace hm := iq c7 hm
        refine lv_iload_n hx hb dX10_hasPlace_38 rfl (lv_at hl 3 rfl) ?_
        refine lv_aload_n hx hb dX10_hasPlace_39 rfl (lv_at hl 0 rfl) ?_
        refine lv_iload_n hx hb dX10_hasPlace_40 rfl (lv_at hl 1 rfl) ?_
        refine lv_iconst (v := 2) hx hb dX10_hasPlace_41 (by decide) ?_
        obtain ⟨u8, hu8, hm⟩ := bs hm
        refine sd_Vi C0 h kYX10_of kmX10_96 0 (aY_0 ad cA _) rfl [.int v1, .int 2] (tX10_of l D cA ad hu8) rfl hl.1 rfl (Nat.le_of_ble_eq_true rfl) (by decide) dX10_hasPlace_42 (by decide) (fun H locs h => ?_)
        refine lv_aload_n hx hb dX10_hasPlace_45 rfl (lv_at hl 0 rfl) ?_
        refine lv_iload_n hx hb dX10_hasPlace_46 rfl (lv_at hl 1 rfl) ?_
        refine lv_bipush (v := 9) hx hb dX10_hasPlace_47 (by decide) ?_
        obtain ⟨u9, hu9, hm⟩ := bs hm
        refine sd_Vi C0 h kYX10_of kmX10_96 0 (aY_0 ad cA _) rfl [.int v1, .int 9] (tX10_of l D cA ad hu9) rfl hl.1 rfl (Nat.le_of_ble_eq_true rfl) (by decide) dX10_hasPlace_49 (by decide) (fun H locs h => ?_)
        refine lv_iadd hx hb dX10_hasPlace_52 ?_
        refine lv_icmp_ge (tgt := 60) hx hb dX10_hasPlace_53 (by decide) (fun c10 => ?_) (fun c10 => ?_)
        · replace hm := ip c10 hm
          refine lv_iconst (v := 0) hx hb dX10_hasPlace_60 (by decide) ?_
          exact sd_zret C0 h (congrArg (fun x => (x, S)) (Option.some.inj hm)) rfl dX10_hasPlace_61
        · replace hm := iq c10 hm
          refine lv_iconst (v := 1) hx hb dX10_hasPlace_56 (by decide) ?_
          refine lv_goto (tgt := 61) hx hb dX10_hasPlace_57 (by decide) ?_
          exact sd_zret C0 h (congrArg (fun x => (x, S)) (Option.some.inj hm)) rfl dX10_hasPlace_61
theorem tX10_hasPlace (l : Launch) (D : va_G) (cA : ClassId) (ad : Nat → Nat) {S : St} {v1 : Int32} {v2 : Int32} {v3 : Int32} {q : Int32} (hm : mX10_hasPlace S v1 v2 v3 = some q) : sd_MI l D vwCl cA sd_nw (wY ad cA) yX10_hasPlace (Cond.code yX10_hasPlace cX10_hasPlace 4 (some .boolean) :: sd_big) rX10_hasPlace [.ref (ad 0), .int v1, .int v2, .int v3] S (q, S) :=
  sd_ofI (by decide +kernel) (Nat.le_of_ble_eq_true rfl) (fun _ _ _ _ _ _ _ _ _ _ C0 h hl => bX10_hasPlace C0 h (lv_sub hl [0, 1, 2, 3] rfl) hm)

def rX10_isAlways : Room := { frames := 3, cells := 0, slots := 0, locals := 76 }
def mX10_isAlways_24b (z : Nat) (rc24 : Int32 → St → Option (Int32 × St)) (v1 : Int32) (v2 : Int32) (v3 : Int32) (S : St) : Option (Int32 × St) :=
  (rd (fA S 0) 4564 1).bind fun x1 =>
  if x1 ≤ v3 then
    some (0, S)
  else
    (mX10_isSwept z v3 v2 S).bind fun u3 =>
    if u3.1 = 0 then
      rc24 (v3 + 1) u3.2
    else
      (mX10_of u3.2 v3 4).bind fun u5 =>
      (mX10_of u3.2 v1 4).bind fun u6 =>
      if u6 ≤ u5 then
        rc24 (v3 + 1) u3.2
      else
        (mX10_of u3.2 v1 1).bind fun u8 =>
        (mX10_of u3.2 v1 2).bind fun u9 =>
        (mX10_hasPlace u3.2 v3 u8 u9).bind fun u10 =>
        if u10 = 0 then
          rc24 (v3 + 1) u3.2
        else
          (mX10_corrected z v1 u3.2).bind fun u12 =>
          (mX10_corrected z v3 u12.2).bind fun u13 =>
          if u13.1 ≤ u12.1 then
            rc24 (v3 + 1) u13.2
          else
            some (1, u13.2)
set_option maxHeartbeats 4000000 in
set_option maxRecDepth 100000 in
theorem bX10_isAlways_24b {p : Program} {l : Launch} {e : Env} {s : State} {m : MethodId} {args : Array Value} {below : List Frame} {meth : Method} {c : Code} {D : va_G} {cA : ClassId} {ad : Nat → Nat} {A : Nat → Prop} {H : Heap} {locs : List Loc} {ls : Array Slot} {q : (Int32 × St)} {z : Nat} {rc24 : Int32 → St → Option (Int32 × St)} {v1 : Int32} {v2 : Int32} {v3 : Int32} {S : St} (C0 : sd_Cx RX10 cX10_isAlways 4 (some .boolean) (Cond.code yX10_isAlways cX10_isAlways 4 (some .boolean) :: sd_big) p s m args meth c) (h : sd_Wd D vwCl cA sd_nw (wY ad cA) A s S H locs) (hl : lv_has ls 4 [(0, .ref (ad 0)), (1, .int v1), (2, .int v2), (3, .int v3)]) (hrc24 : ∀ (v3 : Int32) (S : St) (H : Heap) (locs : List Loc) (ls : Array Slot), sd_Wd D vwCl cA sd_nw (wY ad cA) A s S H locs → lv_has ls 4 [(0, .ref (ad 0)), (1, .int v1), (2, .int v2), (3, .int v3)] → rc24 v3 S = some q → W p l e rX10_isAlways s m args below meth c H locs 0 0 (MQ below (sd_Qi D vwCl (wY ad cA) A q) args s 0 0 A) (F0 m 24 ls [])) (hm : mX10_isAlways_24b z rc24 v1 v2 v3 S = some q) : W p l e rX10_isAlways s m args below meth c H locs 0 0 (MQ below (sd_Qi D vwCl (wY ad cA) A q) args s 0 0 A) (F0 m 24 ls []) := by
  unfold mX10_isAlways_24b at hm
  have hx := C0.1
  have hb := C0.2.1
  refine lv_iload_n hx hb dX10_isAlways_24 rfl (lv_at hl 3 rfl) ?_
  refine lv_aload_n hx hb dX10_isAlways_25 rfl (lv_at hl 0 rfl) ?_
  refine sd_get C0 h (C := RX10) (T := TX10) (N := 17) kcX10 0 (aY_0 ad cA _) rfl 0 (by decide) kfX10_7 (v := .ref (ad 1)) rfl dX10_isAlways_26 ?_
  refine lv_iconst (v := 1) hx hb dX10_isAlways_29 (by decide) ?_
  obtain ⟨x1, hx1, hm⟩ := bs hm
  refine sd_rd C0 h 1 (aY_1 ad cA _) hx1 dX10_isAlways_30 ?_
  refine lv_icmp_ge (tgt := 99) hx hb dX10_isAlways_31 (by decide) (fun c2 => ?_) (fun c2 => ?_)
  · replace hm := ip c2 hm
    refine lv_iconst (v := 0) hx hb dX10_isAlways_99 (by decide) ?_
    exact sd_zret C0 h (Option.some.inj hm) rfl dX10_isAlways_100
  · replace hm := iq c2 hm
    refine lv_aload_n hx hb dX10_isAlways_34 rfl (lv_at hl 0 rfl) ?_
    refine lv_iload_n hx hb dX10_isAlways_35 rfl (lv_at hl 3 rfl) ?_
    refine lv_iload_n hx hb dX10_isAlways_36 rfl (lv_at hl 2 rfl) ?_
    obtain ⟨u3, hu3, hm⟩ := bs hm
    refine sd_Vi C0 h kYX10_isSwept kmX10_131 0 (aY_0 ad cA _) rfl [.int v3, .int v2] (tX10_isSwept l D cA ad hu3) rfl hl.1 rfl (Nat.le_of_ble_eq_true rfl) (by decide) dX10_isAlways_37 (by decide) (fun H locs h => ?_)
    refine lv_if_eq (tgt := 93) hx hb dX10_isAlways_40 (by decide) (fun c4 => ?_) (fun c4 => ?_)
    · replace hm := ip c4 hm
      refine lv_iinc (v := (v3 + 1)) (lv' := [(3, .int (v3 + 1)), (0, .ref (ad 0)), (1, .int v1), (2, .int v2)]) hx hb dX10_isAlways_93 hl (k := 3) rfl rfl (by decide) rfl (fun ls hl => ?_)
      refine lv_goto (tgt := 24) hx hb dX10_isAlways_96 (by decide) ?_
      exact hrc24 _ _ _ _ _ h (lv_sub hl [1, 2, 3, 0] rfl) hm
    · replace hm := iq c4 hm
      refine lv_aload_n hx hb dX10_isAlways_43 rfl (lv_at hl 0 rfl) ?_
      refine lv_iload_n hx hb dX10_isAlways_44 rfl (lv_at hl 3 rfl) ?_
      refine lv_iconst (v := 4) hx hb dX10_isAlways_45 (by decide) ?_
      obtain ⟨u5, hu5, hm⟩ := bs hm
      refine sd_Vi C0 h kYX10_of kmX10_96 0 (aY_0 ad cA _) rfl [.int v3, .int 4] (tX10_of l D cA ad hu5) rfl hl.1 rfl (Nat.le_of_ble_eq_true rfl) (by decide) dX10_isAlways_46 (by decide) (fun H locs h => ?_)
      refine lv_aload_n hx hb dX10_isAlways_49 rfl (lv_at hl 0 rfl) ?_
      refine lv_iload_n hx hb dX10_isAlways_50 rfl (lv_at hl 1 rfl) ?_
      refine lv_iconst (v := 4) hx hb dX10_isAlways_51 (by decide) ?_
      obtain ⟨u6, hu6, hm⟩ := bs hm
      refine sd_Vi C0 h kYX10_of kmX10_96 0 (aY_0 ad cA _) rfl [.int v1, .int 4] (tX10_of l D cA ad hu6) rfl hl.1 rfl (Nat.le_of_ble_eq_true rfl) (by decide) dX10_isAlways_52 (by decide) (fun H locs h => ?_)
      refine lv_icmp_ge (tgt := 93) hx hb dX10_isAlways_55 (by decide) (fun c7 => ?_) (fun c7 => ?_)
      · replace hm := ip c7 hm
        refine lv_iinc (v := (v3 + 1)) (lv' := [(3, .int (v3 + 1)), (0, .ref (ad 0)), (1, .int v1), (2, .int v2)]) hx hb dX10_isAlways_93 hl (k := 3) rfl rfl (by decide) rfl (fun ls hl => ?_)
        refine lv_goto (tgt := 24) hx hb dX10_isAlways_96 (by decide) ?_
        exact hrc24 _ _ _ _ _ h (lv_sub hl [1, 2, 3, 0] rfl) hm
      · replace hm := iq c7 hm
        refine lv_aload_n hx hb dX10_isAlways_58 rfl (lv_at hl 0 rfl) ?_
        refine lv_iload_n hx hb dX10_isAlways_59 rfl (lv_at hl 3 rfl) ?_
        refine lv_aload_n hx hb dX10_isAlways_60 rfl (lv_at hl 0 rfl) ?_
        refine lv_iload_n hx hb dX10_isAlways_61 rfl (lv_at hl 1 rfl) ?_
        refine lv_iconst (v := 1) hx hb dX10_isAlways_62 (by decide) ?_
        obtain ⟨u8, hu8, hm⟩ := bs hm
        refine sd_Vi C0 h kYX10_of kmX10_96 0 (aY_0 ad cA _) rfl [.int v1, .int 1] (tX10_of l D cA ad hu8) rfl hl.1 rfl (Nat.le_of_ble_eq_true rfl) (by decide) dX10_isAlways_63 (by decide) (fun H locs h => ?_)
        refine lv_aload_n hx hb dX10_isAlways_66 rfl (lv_at hl 0 rfl) ?_
        refine lv_iload_n hx hb dX10_isAlways_67 rfl (lv_at hl 1 rfl) ?_
        refine lv_iconst (v := 2) hx hb dX10_isAlways_68 (by decide) ?_
        obtain ⟨u9, hu9, hm⟩ := bs hm
        refine sd_Vi C0 h kYX10_of kmX10_96 0 (aY_0 ad cA _) rfl [.int v1, .int 2] (tX10_of l D cA ad hu9) rfl hl.1 rfl (Nat.le_of_ble_eq_true rfl) (by decide) dX10_isAlways_69 (by decide) (fun H locs h => ?_)
        obtain ⟨u10, hu10, hm⟩ := bs hm
        refine sd_Vi C0 h kYX10_hasPlace kmX10_134 0 (aY_0 ad cA _) rfl [.int v3, .int u8, .int u9] (tX10_hasPlace l D cA ad hu10) rfl hl.1 rfl (Nat.le_of_ble_eq_true rfl) (by decide) dX10_isAlways_72 (by decide) (fun H locs h => ?_)
        refine lv_if_eq (tgt := 93) hx hb dX10_isAlways_75 (by decide) (fun c11 => ?_) (fun c11 => ?_)
        · replace hm := ip c11 hm
          refine lv_iinc (v := (v3 + 1)) (lv' := [(3, .int (v3 + 1)), (0, .ref (ad 0)), (1, .int v1), (2, .int v2)]) hx hb dX10_isAlways_93 hl (k := 3) rfl rfl (by decide) rfl (fun ls hl => ?_)
          refine lv_goto (tgt := 24) hx hb dX10_isAlways_96 (by decide) ?_
          exact hrc24 _ _ _ _ _ h (lv_sub hl [1, 2, 3, 0] rfl) hm
        · replace hm := iq c11 hm
          refine lv_aload_n hx hb dX10_isAlways_78 rfl (lv_at hl 0 rfl) ?_
          refine lv_iload_n hx hb dX10_isAlways_79 rfl (lv_at hl 1 rfl) ?_
          obtain ⟨u12, hu12, hm⟩ := bs hm
          refine sd_Vi C0 h kYX10_corrected kmX10_104 0 (aY_0 ad cA _) rfl [.int v1] (tX10_corrected l D cA ad hu12) rfl hl.1 rfl (Nat.le_of_ble_eq_true rfl) (by decide) dX10_isAlways_80 (by decide) (fun H locs h => ?_)
          refine lv_aload_n hx hb dX10_isAlways_83 rfl (lv_at hl 0 rfl) ?_
          refine lv_iload_n hx hb dX10_isAlways_84 rfl (lv_at hl 3 rfl) ?_
          obtain ⟨u13, hu13, hm⟩ := bs hm
          refine sd_Vi C0 h kYX10_corrected kmX10_104 0 (aY_0 ad cA _) rfl [.int v3] (tX10_corrected l D cA ad hu13) rfl hl.1 rfl (Nat.le_of_ble_eq_true rfl) (by decide) dX10_isAlways_85 (by decide) (fun H locs h => ?_)
          refine lv_icmp_ge (tgt := 93) hx hb dX10_isAlways_88 (by decide) (fun c14 => ?_) (fun c14 => ?_)
          · replace hm := ip c14 hm
            refine lv_iinc (v := (v3 + 1)) (lv' := [(3, .int (v3 + 1)), (0, .ref (ad 0)), (1, .int v1), (2, .int v2)]) hx hb dX10_isAlways_93 hl (k := 3) rfl rfl (by decide) rfl (fun ls hl => ?_)
            refine lv_goto (tgt := 24) hx hb dX10_isAlways_96 (by decide) ?_
            exact hrc24 _ _ _ _ _ h (lv_sub hl [1, 2, 3, 0] rfl) hm
          · replace hm := iq c14 hm
            refine lv_iconst (v := 1) hx hb dX10_isAlways_91 (by decide) ?_
            exact sd_zret C0 h (Option.some.inj hm) rfl dX10_isAlways_92
def mX10_isAlways_24 (z : Nat) (v1 : Int32) (v2 : Int32) : Nat → Int32 → St → Option (Int32 × St)
  | 0, _, _ => none
  | n + 1, v3, S => mX10_isAlways_24b z (mX10_isAlways_24 z v1 v2 n) v1 v2 v3 S
set_option maxHeartbeats 4000000 in
set_option maxRecDepth 100000 in
theorem lX10_isAlways_24 {p : Program} {l : Launch} {e : Env} {s : State} {m : MethodId} {args : Array Value} {below : List Frame} {meth : Method} {c : Code} {D : va_G} {cA : ClassId} {ad : Nat → Nat} {A : Nat → Prop} {q : (Int32 × St)} {z : Nat} {v1 : Int32} {v2 : Int32} (C0 : sd_Cx RX10 cX10_isAlways 4 (some .boolean) (Cond.code yX10_isAlways cX10_isAlways 4 (some .boolean) :: sd_big) p s m args meth c)  : ∀ (n : Nat) (v3 : Int32) (S : St) (H : Heap) (locs : List Loc) (ls : Array Slot), sd_Wd D vwCl cA sd_nw (wY ad cA) A s S H locs → lv_has ls 4 [(0, .ref (ad 0)), (1, .int v1), (2, .int v2), (3, .int v3)] → mX10_isAlways_24 z v1 v2 n v3 S = some q → W p l e rX10_isAlways s m args below meth c H locs 0 0 (MQ below (sd_Qi D vwCl (wY ad cA) A q) args s 0 0 A) (F0 m 24 ls []) := by
  intro n
  induction n with
  | zero =>
    intro v3 S H locs ls h hl hm
    exact nomatch (show none = some q from hm)
  | succ n ih =>
    intro v3 S H locs ls h hl hm
    exact bX10_isAlways_24b C0 h hl ih hm
def mX10_isAlways (z : Nat) (v1 : Int32) (v2 : Int32) (S : St) : Option (Int32 × St) :=
  (mX10_of S v1 0).bind fun u1 =>
  if u1 = 3 then
    some (1, S)
  else
    (mX10_of S v1 0).bind fun u3 =>
    if u3 = 4 then
      some (1, S)
    else
      mX10_isAlways_24 z v1 v2 z 0 S
set_option maxHeartbeats 4000000 in
set_option maxRecDepth 100000 in
theorem bX10_isAlways {p : Program} {l : Launch} {e : Env} {s : State} {m : MethodId} {args : Array Value} {below : List Frame} {meth : Method} {c : Code} {D : va_G} {cA : ClassId} {ad : Nat → Nat} {A : Nat → Prop} {H : Heap} {locs : List Loc} {ls : Array Slot} {q : (Int32 × St)} {z : Nat} {v1 : Int32} {v2 : Int32} {S : St} (C0 : sd_Cx RX10 cX10_isAlways 4 (some .boolean) (Cond.code yX10_isAlways cX10_isAlways 4 (some .boolean) :: sd_big) p s m args meth c) (h : sd_Wd D vwCl cA sd_nw (wY ad cA) A s S H locs) (hl : lv_has ls 4 [(0, .ref (ad 0)), (1, .int v1), (2, .int v2)])  (hm : mX10_isAlways z v1 v2 S = some q) : W p l e rX10_isAlways s m args below meth c H locs 0 0 (MQ below (sd_Qi D vwCl (wY ad cA) A q) args s 0 0 A) (F0 m 0 ls []) := by
  unfold mX10_isAlways at hm
  have hx := C0.1
  have hb := C0.2.1
  refine lv_aload_n hx hb dX10_isAlways_0 rfl (lv_at hl 0 rfl) ?_
  refine lv_iload_n hx hb dX10_isAlways_1 rfl (lv_at hl 1 rfl) ?_
  refine lv_iconst (v := 0) hx hb dX10_isAlways_2 (by decide) ?_
  obtain ⟨u1, hu1, hm⟩ := bs hm
  refine sd_Vi C0 h kYX10_of kmX10_96 0 (aY_0 ad cA _) rfl [.int v1, .int 0] (tX10_of l D cA ad hu1) rfl hl.1 rfl (Nat.le_of_ble_eq_true rfl) (by decide) dX10_isAlways_3 (by decide) (fun H locs h => ?_)
  refine lv_iconst (v := 3) hx hb dX10_isAlways_6 (by decide) ?_
  refine lv_icmp_eq (tgt := 20) hx hb dX10_isAlways_7 (by decide) (fun c2 => ?_) (fun c2 => ?_)
  · replace hm := ip c2 hm
    refine lv_iconst (v := 1) hx hb dX10_isAlways_20 (by decide) ?_
    exact sd_zret C0 h (Option.some.inj hm) rfl dX10_isAlways_21
  · replace hm := iq c2 hm
    refine lv_aload_n hx hb dX10_isAlways_10 rfl (lv_at hl 0 rfl) ?_
    refine lv_iload_n hx hb dX10_isAlways_11 rfl (lv_at hl 1 rfl) ?_
    refine lv_iconst (v := 0) hx hb dX10_isAlways_12 (by decide) ?_
    obtain ⟨u3, hu3, hm⟩ := bs hm
    refine sd_Vi C0 h kYX10_of kmX10_96 0 (aY_0 ad cA _) rfl [.int v1, .int 0] (tX10_of l D cA ad hu3) rfl hl.1 rfl (Nat.le_of_ble_eq_true rfl) (by decide) dX10_isAlways_13 (by decide) (fun H locs h => ?_)
    refine lv_iconst (v := 4) hx hb dX10_isAlways_16 (by decide) ?_
    refine lv_icmp_ne (tgt := 22) hx hb dX10_isAlways_17 (by decide) (fun c4 => ?_) (fun c4 => ?_)
    · replace hm := iq c4 hm
      refine lv_iconst (v := 0) hx hb dX10_isAlways_22 (by decide) ?_
      refine lv_istore_n (lv' := [(3, .int 0), (0, .ref (ad 0)), (1, .int v1), (2, .int v2)]) hx hb dX10_isAlways_23 rfl hl (by decide) rfl (fun ls hl => ?_)
      exact lX10_isAlways_24 C0 _ _ _ _ _ _ h (lv_sub hl [1, 2, 3, 0] rfl) hm
    · replace hm := ip c4 hm
      refine lv_iconst (v := 1) hx hb dX10_isAlways_20 (by decide) ?_
      exact sd_zret C0 h (Option.some.inj hm) rfl dX10_isAlways_21
theorem tX10_isAlways (l : Launch) (D : va_G) (cA : ClassId) (ad : Nat → Nat) {z : Nat} {S : St} {v1 : Int32} {v2 : Int32} {q : (Int32 × St)} (hm : mX10_isAlways z v1 v2 S = some q) : sd_MI l D vwCl cA sd_nw (wY ad cA) yX10_isAlways (Cond.code yX10_isAlways cX10_isAlways 4 (some .boolean) :: sd_big) rX10_isAlways [.ref (ad 0), .int v1, .int v2] S q :=
  sd_ofI (by decide +kernel) (Nat.le_of_ble_eq_true rfl) (fun _ _ _ _ _ _ _ _ _ _ C0 h hl => bX10_isAlways C0 h (lv_sub hl [0, 1, 2] rfl) hm)
