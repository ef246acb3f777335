def rX9_bottom : Room := { frames := 5, cells := 0, slots := 0, locals := 118 }
def mX9_bottom (z : Nat) (v1 : Int32) (v2 : Int32) (S : St) : Option (Int32 × St) :=
  (mX9_isDay S v1).bind fun u1 =>
  if u1 = 0 then
    some ((-30000), S)
  else
    (mX9_isSquare S v2).bind fun u3 =>
    if u3 = 0 then
      some ((-30000), S)
    else
      (mX2_draw z v1 S).bind fun u5 =>
      (rd (fA u5 44) 256 v2).bind fun x6 =>
      some (x6, u5)
set_option maxHeartbeats 4000000 in
set_option maxRecDepth 100000 in
theorem bX9_bottom {p : Program} {l : Launch} {e : Env} {s : State} {m : MethodId} {args : Array Value} {below : List Frame} {meth : Method} {c : Code} {D : va_G} {cA : ClassId} {ad : Nat → Nat} {A : Nat → Prop} {H : Heap} {locs : List Loc} {ls : Array Slot} {q : (Int32 × St)} {z : Nat} {v1 : Int32} {v2 : Int32} {S : St} (C0 : sd_Cx RX9 cX9_bottom 3 (some .int) (Cond.code yX9_bottom cX9_bottom 3 (some .int) :: sd_big) p s m args meth c) (h : sd_Wd D vwCl cA sd_nw (wX ad cA) A s S H locs) (hl : lv_has ls 3 [(0, .ref (ad 0)), (1, .int v1), (2, .int v2)])  (hm : mX9_bottom z v1 v2 S = some q) : W p l e rX9_bottom s m args below meth c H locs 0 0 (MQ below (sd_Qi D vwCl (wX ad cA) A q) args s 0 0 A) (F0 m 0 ls []) := by
  unfold mX9_bottom at hm
  have hx := C0.1
  have hb := C0.2.1
  refine lv_iload_n hx hb dX9_bottom_0 rfl (lv_at hl 1 rfl) ?_
  obtain ⟨u1, hu1, hm⟩ := bs hm
  refine sd_Si C0 h kYX9_isDay kmX9_62 [.int v1] (tX9_isDay l D cA ad hu1) rfl hl.1 rfl (Nat.le_of_ble_eq_true rfl) (by decide) dX9_bottom_1 (by decide) (fun H locs h => ?_)
  refine lv_if_eq (tgt := 14) hx hb dX9_bottom_4 (by decide) (fun c2 => ?_) (fun c2 => ?_)
  · replace hm := ip c2 hm
    refine lv_sipush (v := (-30000)) hx hb dX9_bottom_14 (by decide) ?_
    exact sd_iret C0 h (Option.some.inj hm) dX9_bottom_17
  · replace hm := iq c2 hm
    refine lv_iload_n hx hb dX9_bottom_7 rfl (lv_at hl 2 rfl) ?_
    obtain ⟨u3, hu3, hm⟩ := bs hm
    refine sd_Si C0 h kYX9_isSquare kmX9_234 [.int v2] (tX9_isSquare l D cA ad hu3) rfl hl.1 rfl (Nat.le_of_ble_eq_true rfl) (by decide) dX9_bottom_8 (by decide) (fun H locs h => ?_)
    refine lv_if_ne (tgt := 18) hx hb dX9_bottom_11 (by decide) (fun c4 => ?_) (fun c4 => ?_)
    · replace hm := iq c4 hm
      refine lv_aload_n hx hb dX9_bottom_18 rfl (lv_at hl 0 rfl) ?_
      refine sd_get C0 h (C := RX9) (T := TX9) (N := 8) kcX9 0 (aX_0 ad cA _) rfl 5 (by decide) kfX9_45 (v := .ref (ad 55)) rfl dX9_bottom_19 ?_
      refine lv_iload_n hx hb dX9_bottom_22 rfl (lv_at hl 1 rfl) ?_
      obtain ⟨u5, hu5, hm⟩ := bs hm
      refine sd_Vv C0 h kYX2_draw kmX9_255 55 (aX_55 ad cA _) rfl [.int v1] (tX2_draw l D cA ad hu5) rfl hl.1 rfl (Nat.le_of_ble_eq_true rfl) (by decide) dX9_bottom_23 (by decide) (fun H locs h => ?_)
      refine lv_aload_n hx hb dX9_bottom_26 rfl (lv_at hl 0 rfl) ?_
      refine sd_get C0 h (C := RX9) (T := TX9) (N := 8) kcX9 0 (aX_0 ad cA _) rfl 5 (by decide) kfX9_45 (v := .ref (ad 55)) rfl dX9_bottom_27 ?_
      refine sd_get C0 h (C := RX2) (T := TX2) (N := 3) kcX2 55 (aX_55 ad cA _) rfl 2 (by decide) kfX9_257 (v := .ref (ad 57)) rfl dX9_bottom_30 ?_
      refine lv_iload_n hx hb dX9_bottom_33 rfl (lv_at hl 2 rfl) ?_
      obtain ⟨x6, hx6, hm⟩ := bs hm
      refine sd_rd C0 h 57 (aX_57 ad cA _) hx6 dX9_bottom_34 ?_
      exact sd_iret C0 h (Option.some.inj hm) dX9_bottom_35
    · replace hm := ip c4 hm
      refine lv_sipush (v := (-30000)) hx hb dX9_bottom_14 (by decide) ?_
      exact sd_iret C0 h (Option.some.inj hm) dX9_bottom_17
theorem tX9_bottom (l : Launch) (D : va_G) (cA : ClassId) (ad : Nat → Nat) {z : Nat} {S : St} {v1 : Int32} {v2 : Int32} {q : (Int32 × St)} (hm : mX9_bottom z v1 v2 S = some q) : sd_MI l D vwCl cA sd_nw (wX ad cA) yX9_bottom (Cond.code yX9_bottom cX9_bottom 3 (some .int) :: sd_big) rX9_bottom [.ref (ad 0), .int v1, .int v2] S q :=
  sd_ofI (by decide +kernel) (Nat.le_of_ble_eq_true rfl) (fun _ _ _ _ _ _ _ _ _ _ C0 h hl => bX9_bottom C0 h (lv_sub hl [0, 1, 2] rfl) hm)

def rJ7_fill_X59 : Room := { frames := 0, cells := 0, slots := 0, locals := 0 }
def mJ7_fill_X59_5b (z : Nat) (rc5 : Int32 → St → Option St) (v1 : Int32) (v3 : Int32) (v2 : Int32) (S : St) : Option St :=
  if v3 ≤ v2 then
    some S
  else
    (wr (fA S 45) 256 v2 v1).bind fun g2 =>
    rc5 (v2 + 1) (sA S 45 g2)
set_option maxHeartbeats 4000000 in
set_option maxRecDepth 100000 in
theorem bJ7_fill_X59_5b {p : Program} {l : Launch} {e : Env} {s : State} {m : MethodId} {args : Array Value} {below : List Frame} {meth : Method} {c : Code} {D : va_G} {cA : ClassId} {ad : Nat → Nat} {A : Nat → Prop} {H : Heap} {locs : List Loc} {ls : Array Slot} {q : St} {z : Nat} {rc5 : Int32 → St → Option St} {v1 : Int32} {v3 : Int32} {v2 : Int32} {S : St} (C0 : sd_Cx RJ7 cJ7_fill_53178 4 none (Cond.code yJ7_fill_53178 cJ7_fill_53178 4 none :: sd_big) p s m args meth c) (h : sd_Wd D vwCl cA sd_nw (wX ad cA) A s S H locs) (hl : lv_has ls 4 [(0, .ref (ad 59)), (1, .int v1), (2, .int v2), (3, .int v3)]) (hrc5 : ∀ (v2 : Int32) (S : St) (H : Heap) (locs : List Loc) (ls : Array Slot), sd_Wd D vwCl cA sd_nw (wX ad cA) A s S H locs → lv_has ls 4 [(0, .ref (ad 59)), (1, .int v1), (2, .int v2), (3, .int v3)] → rc5 v2 S = some q → W p l e rJ7_fill_X59 s m args below meth c H locs 0 0 (MQ below (sd_Qv D vwCl (wX ad cA) A q) args s 0 0 A) (F0 m 5 ls [])) (hm : mJ7_fill_X59_5b z rc5 v1 v3 v2 S = some q) : W p l e rJ7_fill_X59 s m args below meth c H locs 0 0 (MQ below (sd_Qv D vwCl (wX ad cA) A q) args s 0 0 A) (F0 m 5 ls []) := by
  unfold mJ7_fill_X59_5b at hm
  have hx := C0.1
  have hb := C0.2.1
  refine lv_iload_n hx hb dJ7_fill_53178_5 rfl (lv_at hl 2 rfl) ?_
  refine lv_iload_n hx hb dJ7_fill_53178_6 rfl (lv_at hl 3 rfl) ?_
  refine lv_icmp_ge (tgt := 20) hx hb dJ7_fill_53178_7 (by decide) (fun c1 => ?_) (fun c1 => ?_)
  · replace hm := ip c1 hm
    exact sd_vret C0 h (Option.some.inj hm) dJ7_fill_53178_20
  · replace hm := iq c1 hm
    refine lv_aload_n hx hb dJ7_fill_53178_10 rfl (lv_at hl 0 rfl) ?_
    refine lv_iload_n hx hb dJ7_fill_53178_11 rfl (lv_at hl 2 rfl) ?_
    refine lv_iload_n hx hb dJ7_fill_53178_12 rfl (lv_at hl 1 rfl) ?_
    obtain ⟨g2, hg2, hm⟩ := bs hm
    refine sd_wr C0 h (S1 := (sA S 45 g2)) 59 (aX_59 ad cA _) hg2 (eX_59 ad cA _ _) dJ7_fill_53178_13 (fun H locs h => ?_)
    refine lv_iinc (v := (v2 + 1)) (lv' := [(2, .int (v2 + 1)), (0, .ref (ad 59)), (1, .int v1), (3, .int v3)]) hx hb dJ7_fill_53178_14 hl (k := 2) rfl rfl (by decide) rfl (fun ls hl => ?_)
    refine lv_goto (tgt := 5) hx hb dJ7_fill_53178_17 (by decide) ?_
    exact hrc5 _ _ _ _ _ h (lv_sub hl [1, 2, 0, 3] rfl) hm
def mJ7_fill_X59_5 (z : Nat) (v1 : Int32) (v3 : Int32) : Nat → Int32 → St → Option St
  | 0, _, _ => none
  | n + 1, v2, S => mJ7_fill_X59_5b z (mJ7_fill_X59_5 z v1 v3 n) v1 v3 v2 S
set_option maxHeartbeats 4000000 in
set_option maxRecDepth 100000 in
theorem lJ7_fill_X59_5 {p : Program} {l : Launch} {e : Env} {s : State} {m : MethodId} {args : Array Value} {below : List Frame} {meth : Method} {c : Code} {D : va_G} {cA : ClassId} {ad : Nat → Nat} {A : Nat → Prop} {q : St} {z : Nat} {v1 : Int32} {v3 : Int32} (C0 : sd_Cx RJ7 cJ7_fill_53178 4 none (Cond.code yJ7_fill_53178 cJ7_fill_53178 4 none :: sd_big) p s m args meth c)  : ∀ (n : Nat) (v2 : Int32) (S : St) (H : Heap) (locs : List Loc) (ls : Array Slot), sd_Wd D vwCl cA sd_nw (wX ad cA) A s S H locs → lv_has ls 4 [(0, .ref (ad 59)), (1, .int v1), (2, .int v2), (3, .int v3)] → mJ7_fill_X59_5 z v1 v3 n v2 S = some q → W p l e rJ7_fill_X59 s m args below meth c H locs 0 0 (MQ below (sd_Qv D vwCl (wX ad cA) A q) args s 0 0 A) (F0 m 5 ls []) := by
  intro n
  induction n with
  | zero =>
    intro v2 S H locs ls h hl hm
    exact nomatch (show none = some q from hm)
  | succ n ih =>
    intro v2 S H locs ls h hl hm
    exact bJ7_fill_X59_5b C0 h hl ih hm
def mJ7_fill_X59 (z : Nat) (v1 : Int32) (S : St) : Option St :=
  mJ7_fill_X59_5 z v1 256 z 0 S
set_option maxHeartbeats 4000000 in
set_option maxRecDepth 100000 in
theorem bJ7_fill_X59 {p : Program} {l : Launch} {e : Env} {s : State} {m : MethodId} {args : Array Value} {below : List Frame} {meth : Method} {c : Code} {D : va_G} {cA : ClassId} {ad : Nat → Nat} {A : Nat → Prop} {H : Heap} {locs : List Loc} {ls : Array Slot} {q : St} {z : Nat} {v1 : Int32} {S : St} (C0 : sd_Cx RJ7 cJ7_fill_53178 4 none (Cond.code yJ7_fill_53178 cJ7_fill_53178 4 none :: sd_big) p s m args meth c) (h : sd_Wd D vwCl cA sd_nw (wX ad cA) A s S H locs) (hl : lv_has ls 4 [(0, .ref (ad 59)), (1, .int v1)])  (hm : mJ7_fill_X59 z v1 S = some q) : W p l e rJ7_fill_X59 s m args below meth c H locs 0 0 (MQ below (sd_Qv D vwCl (wX ad cA) A q) args s 0 0 A) (F0 m 0 ls []) := by
  unfold mJ7_fill_X59 at hm
  have hx := C0.1
  have hb := C0.2.1
  refine lv_iconst (v := 0) hx hb dJ7_fill_53178_0 (by decide) ?_
  refine lv_istore_n (lv' := [(2, .int 0), (0, .ref (ad 59)), (1, .int v1)]) hx hb dJ7_fill_53178_1 rfl hl (by decide) rfl (fun ls hl => ?_)
  refine lv_aload_n hx hb dJ7_fill_53178_2 rfl (lv_at hl 1 rfl) ?_
  refine sd_len C0 h 59 (aX_59 ad cA _) (v := 256) rfl dJ7_fill_53178_3 ?_
  refine lv_istore_n (lv' := [(3, .int 256), (2, .int 0), (0, .ref (ad 59)), (1, .int v1)]) hx hb dJ7_fill_53178_4 rfl hl (by decide) rfl (fun ls hl => ?_)
  exact lJ7_fill_X59_5 C0 _ _ _ _ _ _ h (lv_sub hl [2, 3, 1, 0] rfl) hm
theorem tJ7_fill_X59 (l : Launch) (D : va_G) (cA : ClassId) (ad : Nat → Nat) {z : Nat} {S : St} {v1 : Int32} {q : St} (hm : mJ7_fill_X59 z v1 S = some q) : sd_MV l D vwCl cA sd_nw (wX ad cA) yJ7_fill_53178 (Cond.code yJ7_fill_53178 cJ7_fill_53178 4 none :: sd_big) rJ7_fill_X59 [.ref (ad 59), .int v1] S q :=
  sd_ofV (by decide +kernel) (Nat.le_of_ble_eq_true rfl) (fun _ _ _ _ _ _ _ _ _ _ C0 h hl => bJ7_fill_X59 C0 h (lv_sub hl [0, 1] rfl) hm)

def rX1_reach : Room := { frames := 0, cells := 0, slots := 0, locals := 0 }
def mX1_reach (v1 : Int32) (v2 : Int32) (v3 : Int32) (S : St) : Option St :=
  (rd (fA S 44) 256 v1).bind fun x1 =>
  (rd (fA S 45) 256 v1).bind fun x2 =>
  if x2 = (-1) then
    if x1 = (-30000) then
      some S
    else
      if x1 < v2 then
        some S
      else
        if (fI S 15) < 256 then
          (wr (fA S 45) 256 v1 v3).bind fun g7 =>
          (wr (fA (sA S 45 g7) 46) 256 (fI (sA S 45 g7) 15) v1).bind fun g8 =>
          some (sI (sA (sA S 45 g7) 46 g8) 15 ((fI (sA (sA S 45 g7) 46 g8) 15) + 1))
        else
          some S
  else
    some S
set_option maxHeartbeats 4000000 in
set_option maxRecDepth 100000 in
theorem bX1_reach {p : Program} {l : Launch} {e : Env} {s : State} {m : MethodId} {args : Array Value} {below : List Frame} {meth : Method} {c : Code} {D : va_G} {cA : ClassId} {ad : Nat → Nat} {A : Nat → Prop} {H : Heap} {locs : List Loc} {ls : Array Slot} {q : St} {v1 : Int32} {v2 : Int32} {v3 : Int32} {S : St} (C0 : sd_Cx RX1 cX1_reach 5 none (Cond.code yX1_reach cX1_reach 5 none :: sd_big) p s m args meth c) (h : sd_Wd D vwCl cA sd_nw (wX ad cA) A s S H locs) (hl : lv_has ls 5 [(0, .ref (ad 58)), (1, .int v1), (2, .int v2), (3, .int v3)])  (hm : mX1_reach v1 v2 v3 S = some q) : W p l e rX1_reach s m args below meth c H locs 0 0 (MQ below (sd_Qv D vwCl (wX ad cA) A q) args s 0 0 A) (F0 m 0 ls []) := by
  unfold mX1_reach at hm
  have hx := C0.1
  have hb := C0.2.1
  refine lv_aload_n hx hb dX1_reach_0 rfl (lv_at hl 0 rfl) ?_
  refine sd_get C0 h (C := RX1) (T := TX1) (N := 7) kcX1 58 (aX_58 ad cA _) rfl 0 (by decide) kfX1_31 (v := .ref (ad 55)) rfl dX1_reach_1 ?_
  refine sd_get C0 h (C := RX2) (T := TX2) (N := 3) kcX2 55 (aX_55 ad cA _) rfl 2 (by decide) kfX1_51 (v := .ref (ad 57)) rfl dX1_reach_4 ?_
  refine lv_iload_n hx hb dX1_reach_7 rfl (lv_at hl 1 rfl) ?_
  obtain ⟨x1, hx1, hm⟩ := bs hm
  refine sd_rd C0 h 57 (aX_57 ad cA _) hx1 dX1_reach_8 ?_
  refine lv_istore (lv' := [(4, .int x1), (0, .ref (ad 58)), (1, .int v1), (2, .int v2), (3, .int v3)]) hx hb dX1_reach_9 hl (by decide) rfl (fun ls hl => ?_)
  refine lv_aload_n hx hb dX1_reach_11 rfl (lv_at hl 1 rfl) ?_
  refine sd_get C0 h (C := RX1) (T := TX1) (N := 7) kcX1 58 (aX_58 ad cA _) rfl 1 (by decide) kfX1_9 (v := .ref (ad 59)) rfl dX1_reach_12 ?_
  refine lv_iload_n hx hb dX1_reach_15 rfl (lv_at hl 2 rfl) ?_
  obtain ⟨x2, hx2, hm⟩ := bs hm
  refine sd_rd C0 h 59 (aX_59 ad cA _) hx2 dX1_reach_16 ?_
  refine lv_iconst (v := (-1)) hx hb dX1_reach_17 (by decide) ?_
  refine lv_icmp_ne (tgt := 45) hx hb dX1_reach_18 (by decide) (fun c3 => ?_) (fun c3 => ?_)
  · replace hm := iq c3 hm
    exact sd_vret C0 h (Option.some.inj hm) dX1_reach_45
  · replace hm := ip c3 hm
    refine lv_iload hx hb dX1_reach_21 (lv_at hl 0 rfl) ?_
    refine lv_sipush (v := (-30000)) hx hb dX1_reach_23 (by decide) ?_
    refine lv_icmp_eq (tgt := 45) hx hb dX1_reach_26 (by decide) (fun c4 => ?_) (fun c4 => ?_)
    · replace hm := ip c4 hm
      exact sd_vret C0 h (Option.some.inj hm) dX1_reach_45
    · replace hm := iq c4 hm
      refine lv_iload hx hb dX1_reach_29 (lv_at hl 0 rfl) ?_
      refine lv_iload_n hx hb dX1_reach_31 rfl (lv_at hl 3 rfl) ?_
      refine lv_icmp_lt (tgt := 45) hx hb dX1_reach_32 (by decide) (fun c5 => ?_) (fun c5 => ?_)
      · replace hm := ip c5 hm
        exact sd_vret C0 h (Option.some.inj hm) dX1_reach_45
      · replace hm := iq c5 hm
        refine lv_aload_n hx hb dX1_reach_35 rfl (lv_at hl 1 rfl) ?_
        refine sd_get C0 h (C := RX1) (T := TX1) (N := 7) kcX1 58 (aX_58 ad cA _) rfl 3 (by decide) kfX1_18 (v := .int (fI S 15)) rfl dX1_reach_36 ?_
        refine lv_sipush (v := 256) hx hb dX1_reach_39 (by decide) ?_
        refine lv_icmp_lt (tgt := 46) hx hb dX1_reach_42 (by decide) (fun c6 => ?_) (fun c6 => ?_)
        · replace hm := ip c6 hm
          refine lv_aload_n hx hb dX1_reach_46 rfl (lv_at hl 1 rfl) ?_
          refine sd_get C0 h (C := RX1) (T := TX1) (N := 7) kcX1 58 (aX_58 ad cA _) rfl 1 (by decide) kfX1_9 (v := .ref (ad 59)) rfl dX1_reach_47 ?_
          refine lv_iload_n hx hb dX1_reach_50 rfl (lv_at hl 2 rfl) ?_
          refine lv_iload_n hx hb dX1_reach_51 rfl (lv_at hl 4 rfl) ?_
          obtain ⟨g7, hg7, hm⟩ := bs hm
          refine sd_wr C0 h (S1 := (sA S 45 g7)) 59 (aX_59 ad cA _) hg7 (eX_59 ad cA _ _) dX1_reach_52 (fun H locs h => ?_)
          refine lv_aload_n hx hb dX1_reach_53 rfl (lv_at hl 1 rfl) ?_
          refine sd_get C0 h (C := RX1) (T := TX1) (N := 7) kcX1 58 (aX_58 ad cA _) rfl 2 (by decide) kfX1_15 (v := .ref (ad 60)) rfl dX1_reach_54 ?_
          refine lv_aload_n hx hb dX1_reach_57 rfl (lv_at hl 1 rfl) ?_
          refine sd_get C0 h (C := RX1) (T := TX1) (N := 7) kcX1 58 (aX_58 ad cA _) rfl 3 (by decide) kfX1_18 (v := .int (fI (sA S 45 g7) 15)) rfl dX1_reach_58 ?_
          refine lv_iload_n hx hb dX1_reach_61 rfl (lv_at hl 2 rfl) ?_
          obtain ⟨g8, hg8, hm⟩ := bs hm
          refine sd_wr C0 h (S1 := (sA (sA S 45 g7) 46 g8)) 60 (aX_60 ad cA _) hg8 (eX_60 ad cA _ _) dX1_reach_62 (fun H locs h => ?_)
          refine lv_aload_n hx hb dX1_reach_63 rfl (lv_at hl 1 rfl) ?_
          refine lv_dup hx hb dX1_reach_64 rfl ?_
          refine sd_get C0 h (C := RX1) (T := TX1) (N := 7) kcX1 58 (aX_58 ad cA _) rfl 3 (by decide) kfX1_18 (v := .int (fI (sA (sA S 45 g7) 46 g8) 15)) rfl dX1_reach_65 ?_
          refine lv_iconst (v := 1) hx hb dX1_reach_68 (by decide) ?_
          refine lv_iadd hx hb dX1_reach_69 ?_
          refine sd_put C0 h (C := RX1) (T := TX1) (N := 7) (S1 := (sI (sA (sA S 45 g7) 46 g8) 15 ((fI (sA (sA S 45 g7) 46 g8) 15) + 1))) kcX1 tyX1 tyX1_ok nmX1 58 (aX_58 ad cA _) rfl 3 (by decide) kfX1_18 rfl (ty := .int) (by decide +kernel) rfl rfl (Nat.le_of_ble_eq_true rfl) (eX_58_3 ad cA _ _) dX1_reach_70 (fun H locs h => ?_)
          exact sd_vret C0 h (Option.some.inj hm) dX1_reach_73
        · replace hm := iq c6 hm
          exact sd_vret C0 h (Option.some.inj hm) dX1_reach_45
theorem tX1_reach (l : Launch) (D : va_G) (cA : ClassId) (ad : Nat → Nat) {S : St} {v1 : Int32} {v2 : Int32} {v3 : Int32} {q : St} (hm : mX1_reach v1 v2 v3 S = some q) : sd_MV l D vwCl cA sd_nw (wX ad cA) yX1_reach (Cond.code yX1_reach cX1_reach 5 none :: sd_big) rX1_reach [.ref (ad 58), .int v1, .int v2, .int v3] S q :=
  sd_ofV (by decide +kernel) (Nat.le_of_ble_eq_true rfl) (fun _ _ _ _ _ _ _ _ _ _ C0 h hl => bX1_reach C0 h (lv_sub hl [0, 1, 2, 3] rfl) hm)

def rX1_beside : Room := { frames := 0, cells := 0, slots := 0, locals := 0 }
def mX1_beside (S : St) (v0 : Int32) (v1 : Int32) : Option Int32 :=
  if v1 = 0 then
    if v0 < 16 then
      some (-1)
    else
      some (v0 - 16)
  else
  if v1 = 1 then
    if (v0 - v0 / 16 * 16) ≤ 0 then
      some (-1)
    else
      some (v0 - 1)
  else
  if v1 = 2 then
    if 15 ≤ (v0 - v0 / 16 * 16) then
      some (-1)
    else
      some (v0 + 1)
  else
    if 256 ≤ (v0 + 16) then
      some (-1)
    else
      some (v0 + 16)
set_option maxHeartbeats 4000000 in
set_option maxRecDepth 100000 in
theorem bX1_beside {p : Program} {l : Launch} {e : Env} {s : State} {m : MethodId} {args : Array Value} {below : List Frame} {meth : Method} {c : Code} {D : va_G} {cA : ClassId} {ad : Nat → Nat} {A : Nat → Prop} {H : Heap} {locs : List Loc} {ls : Array Slot} {q : Int32} {S : St} {v0 : Int32} {v1 : Int32} (C0 : sd_Cx RX1 cX1_beside 3 (some .int) (Cond.code yX1_beside cX1_beside 3 (some .int) :: sd_big) p s m args meth c) (h : sd_Wd D vwCl cA sd_nw (wX ad cA) A s S H locs) (hl : lv_has ls 3 [(0, .int v0), (1, .int v1)])  (hm : mX1_beside S v0 v1 = some q) : W p l e rX1_beside s m args below meth c H locs 0 0 (MQ below (sd_Qi D vwCl (wX ad cA) A (q, S)) args s 0 0 A) (F0 m 0 ls []) := by
  unfold mX1_beside at hm
  have hx := C0.1
  have hb := C0.2.1
  refine lv_iload_n hx hb dX1_beside_0 rfl (lv_at hl 0 rfl) ?_
  refine lv_bipush (v := 16) hx hb dX1_beside_1 (by decide) ?_
  refine lv_irem hx hb dX1_beside_3 (by decide) ?_
  refine lv_istore_n (lv' := [(2, .int (v0 - v0 / 16 * 16)), (0, .int v0), (1, .int v1)]) hx hb dX1_beside_4 rfl hl (by decide) rfl (fun ls hl => ?_)
  refine lv_iload_n hx hb dX1_beside_5 rfl (lv_at hl 2 rfl) ?_
  by_cases c1 : v1 = 0
  · replace hm := ip c1 hm
    refine lv_tableIn (off := 26) (tgt := 32) hx hb dX1_beside_6 (by rw [c1]; decide) (by rw [c1]; decide) (by rw [c1]; rfl) (by decide) ?_
    refine lv_iload_n hx hb dX1_beside_32 rfl (lv_at hl 1 rfl) ?_
    refine lv_bipush (v := 16) hx hb dX1_beside_33 (by decide) ?_
    refine lv_icmp_lt (tgt := 45) hx hb dX1_beside_35 (by decide) (fun c2 => ?_) (fun c2 => ?_)
    · replace hm := ip c2 hm
      refine lv_iconst (v := (-1)) hx hb dX1_beside_45 (by decide) ?_
      exact sd_iret C0 h (congrArg (fun x => (x, S)) (Option.some.inj hm)) dX1_beside_46
    · replace hm := iq c2 hm
      refine lv_iload_n hx hb dX1_beside_38 rfl (lv_at hl 1 rfl) ?_
      refine lv_bipush (v := 16) hx hb dX1_beside_39 (by decide) ?_
      refine lv_isub hx hb dX1_beside_41 ?_
      refine lv_goto (tgt := 46) hx hb dX1_beside_42 (by decide) ?_
      exact sd_iret C0 h (congrArg (fun x => (x, S)) (Option.some.inj hm)) dX1_beside_46
  · replace hm := iq c1 hm
    by_cases c3 : v1 = 1
    · replace hm := ip c3 hm
      refine lv_tableIn (off := 41) (tgt := 47) hx hb dX1_beside_6 (by rw [c3]; decide) (by rw [c3]; decide) (by rw [c3]; rfl) (by decide) ?_
      refine lv_iload_n hx hb dX1_beside_47 rfl (lv_at hl 0 rfl) ?_
      refine lv_if_le (tgt := 57) hx hb dX1_beside_48 (by decide) (fun c4 => ?_) (fun c4 => ?_)
      · replace hm := ip c4 hm
        refine lv_iconst (v := (-1)) hx hb dX1_beside_57 (by decide) ?_
        exact sd_iret C0 h (congrArg (fun x => (x, S)) (Option.some.inj hm)) dX1_beside_58
      · replace hm := iq c4 hm
        refine lv_iload_n hx hb dX1_beside_51 rfl (lv_at hl 1 rfl) ?_
        refine lv_iconst (v := 1) hx hb dX1_beside_52 (by decide) ?_
        refine lv_isub hx hb dX1_beside_53 ?_
        refine lv_goto (tgt := 58) hx hb dX1_beside_54 (by decide) ?_
        exact sd_iret C0 h (congrArg (fun x => (x, S)) (Option.some.inj hm)) dX1_beside_58
    · replace hm := iq c3 hm
      by_cases c5 : v1 = 2
      · replace hm := ip c5 hm
        refine lv_tableIn (off := 53) (tgt := 59) hx hb dX1_beside_6 (by rw [c5]; decide) (by rw [c5]; decide) (by rw [c5]; rfl) (by decide) ?_
        refine lv_iload_n hx hb dX1_beside_59 rfl (lv_at hl 0 rfl) ?_
        refine lv_bipush (v := 15) hx hb dX1_beside_60 (by decide) ?_
        refine lv_icmp_ge (tgt := 71) hx hb dX1_beside_62 (by decide) (fun c6 => ?_) (fun c6 => ?_)
        · replace hm := ip c6 hm
          refine lv_iconst (v := (-1)) hx hb dX1_beside_71 (by decide) ?_
          exact sd_iret C0 h (congrArg (fun x => (x, S)) (Option.some.inj hm)) dX1_beside_72
        · replace hm := iq c6 hm
          refine lv_iload_n hx hb dX1_beside_65 rfl (lv_at hl 1 rfl) ?_
          refine lv_iconst (v := 1) hx hb dX1_beside_66 (by decide) ?_
          refine lv_iadd hx hb dX1_beside_67 ?_
          refine lv_goto (tgt := 72) hx hb dX1_beside_68 (by decide) ?_
          exact sd_iret C0 h (congrArg (fun x => (x, S)) (Option.some.inj hm)) dX1_beside_72
      · replace hm := iq c5 hm
        have c1 := lv_neT c1 (a := 0) (by decide)
        have c3 := lv_neT c3 (a := 1) (by decide)
        have c5 := lv_neT c5 (a := 2) (by decide)
        refine lv_tableOut (tgt := 73) hx hb dX1_beside_6 (by omega) (by decide) ?_
        refine lv_iload_n hx hb dX1_beside_73 rfl (lv_at hl 1 rfl) ?_
        refine lv_bipush (v := 16) hx hb dX1_beside_74 (by decide) ?_
        refine lv_iadd hx hb dX1_beside_76 ?_
        refine lv_sipush (v := 256) hx hb dX1_beside_77 (by decide) ?_
        refine lv_icmp_ge (tgt := 90) hx hb dX1_beside_80 (by decide) (fun c7 => ?_) (fun c7 => ?_)
        · replace hm := ip c7 hm
          refine lv_iconst (v := (-1)) hx hb dX1_beside_90 (by decide) ?_
          exact sd_iret C0 h (congrArg (fun x => (x, S)) (Option.some.inj hm)) dX1_beside_91
        · replace hm := iq c7 hm
          refine lv_iload_n hx hb dX1_beside_83 rfl (lv_at hl 1 rfl) ?_
          refine lv_bipush (v := 16) hx hb dX1_beside_84 (by decide) ?_
          refine lv_iadd hx hb dX1_beside_86 ?_
          refine lv_goto (tgt := 91) hx hb dX1_beside_87 (by decide) ?_
          exact sd_iret C0 h (congrArg (fun x => (x, S)) (Option.some.inj hm)) dX1_beside_91
theorem tX1_beside (l : Launch) (D : va_G) (cA : ClassId) (ad : Nat → Nat) {S : St} {v0 : Int32} {v1 : Int32} {q : Int32} (hm : mX1_beside S v0 v1 = some q) : sd_MI l D vwCl cA sd_nw (wX ad cA) yX1_beside (Cond.code yX1_beside cX1_beside 3 (some .int) :: sd_big) rX1_beside [.int v0, .int v1] S (q, S) :=
  sd_ofI (by decide +kernel) (Nat.le_of_ble_eq_true rfl) (fun _ _ _ _ _ _ _ _ _ _ C0 h hl => bX1_beside C0 h (lv_sub hl [0, 1] rfl) hm)

def rX1_flood : Room := { frames := 1, cells := 0, slots := 0, locals := 24 }
def mX1_flood_48b (z : Nat) (rc22 : Int32 → St → Option St) (rc48 : Int32 → St → Option St) (v2 : Int32) (v3 : Int32) (v4 : Int32) (v5 : Int32) (S : St) : Option St :=
  if 4 ≤ v5 then
    rc22 (v3 + 1) S
  else
    (mX1_beside S v4 v5).bind fun u2 =>
    if u2 = (-1) then
      rc48 (v5 + 1) S
    else
      (rd (fA S 45) 256 v4).bind fun x4 =>
      (mX1_reach u2 v2 (x4 + 1) S).bind fun u5 =>
      rc48 (v5 + 1) u5
set_option maxHeartbeats 4000000 in
set_option maxRecDepth 100000 in
theorem bX1_flood_48b {p : Program} {l : Launch} {e : Env} {s : State} {m : MethodId} {args : Array Value} {below : List Frame} {meth : Method} {c : Code} {D : va_G} {cA : ClassId} {ad : Nat → Nat} {A : Nat → Prop} {H : Heap} {locs : List Loc} {ls : Array Slot} {q : St} {z : Nat} {rc22 : Int32 → St → Option St} {rc48 : Int32 → St → Option St} {v2 : Int32} {v3 : Int32} {v4 : Int32} {v5 : Int32} {S : St} (C0 : sd_Cx RX1 cX1_flood 7 none (Cond.code yX1_flood cX1_flood 7 none :: sd_big) p s m args meth c) (h : sd_Wd D vwCl cA sd_nw (wX ad cA) A s S H locs) (hl : lv_has ls 7 [(0, .ref (ad 58)), (2, .int v2), (3, .int v3), (4, .int v4), (5, .int v5)]) (hrc22 : ∀ (v3 : Int32) (S : St) (H : Heap) (locs : List Loc) (ls : Array Slot), sd_Wd D vwCl cA sd_nw (wX ad cA) A s S H locs → lv_has ls 7 [(0, .ref (ad 58)), (2, .int v2), (3, .int v3)] → rc22 v3 S = some q → W p l e rX1_flood s m args below meth c H locs 0 0 (MQ below (sd_Qv D vwCl (wX ad cA) A q) args s 0 0 A) (F0 m 22 ls [])) (hrc48 : ∀ (v5 : Int32) (S : St) (H : Heap) (locs : List Loc) (ls : Array Slot), sd_Wd D vwCl cA sd_nw (wX ad cA) A s S H locs → lv_has ls 7 [(0, .ref (ad 58)), (2, .int v2), (3, .int v3), (4, .int v4), (5, .int v5)] → rc48 v5 S = some q → W p l e rX1_flood s m args below meth c H locs 0 0 (MQ below (sd_Qv D vwCl (wX ad cA) A q) args s 0 0 A) (F0 m 48 ls [])) (hm : mX1_flood_48b z rc22 rc48 v2 v3 v4 v5 S = some q) : W p l e rX1_flood s m args below meth c H locs 0 0 (MQ below (sd_Qv D vwCl (wX ad cA) A q) args s 0 0 A) (F0 m 48 ls []) := by
  unfold mX1_flood_48b at hm
  have hx := C0.1
  have hb := C0.2.1
  refine lv_iload hx hb dX1_flood_48 (lv_at hl 4 rfl) ?_
  refine lv_iconst (v := 4) hx hb dX1_flood_50 (by decide) ?_
  refine lv_icmp_ge (tgt := 91) hx hb dX1_flood_51 (by decide) (fun c1 => ?_) (fun c1 => ?_)
  · replace hm := ip c1 hm
    refine lv_iinc (v := (v3 + 1)) (lv' := [(3, .int (v3 + 1)), (0, .ref (ad 58)), (2, .int v2), (4, .int v4), (5, .int v5)]) hx hb dX1_flood_91 hl (k := 2) rfl rfl (by decide) rfl (fun ls hl => ?_)
    refine lv_goto (tgt := 22) hx hb dX1_flood_94 (by decide) ?_
    exact hrc22 _ _ _ _ _ h (lv_sub hl [1, 2, 0] rfl) hm
  · replace hm := iq c1 hm
    refine lv_iload hx hb dX1_flood_54 (lv_at hl 3 rfl) ?_
    refine lv_iload hx hb dX1_flood_56 (lv_at hl 4 rfl) ?_
    obtain ⟨u2, hu2, hm⟩ := bs hm
    refine sd_Si C0 h kYX1_beside kmX1_75 [.int v4, .int v5] (tX1_beside l D cA ad hu2) rfl hl.1 rfl (Nat.le_of_ble_eq_true rfl) (by decide) dX1_flood_58 (by decide) (fun H locs h => ?_)
    refine lv_istore (lv' := [(6, .int u2), (0, .ref (ad 58)), (2, .int v2), (3, .int v3), (4, .int v4), (5, .int v5)]) hx hb dX1_flood_61 hl (by decide) rfl (fun ls hl => ?_)
    refine lv_iload hx hb dX1_flood_63 (lv_at hl 0 rfl) ?_
    refine lv_iconst (v := (-1)) hx hb dX1_flood_65 (by decide) ?_
    refine lv_icmp_eq (tgt := 85) hx hb dX1_flood_66 (by decide) (fun c3 => ?_) (fun c3 => ?_)
    · replace hm := ip c3 hm
      refine lv_iinc (v := (v5 + 1)) (lv' := [(5, .int (v5 + 1)), (6, .int u2), (0, .ref (ad 58)), (2, .int v2), (3, .int v3), (4, .int v4)]) hx hb dX1_flood_85 hl (k := 5) rfl rfl (by decide) rfl (fun ls hl => ?_)
      refine lv_goto (tgt := 48) hx hb dX1_flood_88 (by decide) ?_
      exact hrc48 _ _ _ _ _ h (lv_sub hl [2, 3, 4, 5, 0] rfl) hm
    · replace hm := iq c3 hm
      refine lv_aload_n hx hb dX1_flood_69 rfl (lv_at hl 1 rfl) ?_
      refine lv_iload hx hb dX1_flood_70 (lv_at hl 0 rfl) ?_
      refine lv_iload_n hx hb dX1_flood_72 rfl (lv_at hl 2 rfl) ?_
      refine lv_aload_n hx hb dX1_flood_73 rfl (lv_at hl 1 rfl) ?_
      refine sd_get C0 h (C := RX1) (T := TX1) (N := 7) kcX1 58 (aX_58 ad cA _) rfl 1 (by decide) kfX1_9 (v := .ref (ad 59)) rfl dX1_flood_74 ?_
      refine lv_iload hx hb dX1_flood_77 (lv_at hl 4 rfl) ?_
      obtain ⟨x4, hx4, hm⟩ := bs hm
      refine sd_rd C0 h 59 (aX_59 ad cA _) hx4 dX1_flood_79 ?_
      refine lv_iconst (v := 1) hx hb dX1_flood_80 (by decide) ?_
      refine lv_iadd hx hb dX1_flood_81 ?_
      obtain ⟨u5, hu5, hm⟩ := bs hm
      refine sd_Vv C0 h kYX1_reach kmX1_71 58 (aX_58 ad cA _) rfl [.int u2, .int v2, .int (x4 + 1)] (tX1_reach l D cA ad hu5) rfl hl.1 rfl (Nat.le_of_ble_eq_true rfl) (by decide) dX1_flood_82 (by decide) (fun H locs h => ?_)
      refine lv_iinc (v := (v5 + 1)) (lv' := [(5, .int (v5 + 1)), (6, .int u2), (0, .ref (ad 58)), (2, .int v2), (3, .int v3), (4, .int v4)]) hx hb dX1_flood_85 hl (k := 5) rfl rfl (by decide) rfl (fun ls hl => ?_)
      refine lv_goto (tgt := 48) hx hb dX1_flood_88 (by decide) ?_
      exact hrc48 _ _ _ _ _ h (lv_sub hl [2, 3, 4, 5, 0] rfl) hm
def mX1_flood_48 (z : Nat) (rc22 : Int32 → St → Option St) (v2 : Int32) (v3 : Int32) (v4 : Int32) : Nat → Int32 → St → Option St
  | 0, _, _ => none
  | n + 1, v5, S => mX1_flood_48b z rc22 (mX1_flood_48 z rc22 v2 v3 v4 n) v2 v3 v4 v5 S
set_option maxHeartbeats 4000000 in
set_option maxRecDepth 100000 in
theorem lX1_flood_48 {p : Program} {l : Launch} {e : Env} {s : State} {m : MethodId} {args : Array Value} {below : List Frame} {meth : Method} {c : Code} {D : va_G} {cA : ClassId} {ad : Nat → Nat} {A : Nat → Prop} {q : St} {z : Nat} {rc22 : Int32 → St → Option St} {v2 : Int32} {v3 : Int32} {v4 : Int32} (C0 : sd_Cx RX1 cX1_flood 7 none (Cond.code yX1_flood cX1_flood 7 none :: sd_big) p s m args meth c) (hrc22 : ∀ (v3 : Int32) (S : St) (H : Heap) (locs : List Loc) (ls : Array Slot), sd_Wd D vwCl cA sd_nw (wX ad cA) A s S H locs → lv_has ls 7 [(0, .ref (ad 58)), (2, .int v2), (3, .int v3)] → rc22 v3 S = some q → W p l e rX1_flood s m args below meth c H locs 0 0 (MQ below (sd_Qv D vwCl (wX ad cA) A q) args s 0 0 A) (F0 m 22 ls [])) : ∀ (n : Nat) (v5 : Int32) (S : St) (H : Heap) (locs : List Loc) (ls : Array Slot), sd_Wd D vwCl cA sd_nw (wX ad cA) A s S H locs → lv_has ls 7 [(0, .ref (ad 58)), (2, .int v2), (3, .int v3), (4, .int v4), (5, .int v5)] → mX1_flood_48 z rc22 v2 v3 v4 n v5 S = some q → W p l e rX1_flood s m args below meth c H locs 0 0 (MQ below (sd_Qv D vwCl (wX ad cA) A q) args s 0 0 A) (F0 m 48 ls []) := by
  intro n
  induction n with
  | zero =>
    intro v5 S H locs ls h hl hm
    exact nomatch (show none = some q from hm)
  | succ n ih =>
    intro v5 S H locs ls h hl hm
    exact bX1_flood_48b C0 h hl hrc22 ih hm
def mX1_flood_22b (z : Nat) (rc22 : Int32 → St → Option St) (v2 : Int32) (v3 : Int32) (S : St) : Option St :=
  if 256 ≤ v3 then
    some S
  else
    if (fI S 15) ≤ v3 then
      some S
    else
      (rd (fA S 46) 256 v3).bind fun x3 =>
      mX1_flood_48 z rc22 v2 v3 x3 z 0 S
set_option maxHeartbeats 4000000 in
set_option maxRecDepth 100000 in
theorem bX1_flood_22b {p : Program} {l : Launch} {e : Env} {s : State} {m : MethodId} {args : Array Value} {below : List Frame} {meth : Method} {c : Code} {D : va_G} {cA : ClassId} {ad : Nat → Nat} {A : Nat → Prop} {H : Heap} {locs : List Loc} {ls : Array Slot} {q : St} {z : Nat} {rc22 : Int32 → St → Option St} {v2 : Int32} {v3 : Int32} {S : St} (C0 : sd_Cx RX1 cX1_flood 7 none (Cond.code yX1_flood cX1_flood 7 none :: sd_big) p s m args meth c) (h : sd_Wd D vwCl cA sd_nw (wX ad cA) A s S H locs) (hl : lv_has ls 7 [(0, .ref (ad 58)), (2, .int v2), (3, .int v3)]) (hrc22 : ∀ (v3 : Int32) (S : St) (H : Heap) (locs : List Loc) (ls : Array Slot), sd_Wd D vwCl cA sd_nw (wX ad cA) A s S H locs → lv_has ls 7 [(0, .ref (ad 58)), (2, .int v2), (3, .int v3)] → rc22 v3 S = some q → W p l e rX1_flood s m args below meth c H locs 0 0 (MQ below (sd_Qv D vwCl (wX ad cA) A q) args s 0 0 A) (F0 m 22 ls [])) (hm : mX1_flood_22b z rc22 v2 v3 S = some q) : W p l e rX1_flood s m args below meth c H locs 0 0 (MQ below (sd_Qv D vwCl (wX ad cA) A q) args s 0 0 A) (F0 m 22 ls []) := by
  unfold mX1_flood_22b at hm
  have hx := C0.1
  have hb := C0.2.1
  refine lv_iload_n hx hb dX1_flood_22 rfl (lv_at hl 2 rfl) ?_
  refine lv_sipush (v := 256) hx hb dX1_flood_23 (by decide) ?_
  refine lv_icmp_ge (tgt := 97) hx hb dX1_flood_26 (by decide) (fun c1 => ?_) (fun c1 => ?_)
  · replace hm := ip c1 hm
    exact sd_vret C0 h (Option.some.inj hm) dX1_flood_97
  · replace hm := iq c1 hm
    refine lv_iload_n hx hb dX1_flood_29 rfl (lv_at hl 2 rfl) ?_
    refine lv_aload_n hx hb dX1_flood_30 rfl (lv_at hl 0 rfl) ?_
    refine sd_get C0 h (C := RX1) (T := TX1) (N := 7) kcX1 58 (aX_58 ad cA _) rfl 3 (by decide) kfX1_18 (v := .int (fI S 15)) rfl dX1_flood_31 ?_
    refine lv_icmp_ge (tgt := 97) hx hb dX1_flood_34 (by decide) (fun c2 => ?_) (fun c2 => ?_)
    · replace hm := ip c2 hm
      exact sd_vret C0 h (Option.some.inj hm) dX1_flood_97
    · replace hm := iq c2 hm
      refine lv_aload_n hx hb dX1_flood_37 rfl (lv_at hl 0 rfl) ?_
      refine sd_get C0 h (C := RX1) (T := TX1) (N := 7) kcX1 58 (aX_58 ad cA _) rfl 2 (by decide) kfX1_15 (v := .ref (ad 60)) rfl dX1_flood_38 ?_
      refine lv_iload_n hx hb dX1_flood_41 rfl (lv_at hl 2 rfl) ?_
      obtain ⟨x3, hx3, hm⟩ := bs hm
      refine sd_rd C0 h 60 (aX_60 ad cA _) hx3 dX1_flood_42 ?_
      refine lv_istore (lv' := [(4, .int x3), (0, .ref (ad 58)), (2, .int v2), (3, .int v3)]) hx hb dX1_flood_43 hl (by decide) rfl (fun ls hl => ?_)
      refine lv_iconst (v := 0) hx hb dX1_flood_45 (by decide) ?_
      refine lv_istore (lv' := [(5, .int 0), (4, .int x3), (0, .ref (ad 58)), (2, .int v2), (3, .int v3)]) hx hb dX1_flood_46 hl (by decide) rfl (fun ls hl => ?_)
      exact lX1_flood_48 C0 hrc22 _ _ _ _ _ _ h (lv_sub hl [2, 3, 4, 1, 0] rfl) hm
def mX1_flood_22 (z : Nat) (v2 : Int32) : Nat → Int32 → St → Option St
  | 0, _, _ => none
  | n + 1, v3, S => mX1_flood_22b z (mX1_flood_22 z v2 n) v2 v3 S
set_option maxHeartbeats 4000000 in
set_option maxRecDepth 100000 in
theorem lX1_flood_22 {p : Program} {l : Launch} {e : Env} {s : State} {m : MethodId} {args : Array Value} {below : List Frame} {meth : Method} {c : Code} {D : va_G} {cA : ClassId} {ad : Nat → Nat} {A : Nat → Prop} {q : St} {z : Nat} {v2 : Int32} (C0 : sd_Cx RX1 cX1_flood 7 none (Cond.code yX1_flood cX1_flood 7 none :: sd_big) p s m args meth c)  : ∀ (n : Nat) (v3 : Int32) (S : St) (H : Heap) (locs : List Loc) (ls : Array Slot), sd_Wd D vwCl cA sd_nw (wX ad cA) A s S H locs → lv_has ls 7 [(0, .ref (ad 58)), (2, .int v2), (3, .int v3)] → mX1_flood_22 z v2 n v3 S = some q → W p l e rX1_flood s m args below meth c H locs 0 0 (MQ below (sd_Qv D vwCl (wX ad cA) A q) args s 0 0 A) (F0 m 22 ls []) := by
  intro n
  induction n with
  | zero =>
    intro v3 S H locs ls h hl hm
    exact nomatch (show none = some q from hm)
  | succ n ih =>
    intro v3 S H locs ls h hl hm
    exact bX1_flood_22b C0 h hl ih hm
def mX1_flood (z : Nat) (v1 : Int32) (v2 : Int32) (S : St) : Option St :=
  (mJ7_fill_X59 z (-1) S).bind fun u1 =>
  (mX1_reach v1 v2 0 (sI u1 15 0)).bind fun u2 =>
  mX1_flood_22 z v2 z 0 u2
set_option maxHeartbeats 4000000 in
set_option maxRecDepth 100000 in
theorem bX1_flood {p : Program} {l : Launch} {e : Env} {s : State} {m : MethodId} {args : Array Value} {below : List Frame} {meth : Method} {c : Code} {D : va_G} {cA : ClassId} {ad : Nat → Nat} {A : Nat → Prop} {H : Heap} {locs : List Loc} {ls : Array Slot} {q : St} {z : Nat} {v1 : Int32} {v2 : Int32} {S : St} (C0 : sd_Cx RX1 cX1_flood 7 none (Cond.code yX1_flood cX1_flood 7 none :: sd_big) p s m args meth c) (h : sd_Wd D vwCl cA sd_nw (wX ad cA) A s S H locs) (hl : lv_has ls 7 [(0, .ref (ad 58)), (1, .int v1), (2, .int v2)])  (hm : mX1_flood z v1 v2 S = some q) : W p l e rX1_flood s m args below meth c H locs 0 0 (MQ below (sd_Qv D vwCl (wX ad cA) A q) args s 0 0 A) (F0 m 0 ls []) := by
  unfold mX1_flood at hm
  have hx := C0.1
  have hb := C0.2.1
  refine lv_aload_n hx hb dX1_flood_0 rfl (lv_at hl 0 rfl) ?_
  refine sd_get C0 h (C := RX1) (T := TX1) (N := 7) kcX1 58 (aX_58 ad cA _) rfl 1 (by decide) kfX1_9 (v := .ref (ad 59)) rfl dX1_flood_1 ?_
  refine lv_iconst (v := (-1)) hx hb dX1_flood_4 (by decide) ?_
  obtain ⟨u1, hu1, hm⟩ := bs hm
  refine sd_Sv C0 h kYJ7_fill_53178 kmX1_65 [.ref (ad 59), .int (-1)] (tJ7_fill_X59 l D cA ad hu1) rfl hl.1 rfl (Nat.le_of_ble_eq_true rfl) (by decide) dX1_flood_5 (by decide) (fun H locs h => ?_)
  refine lv_aload_n hx hb dX1_flood_8 rfl (lv_at hl 0 rfl) ?_
  refine lv_iconst (v := 0) hx hb dX1_flood_9 (by decide) ?_
  refine sd_put C0 h (C := RX1) (T := TX1) (N := 7) (S1 := (sI u1 15 0)) kcX1 tyX1 tyX1_ok nmX1 58 (aX_58 ad cA _) rfl 3 (by decide) kfX1_18 rfl (ty := .int) (by decide +kernel) rfl rfl (Nat.le_of_ble_eq_true rfl) (eX_58_3 ad cA _ _) dX1_flood_10 (fun H locs h => ?_)
  refine lv_aload_n hx hb dX1_flood_13 rfl (lv_at hl 0 rfl) ?_
  refine lv_iload_n hx hb dX1_flood_14 rfl (lv_at hl 1 rfl) ?_
  refine lv_iload_n hx hb dX1_flood_15 rfl (lv_at hl 2 rfl) ?_
  refine lv_iconst (v := 0) hx hb dX1_flood_16 (by decide) ?_
  obtain ⟨u2, hu2, hm⟩ := bs hm
  refine sd_Vv C0 h kYX1_reach kmX1_71 58 (aX_58 ad cA _) rfl [.int v1, .int v2, .int 0] (tX1_reach l D cA ad hu2) rfl hl.1 rfl (Nat.le_of_ble_eq_true rfl) (by decide) dX1_flood_17 (by decide) (fun H locs h => ?_)
  refine lv_iconst (v := 0) hx hb dX1_flood_20 (by decide) ?_
  refine lv_istore_n (lv' := [(3, .int 0), (0, .ref (ad 58)), (1, .int v1), (2, .int v2)]) hx hb dX1_flood_21 rfl hl (by decide) rfl (fun ls hl => ?_)
  exact lX1_flood_22 C0 _ _ _ _ _ _ h (lv_sub hl [1, 3, 0] rfl) hm
theorem tX1_flood (l : Launch) (D : va_G) (cA : ClassId) (ad : Nat → Nat) {z : Nat} {S : St} {v1 : Int32} {v2 : Int32} {q : St} (hm : mX1_flood z v1 v2 S = some q) : sd_MV l D vwCl cA sd_nw (wX ad cA) yX1_flood (Cond.code yX1_flood cX1_flood 7 none :: sd_big) rX1_flood [.ref (ad 58), .int v1, .int v2] S q :=
  sd_ofV (by decide +kernel) (Nat.le_of_ble_eq_true rfl) (fun _ _ _ _ _ _ _ _ _ _ C0 h hl => bX1_flood C0 h (lv_sub hl [0, 1, 2] rfl) hm)

def rX1_joins : Room := { frames := 2, cells := 0, slots := 0, locals := 50 }
def mX1_joins (z : Nat) (v1 : Int32) (v2 : Int32) (v3 : Int32) (S : St) : Option (Int32 × St) :=
  (mX1_flood z v2 v3 S).bind fun u1 =>
  (rd (fA u1 45) 256 v1).bind fun x2 =>
  if x2 = (-1) then
    some (0, u1)
  else
    some (1, u1)
set_option maxHeartbeats 4000000 in
set_option maxRecDepth 100000 in
theorem bX1_joins {p : Program} {l : Launch} {e : Env} {s : State} {m : MethodId} {args : Array Value} {below : List Frame} {meth : Method} {c : Code} {D : va_G} {cA : ClassId} {ad : Nat → Nat} {A : Nat → Prop} {H : Heap} {locs : List Loc} {ls : Array Slot} {q : (Int32 × St)} {z : Nat} {v1 : Int32} {v2 : Int32} {v3 : Int32} {S : St} (C0 : sd_Cx RX1 cX1_joins 4 (some .boolean) (Cond.code yX1_joins cX1_joins 4 (some .boolean) :: sd_big) p s m args meth c) (h : sd_Wd D vwCl cA sd_nw (wX ad cA) A s S H locs) (hl : lv_has ls 4 [(0, .ref (ad 58)), (1, .int v1), (2, .int v2), (3, .int v3)])  (hm : mX1_joins z v1 v2 v3 S = some q) : W p l e rX1_joins s m args below meth c H locs 0 0 (MQ below (sd_Qi D vwCl (wX ad cA) A q) args s 0 0 A) (F0 m 0 ls []) := by
  unfold mX1_joins at hm
  have hx := C0.1
  have hb := C0.2.1
  refine lv_aload_n hx hb dX1_joins_0 rfl (lv_at hl 0 rfl) ?_
  refine lv_iload_n hx hb dX1_joins_1 rfl (lv_at hl 2 rfl) ?_
  refine lv_iload_n hx hb dX1_joins_2 rfl (lv_at hl 3 rfl) ?_
  obtain ⟨u1, hu1, hm⟩ := bs hm
  refine sd_Vv C0 h kYX1_flood kmX1_43 58 (aX_58 ad cA _) rfl [.int v2, .int v3] (tX1_flood l D cA ad hu1) rfl hl.1 rfl (Nat.le_of_ble_eq_true rfl) (by decide) dX1_joins_3 (by decide) (fun H locs h => ?_)
  refine lv_aload_n hx hb dX1_joins_6 rfl (lv_at hl 0 rfl) ?_
  refine sd_get C0 h (C := RX1) (T := TX1) (N := 7) kcX1 58 (aX_58 ad cA _) rfl 1 (by decide) kfX1_9 (v := .ref (ad 59)) rfl dX1_joins_7 ?_
  refine lv_iload_n hx hb dX1_joins_10 rfl (lv_at hl 1 rfl) ?_
  obtain ⟨x2, hx2, hm⟩ := bs hm
  refine sd_rd C0 h 59 (aX_59 ad cA _) hx2 dX1_joins_11 ?_
  refine lv_iconst (v := (-1)) hx hb dX1_joins_12 (by decide) ?_
  refine lv_icmp_eq (tgt := 20) hx hb dX1_joins_13 (by decide) (fun c3 => ?_) (fun c3 => ?_)
  · replace hm := ip c3 hm
    refine lv_iconst (v := 0) hx hb dX1_joins_20 (by decide) ?_
    exact sd_zret C0 h (Option.some.inj hm) rfl dX1_joins_21
  · replace hm := iq c3 hm
    refine lv_iconst (v := 1) hx hb dX1_joins_16 (by decide) ?_
    refine lv_goto (tgt := 21) hx hb dX1_joins_17 (by decide) ?_
    exact sd_zret C0 h (Option.some.inj hm) rfl dX1_joins_21
theorem tX1_joins (l : Launch) (D : va_G) (cA : ClassId) (ad : Nat → Nat) {z : Nat} {S : St} {v1 : Int32} {v2 : Int32} {v3 : Int32} {q : (Int32 × St)} (hm : mX1_joins z v1 v2 v3 S = some q) : sd_MI l D vwCl cA sd_nw (wX ad cA) yX1_joins (Cond.code yX1_joins cX1_joins 4 (some .boolean) :: sd_big) rX1_joins [.ref (ad 58), .int v1, .int v2, .int v3] S q :=
  sd_ofI (by decide +kernel) (Nat.le_of_ble_eq_true rfl) (fun _ _ _ _ _ _ _ _ _ _ C0 h hl => bX1_joins C0 h (lv_sub hl [0, 1, 2, 3] rfl) hm)

def rX2_leastDepth : Room := { frames := 0, cells := 0, slots := 0, locals := 0 }
def mX2_leastDepth_6b (z : Nat) (S : St) (rc6 : Int32 → Int32 → Option Int32) (v1 : Int32) (v2 : Int32) : Option Int32 :=
  if 256 ≤ v2 then
    some v1
  else
    (rd (fA S 44) 256 v2).bind fun x2 =>
    if x2 = (-30000) then
      rc6 v1 (v2 + 1)
    else
      if v1 = (-30000) then
        rc6 x2 (v2 + 1)
      else
        if v1 ≤ x2 then
          rc6 v1 (v2 + 1)
        else
          rc6 x2 (v2 + 1)
set_option maxHeartbeats 4000000 in
set_option maxRecDepth 100000 in
theorem bX2_leastDepth_6b {p : Program} {l : Launch} {e : Env} {s : State} {m : MethodId} {args : Array Value} {below : List Frame} {meth : Method} {c : Code} {D : va_G} {cA : ClassId} {ad : Nat → Nat} {A : Nat → Prop} {H : Heap} {locs : List Loc} {ls : Array Slot} {q : Int32} {z : Nat} {S : St} {rc6 : Int32 → Int32 → Option Int32} {v1 : Int32} {v2 : Int32} (C0 : sd_Cx RX2 cX2_leastDepth 4 (some .int) (Cond.code yX2_leastDepth cX2_leastDepth 4 (some .int) :: sd_big) p s m args meth c) (h : sd_Wd D vwCl cA sd_nw (wX ad cA) A s S H locs) (hl : lv_has ls 4 [(0, .ref (ad 55)), (1, .int v1), (2, .int v2)]) (hrc6 : ∀ (v1 : Int32) (v2 : Int32) (H : Heap) (locs : List Loc) (ls : Array Slot), sd_Wd D vwCl cA sd_nw (wX ad cA) A s S H locs → lv_has ls 4 [(0, .ref (ad 55)), (1, .int v1), (2, .int v2)] → rc6 v1 v2 = some q → W p l e rX2_leastDepth s m args below meth c H locs 0 0 (MQ below (sd_Qi D vwCl (wX ad cA) A (q, S)) args s 0 0 A) (F0 m 6 ls [])) (hm : mX2_leastDepth_6b z S rc6 v1 v2 = some q) : W p l e rX2_leastDepth s m args below meth c H locs 0 0 (MQ below (sd_Qi D vwCl (wX ad cA) A (q, S)) args s 0 0 A) (F0 m 6 ls []) := by
  unfold mX2_leastDepth_6b at hm
  have hx := C0.1
  have hb := C0.2.1
  refine lv_iload_n hx hb dX2_leastDepth_6 rfl (lv_at hl 2 rfl) ?_
  refine lv_sipush (v := 256) hx hb dX2_leastDepth_7 (by decide) ?_
  refine lv_icmp_ge (tgt := 47) hx hb dX2_leastDepth_10 (by decide) (fun c1 => ?_) (fun c1 => ?_)
  · replace hm := ip c1 hm
    refine lv_iload_n hx hb dX2_leastDepth_47 rfl (lv_at hl 1 rfl) ?_
    exact sd_iret C0 h (congrArg (fun x => (x, S)) (Option.some.inj hm)) dX2_leastDepth_48
  · replace hm := iq c1 hm
    refine lv_aload_n hx hb dX2_leastDepth_13 rfl (lv_at hl 0 rfl) ?_
    refine sd_get C0 h (C := RX2) (T := TX2) (N := 3) kcX2 55 (aX_55 ad cA _) rfl 2 (by decide) kfX2_15 (v := .ref (ad 57)) rfl dX2_leastDepth_14 ?_
    refine lv_iload_n hx hb dX2_leastDepth_17 rfl (lv_at hl 2 rfl) ?_
    obtain ⟨x2, hx2, hm⟩ := bs hm
    refine sd_rd C0 h 57 (aX_57 ad cA _) hx2 dX2_leastDepth_18 ?_
    refine lv_istore_n (lv' := [(3, .int x2), (0, .ref (ad 55)), (1, .int v1), (2, .int v2)]) hx hb dX2_leastDepth_19 rfl hl (by decide) rfl (fun ls hl => ?_)
    refine lv_iload_n hx hb dX2_leastDepth_20 rfl (lv_at hl 0 rfl) ?_
    refine lv_sipush (v := (-30000)) hx hb dX2_leastDepth_21 (by decide) ?_
    refine lv_icmp_eq (tgt := 41) hx hb dX2_leastDepth_24 (by decide) (fun c3 => ?_) (fun c3 => ?_)
    · replace hm := ip c3 hm
      refine lv_iinc (v := (v2 + 1)) (lv' := [(2, .int (v2 + 1)), (3, .int x2), (0, .ref (ad 55)), (1, .int v1)]) hx hb dX2_leastDepth_41 hl (k := 3) rfl rfl (by decide) rfl (fun ls hl => ?_)
      refine lv_goto (tgt := 6) hx hb dX2_leastDepth_44 (by decide) ?_
      exact hrc6 _ _ _ _ _ h (lv_sub hl [2, 3, 0] rfl) hm
    · replace hm := iq c3 hm
      refine lv_iload_n hx hb dX2_leastDepth_27 rfl (lv_at hl 2 rfl) ?_
      refine lv_sipush (v := (-30000)) hx hb dX2_leastDepth_28 (by decide) ?_
      refine lv_icmp_eq (tgt := 39) hx hb dX2_leastDepth_31 (by decide) (fun c4 => ?_) (fun c4 => ?_)
      · replace hm := ip c4 hm
        refine lv_iload_n hx hb dX2_leastDepth_39 rfl (lv_at hl 0 rfl) ?_
        refine lv_istore_n (lv' := [(1, .int x2), (3, .int x2), (0, .ref (ad 55)), (2, .int v2)]) hx hb dX2_leastDepth_40 rfl hl (by decide) rfl (fun ls hl => ?_)
        refine lv_iinc (v := (v2 + 1)) (lv' := [(2, .int (v2 + 1)), (1, .int x2), (3, .int x2), (0, .ref (ad 55))]) hx hb dX2_leastDepth_41 hl (k := 3) rfl rfl (by decide) rfl (fun ls hl => ?_)
        refine lv_goto (tgt := 6) hx hb dX2_leastDepth_44 (by decide) ?_
        exact hrc6 _ _ _ _ _ h (lv_sub hl [3, 1, 0] rfl) hm
      · replace hm := iq c4 hm
        refine lv_iload_n hx hb dX2_leastDepth_34 rfl (lv_at hl 0 rfl) ?_
        refine lv_iload_n hx hb dX2_leastDepth_35 rfl (lv_at hl 2 rfl) ?_
        refine lv_icmp_ge (tgt := 41) hx hb dX2_leastDepth_36 (by decide) (fun c5 => ?_) (fun c5 => ?_)
        · replace hm := ip c5 hm
          refine lv_iinc (v := (v2 + 1)) (lv' := [(2, .int (v2 + 1)), (3, .int x2), (0, .ref (ad 55)), (1, .int v1)]) hx hb dX2_leastDepth_41 hl (k := 3) rfl rfl (by decide) rfl (fun ls hl => ?_)
          refine lv_goto (tgt := 6) hx hb dX2_leastDepth_44 (by decide) ?_
          exact hrc6 _ _ _ _ _ h (lv_sub hl [2, 3, 0] rfl) hm
        · replace hm := iq c5 hm
          refine lv_iload_n hx hb dX2_leastDepth_39 rfl (lv_at hl 0 rfl) ?_
          refine lv_istore_n (lv' := [(1, .int x2), (3, .int x2), (0, .ref (ad 55)), (2, .int v2)]) hx hb dX2_leastDepth_40 rfl hl (by decide) rfl (fun ls hl => ?_)
          refine lv_iinc (v := (v2 + 1)) (lv' := [(2, .int (v2 + 1)), (1, .int x2), (3, .int x2), (0, .ref (ad 55))]) hx hb dX2_leastDepth_41 hl (k := 3) rfl rfl (by decide) rfl (fun ls hl => ?_)
          refine lv_goto (tgt := 6) hx hb dX2_leastDepth_44 (by decide) ?_
          exact hrc6 _ _ _ _ _ h (lv_sub hl [3, 1, 0] rfl) hm
def mX2_leastDepth_6 (z : Nat) (S : St) : Nat → Int32 → Int32 → Option Int32
  | 0, _, _ => none
  | n + 1, v1, v2 => mX2_leastDepth_6b z S (mX2_leastDepth_6 z S n) v1 v2
set_option maxHeartbeats 4000000 in
set_option maxRecDepth 100000 in
theorem lX2_leastDepth_6 {p : Program} {l : Launch} {e : Env} {s : State} {m : MethodId} {args : Array Value} {below : List Frame} {meth : Method} {c : Code} {D : va_G} {cA : ClassId} {ad : Nat → Nat} {A : Nat → Prop} {q : Int32} {z : Nat} {S : St} (C0 : sd_Cx RX2 cX2_leastDepth 4 (some .int) (Cond.code yX2_leastDepth cX2_leastDepth 4 (some .int) :: sd_big) p s m args meth c)  : ∀ (n : Nat) (v1 : Int32) (v2 : Int32) (H : Heap) (locs : List Loc) (ls : Array Slot), sd_Wd D vwCl cA sd_nw (wX ad cA) A s S H locs → lv_has ls 4 [(0, .ref (ad 55)), (1, .int v1), (2, .int v2)] → mX2_leastDepth_6 z S n v1 v2 = some q → W p l e rX2_leastDepth s m args below meth c H locs 0 0 (MQ below (sd_Qi D vwCl (wX ad cA) A (q, S)) args s 0 0 A) (F0 m 6 ls []) := by
  intro n
  induction n with
  | zero =>
    intro v1 v2 H locs ls h hl hm
    exact nomatch (show none = some q from hm)
  | succ n ih =>
    intro v1 v2 H locs ls h hl hm
    exact bX2_leastDepth_6b C0 h hl ih hm
def mX2_leastDepth (z : Nat) (S : St) : Option Int32 :=
  mX2_leastDepth_6 z S z (-30000) 0
set_option maxHeartbeats 4000000 in
set_option maxRecDepth 100000 in
theorem bX2_leastDepth {p : Program} {l : Launch} {e : Env} {s : State} {m : MethodId} {args : Array Value} {below : List Frame} {meth : Method} {c : Code} {D : va_G} {cA : ClassId} {ad : Nat → Nat} {A : Nat → Prop} {H : Heap} {locs : List Loc} {ls : Array Slot} {q : Int32} {z : Nat} {S : St} (C0 : sd_Cx RX2 cX2_leastDepth 4 (some .int) (Cond.code yX2_leastDepth cX2_leastDepth 4 (some .int) :: sd_big) p s m args meth c) (h : sd_Wd D vwCl cA sd_nw (wX ad cA) A s S H locs) (hl : lv_has ls 4 [(0, .ref (ad 55))])  (hm : mX2_leastDepth z S = some q) : W p l e rX2_leastDepth s m args below meth c H locs 0 0 (MQ below (sd_Qi D vwCl (wX ad cA) A (q, S)) args s 0 0 A) (F0 m 0 ls []) := by
  unfold mX2_leastDepth at hm
  have hx := C0.1
  have hb := C0.2.1
  refine lv_sipush (v := (-30000)) hx hb dX2_leastDepth_0 (by decide) ?_
  refine lv_istore_n (lv' := [(1, .int (-30000)), (0, .ref (ad 55))]) hx hb dX2_leastDepth_3 rfl hl (by decide) rfl (fun ls hl => ?_)
  refine lv_iconst (v := 0) hx hb dX2_leastDepth_4 (by decide) ?_
  refine lv_istore_n (lv' := [(2, .int 0), (1, .int (-30000)), (0, .ref (ad 55))]) hx hb dX2_leastDepth_5 rfl hl (by decide) rfl (fun ls hl => ?_)
  exact lX2_leastDepth_6 C0 _ _ _ _ _ _ h (lv_sub hl [2, 1, 0] rfl) hm
theorem tX2_leastDepth (l : Launch) (D : va_G) (cA : ClassId) (ad : Nat → Nat) {z : Nat} {S : St}  {q : Int32} (hm : mX2_leastDepth z S = some q) : sd_MI l D vwCl cA sd_nw (wX ad cA) yX2_leastDepth (Cond.code yX2_leastDepth cX2_leastDepth 4 (some .int) :: sd_big) rX2_leastDepth [.ref (ad 55)] S (q, S) :=
  sd_ofI (by decide +kernel) (Nat.le_of_ble_eq_true rfl) (fun _ _ _ _ _ _ _ _ _ _ C0 h hl => bX2_leastDepth C0 h (lv_sub hl [0] rfl) hm)

def rX1_greatestFloor : Room := { frames := 3, cells := 0, slots := 0, locals := 73 }
def mX1_greatestFloor_34b (z : Nat) (rc34 : Int32 → Int32 → Int32 → St → Option (Int32 × St)) (v1 : Int32) (v2 : Int32) (v3 : Int32) (v4 : Int32) (v5 : Int32) (S : St) : Option (Int32 × St) :=
  if 40 ≤ v5 then
    some (v3, S)
  else
    if v4 ≤ v3 then
      some (v3, S)
    else
      (mX1_joins z v1 v2 (v3 + (((v4 - v3) + 1) / 2)) S).bind fun u3 =>
      if u3.1 = 0 then
        rc34 v3 ((v3 + (((v4 - v3) + 1) / 2)) - 1) (v5 + 1) u3.2
      else
        rc34 (v3 + (((v4 - v3) + 1) / 2)) v4 (v5 + 1) u3.2
set_option maxHeartbeats 4000000 in
set_option maxRecDepth 100000 in
theorem bX1_greatestFloor_34b {p : Program} {l : Launch} {e : Env} {s : State} {m : MethodId} {args : Array Value} {below : List Frame} {meth : Method} {c : Code} {D : va_G} {cA : ClassId} {ad : Nat → Nat} {A : Nat → Prop} {H : Heap} {locs : List Loc} {ls : Array Slot} {q : (Int32 × St)} {z : Nat} {rc34 : Int32 → Int32 → Int32 → St → Option (Int32 × St)} {v1 : Int32} {v2 : Int32} {v3 : Int32} {v4 : Int32} {v5 : Int32} {S : St} (C0 : sd_Cx RX1 cX1_greatestFloor 7 (some .int) (Cond.code yX1_greatestFloor cX1_greatestFloor 7 (some .int) :: sd_big) p s m args meth c) (h : sd_Wd D vwCl cA sd_nw (wX ad cA) A s S H locs) (hl : lv_has ls 7 [(0, .ref (ad 58)), (1, .int v1), (2, .int v2), (3, .int v3), (4, .int v4), (5, .int v5)]) (hrc34 : ∀ (v3 : Int32) (v4 : Int32) (v5 : Int32) (S : St) (H : Heap) (locs : List Loc) (ls : Array Slot), sd_Wd D vwCl cA sd_nw (wX ad cA) A s S H locs → lv_has ls 7 [(0, .ref (ad 58)), (1, .int v1), (2, .int v2), (3, .int v3), (4, .int v4), (5, .int v5)] → rc34 v3 v4 v5 S = some q → W p l e rX1_greatestFloor s m args below meth c H locs 0 0 (MQ below (sd_Qi D vwCl (wX ad cA) A q) args s 0 0 A) (F0 m 34 ls [])) (hm : mX1_greatestFloor_34b z rc34 v1 v2 v3 v4 v5 S = some q) : W p l e rX1_greatestFloor s m args below meth c H locs 0 0 (MQ below (sd_Qi D vwCl (wX ad cA) A q) args s 0 0 A) (F0 m 34 ls []) := by
  unfold mX1_greatestFloor_34b at hm
  have hx := C0.1
  have hb := C0.2.1
  refine lv_iload hx hb dX1_greatestFloor_34 (lv_at hl 5 rfl) ?_
  refine lv_bipush (v := 40) hx hb dX1_greatestFloor_36 (by decide) ?_
  refine lv_icmp_ge (tgt := 88) hx hb dX1_greatestFloor_38 (by decide) (fun c1 => ?_) (fun c1 => ?_)
  · replace hm := ip c1 hm
    refine lv_iload_n hx hb dX1_greatestFloor_88 rfl (lv_at hl 3 rfl) ?_
    exact sd_iret C0 h (Option.some.inj hm) dX1_greatestFloor_89
  · replace hm := iq c1 hm
    refine lv_iload_n hx hb dX1_greatestFloor_41 rfl (lv_at hl 3 rfl) ?_
    refine lv_iload hx hb dX1_greatestFloor_42 (lv_at hl 4 rfl) ?_
    refine lv_icmp_ge (tgt := 88) hx hb dX1_greatestFloor_44 (by decide) (fun c2 => ?_) (fun c2 => ?_)
    · replace hm := ip c2 hm
      refine lv_iload_n hx hb dX1_greatestFloor_88 rfl (lv_at hl 3 rfl) ?_
      exact sd_iret C0 h (Option.some.inj hm) dX1_greatestFloor_89
    · replace hm := iq c2 hm
      refine lv_iload_n hx hb dX1_greatestFloor_47 rfl (lv_at hl 3 rfl) ?_
      refine lv_iload hx hb dX1_greatestFloor_48 (lv_at hl 4 rfl) ?_
      refine lv_iload_n hx hb dX1_greatestFloor_50 rfl (lv_at hl 3 rfl) ?_
      refine lv_isub hx hb dX1_greatestFloor_51 ?_
      refine lv_iconst (v := 1) hx hb dX1_greatestFloor_52 (by decide) ?_
      refine lv_iadd hx hb dX1_greatestFloor_53 ?_
      refine lv_iconst (v := 2) hx hb dX1_greatestFloor_54 (by decide) ?_
      refine lv_idiv hx hb dX1_greatestFloor_55 (by decide) ?_
      refine lv_iadd hx hb dX1_greatestFloor_56 ?_
      refine lv_istore (lv' := [(6, .int (v3 + (((v4 - v3) + 1) / 2))), (0, .ref (ad 58)), (1, .int v1), (2, .int v2), (3, .int v3), (4, .int v4), (5, .int v5)]) hx hb dX1_greatestFloor_57 hl (by decide) rfl (fun ls hl => ?_)
      refine lv_aload_n hx hb dX1_greatestFloor_59 rfl (lv_at hl 1 rfl) ?_
      refine lv_iload_n hx hb dX1_greatestFloor_60 rfl (lv_at hl 2 rfl) ?_
      refine lv_iload_n hx hb dX1_greatestFloor_61 rfl (lv_at hl 3 rfl) ?_
      refine lv_iload hx hb dX1_greatestFloor_62 (lv_at hl 0 rfl) ?_
      obtain ⟨u3, hu3, hm⟩ := bs hm
      refine sd_Vi C0 h kYX1_joins kmX1_35 58 (aX_58 ad cA _) rfl [.int v1, .int v2, .int (v3 + (((v4 - v3) + 1) / 2))] (tX1_joins l D cA ad hu3) rfl hl.1 rfl (Nat.le_of_ble_eq_true rfl) (by decide) dX1_greatestFloor_64 (by decide) (fun H locs h => ?_)
      refine lv_if_eq (tgt := 76) hx hb dX1_greatestFloor_67 (by decide) (fun c4 => ?_) (fun c4 => ?_)
      · replace hm := ip c4 hm
        refine lv_iload hx hb dX1_greatestFloor_76 (lv_at hl 0 rfl) ?_
        refine lv_iconst (v := 1) hx hb dX1_greatestFloor_78 (by decide) ?_
        refine lv_isub hx hb dX1_greatestFloor_79 ?_
        refine lv_istore (lv' := [(4, .int ((v3 + (((v4 - v3) + 1) / 2)) - 1)), (6, .int (v3 + (((v4 - v3) + 1) / 2))), (0, .ref (ad 58)), (1, .int v1), (2, .int v2), (3, .int v3), (5, .int v5)]) hx hb dX1_greatestFloor_80 hl (by decide) rfl (fun ls hl => ?_)
        refine lv_iinc (v := (v5 + 1)) (lv' := [(5, .int (v5 + 1)), (4, .int ((v3 + (((v4 - v3) + 1) / 2)) - 1)), (6, .int (v3 + (((v4 - v3) + 1) / 2))), (0, .ref (ad 58)), (1, .int v1), (2, .int v2), (3, .int v3)]) hx hb dX1_greatestFloor_82 hl (k := 6) rfl rfl (by decide) rfl (fun ls hl => ?_)
        refine lv_goto (tgt := 34) hx hb dX1_greatestFloor_85 (by decide) ?_
        exact hrc34 _ _ _ _ _ _ _ h (lv_sub hl [3, 4, 5, 6, 1, 0] rfl) hm
      · replace hm := iq c4 hm
        refine lv_iload hx hb dX1_greatestFloor_70 (lv_at hl 0 rfl) ?_
        refine lv_istore_n (lv' := [(3, .int (v3 + (((v4 - v3) + 1) / 2))), (6, .int (v3 + (((v4 - v3) + 1) / 2))), (0, .ref (ad 58)), (1, .int v1), (2, .int v2), (4, .int v4), (5, .int v5)]) hx hb dX1_greatestFloor_72 rfl hl (by decide) rfl (fun ls hl => ?_)
        refine lv_goto (tgt := 82) hx hb dX1_greatestFloor_73 (by decide) ?_
        refine lv_iinc (v := (v5 + 1)) (lv' := [(5, .int (v5 + 1)), (3, .int (v3 + (((v4 - v3) + 1) / 2))), (6, .int (v3 + (((v4 - v3) + 1) / 2))), (0, .ref (ad 58)), (1, .int v1), (2, .int v2), (4, .int v4)]) hx hb dX1_greatestFloor_82 hl (k := 6) rfl rfl (by decide) rfl (fun ls hl => ?_)
        refine lv_goto (tgt := 34) hx hb dX1_greatestFloor_85 (by decide) ?_
        exact hrc34 _ _ _ _ _ _ _ h (lv_sub hl [3, 4, 5, 1, 6, 0] rfl) hm
def mX1_greatestFloor_34 (z : Nat) (v1 : Int32) (v2 : Int32) : Nat → Int32 → Int32 → Int32 → St → Option (Int32 × St)
  | 0, _, _, _, _ => none
  | n + 1, v3, v4, v5, S => mX1_greatestFloor_34b z (mX1_greatestFloor_34 z v1 v2 n) v1 v2 v3 v4 v5 S
set_option maxHeartbeats 4000000 in
set_option maxRecDepth 100000 in
theorem lX1_greatestFloor_34 {p : Program} {l : Launch} {e : Env} {s : State} {m : MethodId} {args : Array Value} {below : List Frame} {meth : Method} {c : Code} {D : va_G} {cA : ClassId} {ad : Nat → Nat} {A : Nat → Prop} {q : (Int32 × St)} {z : Nat} {v1 : Int32} {v2 : Int32} (C0 : sd_Cx RX1 cX1_greatestFloor 7 (some .int) (Cond.code yX1_greatestFloor cX1_greatestFloor 7 (some .int) :: sd_big) p s m args meth c)  : ∀ (n : Nat) (v3 : Int32) (v4 : Int32) (v5 : Int32) (S : St) (H : Heap) (locs : List Loc) (ls : Array Slot), sd_Wd D vwCl cA sd_nw (wX ad cA) A s S H locs → lv_has ls 7 [(0, .ref (ad 58)), (1, .int v1), (2, .int v2), (3, .int v3), (4, .int v4), (5, .int v5)] → mX1_greatestFloor_34 z v1 v2 n v3 v4 v5 S = some q → W p l e rX1_greatestFloor s m args below meth c H locs 0 0 (MQ below (sd_Qi D vwCl (wX ad cA) A q) args s 0 0 A) (F0 m 34 ls []) := by
  intro n
  induction n with
  | zero =>
    intro v3 v4 v5 S H locs ls h hl hm
    exact nomatch (show none = some q from hm)
  | succ n ih =>
    intro v3 v4 v5 S H locs ls h hl hm
    exact bX1_greatestFloor_34b C0 h hl ih hm
def mX1_greatestFloor (z : Nat) (v1 : Int32) (v2 : Int32) (S : St) : Option (Int32 × St) :=
  (mX2_leastDepth z S).bind fun u1 =>
  (rd (fA S 44) 256 v1).bind fun x2 =>
  (rd (fA S 44) 256 v2).bind fun x3 =>
  (mJ9_min S x2 x3).bind fun u4 =>
  mX1_greatestFloor_34 z v1 v2 z u1 u4 0 S
set_option maxHeartbeats 4000000 in
set_option maxRecDepth 100000 in
theorem bX1_greatestFloor {p : Program} {l : Launch} {e : Env} {s : State} {m : MethodId} {args : Array Value} {below : List Frame} {meth : Method} {c : Code} {D : va_G} {cA : ClassId} {ad : Nat → Nat} {A : Nat → Prop} {H : Heap} {locs : List Loc} {ls : Array Slot} {q : (Int32 × St)} {z : Nat} {v1 : Int32} {v2 : Int32} {S : St} (C0 : sd_Cx RX1 cX1_greatestFloor 7 (some .int) (Cond.code yX1_greatestFloor cX1_greatestFloor 7 (some .int) :: sd_big) p s m args meth c) (h : sd_Wd D vwCl cA sd_nw (wX ad cA) A s S H locs) (hl : lv_has ls 7 [(0, .ref (ad 58)), (1, .int v1), (2, .int v2)])  (hm : mX1_greatestFloor z v1 v2 S = some q) : W p l e rX1_greatestFloor s m args below meth c H locs 0 0 (MQ below (sd_Qi D vwCl (wX ad cA) A q) args s 0 0 A) (F0 m 0 ls []) := by
  unfold mX1_greatestFloor at hm
  have hx := C0.1
  have hb := C0.2.1
  refine lv_aload_n hx hb dX1_greatestFloor_0 rfl (lv_at hl 0 rfl) ?_
  refine sd_get C0 h (C := RX1) (T := TX1) (N := 7) kcX1 58 (aX_58 ad cA _) rfl 0 (by decide) kfX1_31 (v := .ref (ad 55)) rfl dX1_greatestFloor_1 ?_
  obtain ⟨u1, hu1, hm⟩ := bs hm
  refine sd_Vi C0 h kYX2_leastDepth kmX1_56 55 (aX_55 ad cA _) rfl [] (tX2_leastDepth l D cA ad hu1) rfl hl.1 rfl (Nat.le_of_ble_eq_true rfl) (by decide) dX1_greatestFloor_4 (by decide) (fun H locs h => ?_)
  refine lv_istore_n (lv' := [(3, .int u1), (0, .ref (ad 58)), (1, .int v1), (2, .int v2)]) hx hb dX1_greatestFloor_7 rfl hl (by decide) rfl (fun ls hl => ?_)
  refine lv_aload_n hx hb dX1_greatestFloor_8 rfl (lv_at hl 1 rfl) ?_
  refine sd_get C0 h (C := RX1) (T := TX1) (N := 7) kcX1 58 (aX_58 ad cA _) rfl 0 (by decide) kfX1_31 (v := .ref (ad 55)) rfl dX1_greatestFloor_9 ?_
  refine sd_get C0 h (C := RX2) (T := TX2) (N := 3) kcX2 55 (aX_55 ad cA _) rfl 2 (by decide) kfX1_51 (v := .ref (ad 57)) rfl dX1_greatestFloor_12 ?_
  refine lv_iload_n hx hb dX1_greatestFloor_15 rfl (lv_at hl 2 rfl) ?_
  obtain ⟨x2, hx2, hm⟩ := bs hm
  refine sd_rd C0 h 57 (aX_57 ad cA _) hx2 dX1_greatestFloor_16 ?_
  refine lv_aload_n hx hb dX1_greatestFloor_17 rfl (lv_at hl 1 rfl) ?_
  refine sd_get C0 h (C := RX1) (T := TX1) (N := 7) kcX1 58 (aX_58 ad cA _) rfl 0 (by decide) kfX1_31 (v := .ref (ad 55)) rfl dX1_greatestFloor_18 ?_
  refine sd_get C0 h (C := RX2) (T := TX2) (N := 3) kcX2 55 (aX_55 ad cA _) rfl 2 (by decide) kfX1_51 (v := .ref (ad 57)) rfl dX1_greatestFloor_21 ?_
  refine lv_iload_n hx hb dX1_greatestFloor_24 rfl (lv_at hl 3 rfl) ?_
  obtain ⟨x3, hx3, hm⟩ := bs hm
  refine sd_rd C0 h 57 (aX_57 ad cA _) hx3 dX1_greatestFloor_25 ?_
  obtain ⟨u4, hu4, hm⟩ := bs hm
  refine sd_Si C0 h kYJ9_min_7cf53 kmX1_60 [.int x2, .int x3] (tJ9_min l D cA ad hu4) rfl hl.1 rfl (Nat.le_of_ble_eq_true rfl) (by decide) dX1_greatestFloor_26 (by decide) (fun H locs h => ?_)
  refine lv_istore (lv' := [(4, .int u4), (3, .int u1), (0, .ref (ad 58)), (1, .int v1), (2, .int v2)]) hx hb dX1_greatestFloor_29 hl (by decide) rfl (fun ls hl => ?_)
  refine lv_iconst (v := 0) hx hb dX1_greatestFloor_31 (by decide) ?_
  refine lv_istore (lv' := [(5, .int 0), (4, .int u4), (3, .int u1), (0, .ref (ad 58)), (1, .int v1), (2, .int v2)]) hx hb dX1_greatestFloor_32 hl (by decide) rfl (fun ls hl => ?_)
  exact lX1_greatestFloor_34 C0 _ _ _ _ _ _ _ _ h (lv_sub hl [3, 4, 5, 2, 1, 0] rfl) hm
theorem tX1_greatestFloor (l : Launch) (D : va_G) (cA : ClassId) (ad : Nat → Nat) {z : Nat} {S : St} {v1 : Int32} {v2 : Int32} {q : (Int32 × St)} (hm : mX1_greatestFloor z v1 v2 S = some q) : sd_MI l D vwCl cA sd_nw (wX ad cA) yX1_greatestFloor (Cond.code yX1_greatestFloor cX1_greatestFloor 7 (some .int) :: sd_big) rX1_greatestFloor [.ref (ad 58), .int v1, .int v2] S q :=
  sd_ofI (by decide +kernel) (Nat.le_of_ble_eq_true rfl) (fun _ _ _ _ _ _ _ _ _ _ C0 h hl => bX1_greatestFloor C0 h (lv_sub hl [0, 1, 2] rfl) hm)

def rX1_leastBeside : Room := { frames := 1, cells := 0, slots := 0, locals := 22 }
def mX1_leastBeside_2b (z : Nat) (S : St) (rc2 : Int32 → Option Int32) (v1 : Int32) (v2 : Int32) (v3 : Int32) : Option Int32 :=
  if 4 ≤ v3 then
    some v1
  else
    (mX1_beside S v1 v3).bind fun u2 =>
    if u2 = (-1) then
      rc2 (v3 + 1)
    else
      if v2 < 0 then
        rc2 (v3 + 1)
      else
        (rd (fA S 45) 256 u2).bind fun x5 =>
        if x5 = v2 then
          some u2
        else
          rc2 (v3 + 1)
set_option maxHeartbeats 4000000 in
set_option maxRecDepth 100000 in
theorem bX1_leastBeside_2b {p : Program} {l : Launch} {e : Env} {s : State} {m : MethodId} {args : Array Value} {below : List Frame} {meth : Method} {c : Code} {D : va_G} {cA : ClassId} {ad : Nat → Nat} {A : Nat → Prop} {H : Heap} {locs : List Loc} {ls : Array Slot} {q : Int32} {z : Nat} {S : St} {rc2 : Int32 → Option Int32} {v1 : Int32} {v2 : Int32} {v3 : Int32} (C0 : sd_Cx RX1 cX1_leastBeside 5 (some .int) (Cond.code yX1_leastBeside cX1_leastBeside 5 (some .int) :: sd_big) p s m args meth c) (h : sd_Wd D vwCl cA sd_nw (wX ad cA) A s S H locs) (hl : lv_has ls 5 [(0, .ref (ad 58)), (1, .int v1), (2, .int v2), (3, .int v3)]) (hrc2 : ∀ (v3 : Int32) (H : Heap) (locs : List Loc) (ls : Array Slot), sd_Wd D vwCl cA sd_nw (wX ad cA) A s S H locs → lv_has ls 5 [(0, .ref (ad 58)), (1, .int v1), (2, .int v2), (3, .int v3)] → rc2 v3 = some q → W p l e rX1_leastBeside s m args below meth c H locs 0 0 (MQ below (sd_Qi D vwCl (wX ad cA) A (q, S)) args s 0 0 A) (F0 m 2 ls [])) (hm : mX1_leastBeside_2b z S rc2 v1 v2 v3 = some q) : W p l e rX1_leastBeside s m args below meth c H locs 0 0 (MQ below (sd_Qi D vwCl (wX ad cA) A (q, S)) args s 0 0 A) (F0 m 2 ls []) := by
  unfold mX1_leastBeside_2b at hm
  have hx := C0.1
  have hb := C0.2.1
  refine lv_iload_n hx hb dX1_leastBeside_2 rfl (lv_at hl 3 rfl) ?_
  refine lv_iconst (v := 4) hx hb dX1_leastBeside_3 (by decide) ?_
  refine lv_icmp_ge (tgt := 44) hx hb dX1_leastBeside_4 (by decide) (fun c1 => ?_) (fun c1 => ?_)
  · replace hm := ip c1 hm
    refine lv_iload_n hx hb dX1_leastBeside_44 rfl (lv_at hl 1 rfl) ?_
    exact sd_iret C0 h (congrArg (fun x => (x, S)) (Option.some.inj hm)) dX1_leastBeside_45
  · replace hm := iq c1 hm
    refine lv_iload_n hx hb dX1_leastBeside_7 rfl (lv_at hl 1 rfl) ?_
    refine lv_iload_n hx hb dX1_leastBeside_8 rfl (lv_at hl 3 rfl) ?_
    obtain ⟨u2, hu2, hm⟩ := bs hm
    refine sd_Si C0 h kYX1_beside kmX1_75 [.int v1, .int v3] (tX1_beside l D cA ad hu2) rfl hl.1 rfl (Nat.le_of_ble_eq_true rfl) (by decide) dX1_leastBeside_9 (by decide) (fun H locs h => ?_)
    refine lv_istore (lv' := [(4, .int u2), (0, .ref (ad 58)), (1, .int v1), (2, .int v2), (3, .int v3)]) hx hb dX1_leastBeside_12 hl (by decide) rfl (fun ls hl => ?_)
    refine lv_iload hx hb dX1_leastBeside_14 (lv_at hl 0 rfl) ?_
    refine lv_iconst (v := (-1)) hx hb dX1_leastBeside_16 (by decide) ?_
    refine lv_icmp_eq (tgt := 38) hx hb dX1_leastBeside_17 (by decide) (fun c3 => ?_) (fun c3 => ?_)
    · replace hm := ip c3 hm
      refine lv_iinc (v := (v3 + 1)) (lv' := [(3, .int (v3 + 1)), (4, .int u2), (0, .ref (ad 58)), (1, .int v1), (2, .int v2)]) hx hb dX1_leastBeside_38 hl (k := 4) rfl rfl (by decide) rfl (fun ls hl => ?_)
      refine lv_goto (tgt := 2) hx hb dX1_leastBeside_41 (by decide) ?_
      exact hrc2 _ _ _ _ h (lv_sub hl [2, 3, 4, 0] rfl) hm
    · replace hm := iq c3 hm
      refine lv_iload_n hx hb dX1_leastBeside_20 rfl (lv_at hl 3 rfl) ?_
      refine lv_if_lt (tgt := 38) hx hb dX1_leastBeside_21 (by decide) (fun c4 => ?_) (fun c4 => ?_)
      · replace hm := ip c4 hm
        refine lv_iinc (v := (v3 + 1)) (lv' := [(3, .int (v3 + 1)), (4, .int u2), (0, .ref (ad 58)), (1, .int v1), (2, .int v2)]) hx hb dX1_leastBeside_38 hl (k := 4) rfl rfl (by decide) rfl (fun ls hl => ?_)
        refine lv_goto (tgt := 2) hx hb dX1_leastBeside_41 (by decide) ?_
        exact hrc2 _ _ _ _ h (lv_sub hl [2, 3, 4, 0] rfl) hm
      · replace hm := iq c4 hm
        refine lv_aload_n hx hb dX1_leastBeside_24 rfl (lv_at hl 1 rfl) ?_
        refine sd_get C0 h (C := RX1) (T := TX1) (N := 7) kcX1 58 (aX_58 ad cA _) rfl 1 (by decide) kfX1_9 (v := .ref (ad 59)) rfl dX1_leastBeside_25 ?_
        refine lv_iload hx hb dX1_leastBeside_28 (lv_at hl 0 rfl) ?_
        obtain ⟨x5, hx5, hm⟩ := bs hm
        refine sd_rd C0 h 59 (aX_59 ad cA _) hx5 dX1_leastBeside_30 ?_
        refine lv_iload_n hx hb dX1_leastBeside_31 rfl (lv_at hl 3 rfl) ?_
        refine lv_icmp_ne (tgt := 38) hx hb dX1_leastBeside_32 (by decide) (fun c6 => ?_) (fun c6 => ?_)
        · replace hm := iq c6 hm
          refine lv_iinc (v := (v3 + 1)) (lv' := [(3, .int (v3 + 1)), (4, .int u2), (0, .ref (ad 58)), (1, .int v1), (2, .int v2)]) hx hb dX1_leastBeside_38 hl (k := 4) rfl rfl (by decide) rfl (fun ls hl => ?_)
          refine lv_goto (tgt := 2) hx hb dX1_leastBeside_41 (by decide) ?_
          exact hrc2 _ _ _ _ h (lv_sub hl [2, 3, 4, 0] rfl) hm
        · replace hm := ip c6 hm
          refine lv_iload hx hb dX1_leastBeside_35 (lv_at hl 0 rfl) ?_
          exact sd_iret C0 h (congrArg (fun x => (x, S)) (Option.some.inj hm)) dX1_leastBeside_37
def mX1_leastBeside_2 (z : Nat) (S : St) (v1 : Int32) (v2 : Int32) : Nat → Int32 → Option Int32
  | 0, _ => none
  | n + 1, v3 => mX1_leastBeside_2b z S (mX1_leastBeside_2 z S v1 v2 n) v1 v2 v3
set_option maxHeartbeats 4000000 in
set_option maxRecDepth 100000 in
theorem lX1_leastBeside_2 {p : Program} {l : Launch} {e : Env} {s : State} {m : MethodId} {args : Array Value} {below : List Frame} {meth : Method} {c : Code} {D : va_G} {cA : ClassId} {ad : Nat → Nat} {A : Nat → Prop} {q : Int32} {z : Nat} {S : St} {v1 : Int32} {v2 : Int32} (C0 : sd_Cx RX1 cX1_leastBeside 5 (some .int) (Cond.code yX1_leastBeside cX1_leastBeside 5 (some .int) :: sd_big) p s m args meth c)  : ∀ (n : Nat) (v3 : Int32) (H : Heap) (locs : List Loc) (ls : Array Slot), sd_Wd D vwCl cA sd_nw (wX ad cA) A s S H locs → lv_has ls 5 [(0, .ref (ad 58)), (1, .int v1), (2, .int v2), (3, .int v3)] → mX1_leastBeside_2 z S v1 v2 n v3 = some q → W p l e rX1_leastBeside s m args below meth c H locs 0 0 (MQ below (sd_Qi D vwCl (wX ad cA) A (q, S)) args s 0 0 A) (F0 m 2 ls []) := by
  intro n
  induction n with
  | zero =>
    intro v3 H locs ls h hl hm
    exact nomatch (show none = some q from hm)
  | succ n ih =>
    intro v3 H locs ls h hl hm
    exact bX1_leastBeside_2b C0 h hl ih hm
def mX1_leastBeside (z : Nat) (S : St) (v1 : Int32) (v2 : Int32) : Option Int32 :=
  mX1_leastBeside_2 z S v1 v2 z 0
set_option maxHeartbeats 4000000 in
set_option maxRecDepth 100000 in
theorem bX1_leastBeside {p : Program} {l : Launch} {e : Env} {s : State} {m : MethodId} {args : Array Value} {below : List Frame} {meth : Method} {c : Code} {D : va_G} {cA : ClassId} {ad : Nat → Nat} {A : Nat → Prop} {H : Heap} {locs : List Loc} {ls : Array Slot} {q : Int32} {z : Nat} {S : St} {v1 : Int32} {v2 : Int32} (C0 : sd_Cx RX1 cX1_leastBeside 5 (some .int) (Cond.code yX1_leastBeside cX1_leastBeside 5 (some .int) :: sd_big) p s m args meth c) (h : sd_Wd D vwCl cA sd_nw (wX ad cA) A s S H locs) (hl : lv_has ls 5 [(0, .ref (ad 58)), (1, .int v1), (2, .int v2)])  (hm : mX1_leastBeside z S v1 v2 = some q) : W p l e rX1_leastBeside s m args below meth c H locs 0 0 (MQ below (sd_Qi D vwCl (wX ad cA) A (q, S)) args s 0 0 A) (F0 m 0 ls []) := by
  unfold mX1_leastBeside at hm
  have hx := C0.1
  have hb := C0.2.1
  refine lv_iconst (v := 0) hx hb dX1_leastBeside_0 (by decide) ?_
  refine lv_istore_n (lv' := [(3, .int 0), (0, .ref (ad 58)), (1, .int v1), (2, .int v2)]) hx hb dX1_leastBeside_1 rfl hl (by decide) rfl (fun ls hl => ?_)
  exact lX1_leastBeside_2 C0 _ _ _ _ _ h (lv_sub hl [1, 2, 3, 0] rfl) hm
theorem tX1_leastBeside (l : Launch) (D : va_G) (cA : ClassId) (ad : Nat → Nat) {z : Nat} {S : St} {v1 : Int32} {v2 : Int32} {q : Int32} (hm : mX1_leastBeside z S v1 v2 = some q) : sd_MI l D vwCl cA sd_nw (wX ad cA) yX1_leastBeside (Cond.code yX1_leastBeside cX1_leastBeside 5 (some .int) :: sd_big) rX1_leastBeside [.ref (ad 58), .int v1, .int v2] S (q, S) :=
  sd_ofI (by decide +kernel) (Nat.le_of_ble_eq_true rfl) (fun _ _ _ _ _ _ _ _ _ _ C0 h hl => bX1_leastBeside C0 h (lv_sub hl [0, 1, 2] rfl) hm)

def rX1_walk : Room := { frames := 2, cells := 0, slots := 0, locals := 46 }
def mX1_walk_9b (z : Nat) (rc9 : Int32 → Int32 → St → Option St) (v1 : Int32) (v2 : Int32) (v3 : Int32) (S : St) : Option St :=
  if 256 ≤ v3 then
    some S
  else
    (rd (fA S 45) 256 v1).bind fun x2 =>
    if (x2 - v3) < 0 then
      some S
    else
      (wr (fA S 47) 256 (fI S 16) v2).bind fun g4 =>
      (rd (fA (sI (sA S 47 g4) 16 ((fI (sA S 47 g4) 16) + 1)) 45) 256 v1).bind fun x5 =>
      (mX1_leastBeside z (sI (sA S 47 g4) 16 ((fI (sA S 47 g4) 16) + 1)) v2 ((x5 - v3) - 1)).bind fun u6 =>
      rc9 u6 (v3 + 1) (sI (sA S 47 g4) 16 ((fI (sA S 47 g4) 16) + 1))
set_option maxHeartbeats 4000000 in
set_option maxRecDepth 100000 in
theorem bX1_walk_9b {p : Program} {l : Launch} {e : Env} {s : State} {m : MethodId} {args : Array Value} {below : List Frame} {meth : Method} {c : Code} {D : va_G} {cA : ClassId} {ad : Nat → Nat} {A : Nat → Prop} {H : Heap} {locs : List Loc} {ls : Array Slot} {q : St} {z : Nat} {rc9 : Int32 → Int32 → St → Option St} {v1 : Int32} {v2 : Int32} {v3 : Int32} {S : St} (C0 : sd_Cx RX1 cX1_walk 4 none (Cond.code yX1_walk cX1_walk 4 none :: sd_big) p s m args meth c) (h : sd_Wd D vwCl cA sd_nw (wX ad cA) A s S H locs) (hl : lv_has ls 4 [(0, .ref (ad 58)), (1, .int v1), (2, .int v2), (3, .int v3)]) (hrc9 : ∀ (v2 : Int32) (v3 : Int32) (S : St) (H : Heap) (locs : List Loc) (ls : Array Slot), sd_Wd D vwCl cA sd_nw (wX ad cA) A s S H locs → lv_has ls 4 [(0, .ref (ad 58)), (1, .int v1), (2, .int v2), (3, .int v3)] → rc9 v2 v3 S = some q → W p l e rX1_walk s m args below meth c H locs 0 0 (MQ below (sd_Qv D vwCl (wX ad cA) A q) args s 0 0 A) (F0 m 9 ls [])) (hm : mX1_walk_9b z rc9 v1 v2 v3 S = some q) : W p l e rX1_walk s m args below meth c H locs 0 0 (MQ below (sd_Qv D vwCl (wX ad cA) A q) args s 0 0 A) (F0 m 9 ls []) := by
  unfold mX1_walk_9b at hm
  have hx := C0.1
  have hb := C0.2.1
  refine lv_iload_n hx hb dX1_walk_9 rfl (lv_at hl 3 rfl) ?_
  refine lv_sipush (v := 256) hx hb dX1_walk_10 (by decide) ?_
  refine lv_icmp_ge (tgt := 69) hx hb dX1_walk_13 (by decide) (fun c1 => ?_) (fun c1 => ?_)
  · replace hm := ip c1 hm
    exact sd_vret C0 h (Option.some.inj hm) dX1_walk_69
  · replace hm := iq c1 hm
    refine lv_aload_n hx hb dX1_walk_16 rfl (lv_at hl 0 rfl) ?_
    refine sd_get C0 h (C := RX1) (T := TX1) (N := 7) kcX1 58 (aX_58 ad cA _) rfl 1 (by decide) kfX1_9 (v := .ref (ad 59)) rfl dX1_walk_17 ?_
    refine lv_iload_n hx hb dX1_walk_20 rfl (lv_at hl 1 rfl) ?_
    obtain ⟨x2, hx2, hm⟩ := bs hm
    refine sd_rd C0 h 59 (aX_59 ad cA _) hx2 dX1_walk_21 ?_
    refine lv_iload_n hx hb dX1_walk_22 rfl (lv_at hl 3 rfl) ?_
    refine lv_isub hx hb dX1_walk_23 ?_
    refine lv_if_lt (tgt := 69) hx hb dX1_walk_24 (by decide) (fun c3 => ?_) (fun c3 => ?_)
    · replace hm := ip c3 hm
      exact sd_vret C0 h (Option.some.inj hm) dX1_walk_69
    · replace hm := iq c3 hm
      refine lv_aload_n hx hb dX1_walk_27 rfl (lv_at hl 0 rfl) ?_
      refine sd_get C0 h (C := RX1) (T := TX1) (N := 7) kcX1 58 (aX_58 ad cA _) rfl 4 (by decide) kfX1_22 (v := .ref (ad 61)) rfl dX1_walk_28 ?_
      refine lv_aload_n hx hb dX1_walk_31 rfl (lv_at hl 0 rfl) ?_
      refine sd_get C0 h (C := RX1) (T := TX1) (N := 7) kcX1 58 (aX_58 ad cA _) rfl 5 (by decide) kfX1_25 (v := .int (fI S 16)) rfl dX1_walk_32 ?_
      refine lv_iload_n hx hb dX1_walk_35 rfl (lv_at hl 2 rfl) ?_
      obtain ⟨g4, hg4, hm⟩ := bs hm
      refine sd_wr C0 h (S1 := (sA S 47 g4)) 61 (aX_61 ad cA _) hg4 (eX_61 ad cA _ _) dX1_walk_36 (fun H locs h => ?_)
      refine lv_aload_n hx hb dX1_walk_37 rfl (lv_at hl 0 rfl) ?_
      refine lv_dup hx hb dX1_walk_38 rfl ?_
      refine sd_get C0 h (C := RX1) (T := TX1) (N := 7) kcX1 58 (aX_58 ad cA _) rfl 5 (by decide) kfX1_25 (v := .int (fI (sA S 47 g4) 16)) rfl dX1_walk_39 ?_
      refine lv_iconst (v := 1) hx hb dX1_walk_42 (by decide) ?_
      refine lv_iadd hx hb dX1_walk_43 ?_
      refine sd_put C0 h (C := RX1) (T := TX1) (N := 7) (S1 := (sI (sA S 47 g4) 16 ((fI (sA S 47 g4) 16) + 1))) kcX1 tyX1 tyX1_ok nmX1 58 (aX_58 ad cA _) rfl 5 (by decide) kfX1_25 rfl (ty := .int) (by decide +kernel) rfl rfl (Nat.le_of_ble_eq_true rfl) (eX_58_5 ad cA _ _) dX1_walk_44 (fun H locs h => ?_)
      refine lv_aload_n hx hb dX1_walk_47 rfl (lv_at hl 0 rfl) ?_
      refine lv_iload_n hx hb dX1_walk_48 rfl (lv_at hl 2 rfl) ?_
      refine lv_aload_n hx hb dX1_walk_49 rfl (lv_at hl 0 rfl) ?_
      refine sd_get C0 h (C := RX1) (T := TX1) (N := 7) kcX1 58 (aX_58 ad cA _) rfl 1 (by decide) kfX1_9 (v := .ref (ad 59)) rfl dX1_walk_50 ?_
      refine lv_iload_n hx hb dX1_walk_53 rfl (lv_at hl 1 rfl) ?_
      obtain ⟨x5, hx5, hm⟩ := bs hm
      refine sd_rd C0 h 59 (aX_59 ad cA _) hx5 dX1_walk_54 ?_
      refine lv_iload_n hx hb dX1_walk_55 rfl (lv_at hl 3 rfl) ?_
      refine lv_isub hx hb dX1_walk_56 ?_
      refine lv_iconst (v := 1) hx hb dX1_walk_57 (by decide) ?_
      refine lv_isub hx hb dX1_walk_58 ?_
      obtain ⟨u6, hu6, hm⟩ := bs hm
      refine sd_Vi C0 h kYX1_leastBeside kmX1_78 58 (aX_58 ad cA _) rfl [.int v2, .int ((x5 - v3) - 1)] (tX1_leastBeside l D cA ad hu6) rfl hl.1 rfl (Nat.le_of_ble_eq_true rfl) (by decide) dX1_walk_59 (by decide) (fun H locs h => ?_)
      refine lv_istore_n (lv' := [(2, .int u6), (0, .ref (ad 58)), (1, .int v1), (3, .int v3)]) hx hb dX1_walk_62 rfl hl (by decide) rfl (fun ls hl => ?_)
      refine lv_iinc (v := (v3 + 1)) (lv' := [(3, .int (v3 + 1)), (2, .int u6), (0, .ref (ad 58)), (1, .int v1)]) hx hb dX1_walk_63 hl (k := 3) rfl rfl (by decide) rfl (fun ls hl => ?_)
      refine lv_goto (tgt := 9) hx hb dX1_walk_66 (by decide) ?_
      exact hrc9 _ _ _ _ _ _ h (lv_sub hl [2, 3, 1, 0] rfl) hm
def mX1_walk_9 (z : Nat) (v1 : Int32) : Nat → Int32 → Int32 → St → Option St
  | 0, _, _, _ => none
  | n + 1, v2, v3, S => mX1_walk_9b z (mX1_walk_9 z v1 n) v1 v2 v3 S
set_option maxHeartbeats 4000000 in
set_option maxRecDepth 100000 in
theorem lX1_walk_9 {p : Program} {l : Launch} {e : Env} {s : State} {m : MethodId} {args : Array Value} {below : List Frame} {meth : Method} {c : Code} {D : va_G} {cA : ClassId} {ad : Nat → Nat} {A : Nat → Prop} {q : St} {z : Nat} {v1 : Int32} (C0 : sd_Cx RX1 cX1_walk 4 none (Cond.code yX1_walk cX1_walk 4 none :: sd_big) p s m args meth c)  : ∀ (n : Nat) (v2 : Int32) (v3 : Int32) (S : St) (H : Heap) (locs : List Loc) (ls : Array Slot), sd_Wd D vwCl cA sd_nw (wX ad cA) A s S H locs → lv_has ls 4 [(0, .ref (ad 58)), (1, .int v1), (2, .int v2), (3, .int v3)] → mX1_walk_9 z v1 n v2 v3 S = some q → W p l e rX1_walk s m args below meth c H locs 0 0 (MQ below (sd_Qv D vwCl (wX ad cA) A q) args s 0 0 A) (F0 m 9 ls []) := by
  intro n
  induction n with
  | zero =>
    intro v2 v3 S H locs ls h hl hm
    exact nomatch (show none = some q from hm)
  | succ n ih =>
    intro v2 v3 S H locs ls h hl hm
    exact bX1_walk_9b C0 h hl ih hm
def mX1_walk (z : Nat) (v1 : Int32) (S : St) : Option St :=
  mX1_walk_9 z v1 z v1 0 (sI S 16 0)
set_option maxHeartbeats 4000000 in
set_option maxRecDepth 100000 in
theorem bX1_walk {p : Program} {l : Launch} {e : Env} {s : State} {m : MethodId} {args : Array Value} {below : List Frame} {meth : Method} {c : Code} {D : va_G} {cA : ClassId} {ad : Nat → Nat} {A : Nat → Prop} {H : Heap} {locs : List Loc} {ls : Array Slot} {q : St} {z : Nat} {v1 : Int32} {S : St} (C0 : sd_Cx RX1 cX1_walk 4 none (Cond.code yX1_walk cX1_walk 4 none :: sd_big) p s m args meth c) (h : sd_Wd D vwCl cA sd_nw (wX ad cA) A s S H locs) (hl : lv_has ls 4 [(0, .ref (ad 58)), (1, .int v1)])  (hm : mX1_walk z v1 S = some q) : W p l e rX1_walk s m args below meth c H locs 0 0 (MQ below (sd_Qv D vwCl (wX ad cA) A q) args s 0 0 A) (F0 m 0 ls []) := by
  unfold mX1_walk at hm
  have hx := C0.1
  have hb := C0.2.1
  refine lv_aload_n hx hb dX1_walk_0 rfl (lv_at hl 0 rfl) ?_
  refine lv_iconst (v := 0) hx hb dX1_walk_1 (by decide) ?_
  refine sd_put C0 h (C := RX1) (T := TX1) (N := 7) (S1 := (sI S 16 0)) kcX1 tyX1 tyX1_ok nmX1 58 (aX_58 ad cA _) rfl 5 (by decide) kfX1_25 rfl (ty := .int) (by decide +kernel) rfl rfl (Nat.le_of_ble_eq_true rfl) (eX_58_5 ad cA _ _) dX1_walk_2 (fun H locs h => ?_)
  refine lv_iload_n hx hb dX1_walk_5 rfl (lv_at hl 1 rfl) ?_
  refine lv_istore_n (lv' := [(2, .int v1), (0, .ref (ad 58)), (1, .int v1)]) hx hb dX1_walk_6 rfl hl (by decide) rfl (fun ls hl => ?_)
  refine lv_iconst (v := 0) hx hb dX1_walk_7 (by decide) ?_
  refine lv_istore_n (lv' := [(3, .int 0), (2, .int v1), (0, .ref (ad 58)), (1, .int v1)]) hx hb dX1_walk_8 rfl hl (by decide) rfl (fun ls hl => ?_)
  exact lX1_walk_9 C0 _ _ _ _ _ _ _ h (lv_sub hl [2, 3, 1, 0] rfl) hm
theorem tX1_walk (l : Launch) (D : va_G) (cA : ClassId) (ad : Nat → Nat) {z : Nat} {S : St} {v1 : Int32} {q : St} (hm : mX1_walk z v1 S = some q) : sd_MV l D vwCl cA sd_nw (wX ad cA) yX1_walk (Cond.code yX1_walk cX1_walk 4 none :: sd_big) rX1_walk [.ref (ad 58), .int v1] S q :=
  sd_ofV (by decide +kernel) (Nat.le_of_ble_eq_true rfl) (fun _ _ _ _ _ _ _ _ _ _ C0 h hl => bX1_walk C0 h (lv_sub hl [0, 1] rfl) hm)

def rX1_find : Room := { frames := 4, cells := 0, slots := 0, locals := 99 }
def mX1_find (z : Nat) (v1 : Int32) (v2 : Int32) (S : St) : Option (Int32 × St) :=
  (mX1_joins z v1 v2 (-30000) S).bind fun u1 =>
  if u1.1 = 0 then
    some (0, u1.2)
  else
    (mX1_greatestFloor z v1 v2 u1.2).bind fun u3 =>
    (mX1_flood z v2 (fI (sI u3.2 17 u3.1) 17) (sI u3.2 17 u3.1)).bind fun u4 =>
    (mX1_walk z v1 u4).bind fun u5 =>
    some (1, u5)
set_option maxHeartbeats 4000000 in
set_option maxRecDepth 100000 in
theorem bX1_find {p : Program} {l : Launch} {e : Env} {s : State} {m : MethodId} {args : Array Value} {below : List Frame} {meth : Method} {c : Code} {D : va_G} {cA : ClassId} {ad : Nat → Nat} {A : Nat → Prop} {H : Heap} {locs : List Loc} {ls : Array Slot} {q : (Int32 × St)} {z : Nat} {v1 : Int32} {v2 : Int32} {S : St} (C0 : sd_Cx RX1 cX1_find 3 (some .boolean) (Cond.code yX1_find cX1_find 3 (some .boolean) :: sd_big) p s m args meth c) (h : sd_Wd D vwCl cA sd_nw (wX ad cA) A s S H locs) (hl : lv_has ls 3 [(0, .ref (ad 58)), (1, .int v1), (2, .int v2)])  (hm : mX1_find z v1 v2 S = some q) : W p l e rX1_find s m args below meth c H locs 0 0 (MQ below (sd_Qi D vwCl (wX ad cA) A q) args s 0 0 A) (F0 m 0 ls []) := by
  unfold mX1_find at hm
  have hx := C0.1
  have hb := C0.2.1
  refine lv_aload_n hx hb dX1_find_0 rfl (lv_at hl 0 rfl) ?_
  refine lv_iload_n hx hb dX1_find_1 rfl (lv_at hl 1 rfl) ?_
  refine lv_iload_n hx hb dX1_find_2 rfl (lv_at hl 2 rfl) ?_
  refine lv_sipush (v := (-30000)) hx hb dX1_find_3 (by decide) ?_
  obtain ⟨u1, hu1, hm⟩ := bs hm
  refine sd_Vi C0 h kYX1_joins kmX1_35 58 (aX_58 ad cA _) rfl [.int v1, .int v2, .int (-30000)] (tX1_joins l D cA ad hu1) rfl hl.1 rfl (Nat.le_of_ble_eq_true rfl) (by decide) dX1_find_6 (by decide) (fun H locs h => ?_)
  refine lv_if_ne (tgt := 14) hx hb dX1_find_9 (by decide) (fun c2 => ?_) (fun c2 => ?_)
  · replace hm := iq c2 hm
    refine lv_aload_n hx hb dX1_find_14 rfl (lv_at hl 0 rfl) ?_
    refine lv_aload_n hx hb dX1_find_15 rfl (lv_at hl 0 rfl) ?_
    refine lv_iload_n hx hb dX1_find_16 rfl (lv_at hl 1 rfl) ?_
    refine lv_iload_n hx hb dX1_find_17 rfl (lv_at hl 2 rfl) ?_
    obtain ⟨u3, hu3, hm⟩ := bs hm
    refine sd_Vi C0 h kYX1_greatestFloor kmX1_39 58 (aX_58 ad cA _) rfl [.int v1, .int v2] (tX1_greatestFloor l D cA ad hu3) rfl hl.1 rfl (Nat.le_of_ble_eq_true rfl) (by decide) dX1_find_18 (by decide) (fun H locs h => ?_)
    refine sd_put C0 h (C := RX1) (T := TX1) (N := 7) (S1 := (sI u3.2 17 u3.1)) kcX1 tyX1 tyX1_ok nmX1 58 (aX_58 ad cA _) rfl 6 (by decide) kfX1_28 rfl (ty := .int) (by decide +kernel) rfl rfl (Nat.le_of_ble_eq_true rfl) (eX_58_6 ad cA _ _) dX1_find_21 (fun H locs h => ?_)
    refine lv_aload_n hx hb dX1_find_24 rfl (lv_at hl 0 rfl) ?_
    refine lv_iload_n hx hb dX1_find_25 rfl (lv_at hl 2 rfl) ?_
    refine lv_aload_n hx hb dX1_find_26 rfl (lv_at hl 0 rfl) ?_
    refine sd_get C0 h (C := RX1) (T := TX1) (N := 7) kcX1 58 (aX_58 ad cA _) rfl 6 (by decide) kfX1_28 (v := .int (fI (sI u3.2 17 u3.1) 17)) rfl dX1_find_27 ?_
    obtain ⟨u4, hu4, hm⟩ := bs hm
    refine sd_Vv C0 h kYX1_flood kmX1_43 58 (aX_58 ad cA _) rfl [.int v2, .int (fI (sI u3.2 17 u3.1) 17)] (tX1_flood l D cA ad hu4) rfl hl.1 rfl (Nat.le_of_ble_eq_true rfl) (by decide) dX1_find_30 (by decide) (fun H locs h => ?_)
    refine lv_aload_n hx hb dX1_find_33 rfl (lv_at hl 0 rfl) ?_
    refine lv_iload_n hx hb dX1_find_34 rfl (lv_at hl 1 rfl) ?_
    obtain ⟨u5, hu5, hm⟩ := bs hm
    refine sd_Vv C0 h kYX1_walk kmX1_47 58 (aX_58 ad cA _) rfl [.int v1] (tX1_walk l D cA ad hu5) rfl hl.1 rfl (Nat.le_of_ble_eq_true rfl) (by decide) dX1_find_35 (by decide) (fun H locs h => ?_)
    refine lv_iconst (v := 1) hx hb dX1_find_38 (by decide) ?_
    exact sd_zret C0 h (Option.some.inj hm) rfl dX1_find_39
  · replace hm := ip c2 hm
    refine lv_iconst (v := 0) hx hb dX1_find_12 (by decide) ?_
    exact sd_zret C0 h (Option.some.inj hm) rfl dX1_find_13
theorem tX1_find (l : Launch) (D : va_G) (cA : ClassId) (ad : Nat → Nat) {z : Nat} {S : St} {v1 : Int32} {v2 : Int32} {q : (Int32 × St)} (hm : mX1_find z v1 v2 S = some q) : sd_MI l D vwCl cA sd_nw (wX ad cA) yX1_find (Cond.code yX1_find cX1_find 3 (some .boolean) :: sd_big) rX1_find [.ref (ad 58), .int v1, .int v2] S q :=
  sd_ofI (by decide +kernel) (Nat.le_of_ble_eq_true rfl) (fun _ _ _ _ _ _ _ _ _ _ C0 h hl => bX1_find C0 h (lv_sub hl [0, 1, 2] rfl) hm)

def rX9_findChannel : Room := { frames := 5, cells := 0, slots := 0, locals := 121 }
def mX9_findChannel (z : Nat) (v1 : Int32) (v2 : Int32) (v3 : Int32) (S : St) : Option (Int32 × St) :=
  (mX9_isDay S v1).bind fun u1 =>
  if u1 = 0 then
    some (0, S)
  else
    (mX9_isSquare S v2).bind fun u3 =>
    if u3 = 0 then
      some (0, S)
    else
      (mX9_isSquare S v3).bind fun u5 =>
      if u5 = 0 then
        some (0, S)
      else
        (mX2_draw z v1 S).bind fun u7 =>
        (mX1_find z v2 v3 u7).bind fun u8 =>
        zb u8.1 (u8.1, u8.2)
set_option maxHeartbeats 4000000 in
set_option maxRecDepth 100000 in
theorem bX9_findChannel {p : Program} {l : Launch} {e : Env} {s : State} {m : MethodId} {args : Array Value} {below : List Frame} {meth : Method} {c : Code} {D : va_G} {cA : ClassId} {ad : Nat → Nat} {A : Nat → Prop} {H : Heap} {locs : List Loc} {ls : Array Slot} {q : (Int32 × St)} {z : Nat} {v1 : Int32} {v2 : Int32} {v3 : Int32} {S : St} (C0 : sd_Cx RX9 cX9_findChannel 4 (some .boolean) (Cond.code yX9_findChannel cX9_findChannel 4 (some .boolean) :: sd_big) p s m args meth c) (h : sd_Wd D vwCl cA sd_nw (wX ad cA) A s S H locs) (hl : lv_has ls 4 [(0, .ref (ad 0)), (1, .int v1), (2, .int v2), (3, .int v3)])  (hm : mX9_findChannel z v1 v2 v3 S = some q) : W p l e rX9_findChannel s m args below meth c H locs 0 0 (MQ below (sd_Qi D vwCl (wX ad cA) A q) args s 0 0 A) (F0 m 0 ls []) := by
  unfold mX9_findChannel at hm
  have hx := C0.1
  have hb := C0.2.1
  refine lv_iload_n hx hb dX9_findChannel_0 rfl (lv_at hl 1 rfl) ?_
  obtain ⟨u1, hu1, hm⟩ := bs hm
  refine sd_Si C0 h kYX9_isDay kmX9_62 [.int v1] (tX9_isDay l D cA ad hu1) rfl hl.1 rfl (Nat.le_of_ble_eq_true rfl) (by decide) dX9_findChannel_1 (by decide) (fun H locs h => ?_)
  refine lv_if_eq (tgt := 21) hx hb dX9_findChannel_4 (by decide) (fun c2 => ?_) (fun c2 => ?_)
  · replace hm := ip c2 hm
    refine lv_iconst (v := 0) hx hb dX9_findChannel_21 (by decide) ?_
    exact sd_zret C0 h (Option.some.inj hm) rfl dX9_findChannel_22
  · replace hm := iq c2 hm
    refine lv_iload_n hx hb dX9_findChannel_7 rfl (lv_at hl 2 rfl) ?_
    obtain ⟨u3, hu3, hm⟩ := bs hm
    refine sd_Si C0 h kYX9_isSquare kmX9_234 [.int v2] (tX9_isSquare l D cA ad hu3) rfl hl.1 rfl (Nat.le_of_ble_eq_true rfl) (by decide) dX9_findChannel_8 (by decide) (fun H locs h => ?_)
    refine lv_if_eq (tgt := 21) hx hb dX9_findChannel_11 (by decide) (fun c4 => ?_) (fun c4 => ?_)
    · replace hm := ip c4 hm
      refine lv_iconst (v := 0) hx hb dX9_findChannel_21 (by decide) ?_
      exact sd_zret C0 h (Option.some.inj hm) rfl dX9_findChannel_22
    · replace hm := iq c4 hm
      refine lv_iload_n hx hb dX9_findChannel_14 rfl (lv_at hl 3 rfl) ?_
      obtain ⟨u5, hu5, hm⟩ := bs hm
      refine sd_Si C0 h kYX9_isSquare kmX9_234 [.int v3] (tX9_isSquare l D cA ad hu5) rfl hl.1 rfl (Nat.le_of_ble_eq_true rfl) (by decide) dX9_findChannel_15 (by decide) (fun H locs h => ?_)
      refine lv_if_ne (tgt := 23) hx hb dX9_findChannel_18 (by decide) (fun c6 => ?_) (fun c6 => ?_)
      · replace hm := iq c6 hm
        refine lv_aload_n hx hb dX9_findChannel_23 rfl (lv_at hl 0 rfl) ?_
        refine sd_get C0 h (C := RX9) (T := TX9) (N := 8) kcX9 0 (aX_0 ad cA _) rfl 5 (by decide) kfX9_45 (v := .ref (ad 55)) rfl dX9_findChannel_24 ?_
        refine lv_iload_n hx hb dX9_findChannel_27 rfl (lv_at hl 1 rfl) ?_
        obtain ⟨u7, hu7, hm⟩ := bs hm
        refine sd_Vv C0 h kYX2_draw kmX9_255 55 (aX_55 ad cA _) rfl [.int v1] (tX2_draw l D cA ad hu7) rfl hl.1 rfl (Nat.le_of_ble_eq_true rfl) (by decide) dX9_findChannel_28 (by decide) (fun H locs h => ?_)
        refine lv_aload_n hx hb dX9_findChannel_31 rfl (lv_at hl 0 rfl) ?_
        refine sd_get C0 h (C := RX9) (T := TX9) (N := 8) kcX9 0 (aX_0 ad cA _) rfl 6 (by decide) kfX9_54 (v := .ref (ad 58)) rfl dX9_findChannel_32 ?_
        refine lv_iload_n hx hb dX9_findChannel_35 rfl (lv_at hl 2 rfl) ?_
        refine lv_iload_n hx hb dX9_findChannel_36 rfl (lv_at hl 3 rfl) ?_
        obtain ⟨u8, hu8, hm⟩ := bs hm
        refine sd_Vi C0 h kYX1_find kmX9_305 58 (aX_58 ad cA _) rfl [.int v2, .int v3] (tX1_find l D cA ad hu8) rfl hl.1 rfl (Nat.le_of_ble_eq_true rfl) (by decide) dX9_findChannel_37 (by decide) (fun H locs h => ?_)
        obtain ⟨hz, hm⟩ := zb_some hm
        exact sd_zret C0 h hm hz dX9_findChannel_40
      · replace hm := ip c6 hm
        refine lv_iconst (v := 0) hx hb dX9_findChannel_21 (by decide) ?_
        exact sd_zret C0 h (Option.some.inj hm) rfl dX9_findChannel_22
theorem tX9_findChannel (l : Launch) (D : va_G) (cA : ClassId) (ad : Nat → Nat) {z : Nat} {S : St} {v1 : Int32} {v2 : Int32} {v3 : Int32} {q : (Int32 × St)} (hm : mX9_findChannel z v1 v2 v3 S = some q) : sd_MI l D vwCl cA sd_nw (wX ad cA) yX9_findChannel (Cond.code yX9_findChannel cX9_findChannel 4 (some .boolean) :: sd_big) rX9_findChannel [.ref (ad 0), .int v1, .int v2, .int v3] S q :=
  sd_ofI (by decide +kernel) (Nat.le_of_ble_eq_true rfl) (fun _ _ _ _ _ _ _ _ _ _ C0 h hl => bX9_findChannel C0 h (lv_sub hl [0, 1, 2, 3] rfl) hm)

def rX9_deepest : Room := { frames := 6, cells := 0, slots := 0, locals := 144 }
def mX9_deepest (z : Nat) (v1 : Int32) (v2 : Int32) (v3 : Int32) (S : St) : Option (Int32 × St) :=
  (mX9_findChannel z v1 v2 v3 S).bind fun u1 =>
  if u1.1 = 0 then
    some ((-30000), u1.2)
  else
    some ((fI u1.2 17), u1.2)
set_option maxHeartbeats 4000000 in
set_option maxRecDepth 100000 in
theorem bX9_deepest {p : Program} {l : Launch} {e : Env} {s : State} {m : MethodId} {args : Array Value} {below : List Frame} {meth : Method} {c : Code} {D : va_G} {cA : ClassId} {ad : Nat → Nat} {A : Nat → Prop} {H : Heap} {locs : List Loc} {ls : Array Slot} {q : (Int32 × St)} {z : Nat} {v1 : Int32} {v2 : Int32} {v3 : Int32} {S : St} (C0 : sd_Cx RX9 cX9_deepest 4 (some .int) (Cond.code yX9_deepest cX9_deepest 4 (some .int) :: sd_big) p s m args meth c) (h : sd_Wd D vwCl cA sd_nw (wX ad cA) A s S H locs) (hl : lv_has ls 4 [(0, .ref (ad 0)), (1, .int v1), (2, .int v2), (3, .int v3)])  (hm : mX9_deepest z v1 v2 v3 S = some q) : W p l e rX9_deepest s m args below meth c H locs 0 0 (MQ below (sd_Qi D vwCl (wX ad cA) A q) args s 0 0 A) (F0 m 0 ls []) := by
  unfold mX9_deepest at hm
  have hx := C0.1
  have hb := C0.2.1
  refine lv_aload_n hx hb dX9_deepest_0 rfl (lv_at hl 0 rfl) ?_
  refine lv_iload_n hx hb dX9_deepest_1 rfl (lv_at hl 1 rfl) ?_
  refine lv_iload_n hx hb dX9_deepest_2 rfl (lv_at hl 2 rfl) ?_
  refine lv_iload_n hx hb dX9_deepest_3 rfl (lv_at hl 3 rfl) ?_
  obtain ⟨u1, hu1, hm⟩ := bs hm
  refine sd_Vi C0 h kYX9_findChannel kmX9_260 0 (aX_0 ad cA _) rfl [.int v1, .int v2, .int v3] (tX9_findChannel l D cA ad hu1) rfl hl.1 rfl (Nat.le_of_ble_eq_true rfl) (by decide) dX9_deepest_4 (by decide) (fun H locs h => ?_)
  refine lv_if_eq (tgt := 20) hx hb dX9_deepest_7 (by decide) (fun c2 => ?_) (fun c2 => ?_)
  · replace hm := ip c2 hm
    refine lv_sipush (v := (-30000)) hx hb dX9_deepest_20 (by decide) ?_
    exact sd_iret C0 h (Option.some.inj hm) dX9_deepest_23
  · replace hm := iq c2 hm
    refine lv_aload_n hx hb dX9_deepest_10 rfl (lv_at hl 0 rfl) ?_
    refine sd_get C0 h (C := RX9) (T := TX9) (N := 8) kcX9 0 (aX_0 ad cA _) rfl 6 (by decide) kfX9_54 (v := .ref (ad 58)) rfl dX9_deepest_11 ?_
    refine sd_get C0 h (C := RX1) (T := TX1) (N := 7) kcX1 58 (aX_58 ad cA _) rfl 6 (by decide) kfX9_263 (v := .int (fI u1.2 17)) rfl dX9_deepest_14 ?_
    refine lv_goto (tgt := 23) hx hb dX9_deepest_17 (by decide) ?_
    exact sd_iret C0 h (Option.some.inj hm) dX9_deepest_23
theorem tX9_deepest (l : Launch) (D : va_G) (cA : ClassId) (ad : Nat → Nat) {z : Nat} {S : St} {v1 : Int32} {v2 : Int32} {v3 : Int32} {q : (Int32 × St)} (hm : mX9_deepest z v1 v2 v3 S = some q) : sd_MI l D vwCl cA sd_nw (wX ad cA) yX9_deepest (Cond.code yX9_deepest cX9_deepest 4 (some .int) :: sd_big) rX9_deepest [.ref (ad 0), .int v1, .int v2, .int v3] S q :=
  sd_ofI (by decide +kernel) (Nat.le_of_ble_eq_true rfl) (fun _ _ _ _ _ _ _ _ _ _ C0 h hl => bX9_deepest C0 h (lv_sub hl [0, 1, 2, 3] rfl) hm)

def rX9_way : Room := { frames := 6, cells := 0, slots := 0, locals := 144 }
def mX9_way (z : Nat) (v1 : Int32) (v2 : Int32) (v3 : Int32) (v4 : Int32) (S : St) : Option (Int32 × St) :=
  (mX9_findChannel z v1 v2 v3 S).bind fun u1 =>
  if u1.1 = 0 then
    some ((-1), u1.2)
  else
    if v4 < 0 then
      some ((-1), u1.2)
    else
      if (fI u1.2 16) ≤ v4 then
        some ((-1), u1.2)
      else
        (rd (fA u1.2 47) 256 v4).bind fun x5 =>
        some (x5, u1.2)
set_option maxHeartbeats 4000000 in
set_option maxRecDepth 100000 in
theorem bX9_way {p : Program} {l : Launch} {e : Env} {s : State} {m : MethodId} {args : Array Value} {below : List Frame} {meth : Method} {c : Code} {D : va_G} {cA : ClassId} {ad : Nat → Nat} {A : Nat → Prop} {H : Heap} {locs : List Loc} {ls : Array Slot} {q : (Int32 × St)} {z : Nat} {v1 : Int32} {v2 : Int32} {v3 : Int32} {v4 : Int32} {S : St} (C0 : sd_Cx RX9 cX9_way 5 (some .int) (Cond.code yX9_way cX9_way 5 (some .int) :: sd_big) p s m args meth c) (h : sd_Wd D vwCl cA sd_nw (wX ad cA) A s S H locs) (hl : lv_has ls 5 [(0, .ref (ad 0)), (1, .int v1), (2, .int v2), (3, .int v3), (4, .int v4)])  (hm : mX9_way z v1 v2 v3 v4 S = some q) : W p l e rX9_way s m args below meth c H locs 0 0 (MQ below (sd_Qi D vwCl (wX ad cA) A q) args s 0 0 A) (F0 m 0 ls []) := by
  unfold mX9_way at hm
  have hx := C0.1
  have hb := C0.2.1
  refine lv_aload_n hx hb dX9_way_0 rfl (lv_at hl 0 rfl) ?_
  refine lv_iload_n hx hb dX9_way_1 rfl (lv_at hl 1 rfl) ?_
  refine lv_iload_n hx hb dX9_way_2 rfl (lv_at hl 2 rfl) ?_
  refine lv_iload_n hx hb dX9_way_3 rfl (lv_at hl 3 rfl) ?_
  obtain ⟨u1, hu1, hm⟩ := bs hm
  refine sd_Vi C0 h kYX9_findChannel kmX9_260 0 (aX_0 ad cA _) rfl [.int v1, .int v2, .int v3] (tX9_findChannel l D cA ad hu1) rfl hl.1 rfl (Nat.le_of_ble_eq_true rfl) (by decide) dX9_way_4 (by decide) (fun H locs h => ?_)
  refine lv_if_ne (tgt := 12) hx hb dX9_way_7 (by decide) (fun c2 => ?_) (fun c2 => ?_)
  · replace hm := iq c2 hm
    refine lv_iload hx hb dX9_way_12 (lv_at hl 4 rfl) ?_
    refine lv_if_lt (tgt := 42) hx hb dX9_way_14 (by decide) (fun c3 => ?_) (fun c3 => ?_)
    · replace hm := ip c3 hm
      refine lv_iconst (v := (-1)) hx hb dX9_way_42 (by decide) ?_
      exact sd_iret C0 h (Option.some.inj hm) dX9_way_43
    · replace hm := iq c3 hm
      refine lv_iload hx hb dX9_way_17 (lv_at hl 4 rfl) ?_
      refine lv_aload_n hx hb dX9_way_19 rfl (lv_at hl 0 rfl) ?_
      refine sd_get C0 h (C := RX9) (T := TX9) (N := 8) kcX9 0 (aX_0 ad cA _) rfl 6 (by decide) kfX9_54 (v := .ref (ad 58)) rfl dX9_way_20 ?_
      refine sd_get C0 h (C := RX1) (T := TX1) (N := 7) kcX1 58 (aX_58 ad cA _) rfl 5 (by decide) kfX9_266 (v := .int (fI u1.2 16)) rfl dX9_way_23 ?_
      refine lv_icmp_ge (tgt := 42) hx hb dX9_way_26 (by decide) (fun c4 => ?_) (fun c4 => ?_)
      · replace hm := ip c4 hm
        refine lv_iconst (v := (-1)) hx hb dX9_way_42 (by decide) ?_
        exact sd_iret C0 h (Option.some.inj hm) dX9_way_43
      · replace hm := iq c4 hm
        refine lv_aload_n hx hb dX9_way_29 rfl (lv_at hl 0 rfl) ?_
        refine sd_get C0 h (C := RX9) (T := TX9) (N := 8) kcX9 0 (aX_0 ad cA _) rfl 6 (by decide) kfX9_54 (v := .ref (ad 58)) rfl dX9_way_30 ?_
        refine sd_get C0 h (C := RX1) (T := TX1) (N := 7) kcX1 58 (aX_58 ad cA _) rfl 4 (by decide) kfX9_269 (v := .ref (ad 61)) rfl dX9_way_33 ?_
        refine lv_iload hx hb dX9_way_36 (lv_at hl 4 rfl) ?_
        obtain ⟨x5, hx5, hm⟩ := bs hm
        refine sd_rd C0 h 61 (aX_61 ad cA _) hx5 dX9_way_38 ?_
        refine lv_goto (tgt := 43) hx hb dX9_way_39 (by decide) ?_
        exact sd_iret C0 h (Option.some.inj hm) dX9_way_43
  · replace hm := ip c2 hm
    refine lv_iconst (v := (-1)) hx hb dX9_way_10 (by decide) ?_
    exact sd_iret C0 h (Option.some.inj hm) dX9_way_11
theorem tX9_way (l : Launch) (D : va_G) (cA : ClassId) (ad : Nat → Nat) {z : Nat} {S : St} {v1 : Int32} {v2 : Int32} {v3 : Int32} {v4 : Int32} {q : (Int32 × St)} (hm : mX9_way z v1 v2 v3 v4 S = some q) : sd_MI l D vwCl cA sd_nw (wX ad cA) yX9_way (Cond.code yX9_way cX9_way 5 (some .int) :: sd_big) rX9_way [.ref (ad 0), .int v1, .int v2, .int v3, .int v4] S q :=
  sd_ofI (by decide +kernel) (Nat.le_of_ble_eq_true rfl) (fun _ _ _ _ _ _ _ _ _ _ C0 h hl => bX9_way C0 h (lv_sub hl [0, 1, 2, 3, 4] rfl) hm)

def rX1_firstAtFloor : Room := { frames := 0, cells := 0, slots := 0, locals := 0 }
def mX1_firstAtFloor_31 (z : Nat) (S : St) (v1 : Int32) : Option Int32 :=
  (rd (fA S 47) 256 v1).bind fun x1 =>
  some x1
set_option maxHeartbeats 4000000 in
set_option maxRecDepth 100000 in
theorem bX1_firstAtFloor_31 {p : Program} {l : Launch} {e : Env} {s : State} {m : MethodId} {args : Array Value} {below : List Frame} {meth : Method} {c : Code} {D : va_G} {cA : ClassId} {ad : Nat → Nat} {A : Nat → Prop} {H : Heap} {locs : List Loc} {ls : Array Slot} {q : Int32} {z : Nat} {S : St} {v1 : Int32} (C0 : sd_Cx RX1 cX1_firstAtFloor 2 (some .int) (Cond.code yX1_firstAtFloor cX1_firstAtFloor 2 (some .int) :: sd_big) p s m args meth c) (h : sd_Wd D vwCl cA sd_nw (wX ad cA) A s S H locs) (hl : lv_has ls 2 [(0, .ref (ad 58)), (1, .int v1)])  (hm : mX1_firstAtFloor_31 z S v1 = some q) : W p l e rX1_firstAtFloor s m args below meth c H locs 0 0 (MQ below (sd_Qi D vwCl (wX ad cA) A (q, S)) args s 0 0 A) (F0 m 31 ls []) := by
  unfold mX1_firstAtFloor_31 at hm
  have hx := C0.1
  have hb := C0.2.1
  refine lv_aload_n hx hb dX1_firstAtFloor_31 rfl (lv_at hl 0 rfl) ?_
  refine sd_get C0 h (C := RX1) (T := TX1) (N := 7) kcX1 58 (aX_58 ad cA _) rfl 4 (by decide) kfX1_22 (v := .ref (ad 61)) rfl dX1_firstAtFloor_32 ?_
  refine lv_iload_n hx hb dX1_firstAtFloor_35 rfl (lv_at hl 1 rfl) ?_
  obtain ⟨x1, hx1, hm⟩ := bs hm
  refine sd_rd C0 h 61 (aX_61 ad cA _) hx1 dX1_firstAtFloor_36 ?_
  exact sd_iret C0 h (congrArg (fun x => (x, S)) (Option.some.inj hm)) dX1_firstAtFloor_37
def mX1_firstAtFloor_2b (z : Nat) (S : St) (rc2 : Int32 → Option Int32) (v1 : Int32) : Option Int32 :=
  if (fI S 16) ≤ v1 then
    some (-1)
  else
    (rd (fA S 47) 256 v1).bind fun x2 =>
    (rd (fA S 44) 256 x2).bind fun x3 =>
    if x3 = (fI S 17) then
      mX1_firstAtFloor_31 z S v1
    else
      rc2 (v1 + 1)
set_option maxHeartbeats 4000000 in
set_option maxRecDepth 100000 in
theorem bX1_firstAtFloor_2b {p : Program} {l : Launch} {e : Env} {s : State} {m : MethodId} {args : Array Value} {below : List Frame} {meth : Method} {c : Code} {D : va_G} {cA : ClassId} {ad : Nat → Nat} {A : Nat → Prop} {H : Heap} {locs : List Loc} {ls : Array Slot} {q : Int32} {z : Nat} {S : St} {rc2 : Int32 → Option Int32} {v1 : Int32} (C0 : sd_Cx RX1 cX1_firstAtFloor 2 (some .int) (Cond.code yX1_firstAtFloor cX1_firstAtFloor 2 (some .int) :: sd_big) p s m args meth c) (h : sd_Wd D vwCl cA sd_nw (wX ad cA) A s S H locs) (hl : lv_has ls 2 [(0, .ref (ad 58)), (1, .int v1)]) (hrc2 : ∀ (v1 : Int32) (H : Heap) (locs : List Loc) (ls : Array Slot), sd_Wd D vwCl cA sd_nw (wX ad cA) A s S H locs → lv_has ls 2 [(0, .ref (ad 58)), (1, .int v1)] → rc2 v1 = some q → W p l e rX1_firstAtFloor s m args below meth c H locs 0 0 (MQ below (sd_Qi D vwCl (wX ad cA) A (q, S)) args s 0 0 A) (F0 m 2 ls [])) (hm : mX1_firstAtFloor_2b z S rc2 v1 = some q) : W p l e rX1_firstAtFloor s m args below meth c H locs 0 0 (MQ below (sd_Qi D vwCl (wX ad cA) A (q, S)) args s 0 0 A) (F0 m 2 ls []) := by
  unfold mX1_firstAtFloor_2b at hm
  have hx := C0.1
  have hb := C0.2.1
  refine lv_iload_n hx hb dX1_firstAtFloor_2 rfl (lv_at hl 1 rfl) ?_
  refine lv_aload_n hx hb dX1_firstAtFloor_3 rfl (lv_at hl 0 rfl) ?_
  refine sd_get C0 h (C := RX1) (T := TX1) (N := 7) kcX1 58 (aX_58 ad cA _) rfl 5 (by decide) kfX1_25 (v := .int (fI S 16)) rfl dX1_firstAtFloor_4 ?_
  refine lv_icmp_ge (tgt := 44) hx hb dX1_firstAtFloor_7 (by decide) (fun c1 => ?_) (fun c1 => ?_)
  · replace hm := ip c1 hm
    refine lv_iconst (v := (-1)) hx hb dX1_firstAtFloor_44 (by decide) ?_
    exact sd_iret C0 h (congrArg (fun x => (x, S)) (Option.some.inj hm)) dX1_firstAtFloor_45
  · replace hm := iq c1 hm
    refine lv_aload_n hx hb dX1_firstAtFloor_10 rfl (lv_at hl 0 rfl) ?_
    refine sd_get C0 h (C := RX1) (T := TX1) (N := 7) kcX1 58 (aX_58 ad cA _) rfl 0 (by decide) kfX1_31 (v := .ref (ad 55)) rfl dX1_firstAtFloor_11 ?_
    refine sd_get C0 h (C := RX2) (T := TX2) (N := 3) kcX2 55 (aX_55 ad cA _) rfl 2 (by decide) kfX1_51 (v := .ref (ad 57)) rfl dX1_firstAtFloor_14 ?_
    refine lv_aload_n hx hb dX1_firstAtFloor_17 rfl (lv_at hl 0 rfl) ?_
    refine sd_get C0 h (C := RX1) (T := TX1) (N := 7) kcX1 58 (aX_58 ad cA _) rfl 4 (by decide) kfX1_22 (v := .ref (ad 61)) rfl dX1_firstAtFloor_18 ?_
    refine lv_iload_n hx hb dX1_firstAtFloor_21 rfl (lv_at hl 1 rfl) ?_
    obtain ⟨x2, hx2, hm⟩ := bs hm
    refine sd_rd C0 h 61 (aX_61 ad cA _) hx2 dX1_firstAtFloor_22 ?_
    obtain ⟨x3, hx3, hm⟩ := bs hm
    refine sd_rd C0 h 57 (aX_57 ad cA _) hx3 dX1_firstAtFloor_23 ?_
    refine lv_aload_n hx hb dX1_firstAtFloor_24 rfl (lv_at hl 0 rfl) ?_
    refine sd_get C0 h (C := RX1) (T := TX1) (N := 7) kcX1 58 (aX_58 ad cA _) rfl 6 (by decide) kfX1_28 (v := .int (fI S 17)) rfl dX1_firstAtFloor_25 ?_
    refine lv_icmp_ne (tgt := 38) hx hb dX1_firstAtFloor_28 (by decide) (fun c4 => ?_) (fun c4 => ?_)
    · replace hm := iq c4 hm
      refine lv_iinc (v := (v1 + 1)) (lv' := [(1, .int (v1 + 1)), (0, .ref (ad 58))]) hx hb dX1_firstAtFloor_38 hl (k := 1) rfl rfl (by decide) rfl (fun ls hl => ?_)
      refine lv_goto (tgt := 2) hx hb dX1_firstAtFloor_41 (by decide) ?_
      exact hrc2 _ _ _ _ h (lv_sub hl [1, 0] rfl) hm
    · replace hm := ip c4 hm
      exact bX1_firstAtFloor_31 C0 h (lv_sub hl [0, 1] rfl) hm
def mX1_firstAtFloor_2 (z : Nat) (S : St) : Nat → Int32 → Option Int32
  | 0, _ => none
  | n + 1, v1 => mX1_firstAtFloor_2b z S (mX1_firstAtFloor_2 z S n) v1
set_option maxHeartbeats 4000000 in
set_option maxRecDepth 100000 in
theorem lX1_firstAtFloor_2 {p : Program} {l : Launch} {e : Env} {s : State} {m : MethodId} {args : Array Value} {below : List Frame} {meth : Method} {c : Code} {D : va_G} {cA : ClassId} {ad : Nat → Nat} {A : Nat → Prop} {q : Int32} {z : Nat} {S : St} (C0 : sd_Cx RX1 cX1_firstAtFloor 2 (some .int) (Cond.code yX1_firstAtFloor cX1_firstAtFloor 2 (some .int) :: sd_big) p s m args meth c)  : ∀ (n : Nat) (v1 : Int32) (H : Heap) (locs : List Loc) (ls : Array Slot), sd_Wd D vwCl cA sd_nw (wX ad cA) A s S H locs → lv_has ls 2 [(0, .ref (ad 58)), (1, .int v1)] → mX1_firstAtFloor_2 z S n v1 = some q → W p l e rX1_firstAtFloor s m args below meth c H locs 0 0 (MQ below (sd_Qi D vwCl (wX ad cA) A (q, S)) args s 0 0 A) (F0 m 2 ls []) := by
  intro n
  induction n with
  | zero =>
    intro v1 H locs ls h hl hm
    exact nomatch (show none = some q from hm)
  | succ n ih =>
    intro v1 H locs ls h hl hm
    exact bX1_firstAtFloor_2b C0 h hl ih hm
def mX1_firstAtFloor (z : Nat) (S : St) : Option Int32 :=
  mX1_firstAtFloor_2 z S z 0
set_option maxHeartbeats 4000000 in
set_option maxRecDepth 100000 in
theorem bX1_firstAtFloor {p : Program} {l : Launch} {e : Env} {s : State} {m : MethodId} {args : Array Value} {below : List Frame} {meth : Method} {c : Code} {D : va_G} {cA : ClassId} {ad : Nat → Nat} {A : Nat → Prop} {H : Heap} {locs : List Loc} {ls : Array Slot} {q : Int32} {z : Nat} {S : St} (C0 : sd_Cx RX1 cX1_firstAtFloor 2 (some .int) (Cond.code yX1_firstAtFloor cX1_firstAtFloor 2 (some .int) :: sd_big) p s m args meth c) (h : sd_Wd D vwCl cA sd_nw (wX ad cA) A s S H locs) (hl : lv_has ls 2 [(0, .ref (ad 58))])  (hm : mX1_firstAtFloor z S = some q) : W p l e rX1_firstAtFloor s m args below meth c H locs 0 0 (MQ below (sd_Qi D vwCl (wX ad cA) A (q, S)) args s 0 0 A) (F0 m 0 ls []) := by
  unfold mX1_firstAtFloor at hm
  have hx := C0.1
  have hb := C0.2.1
  refine lv_iconst (v := 0) hx hb dX1_firstAtFloor_0 (by decide) ?_
  refine lv_istore_n (lv' := [(1, .int 0), (0, .ref (ad 58))]) hx hb dX1_firstAtFloor_1 rfl hl (by decide) rfl (fun ls hl => ?_)
  exact lX1_firstAtFloor_2 C0 _ _ _ _ _ h (lv_sub hl [1, 0] rfl) hm
theorem tX1_firstAtFloor (l : Launch) (D : va_G) (cA : ClassId) (ad : Nat → Nat) {z : Nat} {S : St}  {q : Int32} (hm : mX1_firstAtFloor z S = some q) : sd_MI l D vwCl cA sd_nw (wX ad cA) yX1_firstAtFloor (Cond.code yX1_firstAtFloor cX1_firstAtFloor 2 (some .int) :: sd_big) rX1_firstAtFloor [.ref (ad 58)] S (q, S) :=
  sd_ofI (by decide +kernel) (Nat.le_of_ble_eq_true rfl) (fun _ _ _ _ _ _ _ _ _ _ C0 h hl => bX1_firstAtFloor C0 h (lv_sub hl [0] rfl) hm)

def rX9_narrow : Room := { frames := 6, cells := 0, slots := 0, locals := 144 }
def mX9_narrow (z : Nat) (v1 : Int32) (v2 : Int32) (v3 : Int32) (S : St) : Option (Int32 × St) :=
  (mX9_findChannel z v1 v2 v3 S).bind fun u1 =>
  if u1.1 = 0 then
    some ((-1), u1.2)
  else
    (mX1_firstAtFloor z u1.2).bind fun u3 =>
    some (u3, u1.2)
set_option maxHeartbeats 4000000 in
set_option maxRecDepth 100000 in
theorem bX9_narrow {p : Program} {l : Launch} {e : Env} {s : State} {m : MethodId} {args : Array Value} {below : List Frame} {meth : Method} {c : Code} {D : va_G} {cA : ClassId} {ad : Nat → Nat} {A : Nat → Prop} {H : Heap} {locs : List Loc} {ls : Array Slot} {q : (Int32 × St)} {z : Nat} {v1 : Int32} {v2 : Int32} {v3 : Int32} {S : St} (C0 : sd_Cx RX9 cX9_narrow 4 (some .int) (Cond.code yX9_narrow cX9_narrow 4 (some .int) :: sd_big) p s m args meth c) (h : sd_Wd D vwCl cA sd_nw (wX ad cA) A s S H locs) (hl : lv_has ls 4 [(0, .ref (ad 0)), (1, .int v1), (2, .int v2), (3, .int v3)])  (hm : mX9_narrow z v1 v2 v3 S = some q) : W p l e rX9_narrow s m args below meth c H locs 0 0 (MQ below (sd_Qi D vwCl (wX ad cA) A q) args s 0 0 A) (F0 m 0 ls []) := by
  unfold mX9_narrow at hm
  have hx := C0.1
  have hb := C0.2.1
  refine lv_aload_n hx hb dX9_narrow_0 rfl (lv_at hl 0 rfl) ?_
  refine lv_iload_n hx hb dX9_narrow_1 rfl (lv_at hl 1 rfl) ?_
  refine lv_iload_n hx hb dX9_narrow_2 rfl (lv_at hl 2 rfl) ?_
  refine lv_iload_n hx hb dX9_narrow_3 rfl (lv_at hl 3 rfl) ?_
  obtain ⟨u1, hu1, hm⟩ := bs hm
  refine sd_Vi C0 h kYX9_findChannel kmX9_260 0 (aX_0 ad cA _) rfl [.int v1, .int v2, .int v3] (tX9_findChannel l D cA ad hu1) rfl hl.1 rfl (Nat.le_of_ble_eq_true rfl) (by decide) dX9_narrow_4 (by decide) (fun H locs h => ?_)
  refine lv_if_eq (tgt := 20) hx hb dX9_narrow_7 (by decide) (fun c2 => ?_) (fun c2 => ?_)
  · replace hm := ip c2 hm
    refine lv_iconst (v := (-1)) hx hb dX9_narrow_20 (by decide) ?_
    exact sd_iret C0 h (Option.some.inj hm) dX9_narrow_21
  · replace hm := iq c2 hm
    refine lv_aload_n hx hb dX9_narrow_10 rfl (lv_at hl 0 rfl) ?_
    refine sd_get C0 h (C := RX9) (T := TX9) (N := 8) kcX9 0 (aX_0 ad cA _) rfl 6 (by decide) kfX9_54 (v := .ref (ad 58)) rfl dX9_narrow_11 ?_
    obtain ⟨u3, hu3, hm⟩ := bs hm
    refine sd_Vi C0 h kYX1_firstAtFloor kmX9_272 58 (aX_58 ad cA _) rfl [] (tX1_firstAtFloor l D cA ad hu3) rfl hl.1 rfl (Nat.le_of_ble_eq_true rfl) (by decide) dX9_narrow_14 (by decide) (fun H locs h => ?_)
    refine lv_goto (tgt := 21) hx hb dX9_narrow_17 (by decide) ?_
    exact sd_iret C0 h (Option.some.inj hm) dX9_narrow_21
theorem tX9_narrow (l : Launch) (D : va_G) (cA : ClassId) (ad : Nat → Nat) {z : Nat} {S : St} {v1 : Int32} {v2 : Int32} {v3 : Int32} {q : (Int32 × St)} (hm : mX9_narrow z v1 v2 v3 S = some q) : sd_MI l D vwCl cA sd_nw (wX ad cA) yX9_narrow (Cond.code yX9_narrow cX9_narrow 4 (some .int) :: sd_big) rX9_narrow [.ref (ad 0), .int v1, .int v2, .int v3] S q :=
  sd_ofI (by decide +kernel) (Nat.le_of_ble_eq_true rfl) (fun _ _ _ _ _ _ _ _ _ _ C0 h hl => bX9_narrow C0 h (lv_sub hl [0, 1, 2, 3] rfl) hm)

def rX9_draught : Room := { frames := 5, cells := 0, slots := 0, locals := 118 }
def mX9_draught (z : Nat) (v1 : Int32) (v2 : Int32) (v3 : Int32) (v4 : Int32) (S : St) : Option (Int32 × St) :=
  (mX9_isDay S v1).bind fun u1 =>
  if u1 = 0 then
    some (0, S)
  else
    (mX9_isSquare S v2).bind fun u3 =>
    if u3 = 0 then
      some (0, S)
    else
      (mX9_isSquare S v3).bind fun u5 =>
      if u5 = 0 then
        some (0, S)
      else
        (mX2_draw z v1 S).bind fun u7 =>
        (mX1_joins z v2 v3 v4 u7).bind fun u8 =>
        zb u8.1 (u8.1, u8.2)
set_option maxHeartbeats 4000000 in
set_option maxRecDepth 100000 in
theorem bX9_draught {p : Program} {l : Launch} {e : Env} {s : State} {m : MethodId} {args : Array Value} {below : List Frame} {meth : Method} {c : Code} {D : va_G} {cA : ClassId} {ad : Nat → Nat} {A : Nat → Prop} {H : Heap} {locs : List Loc} {ls : Array Slot} {q : (Int32 × St)} {z : Nat} {v1 : Int32} {v2 : Int32} {v3 : Int32} {v4 : Int32} {S : St} (C0 : sd_Cx RX9 cX9_draught 5 (some .boolean) (Cond.code yX9_draught cX9_draught 5 (some .boolean) :: sd_big) p s m args meth c) (h : sd_Wd D vwCl cA sd_nw (wX ad cA) A s S H locs) (hl : lv_has ls 5 [(0, .ref (ad 0)), (1, .int v1), (2, .int v2), (3, .int v3), (4, .int v4)])  (hm : mX9_draught z v1 v2 v3 v4 S = some q) : W p l e rX9_draught s m args below meth c H locs 0 0 (MQ below (sd_Qi D vwCl (wX ad cA) A q) args s 0 0 A) (F0 m 0 ls []) := by
  unfold mX9_draught at hm
  have hx := C0.1
  have hb := C0.2.1
  refine lv_iload_n hx hb dX9_draught_0 rfl (lv_at hl 1 rfl) ?_
  obtain ⟨u1, hu1, hm⟩ := bs hm
  refine sd_Si C0 h kYX9_isDay kmX9_62 [.int v1] (tX9_isDay l D cA ad hu1) rfl hl.1 rfl (Nat.le_of_ble_eq_true rfl) (by decide) dX9_draught_1 (by decide) (fun H locs h => ?_)
  refine lv_if_eq (tgt := 21) hx hb dX9_draught_4 (by decide) (fun c2 => ?_) (fun c2 => ?_)
  · replace hm := ip c2 hm
    refine lv_iconst (v := 0) hx hb dX9_draught_21 (by decide) ?_
    exact sd_zret C0 h (Option.some.inj hm) rfl dX9_draught_22
  · replace hm := iq c2 hm
    refine lv_iload_n hx hb dX9_draught_7 rfl (lv_at hl 2 rfl) ?_
    obtain ⟨u3, hu3, hm⟩ := bs hm
    refine sd_Si C0 h kYX9_isSquare kmX9_234 [.int v2] (tX9_isSquare l D cA ad hu3) rfl hl.1 rfl (Nat.le_of_ble_eq_true rfl) (by decide) dX9_draught_8 (by decide) (fun H locs h => ?_)
    refine lv_if_eq (tgt := 21) hx hb dX9_draught_11 (by decide) (fun c4 => ?_) (fun c4 => ?_)
    · replace hm := ip c4 hm
      refine lv_iconst (v := 0) hx hb dX9_draught_21 (by decide) ?_
      exact sd_zret C0 h (Option.some.inj hm) rfl dX9_draught_22
    · replace hm := iq c4 hm
      refine lv_iload_n hx hb dX9_draught_14 rfl (lv_at hl 3 rfl) ?_
      obtain ⟨u5, hu5, hm⟩ := bs hm
      refine sd_Si C0 h kYX9_isSquare kmX9_234 [.int v3] (tX9_isSquare l D cA ad hu5) rfl hl.1 rfl (Nat.le_of_ble_eq_true rfl) (by decide) dX9_draught_15 (by decide) (fun H locs h => ?_)
      refine lv_if_ne (tgt := 23) hx hb dX9_draught_18 (by decide) (fun c6 => ?_) (fun c6 => ?_)
      · replace hm := iq c6 hm
        refine lv_aload_n hx hb dX9_draught_23 rfl (lv_at hl 0 rfl) ?_
        refine sd_get C0 h (C := RX9) (T := TX9) (N := 8) kcX9 0 (aX_0 ad cA _) rfl 5 (by decide) kfX9_45 (v := .ref (ad 55)) rfl dX9_draught_24 ?_
        refine lv_iload_n hx hb dX9_draught_27 rfl (lv_at hl 1 rfl) ?_
        obtain ⟨u7, hu7, hm⟩ := bs hm
        refine sd_Vv C0 h kYX2_draw kmX9_255 55 (aX_55 ad cA _) rfl [.int v1] (tX2_draw l D cA ad hu7) rfl hl.1 rfl (Nat.le_of_ble_eq_true rfl) (by decide) dX9_draught_28 (by decide) (fun H locs h => ?_)
        refine lv_aload_n hx hb dX9_draught_31 rfl (lv_at hl 0 rfl) ?_
        refine sd_get C0 h (C := RX9) (T := TX9) (N := 8) kcX9 0 (aX_0 ad cA _) rfl 6 (by decide) kfX9_54 (v := .ref (ad 58)) rfl dX9_draught_32 ?_
        refine lv_iload_n hx hb dX9_draught_35 rfl (lv_at hl 2 rfl) ?_
        refine lv_iload_n hx hb dX9_draught_36 rfl (lv_at hl 3 rfl) ?_
        refine lv_iload hx hb dX9_draught_37 (lv_at hl 4 rfl) ?_
        obtain ⟨u8, hu8, hm⟩ := bs hm
        refine sd_Vi C0 h kYX1_joins kmX9_275 58 (aX_58 ad cA _) rfl [.int v2, .int v3, .int v4] (tX1_joins l D cA ad hu8) rfl hl.1 rfl (Nat.le_of_ble_eq_true rfl) (by decide) dX9_draught_39 (by decide) (fun H locs h => ?_)
        obtain ⟨hz, hm⟩ := zb_some hm
        exact sd_zret C0 h hm hz dX9_draught_42
      · replace hm := ip c6 hm
        refine lv_iconst (v := 0) hx hb dX9_draught_21 (by decide) ?_
        exact sd_zret C0 h (Option.some.inj hm) rfl dX9_draught_22
theorem tX9_draught (l : Launch) (D : va_G) (cA : ClassId) (ad : Nat → Nat) {z : Nat} {S : St} {v1 : Int32} {v2 : Int32} {v3 : Int32} {v4 : Int32} {q : (Int32 × St)} (hm : mX9_draught z v1 v2 v3 v4 S = some q) : sd_MI l D vwCl cA sd_nw (wX ad cA) yX9_draught (Cond.code yX9_draught cX9_draught 5 (some .boolean) :: sd_big) rX9_draught [.ref (ad 0), .int v1, .int v2, .int v3, .int v4] S q :=
  sd_ofI (by decide +kernel) (Nat.le_of_ble_eq_true rfl) (fun _ _ _ _ _ _ _ _ _ _ C0 h hl => bX9_draught C0 h (lv_sub hl [0, 1, 2, 3, 4] rfl) hm)

def rX9_check : Room := { frames := 5, cells := 0, slots := 0, locals := 118 }
def mX9_check (z : Nat) (v1 : Int32) (v2 : Int32) (v3 : Int32) (S : St) : Option (Int32 × St) :=
  (mX9_isDay S v1).bind fun u1 =>
  if u1 = 0 then
    some ((-2), S)
  else
    (mX9_isSquare S v2).bind fun u3 =>
    if u3 = 0 then
      some ((-2), S)
    else
      (mX2_draw z v1 S).bind fun u5 =>
      (rd (fA u5 44) 256 v2).bind fun x6 =>
      if x6 = (-30000) then
        some (2, u5)
      else
        if x6 = v3 then
          some ((-1), u5)
        else
          if v3 ≤ x6 then
            some (1, u5)
          else
            some (0, u5)
set_option maxHeartbeats 4000000 in
set_option maxRecDepth 100000 in
theorem bX9_check {p : Program} {l : Launch} {e : Env} {s : State} {m : MethodId} {args : Array Value} {below : List Frame} {meth : Method} {c : Code} {D : va_G} {cA : ClassId} {ad : Nat → Nat} {A : Nat → Prop} {H : Heap} {locs : List Loc} {ls : Array Slot} {q : (Int32 × St)} {z : Nat} {v1 : Int32} {v2 : Int32} {v3 : Int32} {S : St} (C0 : sd_Cx RX9 cX9_check 5 (some .int) (Cond.code yX9_check cX9_check 5 (some .int) :: sd_big) p s m args meth c) (h : sd_Wd D vwCl cA sd_nw (wX ad cA) A s S H locs) (hl : lv_has ls 5 [(0, .ref (ad 0)), (1, .int v1), (2, .int v2), (3, .int v3)])  (hm : mX9_check z v1 v2 v3 S = some q) : W p l e rX9_check s m args below meth c H locs 0 0 (MQ below (sd_Qi D vwCl (wX ad cA) A q) args s 0 0 A) (F0 m 0 ls []) := by
  unfold mX9_check at hm
  have hx := C0.1
  have hb := C0.2.1
  refine lv_iload_n hx hb dX9_check_0 rfl (lv_at hl 1 rfl) ?_
  obtain ⟨u1, hu1, hm⟩ := bs hm
  refine sd_Si C0 h kYX9_isDay kmX9_62 [.int v1] (tX9_isDay l D cA ad hu1) rfl hl.1 rfl (Nat.le_of_ble_eq_true rfl) (by decide) dX9_check_1 (by decide) (fun H locs h => ?_)
  refine lv_if_eq (tgt := 14) hx hb dX9_check_4 (by decide) (fun c2 => ?_) (fun c2 => ?_)
  · replace hm := ip c2 hm
    refine lv_bipush (v := (-2)) hx hb dX9_check_14 (by decide) ?_
    exact sd_iret C0 h (Option.some.inj hm) dX9_check_16
  · replace hm := iq c2 hm
    refine lv_iload_n hx hb dX9_check_7 rfl (lv_at hl 2 rfl) ?_
    obtain ⟨u3, hu3, hm⟩ := bs hm
    refine sd_Si C0 h kYX9_isSquare kmX9_234 [.int v2] (tX9_isSquare l D cA ad hu3) rfl hl.1 rfl (Nat.le_of_ble_eq_true rfl) (by decide) dX9_check_8 (by decide) (fun H locs h => ?_)
    refine lv_if_ne (tgt := 17) hx hb dX9_check_11 (by decide) (fun c4 => ?_) (fun c4 => ?_)
    · replace hm := iq c4 hm
      refine lv_aload_n hx hb dX9_check_17 rfl (lv_at hl 0 rfl) ?_
      refine sd_get C0 h (C := RX9) (T := TX9) (N := 8) kcX9 0 (aX_0 ad cA _) rfl 5 (by decide) kfX9_45 (v := .ref (ad 55)) rfl dX9_check_18 ?_
      refine lv_iload_n hx hb dX9_check_21 rfl (lv_at hl 1 rfl) ?_
      obtain ⟨u5, hu5, hm⟩ := bs hm
      refine sd_Vv C0 h kYX2_draw kmX9_255 55 (aX_55 ad cA _) rfl [.int v1] (tX2_draw l D cA ad hu5) rfl hl.1 rfl (Nat.le_of_ble_eq_true rfl) (by decide) dX9_check_22 (by decide) (fun H locs h => ?_)
      refine lv_aload_n hx hb dX9_check_25 rfl (lv_at hl 0 rfl) ?_
      refine sd_get C0 h (C := RX9) (T := TX9) (N := 8) kcX9 0 (aX_0 ad cA _) rfl 5 (by decide) kfX9_45 (v := .ref (ad 55)) rfl dX9_check_26 ?_
      refine sd_get C0 h (C := RX2) (T := TX2) (N := 3) kcX2 55 (aX_55 ad cA _) rfl 2 (by decide) kfX9_257 (v := .ref (ad 57)) rfl dX9_check_29 ?_
      refine lv_iload_n hx hb dX9_check_32 rfl (lv_at hl 2 rfl) ?_
      obtain ⟨x6, hx6, hm⟩ := bs hm
      refine sd_rd C0 h 57 (aX_57 ad cA _) hx6 dX9_check_33 ?_
      refine lv_istore (lv' := [(4, .int x6), (0, .ref (ad 0)), (1, .int v1), (2, .int v2), (3, .int v3)]) hx hb dX9_check_34 hl (by decide) rfl (fun ls hl => ?_)
      refine lv_iload hx hb dX9_check_36 (lv_at hl 0 rfl) ?_
      refine lv_sipush (v := (-30000)) hx hb dX9_check_38 (by decide) ?_
      refine lv_icmp_ne (tgt := 46) hx hb dX9_check_41 (by decide) (fun c7 => ?_) (fun c7 => ?_)
      · replace hm := iq c7 hm
        refine lv_iload hx hb dX9_check_46 (lv_at hl 0 rfl) ?_
        refine lv_iload_n hx hb dX9_check_48 rfl (lv_at hl 4 rfl) ?_
        refine lv_icmp_ne (tgt := 54) hx hb dX9_check_49 (by decide) (fun c8 => ?_) (fun c8 => ?_)
        · replace hm := iq c8 hm
          refine lv_iload hx hb dX9_check_54 (lv_at hl 0 rfl) ?_
          refine lv_iload_n hx hb dX9_check_56 rfl (lv_at hl 4 rfl) ?_
          refine lv_icmp_ge (tgt := 64) hx hb dX9_check_57 (by decide) (fun c9 => ?_) (fun c9 => ?_)
          · replace hm := ip c9 hm
            refine lv_iconst (v := 1) hx hb dX9_check_64 (by decide) ?_
            exact sd_iret C0 h (Option.some.inj hm) dX9_check_65
          · replace hm := iq c9 hm
            refine lv_iconst (v := 0) hx hb dX9_check_60 (by decide) ?_
            refine lv_goto (tgt := 65) hx hb dX9_check_61 (by decide) ?_
            exact sd_iret C0 h (Option.some.inj hm) dX9_check_65
        · replace hm := ip c8 hm
          refine lv_iconst (v := (-1)) hx hb dX9_check_52 (by decide) ?_
          exact sd_iret C0 h (Option.some.inj hm) dX9_check_53
      · replace hm := ip c7 hm
        refine lv_iconst (v := 2) hx hb dX9_check_44 (by decide) ?_
        exact sd_iret C0 h (Option.some.inj hm) dX9_check_45
    · replace hm := ip c4 hm
      refine lv_bipush (v := (-2)) hx hb dX9_check_14 (by decide) ?_
      exact sd_iret C0 h (Option.some.inj hm) dX9_check_16
theorem tX9_check (l : Launch) (D : va_G) (cA : ClassId) (ad : Nat → Nat) {z : Nat} {S : St} {v1 : Int32} {v2 : Int32} {v3 : Int32} {q : (Int32 × St)} (hm : mX9_check z v1 v2 v3 S = some q) : sd_MI l D vwCl cA sd_nw (wX ad cA) yX9_check (Cond.code yX9_check cX9_check 5 (some .int) :: sd_big) rX9_check [.ref (ad 0), .int v1, .int v2, .int v3] S q :=
  sd_ofI (by decide +kernel) (Nat.le_of_ble_eq_true rfl) (fun _ _ _ _ _ _ _ _ _ _ C0 h hl => bX9_check C0 h (lv_sub hl [0, 1, 2, 3] rfl) hm)

def rX0_takeLatest : Room := { frames := 0, cells := 0, slots := 0, locals := 0 }
def mX0_takeLatest (S : St) : Option (Int32 × St) :=
  if (fI S 6) = 0 then
    some (0, S)
  else
    (rd (fA (sI (sI S 5 ((((fI S 5) + 20) - 1) - (((fI S 5) + 20) - 1) / 20 * 20)) 6 ((fI (sI S 5 ((((fI S 5) + 20) - 1) - (((fI S 5) + 20) - 1) / 20 * 20)) 6) - 1)) 34) 20 (fI (sI (sI S 5 ((((fI S 5) + 20) - 1) - (((fI S 5) + 20) - 1) / 20 * 20)) 6 ((fI (sI S 5 ((((fI S 5) + 20) - 1) - (((fI S 5) + 20) - 1) / 20 * 20)) 6) - 1)) 5)).bind fun x2 =>
    (rd (fA (sI (sI (sI S 5 ((((fI S 5) + 20) - 1) - (((fI S 5) + 20) - 1) / 20 * 20)) 6 ((fI (sI S 5 ((((fI S 5) + 20) - 1) - (((fI S 5) + 20) - 1) / 20 * 20)) 6) - 1)) 7 x2) 35) 20 (fI (sI (sI (sI S 5 ((((fI S 5) + 20) - 1) - (((fI S 5) + 20) - 1) / 20 * 20)) 6 ((fI (sI S 5 ((((fI S 5) + 20) - 1) - (((fI S 5) + 20) - 1) / 20 * 20)) 6) - 1)) 7 x2) 5)).bind fun x3 =>
    (rd (fA (sI (sI (sI (sI S 5 ((((fI S 5) + 20) - 1) - (((fI S 5) + 20) - 1) / 20 * 20)) 6 ((fI (sI S 5 ((((fI S 5) + 20) - 1) - (((fI S 5) + 20) - 1) / 20 * 20)) 6) - 1)) 7 x2) 8 x3) 36) 20 (fI (sI (sI (sI (sI S 5 ((((fI S 5) + 20) - 1) - (((fI S 5) + 20) - 1) / 20 * 20)) 6 ((fI (sI S 5 ((((fI S 5) + 20) - 1) - (((fI S 5) + 20) - 1) / 20 * 20)) 6) - 1)) 7 x2) 8 x3) 5)).bind fun x4 =>
    some (1, (sI (sI (sI (sI (sI S 5 ((((fI S 5) + 20) - 1) - (((fI S 5) + 20) - 1) / 20 * 20)) 6 ((fI (sI S 5 ((((fI S 5) + 20) - 1) - (((fI S 5) + 20) - 1) / 20 * 20)) 6) - 1)) 7 x2) 8 x3) 9 x4))
set_option maxHeartbeats 4000000 in
set_option maxRecDepth 100000 in
theorem bX0_takeLatest {p : Program} {l : Launch} {e : Env} {s : State} {m : MethodId} {args : Array Value} {below : List Frame} {meth : Method} {c : Code} {D : va_G} {cA : ClassId} {ad : Nat → Nat} {A : Nat → Prop} {H : Heap} {locs : List Loc} {ls : Array Slot} {q : (Int32 × St)} {S : St} (C0 : sd_Cx RX0 cX0_takeLatest 1 (some .boolean) (Cond.code yX0_takeLatest cX0_takeLatest 1 (some .boolean) :: sd_big) p s m args meth c) (h : sd_Wd D vwCl cA sd_nw (wX ad cA) A s S H locs) (hl : lv_has ls 1 [(0, .ref (ad 43))])  (hm : mX0_takeLatest S = some q) : W p l e rX0_takeLatest s m args below meth c H locs 0 0 (MQ below (sd_Qi D vwCl (wX ad cA) A q) args s 0 0 A) (F0 m 0 ls []) := by
  unfold mX0_takeLatest at hm
  have hx := C0.1
  have hb := C0.2.1
  refine lv_aload_n hx hb dX0_takeLatest_0 rfl (lv_at hl 0 rfl) ?_
  refine sd_get C0 h (C := RX0) (T := TX0) (N := 8) kcX0 43 (aX_43 ad cA _) rfl 4 (by decide) kfX0_25 (v := .int (fI S 6)) rfl dX0_takeLatest_1 ?_
  refine lv_if_ne (tgt := 9) hx hb dX0_takeLatest_4 (by decide) (fun c1 => ?_) (fun c1 => ?_)
  · replace hm := iq c1 hm
    refine lv_aload_n hx hb dX0_takeLatest_9 rfl (lv_at hl 0 rfl) ?_
    refine lv_aload_n hx hb dX0_takeLatest_10 rfl (lv_at hl 0 rfl) ?_
    refine sd_get C0 h (C := RX0) (T := TX0) (N := 8) kcX0 43 (aX_43 ad cA _) rfl 3 (by decide) kfX0_21 (v := .int (fI S 5)) rfl dX0_takeLatest_11 ?_
    refine lv_bipush (v := 20) hx hb dX0_takeLatest_14 (by decide) ?_
    refine lv_iadd hx hb dX0_takeLatest_16 ?_
    refine lv_iconst (v := 1) hx hb dX0_takeLatest_17 (by decide) ?_
    refine lv_isub hx hb dX0_takeLatest_18 ?_
    refine lv_bipush (v := 20) hx hb dX0_takeLatest_19 (by decide) ?_
    refine lv_irem hx hb dX0_takeLatest_21 (by decide) ?_
    refine sd_put C0 h (C := RX0) (T := TX0) (N := 8) (S1 := (sI S 5 ((((fI S 5) + 20) - 1) - (((fI S 5) + 20) - 1) / 20 * 20))) kcX0 tyX0 tyX0_ok nmX0 43 (aX_43 ad cA _) rfl 3 (by decide) kfX0_21 rfl (ty := .int) (by decide +kernel) rfl rfl (Nat.le_of_ble_eq_true rfl) (eX_43_3 ad cA _ _) dX0_takeLatest_22 (fun H locs h => ?_)
    refine lv_aload_n hx hb dX0_takeLatest_25 rfl (lv_at hl 0 rfl) ?_
    refine lv_dup hx hb dX0_takeLatest_26 rfl ?_
    refine sd_get C0 h (C := RX0) (T := TX0) (N := 8) kcX0 43 (aX_43 ad cA _) rfl 4 (by decide) kfX0_25 (v := .int (fI (sI S 5 ((((fI S 5) + 20) - 1) - (((fI S 5) + 20) - 1) / 20 * 20)) 6)) rfl dX0_takeLatest_27 ?_
    refine lv_iconst (v := 1) hx hb dX0_takeLatest_30 (by decide) ?_
    refine lv_isub hx hb dX0_takeLatest_31 ?_
    refine sd_put C0 h (C := RX0) (T := TX0) (N := 8) (S1 := (sI (sI S 5 ((((fI S 5) + 20) - 1) - (((fI S 5) + 20) - 1) / 20 * 20)) 6 ((fI (sI S 5 ((((fI S 5) + 20) - 1) - (((fI S 5) + 20) - 1) / 20 * 20)) 6) - 1))) kcX0 tyX0 tyX0_ok nmX0 43 (aX_43 ad cA _) rfl 4 (by decide) kfX0_25 rfl (ty := .int) (by decide +kernel) rfl rfl (Nat.le_of_ble_eq_true rfl) (eX_43_4 ad cA _ _) dX0_takeLatest_32 (fun H locs h => ?_)
    refine lv_aload_n hx hb dX0_takeLatest_35 rfl (lv_at hl 0 rfl) ?_
    refine lv_aload_n hx hb dX0_takeLatest_36 rfl (lv_at hl 0 rfl) ?_
    refine sd_get C0 h (C := RX0) (T := TX0) (N := 8) kcX0 43 (aX_43 ad cA _) rfl 0 (by decide) kfX0_9 (v := .ref (ad 44)) rfl dX0_takeLatest_37 ?_
    refine lv_aload_n hx hb dX0_takeLatest_40 rfl (lv_at hl 0 rfl) ?_
    refine sd_get C0 h (C := RX0) (T := TX0) (N := 8) kcX0 43 (aX_43 ad cA _) rfl 3 (by decide) kfX0_21 (v := .int (fI (sI (sI S 5 ((((fI S 5) + 20) - 1) - (((fI S 5) + 20) - 1) / 20 * 20)) 6 ((fI (sI S 5 ((((fI S 5) + 20) - 1) - (((fI S 5) + 20) - 1) / 20 * 20)) 6) - 1)) 5)) rfl dX0_takeLatest_41 ?_
    obtain ⟨x2, hx2, hm⟩ := bs hm
    refine sd_rd C0 h 44 (aX_44 ad cA _) hx2 dX0_takeLatest_44 ?_
    refine sd_put C0 h (C := RX0) (T := TX0) (N := 8) (S1 := (sI (sI (sI S 5 ((((fI S 5) + 20) - 1) - (((fI S 5) + 20) - 1) / 20 * 20)) 6 ((fI (sI S 5 ((((fI S 5) + 20) - 1) - (((fI S 5) + 20) - 1) / 20 * 20)) 6) - 1)) 7 x2)) kcX0 tyX0 tyX0_ok nmX0 43 (aX_43 ad cA _) rfl 5 (by decide) kfX0_28 rfl (ty := .int) (by decide +kernel) rfl rfl (Nat.le_of_ble_eq_true rfl) (eX_43_5 ad cA _ _) dX0_takeLatest_45 (fun H locs h => ?_)
    refine lv_aload_n hx hb dX0_takeLatest_48 rfl (lv_at hl 0 rfl) ?_
    refine lv_aload_n hx hb dX0_takeLatest_49 rfl (lv_at hl 0 rfl) ?_
    refine sd_get C0 h (C := RX0) (T := TX0) (N := 8) kcX0 43 (aX_43 ad cA _) rfl 1 (by decide) kfX0_15 (v := .ref (ad 45)) rfl dX0_takeLatest_50 ?_
    refine lv_aload_n hx hb dX0_takeLatest_53 rfl (lv_at hl 0 rfl) ?_
    refine sd_get C0 h (C := RX0) (T := TX0) (N := 8) kcX0 43 (aX_43 ad cA _) rfl 3 (by decide) kfX0_21 (v := .int (fI (sI (sI (sI S 5 ((((fI S 5) + 20) - 1) - (((fI S 5) + 20) - 1) / 20 * 20)) 6 ((fI (sI S 5 ((((fI S 5) + 20) - 1) - (((fI S 5) + 20) - 1) / 20 * 20)) 6) - 1)) 7 x2) 5)) rfl dX0_takeLatest_54 ?_
    obtain ⟨x3, hx3, hm⟩ := bs hm
    refine sd_rd C0 h 45 (aX_45 ad cA _) hx3 dX0_takeLatest_57 ?_
    refine sd_put C0 h (C := RX0) (T := TX0) (N := 8) (S1 := (sI (sI (sI (sI S 5 ((((fI S 5) + 20) - 1) - (((fI S 5) + 20) - 1) / 20 * 20)) 6 ((fI (sI S 5 ((((fI S 5) + 20) - 1) - (((fI S 5) + 20) - 1) / 20 * 20)) 6) - 1)) 7 x2) 8 x3)) kcX0 tyX0 tyX0_ok nmX0 43 (aX_43 ad cA _) rfl 6 (by decide) kfX0_31 rfl (ty := .int) (by decide +kernel) rfl rfl (Nat.le_of_ble_eq_true rfl) (eX_43_6 ad cA _ _) dX0_takeLatest_58 (fun H locs h => ?_)
    refine lv_aload_n hx hb dX0_takeLatest_61 rfl (lv_at hl 0 rfl) ?_
    refine lv_aload_n hx hb dX0_takeLatest_62 rfl (lv_at hl 0 rfl) ?_
    refine sd_get C0 h (C := RX0) (T := TX0) (N := 8) kcX0 43 (aX_43 ad cA _) rfl 2 (by decide) kfX0_18 (v := .ref (ad 46)) rfl dX0_takeLatest_63 ?_
    refine lv_aload_n hx hb dX0_takeLatest_66 rfl (lv_at hl 0 rfl) ?_
    refine sd_get C0 h (C := RX0) (T := TX0) (N := 8) kcX0 43 (aX_43 ad cA _) rfl 3 (by decide) kfX0_21 (v := .int (fI (sI (sI (sI (sI S 5 ((((fI S 5) + 20) - 1) - (((fI S 5) + 20) - 1) / 20 * 20)) 6 ((fI (sI S 5 ((((fI S 5) + 20) - 1) - (((fI S 5) + 20) - 1) / 20 * 20)) 6) - 1)) 7 x2) 8 x3) 5)) rfl dX0_takeLatest_67 ?_
    obtain ⟨x4, hx4, hm⟩ := bs hm
    refine sd_rd C0 h 46 (aX_46 ad cA _) hx4 dX0_takeLatest_70 ?_
    refine sd_put C0 h (C := RX0) (T := TX0) (N := 8) (S1 := (sI (sI (sI (sI (sI S 5 ((((fI S 5) + 20) - 1) - (((fI S 5) + 20) - 1) / 20 * 20)) 6 ((fI (sI S 5 ((((fI S 5) + 20) - 1) - (((fI S 5) + 20) - 1) / 20 * 20)) 6) - 1)) 7 x2) 8 x3) 9 x4)) kcX0 tyX0 tyX0_ok nmX0 43 (aX_43 ad cA _) rfl 7 (by decide) kfX0_34 rfl (ty := .int) (by decide +kernel) rfl rfl (Nat.le_of_ble_eq_true rfl) (eX_43_7 ad cA _ _) dX0_takeLatest_71 (fun H locs h => ?_)
    refine lv_iconst (v := 1) hx hb dX0_takeLatest_74 (by decide) ?_
    exact sd_zret C0 h (Option.some.inj hm) rfl dX0_takeLatest_75
  · replace hm := ip c1 hm
    refine lv_iconst (v := 0) hx hb dX0_takeLatest_7 (by decide) ?_
    exact sd_zret C0 h (Option.some.inj hm) rfl dX0_takeLatest_8
theorem tX0_takeLatest (l : Launch) (D : va_G) (cA : ClassId) (ad : Nat → Nat) {S : St}  {q : (Int32 × St)} (hm : mX0_takeLatest S = some q) : sd_MI l D vwCl cA sd_nw (wX ad cA) yX0_takeLatest (Cond.code yX0_takeLatest cX0_takeLatest 1 (some .boolean) :: sd_big) rX0_takeLatest [.ref (ad 43)] S q :=
  sd_ofI (by decide +kernel) (Nat.le_of_ble_eq_true rfl) (fun _ _ _ _ _ _ _ _ _ _ C0 h hl => bX0_takeLatest C0 h (lv_sub hl [0] rfl) hm)

def rX6_removeLast : Room := { frames := 1, cells := 0, slots := 0, locals := 21 }
def mX6_removeLast (S : St) : Option St :=
  (mJ9_max S 0 ((fI S 2) - 1)).bind fun u1 =>
  some (sI S 2 u1)
set_option maxHeartbeats 4000000 in
set_option maxRecDepth 100000 in
theorem bX6_removeLast {p : Program} {l : Launch} {e : Env} {s : State} {m : MethodId} {args : Array Value} {below : List Frame} {meth : Method} {c : Code} {D : va_G} {cA : ClassId} {ad : Nat → Nat} {A : Nat → Prop} {H : Heap} {locs : List Loc} {ls : Array Slot} {q : St} {S : St} (C0 : sd_Cx RX6 cX6_removeLast 1 none (Cond.code yX6_removeLast cX6_removeLast 1 none :: sd_big) p s m args meth c) (h : sd_Wd D vwCl cA sd_nw (wX ad cA) A s S H locs) (hl : lv_has ls 1 [(0, .ref (ad 10))])  (hm : mX6_removeLast S = some q) : W p l e rX6_removeLast s m args below meth c H locs 0 0 (MQ below (sd_Qv D vwCl (wX ad cA) A q) args s 0 0 A) (F0 m 0 ls []) := by
  unfold mX6_removeLast at hm
  have hx := C0.1
  have hb := C0.2.1
  refine lv_aload_n hx hb dX6_removeLast_0 rfl (lv_at hl 0 rfl) ?_
  refine lv_iconst (v := 0) hx hb dX6_removeLast_1 (by decide) ?_
  refine lv_aload_n hx hb dX6_removeLast_2 rfl (lv_at hl 0 rfl) ?_
  refine sd_get C0 h (C := RX6) (T := TX6) (N := 11) kcX6 10 (aX_10 ad cA _) rfl 10 (by decide) kfX6_42 (v := .int (fI S 2)) rfl dX6_removeLast_3 ?_
  refine lv_iconst (v := 1) hx hb dX6_removeLast_6 (by decide) ?_
  refine lv_isub hx hb dX6_removeLast_7 ?_
  obtain ⟨u1, hu1, hm⟩ := bs hm
  refine sd_Si C0 h kYJ9_max_7cf53 kmX6_54 [.int 0, .int ((fI S 2) - 1)] (tJ9_max l D cA ad hu1) rfl hl.1 rfl (Nat.le_of_ble_eq_true rfl) (by decide) dX6_removeLast_8 (by decide) (fun H locs h => ?_)
  refine sd_put C0 h (C := RX6) (T := TX6) (N := 11) (S1 := (sI S 2 u1)) kcX6 tyX6 tyX6_ok nmX6 10 (aX_10 ad cA _) rfl 10 (by decide) kfX6_42 rfl (ty := .int) (by decide +kernel) rfl rfl (Nat.le_of_ble_eq_true rfl) (eX_10_10 ad cA _ _) dX6_removeLast_11 (fun H locs h => ?_)
  exact sd_vret C0 h (Option.some.inj hm) dX6_removeLast_14
theorem tX6_removeLast (l : Launch) (D : va_G) (cA : ClassId) (ad : Nat → Nat) {S : St}  {q : St} (hm : mX6_removeLast S = some q) : sd_MV l D vwCl cA sd_nw (wX ad cA) yX6_removeLast (Cond.code yX6_removeLast cX6_removeLast 1 none :: sd_big) rX6_removeLast [.ref (ad 10)] S q :=
  sd_ofV (by decide +kernel) (Nat.le_of_ble_eq_true rfl) (fun _ _ _ _ _ _ _ _ _ _ C0 h hl => bX6_removeLast C0 h (lv_sub hl [0] rfl) hm)

def rX8_removeLast : Room := { frames := 1, cells := 0, slots := 0, locals := 21 }
def mX8_removeLast (v1 : Int32) (S : St) : Option St :=
  (rd (fA S 3) 100 v1).bind fun x1 =>
  (mJ9_max S 0 (x1 - 1)).bind fun u2 =>
  (wr (fA S 3) 100 v1 u2).bind fun g3 =>
  some (sA S 3 g3)
set_option maxHeartbeats 4000000 in
set_option maxRecDepth 100000 in
theorem bX8_removeLast {p : Program} {l : Launch} {e : Env} {s : State} {m : MethodId} {args : Array Value} {below : List Frame} {meth : Method} {c : Code} {D : va_G} {cA : ClassId} {ad : Nat → Nat} {A : Nat → Prop} {H : Heap} {locs : List Loc} {ls : Array Slot} {q : St} {v1 : Int32} {S : St} (C0 : sd_Cx RX8 cX8_removeLast 2 none (Cond.code yX8_removeLast cX8_removeLast 2 none :: sd_big) p s m args meth c) (h : sd_Wd D vwCl cA sd_nw (wX ad cA) A s S H locs) (hl : lv_has ls 2 [(0, .ref (ad 6)), (1, .int v1)])  (hm : mX8_removeLast v1 S = some q) : W p l e rX8_removeLast s m args below meth c H locs 0 0 (MQ below (sd_Qv D vwCl (wX ad cA) A q) args s 0 0 A) (F0 m 0 ls []) := by
  unfold mX8_removeLast at hm
  have hx := C0.1
  have hb := C0.2.1
  refine lv_aload_n hx hb dX8_removeLast_0 rfl (lv_at hl 0 rfl) ?_
  refine sd_get C0 h (C := RX8) (T := TX8) (N := 5) kcX8 6 (aX_6 ad cA _) rfl 0 (by decide) kfX8_9 (v := .ref (ad 7)) rfl dX8_removeLast_1 ?_
  refine lv_iload_n hx hb dX8_removeLast_4 rfl (lv_at hl 1 rfl) ?_
  refine lv_iconst (v := 0) hx hb dX8_removeLast_5 (by decide) ?_
  refine lv_aload_n hx hb dX8_removeLast_6 rfl (lv_at hl 0 rfl) ?_
  refine sd_get C0 h (C := RX8) (T := TX8) (N := 5) kcX8 6 (aX_6 ad cA _) rfl 0 (by decide) kfX8_9 (v := .ref (ad 7)) rfl dX8_removeLast_7 ?_
  refine lv_iload_n hx hb dX8_removeLast_10 rfl (lv_at hl 1 rfl) ?_
  obtain ⟨x1, hx1, hm⟩ := bs hm
  refine sd_rd C0 h 7 (aX_7 ad cA _) hx1 dX8_removeLast_11 ?_
  refine lv_iconst (v := 1) hx hb dX8_removeLast_12 (by decide) ?_
  refine lv_isub hx hb dX8_removeLast_13 ?_
  obtain ⟨u2, hu2, hm⟩ := bs hm
  refine sd_Si C0 h kYJ9_max_7cf53 kmX8_28 [.int 0, .int (x1 - 1)] (tJ9_max l D cA ad hu2) rfl hl.1 rfl (Nat.le_of_ble_eq_true rfl) (by decide) dX8_removeLast_14 (by decide) (fun H locs h => ?_)
  obtain ⟨g3, hg3, hm⟩ := bs hm
  refine sd_wr C0 h (S1 := (sA S 3 g3)) 7 (aX_7 ad cA _) hg3 (eX_7 ad cA _ _) dX8_removeLast_17 (fun H locs h => ?_)
  exact sd_vret C0 h (Option.some.inj hm) dX8_removeLast_18
theorem tX8_removeLast (l : Launch) (D : va_G) (cA : ClassId) (ad : Nat → Nat) {S : St} {v1 : Int32} {q : St} (hm : mX8_removeLast v1 S = some q) : sd_MV l D vwCl cA sd_nw (wX ad cA) yX8_removeLast (Cond.code yX8_removeLast cX8_removeLast 2 none :: sd_big) rX8_removeLast [.ref (ad 6), .int v1] S q :=
  sd_ofV (by decide +kernel) (Nat.le_of_ble_eq_true rfl) (fun _ _ _ _ _ _ _ _ _ _ C0 h hl => bX8_removeLast C0 h (lv_sub hl [0, 1] rfl) hm)

def rX4_removeLast : Room := { frames := 1, cells := 0, slots := 0, locals := 21 }
def mX4_removeLast (S : St) : Option St :=
  (mJ9_max S 0 ((fI S 1) - 1)).bind fun u1 =>
  some (sI S 1 u1)
set_option maxHeartbeats 4000000 in
set_option maxRecDepth 100000 in
theorem bX4_removeLast {p : Program} {l : Launch} {e : Env} {s : State} {m : MethodId} {args : Array Value} {below : List Frame} {meth : Method} {c : Code} {D : va_G} {cA : ClassId} {ad : Nat → Nat} {A : Nat → Prop} {H : Heap} {locs : List Loc} {ls : Array Slot} {q : St} {S : St} (C0 : sd_Cx RX4 cX4_removeLast 1 none (Cond.code yX4_removeLast cX4_removeLast 1 none :: sd_big) p s m args meth c) (h : sd_Wd D vwCl cA sd_nw (wX ad cA) A s S H locs) (hl : lv_has ls 1 [(0, .ref (ad 2))])  (hm : mX4_removeLast S = some q) : W p l e rX4_removeLast s m args below meth c H locs 0 0 (MQ below (sd_Qv D vwCl (wX ad cA) A q) args s 0 0 A) (F0 m 0 ls []) := by
  unfold mX4_removeLast at hm
  have hx := C0.1
  have hb := C0.2.1
  refine lv_aload_n hx hb dX4_removeLast_0 rfl (lv_at hl 0 rfl) ?_
  refine lv_iconst (v := 0) hx hb dX4_removeLast_1 (by decide) ?_
  refine lv_aload_n hx hb dX4_removeLast_2 rfl (lv_at hl 0 rfl) ?_
  refine sd_get C0 h (C := RX4) (T := TX4) (N := 4) kcX4 2 (aX_2 ad cA _) rfl 3 (by decide) kfX4_21 (v := .int (fI S 1)) rfl dX4_removeLast_3 ?_
  refine lv_iconst (v := 1) hx hb dX4_removeLast_6 (by decide) ?_
  refine lv_isub hx hb dX4_removeLast_7 ?_
  obtain ⟨u1, hu1, hm⟩ := bs hm
  refine sd_Si C0 h kYJ9_max_7cf53 kmX4_25 [.int 0, .int ((fI S 1) - 1)] (tJ9_max l D cA ad hu1) rfl hl.1 rfl (Nat.le_of_ble_eq_true rfl) (by decide) dX4_removeLast_8 (by decide) (fun H locs h => ?_)
  refine sd_put C0 h (C := RX4) (T := TX4) (N := 4) (S1 := (sI S 1 u1)) kcX4 tyX4 tyX4_ok nmX4 2 (aX_2 ad cA _) rfl 3 (by decide) kfX4_21 rfl (ty := .int) (by decide +kernel) rfl rfl (Nat.le_of_ble_eq_true rfl) (eX_2_3 ad cA _ _) dX4_removeLast_11 (fun H locs h => ?_)
  exact sd_vret C0 h (Option.some.inj hm) dX4_removeLast_14
theorem tX4_removeLast (l : Launch) (D : va_G) (cA : ClassId) (ad : Nat → Nat) {S : St}  {q : St} (hm : mX4_removeLast S = some q) : sd_MV l D vwCl cA sd_nw (wX ad cA) yX4_removeLast (Cond.code yX4_removeLast cX4_removeLast 1 none :: sd_big) rX4_removeLast [.ref (ad 2)] S q :=
  sd_ofV (by decide +kernel) (Nat.le_of_ble_eq_true rfl) (fun _ _ _ _ _ _ _ _ _ _ C0 h hl => bX4_removeLast C0 h (lv_sub hl [0] rfl) hm)

def rX9_undo : Room := { frames := 2, cells := 0, slots := 0, locals := 42 }
def mX9_undo (S : St) : Option (Int32 × St) :=
  (mX0_takeLatest S).bind fun u1 =>
  if u1.1 = 0 then
    some (0, u1.2)
  else
    if (fI u1.2 7) = 0 then
      (mX4_removeLast u1.2).bind fun u4 =>
      some (1, u4)
    else
    if (fI u1.2 7) = 1 then
      (mX8_removeLast (fI u1.2 8) u1.2).bind fun u6 =>
      some (1, u6)
    else
    if (fI u1.2 7) = 2 then
      (wr (fA u1.2 5) 1200 (fI u1.2 8) (fI u1.2 9)).bind fun g8 =>
      some (1, (sA u1.2 5 g8))
    else
    if (fI u1.2 7) = 3 then
      (wr (fA u1.2 1) 20 (fI u1.2 8) (fI u1.2 9)).bind fun g10 =>
      some (1, (sA u1.2 1 g10))
    else
    if (fI u1.2 7) = 4 then
      (wr (fA u1.2 2) 20 (fI u1.2 8) (fI u1.2 9)).bind fun g12 =>
      some (1, (sA u1.2 2 g12))
    else
    if (fI u1.2 7) = 5 then
      (mX6_removeLast u1.2).bind fun u14 =>
      some (1, u14)
    else
      (wr (fA u1.2 13) 200 (fI u1.2 8) (fI u1.2 9)).bind fun g15 =>
      some (1, (sA u1.2 13 g15))
set_option maxHeartbeats 4000000 in
set_option maxRecDepth 100000 in
theorem bX9_undo {p : Program} {l : Launch} {e : Env} {s : State} {m : MethodId} {args : Array Value} {below : List Frame} {meth : Method} {c : Code} {D : va_G} {cA : ClassId} {ad : Nat → Nat} {A : Nat → Prop} {H : Heap} {locs : List Loc} {ls : Array Slot} {q : (Int32 × St)} {S : St} (C0 : sd_Cx RX9 cX9_undo 1 (some .boolean) (Cond.code yX9_undo cX9_undo 1 (some .boolean) :: sd_big) p s m args meth c) (h : sd_Wd D vwCl cA sd_nw (wX ad cA) A s S H locs) (hl : lv_has ls 1 [(0, .ref (ad 0))])  (hm : mX9_undo S = some q) : W p l e rX9_undo s m args below meth c H locs 0 0 (MQ below (sd_Qi D vwCl (wX ad cA) A q) args s 0 0 A) (F0 m 0 ls []) := by
  unfold mX9_undo at hm
  have hx := C0.1
  have hb := C0.2.1
  refine lv_aload_n hx hb dX9_undo_0 rfl (lv_at hl 0 rfl) ?_
  refine sd_get C0 h (C := RX9) (T := TX9) (N := 8) kcX9 0 (aX_0 ad cA _) rfl 2 (by decide) kfX9_22 (v := .ref (ad 43)) rfl dX9_undo_1 ?_
  obtain ⟨u1, hu1, hm⟩ := bs hm
  refine sd_Vi C0 h kYX0_takeLatest kmX9_278 43 (aX_43 ad cA _) rfl [] (tX0_takeLatest l D cA ad hu1) rfl hl.1 rfl (Nat.le_of_ble_eq_true rfl) (by decide) dX9_undo_4 (by decide) (fun H locs h => ?_)
  refine lv_if_ne (tgt := 12) hx hb dX9_undo_7 (by decide) (fun c2 => ?_) (fun c2 => ?_)
  · replace hm := iq c2 hm
    refine lv_aload_n hx hb dX9_undo_12 rfl (lv_at hl 0 rfl) ?_
    refine sd_get C0 h (C := RX9) (T := TX9) (N := 8) kcX9 0 (aX_0 ad cA _) rfl 2 (by decide) kfX9_22 (v := .ref (ad 43)) rfl dX9_undo_13 ?_
    refine sd_get C0 h (C := RX0) (T := TX0) (N := 8) kcX0 43 (aX_43 ad cA _) rfl 5 (by decide) kfX9_282 (v := .int (fI u1.2 7)) rfl dX9_undo_16 ?_
    by_cases c3 : (fI u1.2 7) = 0
    · replace hm := ip c3 hm
      refine lv_tableIn (off := 37) (tgt := 56) hx hb dX9_undo_19 (by rw [c3]; decide) (by rw [c3]; decide) (by rw [c3]; rfl) (by decide) ?_
      refine lv_aload_n hx hb dX9_undo_56 rfl (lv_at hl 0 rfl) ?_
      refine sd_get C0 h (C := RX9) (T := TX9) (N := 8) kcX9 0 (aX_0 ad cA _) rfl 0 (by decide) kfX9_10 (v := .ref (ad 1)) rfl dX9_undo_57 ?_
      refine sd_get C0 h (C := RX7) (T := TX7) (N := 4) kcX7 1 (aX_1 ad cA _) rfl 0 (by decide) kfX9_69 (v := .ref (ad 2)) rfl dX9_undo_60 ?_
      obtain ⟨u4, hu4, hm⟩ := bs hm
      refine sd_Vv C0 h kYX4_removeLast kmX9_285 2 (aX_2 ad cA _) rfl [] (tX4_removeLast l D cA ad hu4) rfl hl.1 rfl (Nat.le_of_ble_eq_true rfl) (by decide) dX9_undo_63 (by decide) (fun H locs h => ?_)
      refine lv_goto (tgt := 211) hx hb dX9_undo_66 (by decide) ?_
      refine lv_iconst (v := 1) hx hb dX9_undo_211 (by decide) ?_
      exact sd_zret C0 h (Option.some.inj hm) rfl dX9_undo_212
    · replace hm := iq c3 hm
      by_cases c5 : (fI u1.2 7) = 1
      · replace hm := ip c5 hm
        refine lv_tableIn (off := 50) (tgt := 69) hx hb dX9_undo_19 (by rw [c5]; decide) (by rw [c5]; decide) (by rw [c5]; rfl) (by decide) ?_
        refine lv_aload_n hx hb dX9_undo_69 rfl (lv_at hl 0 rfl) ?_
        refine sd_get C0 h (C := RX9) (T := TX9) (N := 8) kcX9 0 (aX_0 ad cA _) rfl 0 (by decide) kfX9_10 (v := .ref (ad 1)) rfl dX9_undo_70 ?_
        refine sd_get C0 h (C := RX7) (T := TX7) (N := 4) kcX7 1 (aX_1 ad cA _) rfl 1 (by decide) kfX9_93 (v := .ref (ad 6)) rfl dX9_undo_73 ?_
        refine lv_aload_n hx hb dX9_undo_76 rfl (lv_at hl 0 rfl) ?_
        refine sd_get C0 h (C := RX9) (T := TX9) (N := 8) kcX9 0 (aX_0 ad cA _) rfl 2 (by decide) kfX9_22 (v := .ref (ad 43)) rfl dX9_undo_77 ?_
        refine sd_get C0 h (C := RX0) (T := TX0) (N := 8) kcX0 43 (aX_43 ad cA _) rfl 6 (by decide) kfX9_288 (v := .int (fI u1.2 8)) rfl dX9_undo_80 ?_
        obtain ⟨u6, hu6, hm⟩ := bs hm
        refine sd_Vv C0 h kYX8_removeLast kmX9_291 6 (aX_6 ad cA _) rfl [.int (fI u1.2 8)] (tX8_removeLast l D cA ad hu6) rfl hl.1 rfl (Nat.le_of_ble_eq_true rfl) (by decide) dX9_undo_83 (by decide) (fun H locs h => ?_)
        refine lv_goto (tgt := 211) hx hb dX9_undo_86 (by decide) ?_
        refine lv_iconst (v := 1) hx hb dX9_undo_211 (by decide) ?_
        exact sd_zret C0 h (Option.some.inj hm) rfl dX9_undo_212
      · replace hm := iq c5 hm
        by_cases c7 : (fI u1.2 7) = 2
        · replace hm := ip c7 hm
          refine lv_tableIn (off := 70) (tgt := 89) hx hb dX9_undo_19 (by rw [c7]; decide) (by rw [c7]; decide) (by rw [c7]; rfl) (by decide) ?_
          refine lv_aload_n hx hb dX9_undo_89 rfl (lv_at hl 0 rfl) ?_
          refine sd_get C0 h (C := RX9) (T := TX9) (N := 8) kcX9 0 (aX_0 ad cA _) rfl 0 (by decide) kfX9_10 (v := .ref (ad 1)) rfl dX9_undo_90 ?_
          refine sd_get C0 h (C := RX7) (T := TX7) (N := 4) kcX7 1 (aX_1 ad cA _) rfl 1 (by decide) kfX9_93 (v := .ref (ad 6)) rfl dX9_undo_93 ?_
          refine sd_get C0 h (C := RX8) (T := TX8) (N := 5) kcX8 6 (aX_6 ad cA _) rfl 2 (by decide) kfX9_102 (v := .ref (ad 9)) rfl dX9_undo_96 ?_
          refine lv_aload_n hx hb dX9_undo_99 rfl (lv_at hl 0 rfl) ?_
          refine sd_get C0 h (C := RX9) (T := TX9) (N := 8) kcX9 0 (aX_0 ad cA _) rfl 2 (by decide) kfX9_22 (v := .ref (ad 43)) rfl dX9_undo_100 ?_
          refine sd_get C0 h (C := RX0) (T := TX0) (N := 8) kcX0 43 (aX_43 ad cA _) rfl 6 (by decide) kfX9_288 (v := .int (fI u1.2 8)) rfl dX9_undo_103 ?_
          refine lv_aload_n hx hb dX9_undo_106 rfl (lv_at hl 0 rfl) ?_
          refine sd_get C0 h (C := RX9) (T := TX9) (N := 8) kcX9 0 (aX_0 ad cA _) rfl 2 (by decide) kfX9_22 (v := .ref (ad 43)) rfl dX9_undo_107 ?_
          refine sd_get C0 h (C := RX0) (T := TX0) (N := 8) kcX0 43 (aX_43 ad cA _) rfl 7 (by decide) kfX9_293 (v := .int (fI u1.2 9)) rfl dX9_undo_110 ?_
          obtain ⟨g8, hg8, hm⟩ := bs hm
          refine sd_wr C0 h (S1 := (sA u1.2 5 g8)) 9 (aX_9 ad cA _) hg8 (eX_9 ad cA _ _) dX9_undo_113 (fun H locs h => ?_)
          refine lv_goto (tgt := 211) hx hb dX9_undo_114 (by decide) ?_
          refine lv_iconst (v := 1) hx hb dX9_undo_211 (by decide) ?_
          exact sd_zret C0 h (Option.some.inj hm) rfl dX9_undo_212
        · replace hm := iq c7 hm
          by_cases c9 : (fI u1.2 7) = 3
          · replace hm := ip c9 hm
            refine lv_tableIn (off := 98) (tgt := 117) hx hb dX9_undo_19 (by rw [c9]; decide) (by rw [c9]; decide) (by rw [c9]; rfl) (by decide) ?_
            refine lv_aload_n hx hb dX9_undo_117 rfl (lv_at hl 0 rfl) ?_
            refine sd_get C0 h (C := RX9) (T := TX9) (N := 8) kcX9 0 (aX_0 ad cA _) rfl 0 (by decide) kfX9_10 (v := .ref (ad 1)) rfl dX9_undo_118 ?_
            refine sd_get C0 h (C := RX7) (T := TX7) (N := 4) kcX7 1 (aX_1 ad cA _) rfl 0 (by decide) kfX9_69 (v := .ref (ad 2)) rfl dX9_undo_121 ?_
            refine sd_get C0 h (C := RX4) (T := TX4) (N := 4) kcX4 2 (aX_2 ad cA _) rfl 1 (by decide) kfX9_113 (v := .ref (ad 4)) rfl dX9_undo_124 ?_
            refine lv_aload_n hx hb dX9_undo_127 rfl (lv_at hl 0 rfl) ?_
            refine sd_get C0 h (C := RX9) (T := TX9) (N := 8) kcX9 0 (aX_0 ad cA _) rfl 2 (by decide) kfX9_22 (v := .ref (ad 43)) rfl dX9_undo_128 ?_
            refine sd_get C0 h (C := RX0) (T := TX0) (N := 8) kcX0 43 (aX_43 ad cA _) rfl 6 (by decide) kfX9_288 (v := .int (fI u1.2 8)) rfl dX9_undo_131 ?_
            refine lv_aload_n hx hb dX9_undo_134 rfl (lv_at hl 0 rfl) ?_
            refine sd_get C0 h (C := RX9) (T := TX9) (N := 8) kcX9 0 (aX_0 ad cA _) rfl 2 (by decide) kfX9_22 (v := .ref (ad 43)) rfl dX9_undo_135 ?_
            refine sd_get C0 h (C := RX0) (T := TX0) (N := 8) kcX0 43 (aX_43 ad cA _) rfl 7 (by decide) kfX9_293 (v := .int (fI u1.2 9)) rfl dX9_undo_138 ?_
            obtain ⟨g10, hg10, hm⟩ := bs hm
            refine sd_wr C0 h (S1 := (sA u1.2 1 g10)) 4 (aX_4 ad cA _) hg10 (eX_4 ad cA _ _) dX9_undo_141 (fun H locs h => ?_)
            refine lv_goto (tgt := 211) hx hb dX9_undo_142 (by decide) ?_
            refine lv_iconst (v := 1) hx hb dX9_undo_211 (by decide) ?_
            exact sd_zret C0 h (Option.some.inj hm) rfl dX9_undo_212
          · replace hm := iq c9 hm
            by_cases c11 : (fI u1.2 7) = 4
            · replace hm := ip c11 hm
              refine lv_tableIn (off := 126) (tgt := 145) hx hb dX9_undo_19 (by rw [c11]; decide) (by rw [c11]; decide) (by rw [c11]; rfl) (by decide) ?_
              refine lv_aload_n hx hb dX9_undo_145 rfl (lv_at hl 0 rfl) ?_
              refine sd_get C0 h (C := RX9) (T := TX9) (N := 8) kcX9 0 (aX_0 ad cA _) rfl 0 (by decide) kfX9_10 (v := .ref (ad 1)) rfl dX9_undo_146 ?_
              refine sd_get C0 h (C := RX7) (T := TX7) (N := 4) kcX7 1 (aX_1 ad cA _) rfl 0 (by decide) kfX9_69 (v := .ref (ad 2)) rfl dX9_undo_149 ?_
              refine sd_get C0 h (C := RX4) (T := TX4) (N := 4) kcX4 2 (aX_2 ad cA _) rfl 2 (by decide) kfX9_116 (v := .ref (ad 5)) rfl dX9_undo_152 ?_
              refine lv_aload_n hx hb dX9_undo_155 rfl (lv_at hl 0 rfl) ?_
              refine sd_get C0 h (C := RX9) (T := TX9) (N := 8) kcX9 0 (aX_0 ad cA _) rfl 2 (by decide) kfX9_22 (v := .ref (ad 43)) rfl dX9_undo_156 ?_
              refine sd_get C0 h (C := RX0) (T := TX0) (N := 8) kcX0 43 (aX_43 ad cA _) rfl 6 (by decide) kfX9_288 (v := .int (fI u1.2 8)) rfl dX9_undo_159 ?_
              refine lv_aload_n hx hb dX9_undo_162 rfl (lv_at hl 0 rfl) ?_
              refine sd_get C0 h (C := RX9) (T := TX9) (N := 8) kcX9 0 (aX_0 ad cA _) rfl 2 (by decide) kfX9_22 (v := .ref (ad 43)) rfl dX9_undo_163 ?_
              refine sd_get C0 h (C := RX0) (T := TX0) (N := 8) kcX0 43 (aX_43 ad cA _) rfl 7 (by decide) kfX9_293 (v := .int (fI u1.2 9)) rfl dX9_undo_166 ?_
              obtain ⟨g12, hg12, hm⟩ := bs hm
              refine sd_wr C0 h (S1 := (sA u1.2 2 g12)) 5 (aX_5 ad cA _) hg12 (eX_5 ad cA _ _) dX9_undo_169 (fun H locs h => ?_)
              refine lv_goto (tgt := 211) hx hb dX9_undo_170 (by decide) ?_
              refine lv_iconst (v := 1) hx hb dX9_undo_211 (by decide) ?_
              exact sd_zret C0 h (Option.some.inj hm) rfl dX9_undo_212
            · replace hm := iq c11 hm
              by_cases c13 : (fI u1.2 7) = 5
              · replace hm := ip c13 hm
                refine lv_tableIn (off := 154) (tgt := 173) hx hb dX9_undo_19 (by rw [c13]; decide) (by rw [c13]; decide) (by rw [c13]; rfl) (by decide) ?_
                refine lv_aload_n hx hb dX9_undo_173 rfl (lv_at hl 0 rfl) ?_
                refine sd_get C0 h (C := RX9) (T := TX9) (N := 8) kcX9 0 (aX_0 ad cA _) rfl 0 (by decide) kfX9_10 (v := .ref (ad 1)) rfl dX9_undo_174 ?_
                refine sd_get C0 h (C := RX7) (T := TX7) (N := 4) kcX7 1 (aX_1 ad cA _) rfl 2 (by decide) kfX9_131 (v := .ref (ad 10)) rfl dX9_undo_177 ?_
                obtain ⟨u14, hu14, hm⟩ := bs hm
                refine sd_Vv C0 h kYX6_removeLast kmX9_296 10 (aX_10 ad cA _) rfl [] (tX6_removeLast l D cA ad hu14) rfl hl.1 rfl (Nat.le_of_ble_eq_true rfl) (by decide) dX9_undo_180 (by decide) (fun H locs h => ?_)
                refine lv_goto (tgt := 211) hx hb dX9_undo_183 (by decide) ?_
                refine lv_iconst (v := 1) hx hb dX9_undo_211 (by decide) ?_
                exact sd_zret C0 h (Option.some.inj hm) rfl dX9_undo_212
              · replace hm := iq c13 hm
                have c3 := lv_neT c3 (a := 0) (by decide)
                have c5 := lv_neT c5 (a := 1) (by decide)
                have c7 := lv_neT c7 (a := 2) (by decide)
                have c9 := lv_neT c9 (a := 3) (by decide)
                have c11 := lv_neT c11 (a := 4) (by decide)
                have c13 := lv_neT c13 (a := 5) (by decide)
                refine lv_tableOut (tgt := 186) hx hb dX9_undo_19 (by omega) (by decide) ?_
                refine lv_aload_n hx hb dX9_undo_186 rfl (lv_at hl 0 rfl) ?_
                refine sd_get C0 h (C := RX9) (T := TX9) (N := 8) kcX9 0 (aX_0 ad cA _) rfl 0 (by decide) kfX9_10 (v := .ref (ad 1)) rfl dX9_undo_187 ?_
                refine sd_get C0 h (C := RX7) (T := TX7) (N := 4) kcX7 1 (aX_1 ad cA _) rfl 2 (by decide) kfX9_131 (v := .ref (ad 10)) rfl dX9_undo_190 ?_
                refine sd_get C0 h (C := RX6) (T := TX6) (N := 11) kcX6 10 (aX_10 ad cA _) rfl 7 (by decide) kfX9_149 (v := .ref (ad 18)) rfl dX9_undo_193 ?_
                refine lv_aload_n hx hb dX9_undo_196 rfl (lv_at hl 0 rfl) ?_
                refine sd_get C0 h (C := RX9) (T := TX9) (N := 8) kcX9 0 (aX_0 ad cA _) rfl 2 (by decide) kfX9_22 (v := .ref (ad 43)) rfl dX9_undo_197 ?_
                refine sd_get C0 h (C := RX0) (T := TX0) (N := 8) kcX0 43 (aX_43 ad cA _) rfl 6 (by decide) kfX9_288 (v := .int (fI u1.2 8)) rfl dX9_undo_200 ?_
                refine lv_aload_n hx hb dX9_undo_203 rfl (lv_at hl 0 rfl) ?_
                refine sd_get C0 h (C := RX9) (T := TX9) (N := 8) kcX9 0 (aX_0 ad cA _) rfl 2 (by decide) kfX9_22 (v := .ref (ad 43)) rfl dX9_undo_204 ?_
                refine sd_get C0 h (C := RX0) (T := TX0) (N := 8) kcX0 43 (aX_43 ad cA _) rfl 7 (by decide) kfX9_293 (v := .int (fI u1.2 9)) rfl dX9_undo_207 ?_
                obtain ⟨g15, hg15, hm⟩ := bs hm
                refine sd_wr C0 h (S1 := (sA u1.2 13 g15)) 18 (aX_18 ad cA _) hg15 (eX_18 ad cA _ _) dX9_undo_210 (fun H locs h => ?_)
                refine lv_iconst (v := 1) hx hb dX9_undo_211 (by decide) ?_
                exact sd_zret C0 h (Option.some.inj hm) rfl dX9_undo_212
  · replace hm := ip c2 hm
    refine lv_iconst (v := 0) hx hb dX9_undo_10 (by decide) ?_
    exact sd_zret C0 h (Option.some.inj hm) rfl dX9_undo_11
theorem tX9_undo (l : Launch) (D : va_G) (cA : ClassId) (ad : Nat → Nat) {S : St}  {q : (Int32 × St)} (hm : mX9_undo S = some q) : sd_MI l D vwCl cA sd_nw (wX ad cA) yX9_undo (Cond.code yX9_undo cX9_undo 1 (some .boolean) :: sd_big) rX9_undo [.ref (ad 0)] S q :=
  sd_ofI (by decide +kernel) (Nat.le_of_ble_eq_true rfl) (fun _ _ _ _ _ _ _ _ _ _ C0 h hl => bX9_undo C0 h (lv_sub hl [0] rfl) hm)

def rX4_copyFrom_X23 : Room := { frames := 1, cells := 0, slots := 0, locals := 40 }
def mX4_copyFrom_X23 (S : St) : Option St :=
  (cp (fA (sI S 3 (fI S 1)) 0) 20 0 (fA (sI S 3 (fI S 1)) 17) 20 0 20).bind fun g1 =>
  (cp (fA (sA (sI S 3 (fI S 1)) 17 g1) 1) 20 0 (fA (sA (sI S 3 (fI S 1)) 17 g1) 18) 20 0 20).bind fun g2 =>
  (cp (fA (sA (sA (sI S 3 (fI S 1)) 17 g1) 18 g2) 2) 20 0 (fA (sA (sA (sI S 3 (fI S 1)) 17 g1) 18 g2) 19) 20 0 20).bind fun g3 =>
  some (sA (sA (sA (sI S 3 (fI S 1)) 17 g1) 18 g2) 19 g3)
set_option maxHeartbeats 4000000 in
set_option maxRecDepth 100000 in
theorem bX4_copyFrom_X23 {p : Program} {l : Launch} {e : Env} {s : State} {m : MethodId} {args : Array Value} {below : List Frame} {meth : Method} {c : Code} {D : va_G} {cA : ClassId} {ad : Nat → Nat} {A : Nat → Prop} {H : Heap} {locs : List Loc} {ls : Array Slot} {q : St} {S : St} (C0 : sd_Cx RX4 cX4_copyFrom 2 none (Cond.code yX4_copyFrom cX4_copyFrom 2 none :: sd_big) p s m args meth c) (h : sd_Wd D vwCl cA sd_nw (wX ad cA) A s S H locs) (hl : lv_has ls 2 [(0, .ref (ad 23)), (1, .ref (ad 2))])  (hm : mX4_copyFrom_X23 S = some q) : W p l e rX4_copyFrom_X23 s m args below meth c H locs 0 0 (MQ below (sd_Qv D vwCl (wX ad cA) A q) args s 0 0 A) (F0 m 0 ls []) := by
  unfold mX4_copyFrom_X23 at hm
  have hx := C0.1
  have hb := C0.2.1
  refine lv_aload_n hx hb dX4_copyFrom_0 rfl (lv_at hl 0 rfl) ?_
  refine lv_aload_n hx hb dX4_copyFrom_1 rfl (lv_at hl 1 rfl) ?_
  refine sd_get C0 h (C := RX4) (T := TX4) (N := 4) kcX4 2 (aX_2 ad cA _) rfl 3 (by decide) kfX4_21 (v := .int (fI S 1)) rfl dX4_copyFrom_2 ?_
  refine sd_put C0 h (C := RX4) (T := TX4) (N := 4) (S1 := (sI S 3 (fI S 1))) kcX4 tyX4 tyX4_ok nmX4 23 (aX_23 ad cA _) rfl 3 (by decide) kfX4_21 rfl (ty := .int) (by decide +kernel) rfl rfl (Nat.le_of_ble_eq_true rfl) (eX_23_3 ad cA _ _) dX4_copyFrom_5 (fun H locs h => ?_)
  refine lv_aload_n hx hb dX4_copyFrom_8 rfl (lv_at hl 1 rfl) ?_
  refine sd_get C0 h (C := RX4) (T := TX4) (N := 4) kcX4 2 (aX_2 ad cA _) rfl 0 (by decide) kfX4_9 (v := .ref (ad 3)) rfl dX4_copyFrom_9 ?_
  refine lv_iconst (v := 0) hx hb dX4_copyFrom_12 (by decide) ?_
  refine lv_aload_n hx hb dX4_copyFrom_13 rfl (lv_at hl 0 rfl) ?_
  refine sd_get C0 h (C := RX4) (T := TX4) (N := 4) kcX4 23 (aX_23 ad cA _) rfl 0 (by decide) kfX4_9 (v := .ref (ad 24)) rfl dX4_copyFrom_14 ?_
  refine lv_iconst (v := 0) hx hb dX4_copyFrom_17 (by decide) ?_
  refine lv_bipush (v := 20) hx hb dX4_copyFrom_18 (by decide) ?_
  obtain ⟨g1, hg1, hm⟩ := bs hm
  refine sd_cp C0 h (S1 := (sA (sI S 3 (fI S 1)) 17 g1)) hl.1 kmX4_31 3 24 (aX_3 ad cA _) (aX_24 ad cA _) hg1 (eX_24 ad cA _ _) (by decide) (Nat.le_of_ble_eq_true rfl) dX4_copyFrom_20 (fun H locs h => ?_)
  refine lv_aload_n hx hb dX4_copyFrom_23 rfl (lv_at hl 1 rfl) ?_
  refine sd_get C0 h (C := RX4) (T := TX4) (N := 4) kcX4 2 (aX_2 ad cA _) rfl 1 (by decide) kfX4_15 (v := .ref (ad 4)) rfl dX4_copyFrom_24 ?_
  refine lv_iconst (v := 0) hx hb dX4_copyFrom_27 (by decide) ?_
  refine lv_aload_n hx hb dX4_copyFrom_28 rfl (lv_at hl 0 rfl) ?_
  refine sd_get C0 h (C := RX4) (T := TX4) (N := 4) kcX4 23 (aX_23 ad cA _) rfl 1 (by decide) kfX4_15 (v := .ref (ad 25)) rfl dX4_copyFrom_29 ?_
  refine lv_iconst (v := 0) hx hb dX4_copyFrom_32 (by decide) ?_
  refine lv_bipush (v := 20) hx hb dX4_copyFrom_33 (by decide) ?_
  obtain ⟨g2, hg2, hm⟩ := bs hm
  refine sd_cp C0 h (S1 := (sA (sA (sI S 3 (fI S 1)) 17 g1) 18 g2)) hl.1 kmX4_31 4 25 (aX_4 ad cA _) (aX_25 ad cA _) hg2 (eX_25 ad cA _ _) (by decide) (Nat.le_of_ble_eq_true rfl) dX4_copyFrom_35 (fun H locs h => ?_)
  refine lv_aload_n hx hb dX4_copyFrom_38 rfl (lv_at hl 1 rfl) ?_
  refine sd_get C0 h (C := RX4) (T := TX4) (N := 4) kcX4 2 (aX_2 ad cA _) rfl 2 (by decide) kfX4_18 (v := .ref (ad 5)) rfl dX4_copyFrom_39 ?_
  refine lv_iconst (v := 0) hx hb dX4_copyFrom_42 (by decide) ?_
  refine lv_aload_n hx hb dX4_copyFrom_43 rfl (lv_at hl 0 rfl) ?_
  refine sd_get C0 h (C := RX4) (T := TX4) (N := 4) kcX4 23 (aX_23 ad cA _) rfl 2 (by decide) kfX4_18 (v := .ref (ad 26)) rfl dX4_copyFrom_44 ?_
  refine lv_iconst (v := 0) hx hb dX4_copyFrom_47 (by decide) ?_
  refine lv_bipush (v := 20) hx hb dX4_copyFrom_48 (by decide) ?_
  obtain ⟨g3, hg3, hm⟩ := bs hm
  refine sd_cp C0 h (S1 := (sA (sA (sA (sI S 3 (fI S 1)) 17 g1) 18 g2) 19 g3)) hl.1 kmX4_31 5 26 (aX_5 ad cA _) (aX_26 ad cA _) hg3 (eX_26 ad cA _ _) (by decide) (Nat.le_of_ble_eq_true rfl) dX4_copyFrom_50 (fun H locs h => ?_)
  exact sd_vret C0 h (Option.some.inj hm) dX4_copyFrom_53
theorem tX4_copyFrom_X23 (l : Launch) (D : va_G) (cA : ClassId) (ad : Nat → Nat) {S : St}  {q : St} (hm : mX4_copyFrom_X23 S = some q) : sd_MV l D vwCl cA sd_nw (wX ad cA) yX4_copyFrom (Cond.code yX4_copyFrom cX4_copyFrom 2 none :: sd_big) rX4_copyFrom_X23 [.ref (ad 23), .ref (ad 2)] S q :=
  sd_ofV (by decide +kernel) (Nat.le_of_ble_eq_true rfl) (fun _ _ _ _ _ _ _ _ _ _ C0 h hl => bX4_copyFrom_X23 C0 h (lv_sub hl [0, 1] rfl) hm)

def rX8_copyFrom_X27 : Room := { frames := 1, cells := 0, slots := 0, locals := 40 }
def mX8_copyFrom_X27 (S : St) : Option St :=
  (cp (fA S 3) 100 0 (fA S 20) 100 0 100).bind fun g1 =>
  (cp (fA (sA S 20 g1) 4) 1200 0 (fA (sA S 20 g1) 21) 1200 0 1200).bind fun g2 =>
  (cp (fA (sA (sA S 20 g1) 21 g2) 5) 1200 0 (fA (sA (sA S 20 g1) 21 g2) 22) 1200 0 1200).bind fun g3 =>
  some (sA (sA (sA S 20 g1) 21 g2) 22 g3)
set_option maxHeartbeats 4000000 in
set_option maxRecDepth 100000 in
theorem bX8_copyFrom_X27 {p : Program} {l : Launch} {e : Env} {s : State} {m : MethodId} {args : Array Value} {below : List Frame} {meth : Method} {c : Code} {D : va_G} {cA : ClassId} {ad : Nat → Nat} {A : Nat → Prop} {H : Heap} {locs : List Loc} {ls : Array Slot} {q : St} {S : St} (C0 : sd_Cx RX8 cX8_copyFrom 2 none (Cond.code yX8_copyFrom cX8_copyFrom 2 none :: sd_big) p s m args meth c) (h : sd_Wd D vwCl cA sd_nw (wX ad cA) A s S H locs) (hl : lv_has ls 2 [(0, .ref (ad 27)), (1, .ref (ad 6))])  (hm : mX8_copyFrom_X27 S = some q) : W p l e rX8_copyFrom_X27 s m args below meth c H locs 0 0 (MQ below (sd_Qv D vwCl (wX ad cA) A q) args s 0 0 A) (F0 m 0 ls []) := by
  unfold mX8_copyFrom_X27 at hm
  have hx := C0.1
  have hb := C0.2.1
  refine lv_aload_n hx hb dX8_copyFrom_0 rfl (lv_at hl 1 rfl) ?_
  refine sd_get C0 h (C := RX8) (T := TX8) (N := 5) kcX8 6 (aX_6 ad cA _) rfl 0 (by decide) kfX8_9 (v := .ref (ad 7)) rfl dX8_copyFrom_1 ?_
  refine lv_iconst (v := 0) hx hb dX8_copyFrom_4 (by decide) ?_
  refine lv_aload_n hx hb dX8_copyFrom_5 rfl (lv_at hl 0 rfl) ?_
  refine sd_get C0 h (C := RX8) (T := TX8) (N := 5) kcX8 27 (aX_27 ad cA _) rfl 0 (by decide) kfX8_9 (v := .ref (ad 28)) rfl dX8_copyFrom_6 ?_
  refine lv_iconst (v := 0) hx hb dX8_copyFrom_9 (by decide) ?_
  refine lv_bipush (v := 100) hx hb dX8_copyFrom_10 (by decide) ?_
  obtain ⟨g1, hg1, hm⟩ := bs hm
  refine sd_cp C0 h (S1 := (sA S 20 g1)) hl.1 kmX8_34 7 28 (aX_7 ad cA _) (aX_28 ad cA _) hg1 (eX_28 ad cA _ _) (by decide) (Nat.le_of_ble_eq_true rfl) dX8_copyFrom_12 (fun H locs h => ?_)
  refine lv_aload_n hx hb dX8_copyFrom_15 rfl (lv_at hl 1 rfl) ?_
  refine sd_get C0 h (C := RX8) (T := TX8) (N := 5) kcX8 6 (aX_6 ad cA _) rfl 1 (by decide) kfX8_15 (v := .ref (ad 8)) rfl dX8_copyFrom_16 ?_
  refine lv_iconst (v := 0) hx hb dX8_copyFrom_19 (by decide) ?_
  refine lv_aload_n hx hb dX8_copyFrom_20 rfl (lv_at hl 0 rfl) ?_
  refine sd_get C0 h (C := RX8) (T := TX8) (N := 5) kcX8 27 (aX_27 ad cA _) rfl 1 (by decide) kfX8_15 (v := .ref (ad 29)) rfl dX8_copyFrom_21 ?_
  refine lv_iconst (v := 0) hx hb dX8_copyFrom_24 (by decide) ?_
  refine lv_sipush (v := 1200) hx hb dX8_copyFrom_25 (by decide) ?_
  obtain ⟨g2, hg2, hm⟩ := bs hm
  refine sd_cp C0 h (S1 := (sA (sA S 20 g1) 21 g2)) hl.1 kmX8_34 8 29 (aX_8 ad cA _) (aX_29 ad cA _) hg2 (eX_29 ad cA _ _) (by decide) (Nat.le_of_ble_eq_true rfl) dX8_copyFrom_28 (fun H locs h => ?_)
  refine lv_aload_n hx hb dX8_copyFrom_31 rfl (lv_at hl 1 rfl) ?_
  refine sd_get C0 h (C := RX8) (T := TX8) (N := 5) kcX8 6 (aX_6 ad cA _) rfl 2 (by decide) kfX8_18 (v := .ref (ad 9)) rfl dX8_copyFrom_32 ?_
  refine lv_iconst (v := 0) hx hb dX8_copyFrom_35 (by decide) ?_
  refine lv_aload_n hx hb dX8_copyFrom_36 rfl (lv_at hl 0 rfl) ?_
  refine sd_get C0 h (C := RX8) (T := TX8) (N := 5) kcX8 27 (aX_27 ad cA _) rfl 2 (by decide) kfX8_18 (v := .ref (ad 30)) rfl dX8_copyFrom_37 ?_
  refine lv_iconst (v := 0) hx hb dX8_copyFrom_40 (by decide) ?_
  refine lv_sipush (v := 1200) hx hb dX8_copyFrom_41 (by decide) ?_
  obtain ⟨g3, hg3, hm⟩ := bs hm
  refine sd_cp C0 h (S1 := (sA (sA (sA S 20 g1) 21 g2) 22 g3)) hl.1 kmX8_34 9 30 (aX_9 ad cA _) (aX_30 ad cA _) hg3 (eX_30 ad cA _ _) (by decide) (Nat.le_of_ble_eq_true rfl) dX8_copyFrom_44 (fun H locs h => ?_)
  exact sd_vret C0 h (Option.some.inj hm) dX8_copyFrom_47
theorem tX8_copyFrom_X27 (l : Launch) (D : va_G) (cA : ClassId) (ad : Nat → Nat) {S : St}  {q : St} (hm : mX8_copyFrom_X27 S = some q) : sd_MV l D vwCl cA sd_nw (wX ad cA) yX8_copyFrom (Cond.code yX8_copyFrom cX8_copyFrom 2 none :: sd_big) rX8_copyFrom_X27 [.ref (ad 27), .ref (ad 6)] S q :=
  sd_ofV (by decide +kernel) (Nat.le_of_ble_eq_true rfl) (fun _ _ _ _ _ _ _ _ _ _ C0 h hl => bX8_copyFrom_X27 C0 h (lv_sub hl [0, 1] rfl) hm)

def rX6_copyFrom_X31 : Room := { frames := 1, cells := 0, slots := 0, locals := 40 }
def mX6_copyFrom_X31 (S : St) : Option St :=
  (cp (fA (sI S 4 (fI S 2)) 6) 200 0 (fA (sI S 4 (fI S 2)) 23) 200 0 200).bind fun g1 =>
  (cp (fA (sA (sI S 4 (fI S 2)) 23 g1) 7) 200 0 (fA (sA (sI S 4 (fI S 2)) 23 g1) 24) 200 0 200).bind fun g2 =>
  (cp (fA (sA (sA (sI S 4 (fI S 2)) 23 g1) 24 g2) 8) 200 0 (fA (sA (sA (sI S 4 (fI S 2)) 23 g1) 24 g2) 25) 200 0 200).bind fun g3 =>
  (cp (fA (sA (sA (sA (sI S 4 (fI S 2)) 23 g1) 24 g2) 25 g3) 9) 200 0 (fA (sA (sA (sA (sI S 4 (fI S 2)) 23 g1) 24 g2) 25 g3) 26) 200 0 200).bind fun g4 =>
  (cp (fA (sA (sA (sA (sA (sI S 4 (fI S 2)) 23 g1) 24 g2) 25 g3) 26 g4) 10) 200 0 (fA (sA (sA (sA (sA (sI S 4 (fI S 2)) 23 g1) 24 g2) 25 g3) 26 g4) 27) 200 0 200).bind fun g5 =>
  (cp (fA (sA (sA (sA (sA (sA (sI S 4 (fI S 2)) 23 g1) 24 g2) 25 g3) 26 g4) 27 g5) 11) 200 0 (fA (sA (sA (sA (sA (sA (sI S 4 (fI S 2)) 23 g1) 24 g2) 25 g3) 26 g4) 27 g5) 28) 200 0 200).bind fun g6 =>
  (cp (fA (sA (sA (sA (sA (sA (sA (sI S 4 (fI S 2)) 23 g1) 24 g2) 25 g3) 26 g4) 27 g5) 28 g6) 12) 200 0 (fA (sA (sA (sA (sA (sA (sA (sI S 4 (fI S 2)) 23 g1) 24 g2) 25 g3) 26 g4) 27 g5) 28 g6) 29) 200 0 200).bind fun g7 =>
  (cp (fA (sA (sA (sA (sA (sA (sA (sA (sI S 4 (fI S 2)) 23 g1) 24 g2) 25 g3) 26 g4) 27 g5) 28 g6) 29 g7) 13) 200 0 (fA (sA (sA (sA (sA (sA (sA (sA (sI S 4 (fI S 2)) 23 g1) 24 g2) 25 g3) 26 g4) 27 g5) 28 g6) 29 g7) 30) 200 0 200).bind fun g8 =>
  (cp (fA (sA (sA (sA (sA (sA (sA (sA (sA (sI S 4 (fI S 2)) 23 g1) 24 g2) 25 g3) 26 g4) 27 g5) 28 g6) 29 g7) 30 g8) 14) 200 0 (fA (sA (sA (sA (sA (sA (sA (sA (sA (sI S 4 (fI S 2)) 23 g1) 24 g2) 25 g3) 26 g4) 27 g5) 28 g6) 29 g7) 30 g8) 31) 200 0 200).bind fun g9 =>
  (cp (fA (sA (sA (sA (sA (sA (sA (sA (sA (sA (sI S 4 (fI S 2)) 23 g1) 24 g2) 25 g3) 26 g4) 27 g5) 28 g6) 29 g7) 30 g8) 31 g9) 15) 200 0 (fA (sA (sA (sA (sA (sA (sA (sA (sA (sA (sI S 4 (fI S 2)) 23 g1) 24 g2) 25 g3) 26 g4) 27 g5) 28 g6) 29 g7) 30 g8) 31 g9) 32) 200 0 200).bind fun g10 =>
  some (sA (sA (sA (sA (sA (sA (sA (sA (sA (sA (sI S 4 (fI S 2)) 23 g1) 24 g2) 25 g3) 26 g4) 27 g5) 28 g6) 29 g7) 30 g8) 31 g9) 32 g10)
set_option maxHeartbeats 4000000 in
set_option maxRecDepth 100000 in
theorem bX6_copyFrom_X31 {p : Program} {l : Launch} {e : Env} {s : State} {m : MethodId} {args : Array Value} {below : List Frame} {meth : Method} {c : Code} {D : va_G} {cA : ClassId} {ad : Nat → Nat} {A : Nat → Prop} {H : Heap} {locs : List Loc} {ls : Array Slot} {q : St} {S : St} (C0 : sd_Cx RX6 cX6_copyFrom 2 none (Cond.code yX6_copyFrom cX6_copyFrom 2 none :: sd_big) p s m args meth c) (h : sd_Wd D vwCl cA sd_nw (wX ad cA) A s S H locs) (hl : lv_has ls 2 [(0, .ref (ad 31)), (1, .ref (ad 10))])  (hm : mX6_copyFrom_X31 S = some q) : W p l e rX6_copyFrom_X31 s m args below meth c H locs 0 0 (MQ below (sd_Qv D vwCl (wX ad cA) A q) args s 0 0 A) (F0 m 0 ls []) := by
  unfold mX6_copyFrom_X31 at hm
  have hx := C0.1
  have hb := C0.2.1
  refine lv_aload_n hx hb dX6_copyFrom_0 rfl (lv_at hl 0 rfl) ?_
  refine lv_aload_n hx hb dX6_copyFrom_1 rfl (lv_at hl 1 rfl) ?_
  refine sd_get C0 h (C := RX6) (T := TX6) (N := 11) kcX6 10 (aX_10 ad cA _) rfl 10 (by decide) kfX6_42 (v := .int (fI S 2)) rfl dX6_copyFrom_2 ?_
  refine sd_put C0 h (C := RX6) (T := TX6) (N := 11) (S1 := (sI S 4 (fI S 2))) kcX6 tyX6 tyX6_ok nmX6 31 (aX_31 ad cA _) rfl 10 (by decide) kfX6_42 rfl (ty := .int) (by decide +kernel) rfl rfl (Nat.le_of_ble_eq_true rfl) (eX_31_10 ad cA _ _) dX6_copyFrom_5 (fun H locs h => ?_)
  refine lv_aload_n hx hb dX6_copyFrom_8 rfl (lv_at hl 1 rfl) ?_
  refine sd_get C0 h (C := RX6) (T := TX6) (N := 11) kcX6 10 (aX_10 ad cA _) rfl 0 (by decide) kfX6_9 (v := .ref (ad 11)) rfl dX6_copyFrom_9 ?_
  refine lv_iconst (v := 0) hx hb dX6_copyFrom_12 (by decide) ?_
  refine lv_aload_n hx hb dX6_copyFrom_13 rfl (lv_at hl 0 rfl) ?_
  refine sd_get C0 h (C := RX6) (T := TX6) (N := 11) kcX6 31 (aX_31 ad cA _) rfl 0 (by decide) kfX6_9 (v := .ref (ad 32)) rfl dX6_copyFrom_14 ?_
  refine lv_iconst (v := 0) hx hb dX6_copyFrom_17 (by decide) ?_
  refine lv_sipush (v := 200) hx hb dX6_copyFrom_18 (by decide) ?_
  obtain ⟨g1, hg1, hm⟩ := bs hm
  refine sd_cp C0 h (S1 := (sA (sI S 4 (fI S 2)) 23 g1)) hl.1 kmX6_60 11 32 (aX_11 ad cA _) (aX_32 ad cA _) hg1 (eX_32 ad cA _ _) (by decide) (Nat.le_of_ble_eq_true rfl) dX6_copyFrom_21 (fun H locs h => ?_)
  refine lv_aload_n hx hb dX6_copyFrom_24 rfl (lv_at hl 1 rfl) ?_
  refine sd_get C0 h (C := RX6) (T := TX6) (N := 11) kcX6 10 (aX_10 ad cA _) rfl 1 (by decide) kfX6_15 (v := .ref (ad 12)) rfl dX6_copyFrom_25 ?_
  refine lv_iconst (v := 0) hx hb dX6_copyFrom_28 (by decide) ?_
  refine lv_aload_n hx hb dX6_copyFrom_29 rfl (lv_at hl 0 rfl) ?_
  refine sd_get C0 h (C := RX6) (T := TX6) (N := 11) kcX6 31 (aX_31 ad cA _) rfl 1 (by decide) kfX6_15 (v := .ref (ad 33)) rfl dX6_copyFrom_30 ?_
  refine lv_iconst (v := 0) hx hb dX6_copyFrom_33 (by decide) ?_
  refine lv_sipush (v := 200) hx hb dX6_copyFrom_34 (by decide) ?_
  obtain ⟨g2, hg2, hm⟩ := bs hm
  refine sd_cp C0 h (S1 := (sA (sA (sI S 4 (fI S 2)) 23 g1) 24 g2)) hl.1 kmX6_60 12 33 (aX_12 ad cA _) (aX_33 ad cA _) hg2 (eX_33 ad cA _ _) (by decide) (Nat.le_of_ble_eq_true rfl) dX6_copyFrom_37 (fun H locs h => ?_)
  refine lv_aload_n hx hb dX6_copyFrom_40 rfl (lv_at hl 1 rfl) ?_
  refine sd_get C0 h (C := RX6) (T := TX6) (N := 11) kcX6 10 (aX_10 ad cA _) rfl 2 (by decide) kfX6_18 (v := .ref (ad 13)) rfl dX6_copyFrom_41 ?_
  refine lv_iconst (v := 0) hx hb dX6_copyFrom_44 (by decide) ?_
  refine lv_aload_n hx hb dX6_copyFrom_45 rfl (lv_at hl 0 rfl) ?_
  refine sd_get C0 h (C := RX6) (T := TX6) (N := 11) kcX6 31 (aX_31 ad cA _) rfl 2 (by decide) kfX6_18 (v := .ref (ad 34)) rfl dX6_copyFrom_46 ?_
  refine lv_iconst (v := 0) hx hb dX6_copyFrom_49 (by decide) ?_
  refine lv_sipush (v := 200) hx hb dX6_copyFrom_50 (by decide) ?_
  obtain ⟨g3, hg3, hm⟩ := bs hm
  refine sd_cp C0 h (S1 := (sA (sA (sA (sI S 4 (fI S 2)) 23 g1) 24 g2) 25 g3)) hl.1 kmX6_60 13 34 (aX_13 ad cA _) (aX_34 ad cA _) hg3 (eX_34 ad cA _ _) (by decide) (Nat.le_of_ble_eq_true rfl) dX6_copyFrom_53 (fun H locs h => ?_)
  refine lv_aload_n hx hb dX6_copyFrom_56 rfl (lv_at hl 1 rfl) ?_
  refine sd_get C0 h (C := RX6) (T := TX6) (N := 11) kcX6 10 (aX_10 ad cA _) rfl 3 (by decide) kfX6_21 (v := .ref (ad 14)) rfl dX6_copyFrom_57 ?_
  refine lv_iconst (v := 0) hx hb dX6_copyFrom_60 (by decide) ?_
  refine lv_aload_n hx hb dX6_copyFrom_61 rfl (lv_at hl 0 rfl) ?_
  refine sd_get C0 h (C := RX6) (T := TX6) (N := 11) kcX6 31 (aX_31 ad cA _) rfl 3 (by decide) kfX6_21 (v := .ref (ad 35)) rfl dX6_copyFrom_62 ?_
  refine lv_iconst (v := 0) hx hb dX6_copyFrom_65 (by decide) ?_
  refine lv_sipush (v := 200) hx hb dX6_copyFrom_66 (by decide) ?_
  obtain ⟨g4, hg4, hm⟩ := bs hm
  refine sd_cp C0 h (S1 := (sA (sA (sA (sA (sI S 4 (fI S 2)) 23 g1) 24 g2) 25 g3) 26 g4)) hl.1 kmX6_60 14 35 (aX_14 ad cA _) (aX_35 ad cA _) hg4 (eX_35 ad cA _ _) (by decide) (Nat.le_of_ble_eq_true rfl) dX6_copyFrom_69 (fun H locs h => ?_)
  refine lv_aload_n hx hb dX6_copyFrom_72 rfl (lv_at hl 1 rfl) ?_
  refine sd_get C0 h (C := RX6) (T := TX6) (N := 11) kcX6 10 (aX_10 ad cA _) rfl 4 (by decide) kfX6_24 (v := .ref (ad 15)) rfl dX6_copyFrom_73 ?_
  refine lv_iconst (v := 0) hx hb dX6_copyFrom_76 (by decide) ?_
  refine lv_aload_n hx hb dX6_copyFrom_77 rfl (lv_at hl 0 rfl) ?_
  refine sd_get C0 h (C := RX6) (T := TX6) (N := 11) kcX6 31 (aX_31 ad cA _) rfl 4 (by decide) kfX6_24 (v := .ref (ad 36)) rfl dX6_copyFrom_78 ?_
  refine lv_iconst (v := 0) hx hb dX6_copyFrom_81 (by decide) ?_
  refine lv_sipush (v := 200) hx hb dX6_copyFrom_82 (by decide) ?_
  obtain ⟨g5, hg5, hm⟩ := bs hm
  refine sd_cp C0 h (S1 := (sA (sA (sA (sA (sA (sI S 4 (fI S 2)) 23 g1) 24 g2) 25 g3) 26 g4) 27 g5)) hl.1 kmX6_60 15 36 (aX_15 ad cA _) (aX_36 ad cA _) hg5 (eX_36 ad cA _ _) (by decide) (Nat.le_of_ble_eq_true rfl) dX6_copyFrom_85 (fun H locs h => ?_)
  refine lv_aload_n hx hb dX6_copyFrom_88 rfl (lv_at hl 1 rfl) ?_
  refine sd_get C0 h (C := RX6) (T := TX6) (N := 11) kcX6 10 (aX_10 ad cA _) rfl 5 (by decide) kfX6_27 (v := .ref (ad 16)) rfl dX6_copyFrom_89 ?_
  refine lv_iconst (v := 0) hx hb dX6_copyFrom_92 (by decide) ?_
  refine lv_aload_n hx hb dX6_copyFrom_93 rfl (lv_at hl 0 rfl) ?_
  refine sd_get C0 h (C := RX6) (T := TX6) (N := 11) kcX6 31 (aX_31 ad cA _) rfl 5 (by decide) kfX6_27 (v := .ref (ad 37)) rfl dX6_copyFrom_94 ?_
  refine lv_iconst (v := 0) hx hb dX6_copyFrom_97 (by decide) ?_
  refine lv_sipush (v := 200) hx hb dX6_copyFrom_98 (by decide) ?_
  obtain ⟨g6, hg6, hm⟩ := bs hm
  refine sd_cp C0 h (S1 := (sA (sA (sA (sA (sA (sA (sI S 4 (fI S 2)) 23 g1) 24 g2) 25 g3) 26 g4) 27 g5) 28 g6)) hl.1 kmX6_60 16 37 (aX_16 ad cA _) (aX_37 ad cA _) hg6 (eX_37 ad cA _ _) (by decide) (Nat.le_of_ble_eq_true rfl) dX6_copyFrom_101 (fun H locs h => ?_)
  refine lv_aload_n hx hb dX6_copyFrom_104 rfl (lv_at hl 1 rfl) ?_
  refine sd_get C0 h (C := RX6) (T := TX6) (N := 11) kcX6 10 (aX_10 ad cA _) rfl 6 (by decide) kfX6_30 (v := .ref (ad 17)) rfl dX6_copyFrom_105 ?_
  refine lv_iconst (v := 0) hx hb dX6_copyFrom_108 (by decide) ?_
  refine lv_aload_n hx hb dX6_copyFrom_109 rfl (lv_at hl 0 rfl) ?_
  refine sd_get C0 h (C := RX6) (T := TX6) (N := 11) kcX6 31 (aX_31 ad cA _) rfl 6 (by decide) kfX6_30 (v := .ref (ad 38)) rfl dX6_copyFrom_110 ?_
  refine lv_iconst (v := 0) hx hb dX6_copyFrom_113 (by decide) ?_
  refine lv_sipush (v := 200) hx hb dX6_copyFrom_114 (by decide) ?_
  obtain ⟨g7, hg7, hm⟩ := bs hm
  refine sd_cp C0 h (S1 := (sA (sA (sA (sA (sA (sA (sA (sI S 4 (fI S 2)) 23 g1) 24 g2) 25 g3) 26 g4) 27 g5) 28 g6) 29 g7)) hl.1 kmX6_60 17 38 (aX_17 ad cA _) (aX_38 ad cA _) hg7 (eX_38 ad cA _ _) (by decide) (Nat.le_of_ble_eq_true rfl) dX6_copyFrom_117 (fun H locs h => ?_)
  refine lv_aload_n hx hb dX6_copyFrom_120 rfl (lv_at hl 1 rfl) ?_
  refine sd_get C0 h (C := RX6) (T := TX6) (N := 11) kcX6 10 (aX_10 ad cA _) rfl 7 (by decide) kfX6_33 (v := .ref (ad 18)) rfl dX6_copyFrom_121 ?_
  refine lv_iconst (v := 0) hx hb dX6_copyFrom_124 (by decide) ?_
  refine lv_aload_n hx hb dX6_copyFrom_125 rfl (lv_at hl 0 rfl) ?_
  refine sd_get C0 h (C := RX6) (T := TX6) (N := 11) kcX6 31 (aX_31 ad cA _) rfl 7 (by decide) kfX6_33 (v := .ref (ad 39)) rfl dX6_copyFrom_126 ?_
  refine lv_iconst (v := 0) hx hb dX6_copyFrom_129 (by decide) ?_
  refine lv_sipush (v := 200) hx hb dX6_copyFrom_130 (by decide) ?_
  obtain ⟨g8, hg8, hm⟩ := bs hm
  refine sd_cp C0 h (S1 := (sA (sA (sA (sA (sA (sA (sA (sA (sI S 4 (fI S 2)) 23 g1) 24 g2) 25 g3) 26 g4) 27 g5) 28 g6) 29 g7) 30 g8)) hl.1 kmX6_60 18 39 (aX_18 ad cA _) (aX_39 ad cA _) hg8 (eX_39 ad cA _ _) (by decide) (Nat.le_of_ble_eq_true rfl) dX6_copyFrom_133 (fun H locs h => ?_)
  refine lv_aload_n hx hb dX6_copyFrom_136 rfl (lv_at hl 1 rfl) ?_
  refine sd_get C0 h (C := RX6) (T := TX6) (N := 11) kcX6 10 (aX_10 ad cA _) rfl 8 (by decide) kfX6_36 (v := .ref (ad 19)) rfl dX6_copyFrom_137 ?_
  refine lv_iconst (v := 0) hx hb dX6_copyFrom_140 (by decide) ?_
  refine lv_aload_n hx hb dX6_copyFrom_141 rfl (lv_at hl 0 rfl) ?_
  refine sd_get C0 h (C := RX6) (T := TX6) (N := 11) kcX6 31 (aX_31 ad cA _) rfl 8 (by decide) kfX6_36 (v := .ref (ad 40)) rfl dX6_copyFrom_142 ?_
  refine lv_iconst (v := 0) hx hb dX6_copyFrom_145 (by decide) ?_
  refine lv_sipush (v := 200) hx hb dX6_copyFrom_146 (by decide) ?_
  obtain ⟨g9, hg9, hm⟩ := bs hm
  refine sd_cp C0 h (S1 := (sA (sA (sA (sA (sA (sA (sA (sA (sA (sI S 4 (fI S 2)) 23 g1) 24 g2) 25 g3) 26 g4) 27 g5) 28 g6) 29 g7) 30 g8) 31 g9)) hl.1 kmX6_60 19 40 (aX_19 ad cA _) (aX_40 ad cA _) hg9 (eX_40 ad cA _ _) (by decide) (Nat.le_of_ble_eq_true rfl) dX6_copyFrom_149 (fun H locs h => ?_)
  refine lv_aload_n hx hb dX6_copyFrom_152 rfl (lv_at hl 1 rfl) ?_
  refine sd_get C0 h (C := RX6) (T := TX6) (N := 11) kcX6 10 (aX_10 ad cA _) rfl 9 (by decide) kfX6_39 (v := .ref (ad 20)) rfl dX6_copyFrom_153 ?_
  refine lv_iconst (v := 0) hx hb dX6_copyFrom_156 (by decide) ?_
  refine lv_aload_n hx hb dX6_copyFrom_157 rfl (lv_at hl 0 rfl) ?_
  refine sd_get C0 h (C := RX6) (T := TX6) (N := 11) kcX6 31 (aX_31 ad cA _) rfl 9 (by decide) kfX6_39 (v := .ref (ad 41)) rfl dX6_copyFrom_158 ?_
  refine lv_iconst (v := 0) hx hb dX6_copyFrom_161 (by decide) ?_
  refine lv_sipush (v := 200) hx hb dX6_copyFrom_162 (by decide) ?_
  obtain ⟨g10, hg10, hm⟩ := bs hm
  refine sd_cp C0 h (S1 := (sA (sA (sA (sA (sA (sA (sA (sA (sA (sA (sI S 4 (fI S 2)) 23 g1) 24 g2) 25 g3) 26 g4) 27 g5) 28 g6) 29 g7) 30 g8) 31 g9) 32 g10)) hl.1 kmX6_60 20 41 (aX_20 ad cA _) (aX_41 ad cA _) hg10 (eX_41 ad cA _ _) (by decide) (Nat.le_of_ble_eq_true rfl) dX6_copyFrom_165 (fun H locs h => ?_)
  exact sd_vret C0 h (Option.some.inj hm) dX6_copyFrom_168
theorem tX6_copyFrom_X31 (l : Launch) (D : va_G) (cA : ClassId) (ad : Nat → Nat) {S : St}  {q : St} (hm : mX6_copyFrom_X31 S = some q) : sd_MV l D vwCl cA sd_nw (wX ad cA) yX6_copyFrom (Cond.code yX6_copyFrom cX6_copyFrom 2 none :: sd_big) rX6_copyFrom_X31 [.ref (ad 31), .ref (ad 10)] S q :=
  sd_ofV (by decide +kernel) (Nat.le_of_ble_eq_true rfl) (fun _ _ _ _ _ _ _ _ _ _ C0 h hl => bX6_copyFrom_X31 C0 h (lv_sub hl [0, 1] rfl) hm)
