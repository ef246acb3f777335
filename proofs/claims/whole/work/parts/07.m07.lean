def rX10_deepest : Room := { frames := 6, cells := 0, slots := 0, locals := 154 }
def mX10_deepest (z : Nat) (v1 : Int32) (v2 : Int32) (v3 : Int32) (S : St) : Option (Int32 × St) :=
  (mX10_isAsked S v1 v2 v3).bind fun u1 =>
  if u1 = 0 then
    some ((-30000), S)
  else
    (mX10_channel z v1 v2 v3 S).bind fun u3 =>
    some (u3.1, u3.2)
set_option maxHeartbeats 4000000 in
set_option maxRecDepth 100000 in
theorem bX10_deepest {p : Program} {l : Launch} {e : Env} {s : State} {m : MethodId} {args : Array Value} {below : List Frame} {meth : Method} {c : Code} {D : va_G} {cA : ClassId} {ad : Nat → Nat} {A : Nat → Prop} {H : Heap} {locs : List Loc} {ls : Array Slot} {q : (Int32 × St)} {z : Nat} {v1 : Int32} {v2 : Int32} {v3 : Int32} {S : St} (C0 : sd_Cx RX10 cX10_deepest 4 (some .int) (Cond.code yX10_deepest cX10_deepest 4 (some .int) :: sd_big) p s m args meth c) (h : sd_Wd D vwCl cA sd_nw (wY ad cA) A s S H locs) (hl : lv_has ls 4 [(0, .ref (ad 0)), (1, .int v1), (2, .int v2), (3, .int v3)])  (hm : mX10_deepest z v1 v2 v3 S = some q) : W p l e rX10_deepest s m args below meth c H locs 0 0 (MQ below (sd_Qi D vwCl (wY ad cA) A q) args s 0 0 A) (F0 m 0 ls []) := by
  unfold mX10_deepest at hm
  have hx := C0.1
  have hb := C0.2.1
  refine lv_aload_n hx hb dX10_deepest_0 rfl (lv_at hl 0 rfl) ?_
  refine lv_iload_n hx hb dX10_deepest_1 rfl (lv_at hl 1 rfl) ?_
  refine lv_iload_n hx hb dX10_deepest_2 rfl (lv_at hl 2 rfl) ?_
  refine lv_iload_n hx hb dX10_deepest_3 rfl (lv_at hl 3 rfl) ?_
  obtain ⟨u1, hu1, hm⟩ := bs hm
  refine sd_Vi C0 h kYX10_isAsked kmX10_170 0 (aY_0 ad cA _) rfl [.int v1, .int v2, .int v3] (tX10_isAsked l D cA ad hu1) rfl hl.1 rfl (Nat.le_of_ble_eq_true rfl) (by decide) dX10_deepest_4 (by decide) (fun H locs h => ?_)
  refine lv_if_eq (tgt := 20) hx hb dX10_deepest_7 (by decide) (fun c2 => ?_) (fun c2 => ?_)
  · replace hm := ip c2 hm
    refine lv_sipush (v := (-30000)) hx hb dX10_deepest_20 (by decide) ?_
    exact sd_iret C0 h (Option.some.inj hm) dX10_deepest_23
  · replace hm := iq c2 hm
    refine lv_aload_n hx hb dX10_deepest_10 rfl (lv_at hl 0 rfl) ?_
    refine lv_iload_n hx hb dX10_deepest_11 rfl (lv_at hl 1 rfl) ?_
    refine lv_iload_n hx hb dX10_deepest_12 rfl (lv_at hl 2 rfl) ?_
    refine lv_iload_n hx hb dX10_deepest_13 rfl (lv_at hl 3 rfl) ?_
    obtain ⟨u3, hu3, hm⟩ := bs hm
    refine sd_Vi C0 h kYX10_channel kmX10_173 0 (aY_0 ad cA _) rfl [.int v1, .int v2, .int v3] (tX10_channel l D cA ad hu3) rfl hl.1 rfl (Nat.le_of_ble_eq_true rfl) (by decide) dX10_deepest_14 (by decide) (fun H locs h => ?_)
    refine lv_goto (tgt := 23) hx hb dX10_deepest_17 (by decide) ?_
    exact sd_iret C0 h (Option.some.inj hm) dX10_deepest_23
theorem tX10_deepest (l : Launch) (D : va_G) (cA : ClassId) (ad : Nat → Nat) {z : Nat} {S : St} {v1 : Int32} {v2 : Int32} {v3 : Int32} {q : (Int32 × St)} (hm : mX10_deepest z v1 v2 v3 S = some q) : sd_MI l D vwCl cA sd_nw (wY ad cA) yX10_deepest (Cond.code yX10_deepest cX10_deepest 4 (some .int) :: sd_big) rX10_deepest [.ref (ad 0), .int v1, .int v2, .int v3] S q :=
  sd_ofI (by decide +kernel) (Nat.le_of_ble_eq_true rfl) (fun _ _ _ _ _ _ _ _ _ _ C0 h hl => bX10_deepest C0 h (lv_sub hl [0, 1, 2, 3] rfl) hm)

def rX10_next : Room := { frames := 1, cells := 0, slots := 0, locals := 21 }
def mX10_next_4b (z : Nat) (S : St) (rc4 : Int32 → Int32 → Option Int32) (v1 : Int32) (v2 : Int32) (v3 : Int32) : Option Int32 :=
  if 4 ≤ v3 then
    some v2
  else
    (mX10_beside S v1 v3).bind fun u2 =>
    if u2 < 0 then
      rc4 v2 (v3 + 1)
    else
      (rd (fA S 6) 256 u2).bind fun x4 =>
      if x4 < 0 then
        rc4 v2 (v3 + 1)
      else
        (rd (fA S 6) 256 u2).bind fun x6 =>
        (rd (fA S 6) 256 v1).bind fun x7 =>
        if x6 = (x7 - 1) then
          if v2 < 0 then
            rc4 u2 (v3 + 1)
          else
            if v2 ≤ u2 then
              rc4 v2 (v3 + 1)
            else
              rc4 u2 (v3 + 1)
        else
          rc4 v2 (v3 + 1)
set_option maxHeartbeats 4000000 in
set_option maxRecDepth 100000 in
theorem bX10_next_4b {p : Program} {l : Launch} {e : Env} {s : State} {m : MethodId} {args : Array Value} {below : List Frame} {meth : Method} {c : Code} {D : va_G} {cA : ClassId} {ad : Nat → Nat} {A : Nat → Prop} {H : Heap} {locs : List Loc} {ls : Array Slot} {q : Int32} {z : Nat} {S : St} {rc4 : Int32 → Int32 → Option Int32} {v1 : Int32} {v2 : Int32} {v3 : Int32} (C0 : sd_Cx RX10 cX10_next 5 (some .int) (Cond.code yX10_next cX10_next 5 (some .int) :: sd_big) p s m args meth c) (h : sd_Wd D vwCl cA sd_nw (wY ad cA) A s S H locs) (hl : lv_has ls 5 [(0, .ref (ad 0)), (1, .int v1), (2, .int v2), (3, .int v3)]) (hrc4 : ∀ (v2 : Int32) (v3 : Int32) (H : Heap) (locs : List Loc) (ls : Array Slot), sd_Wd D vwCl cA sd_nw (wY ad cA) A s S H locs → lv_has ls 5 [(0, .ref (ad 0)), (1, .int v1), (2, .int v2), (3, .int v3)] → rc4 v2 v3 = some q → W p l e rX10_next s m args below meth c H locs 0 0 (MQ below (sd_Qi D vwCl (wY ad cA) A (q, S)) args s 0 0 A) (F0 m 4 ls [])) (hm : mX10_next_4b z S rc4 v1 v2 v3 = some q) : W p l e rX10_next s m args below meth c H locs 0 0 (MQ below (sd_Qi D vwCl (wY ad cA) A (q, S)) args s 0 0 A) (F0 m 4 ls []) := by
  unfold mX10_next_4b at hm
  have hx := C0.1
  have hb := C0.2.1
  refine lv_iload_n hx hb dX10_next_4 rfl (lv_at hl 3 rfl) ?_
  refine lv_iconst (v := 4) hx hb dX10_next_5 (by decide) ?_
  refine lv_icmp_ge (tgt := 68) hx hb dX10_next_6 (by decide) (fun c1 => ?_) (fun c1 => ?_)
  · replace hm := ip c1 hm
    refine lv_iload_n hx hb dX10_next_68 rfl (lv_at hl 2 rfl) ?_
    exact sd_iret C0 h (congrArg (fun x => (x, S)) (Option.some.inj hm)) dX10_next_69
  · replace hm := iq c1 hm
    refine lv_iload_n hx hb dX10_next_9 rfl (lv_at hl 1 rfl) ?_
    refine lv_iload_n hx hb dX10_next_10 rfl (lv_at hl 3 rfl) ?_
    obtain ⟨u2, hu2, hm⟩ := bs hm
    refine sd_Si C0 h kYX10_beside kmX10_160 [.int v1, .int v3] (tX10_beside l D cA ad hu2) rfl hl.1 rfl (Nat.le_of_ble_eq_true rfl) (by decide) dX10_next_11 (by decide) (fun H locs h => ?_)
    refine lv_istore (lv' := [(4, .int u2), (0, .ref (ad 0)), (1, .int v1), (2, .int v2), (3, .int v3)]) hx hb dX10_next_14 hl (by decide) rfl (fun ls hl => ?_)
    refine lv_iload hx hb dX10_next_16 (lv_at hl 0 rfl) ?_
    refine lv_if_lt (tgt := 62) hx hb dX10_next_18 (by decide) (fun c3 => ?_) (fun c3 => ?_)
    · replace hm := ip c3 hm
      refine lv_iinc (v := (v3 + 1)) (lv' := [(3, .int (v3 + 1)), (4, .int u2), (0, .ref (ad 0)), (1, .int v1), (2, .int v2)]) hx hb dX10_next_62 hl (k := 4) rfl rfl (by decide) rfl (fun ls hl => ?_)
      refine lv_goto (tgt := 4) hx hb dX10_next_65 (by decide) ?_
      exact hrc4 _ _ _ _ _ h (lv_sub hl [2, 3, 4, 0] rfl) hm
    · replace hm := iq c3 hm
      refine lv_aload_n hx hb dX10_next_21 rfl (lv_at hl 1 rfl) ?_
      refine sd_get C0 h (C := RX10) (T := TX10) (N := 17) kcX10 0 (aY_0 ad cA _) rfl 15 (by decide) kfX10_29 (v := .ref (ad 7)) rfl dX10_next_22 ?_
      refine lv_iload hx hb dX10_next_25 (lv_at hl 0 rfl) ?_
      obtain ⟨x4, hx4, hm⟩ := bs hm
      refine sd_rd C0 h 7 (aY_7 ad cA _) hx4 dX10_next_27 ?_
      refine lv_if_lt (tgt := 62) hx hb dX10_next_28 (by decide) (fun c5 => ?_) (fun c5 => ?_)
      · replace hm := ip c5 hm
        refine lv_iinc (v := (v3 + 1)) (lv' := [(3, .int (v3 + 1)), (4, .int u2), (0, .ref (ad 0)), (1, .int v1), (2, .int v2)]) hx hb dX10_next_62 hl (k := 4) rfl rfl (by decide) rfl (fun ls hl => ?_)
        refine lv_goto (tgt := 4) hx hb dX10_next_65 (by decide) ?_
        exact hrc4 _ _ _ _ _ h (lv_sub hl [2, 3, 4, 0] rfl) hm
      · replace hm := iq c5 hm
        refine lv_aload_n hx hb dX10_next_31 rfl (lv_at hl 1 rfl) ?_
        refine sd_get C0 h (C := RX10) (T := TX10) (N := 17) kcX10 0 (aY_0 ad cA _) rfl 15 (by decide) kfX10_29 (v := .ref (ad 7)) rfl dX10_next_32 ?_
        refine lv_iload hx hb dX10_next_35 (lv_at hl 0 rfl) ?_
        obtain ⟨x6, hx6, hm⟩ := bs hm
        refine sd_rd C0 h 7 (aY_7 ad cA _) hx6 dX10_next_37 ?_
        refine lv_aload_n hx hb dX10_next_38 rfl (lv_at hl 1 rfl) ?_
        refine sd_get C0 h (C := RX10) (T := TX10) (N := 17) kcX10 0 (aY_0 ad cA _) rfl 15 (by decide) kfX10_29 (v := .ref (ad 7)) rfl dX10_next_39 ?_
        refine lv_iload_n hx hb dX10_next_42 rfl (lv_at hl 2 rfl) ?_
        obtain ⟨x7, hx7, hm⟩ := bs hm
        refine sd_rd C0 h 7 (aY_7 ad cA _) hx7 dX10_next_43 ?_
        refine lv_iconst (v := 1) hx hb dX10_next_44 (by decide) ?_
        refine lv_isub hx hb dX10_next_45 ?_
        refine lv_icmp_ne (tgt := 62) hx hb dX10_next_46 (by decide) (fun c8 => ?_) (fun c8 => ?_)
        · replace hm := iq c8 hm
          refine lv_iinc (v := (v3 + 1)) (lv' := [(3, .int (v3 + 1)), (4, .int u2), (0, .ref (ad 0)), (1, .int v1), (2, .int v2)]) hx hb dX10_next_62 hl (k := 4) rfl rfl (by decide) rfl (fun ls hl => ?_)
          refine lv_goto (tgt := 4) hx hb dX10_next_65 (by decide) ?_
          exact hrc4 _ _ _ _ _ h (lv_sub hl [2, 3, 4, 0] rfl) hm
        · replace hm := ip c8 hm
          refine lv_iload_n hx hb dX10_next_49 rfl (lv_at hl 3 rfl) ?_
          refine lv_if_lt (tgt := 59) hx hb dX10_next_50 (by decide) (fun c9 => ?_) (fun c9 => ?_)
          · replace hm := ip c9 hm
            refine lv_iload hx hb dX10_next_59 (lv_at hl 0 rfl) ?_
            refine lv_istore_n (lv' := [(2, .int u2), (4, .int u2), (0, .ref (ad 0)), (1, .int v1), (3, .int v3)]) hx hb dX10_next_61 rfl hl (by decide) rfl (fun ls hl => ?_)
            refine lv_iinc (v := (v3 + 1)) (lv' := [(3, .int (v3 + 1)), (2, .int u2), (4, .int u2), (0, .ref (ad 0)), (1, .int v1)]) hx hb dX10_next_62 hl (k := 4) rfl rfl (by decide) rfl (fun ls hl => ?_)
            refine lv_goto (tgt := 4) hx hb dX10_next_65 (by decide) ?_
            exact hrc4 _ _ _ _ _ h (lv_sub hl [3, 4, 1, 0] rfl) hm
          · replace hm := iq c9 hm
            refine lv_iload hx hb dX10_next_53 (lv_at hl 0 rfl) ?_
            refine lv_iload_n hx hb dX10_next_55 rfl (lv_at hl 3 rfl) ?_
            refine lv_icmp_ge (tgt := 62) hx hb dX10_next_56 (by decide) (fun c10 => ?_) (fun c10 => ?_)
            · replace hm := ip c10 hm
              refine lv_iinc (v := (v3 + 1)) (lv' := [(3, .int (v3 + 1)), (4, .int u2), (0, .ref (ad 0)), (1, .int v1), (2, .int v2)]) hx hb dX10_next_62 hl (k := 4) rfl rfl (by decide) rfl (fun ls hl => ?_)
              refine lv_goto (tgt := 4) hx hb dX10_next_65 (by decide) ?_
              exact hrc4 _ _ _ _ _ h (lv_sub hl [2, 3, 4, 0] rfl) hm
            · replace hm := iq c10 hm
              refine lv_iload hx hb dX10_next_59 (lv_at hl 0 rfl) ?_
              refine lv_istore_n (lv' := [(2, .int u2), (4, .int u2), (0, .ref (ad 0)), (1, .int v1), (3, .int v3)]) hx hb dX10_next_61 rfl hl (by decide) rfl (fun ls hl => ?_)
              refine lv_iinc (v := (v3 + 1)) (lv' := [(3, .int (v3 + 1)), (2, .int u2), (4, .int u2), (0, .ref (ad 0)), (1, .int v1)]) hx hb dX10_next_62 hl (k := 4) rfl rfl (by decide) rfl (fun ls hl => ?_)
              refine lv_goto (tgt := 4) hx hb dX10_next_65 (by decide) ?_
              exact hrc4 _ _ _ _ _ h (lv_sub hl [3, 4, 1, 0] rfl) hm
def mX10_next_4 (z : Nat) (S : St) (v1 : Int32) : Nat → Int32 → Int32 → Option Int32
  | 0, _, _ => none
  | n + 1, v2, v3 => mX10_next_4b z S (mX10_next_4 z S v1 n) v1 v2 v3
set_option maxHeartbeats 4000000 in
set_option maxRecDepth 100000 in
theorem lX10_next_4 {p : Program} {l : Launch} {e : Env} {s : State} {m : MethodId} {args : Array Value} {below : List Frame} {meth : Method} {c : Code} {D : va_G} {cA : ClassId} {ad : Nat → Nat} {A : Nat → Prop} {q : Int32} {z : Nat} {S : St} {v1 : Int32} (C0 : sd_Cx RX10 cX10_next 5 (some .int) (Cond.code yX10_next cX10_next 5 (some .int) :: sd_big) p s m args meth c)  : ∀ (n : Nat) (v2 : Int32) (v3 : Int32) (H : Heap) (locs : List Loc) (ls : Array Slot), sd_Wd D vwCl cA sd_nw (wY ad cA) A s S H locs → lv_has ls 5 [(0, .ref (ad 0)), (1, .int v1), (2, .int v2), (3, .int v3)] → mX10_next_4 z S v1 n v2 v3 = some q → W p l e rX10_next s m args below meth c H locs 0 0 (MQ below (sd_Qi D vwCl (wY ad cA) A (q, S)) args s 0 0 A) (F0 m 4 ls []) := by
  intro n
  induction n with
  | zero =>
    intro v2 v3 H locs ls h hl hm
    exact nomatch (show none = some q from hm)
  | succ n ih =>
    intro v2 v3 H locs ls h hl hm
    exact bX10_next_4b C0 h hl ih hm
def mX10_next (z : Nat) (S : St) (v1 : Int32) : Option Int32 :=
  mX10_next_4 z S v1 z (-1) 0
set_option maxHeartbeats 4000000 in
set_option maxRecDepth 100000 in
theorem bX10_next {p : Program} {l : Launch} {e : Env} {s : State} {m : MethodId} {args : Array Value} {below : List Frame} {meth : Method} {c : Code} {D : va_G} {cA : ClassId} {ad : Nat → Nat} {A : Nat → Prop} {H : Heap} {locs : List Loc} {ls : Array Slot} {q : Int32} {z : Nat} {S : St} {v1 : Int32} (C0 : sd_Cx RX10 cX10_next 5 (some .int) (Cond.code yX10_next cX10_next 5 (some .int) :: sd_big) p s m args meth c) (h : sd_Wd D vwCl cA sd_nw (wY ad cA) A s S H locs) (hl : lv_has ls 5 [(0, .ref (ad 0)), (1, .int v1)])  (hm : mX10_next z S v1 = some q) : W p l e rX10_next s m args below meth c H locs 0 0 (MQ below (sd_Qi D vwCl (wY ad cA) A (q, S)) args s 0 0 A) (F0 m 0 ls []) := by
  unfold mX10_next at hm
  have hx := C0.1
  have hb := C0.2.1
  refine lv_iconst (v := (-1)) hx hb dX10_next_0 (by decide) ?_
  refine lv_istore_n (lv' := [(2, .int (-1)), (0, .ref (ad 0)), (1, .int v1)]) hx hb dX10_next_1 rfl hl (by decide) rfl (fun ls hl => ?_)
  refine lv_iconst (v := 0) hx hb dX10_next_2 (by decide) ?_
  refine lv_istore_n (lv' := [(3, .int 0), (2, .int (-1)), (0, .ref (ad 0)), (1, .int v1)]) hx hb dX10_next_3 rfl hl (by decide) rfl (fun ls hl => ?_)
  exact lX10_next_4 C0 _ _ _ _ _ _ h (lv_sub hl [2, 3, 1, 0] rfl) hm
theorem tX10_next (l : Launch) (D : va_G) (cA : ClassId) (ad : Nat → Nat) {z : Nat} {S : St} {v1 : Int32} {q : Int32} (hm : mX10_next z S v1 = some q) : sd_MI l D vwCl cA sd_nw (wY ad cA) yX10_next (Cond.code yX10_next cX10_next 5 (some .int) :: sd_big) rX10_next [.ref (ad 0), .int v1] S (q, S) :=
  sd_ofI (by decide +kernel) (Nat.le_of_ble_eq_true rfl) (fun _ _ _ _ _ _ _ _ _ _ C0 h hl => bX10_next C0 h (lv_sub hl [0, 1] rfl) hm)

def rX10_way : Room := { frames := 6, cells := 0, slots := 0, locals := 154 }
def mX10_way_47b (z : Nat) (rc47 : Int32 → Int32 → St → Option (Int32 × St)) (v4 : Int32) (v5 : Int32) (v6 : Int32) (S : St) : Option (Int32 × St) :=
  if v4 ≤ v6 then
    some (v5, S)
  else
    (mX10_next z S v5).bind fun u2 =>
    rc47 u2 (v6 + 1) S
set_option maxHeartbeats 4000000 in
set_option maxRecDepth 100000 in
theorem bX10_way_47b {p : Program} {l : Launch} {e : Env} {s : State} {m : MethodId} {args : Array Value} {below : List Frame} {meth : Method} {c : Code} {D : va_G} {cA : ClassId} {ad : Nat → Nat} {A : Nat → Prop} {H : Heap} {locs : List Loc} {ls : Array Slot} {q : (Int32 × St)} {z : Nat} {rc47 : Int32 → Int32 → St → Option (Int32 × St)} {v4 : Int32} {v5 : Int32} {v6 : Int32} {S : St} (C0 : sd_Cx RX10 cX10_way 7 (some .int) (Cond.code yX10_way cX10_way 7 (some .int) :: sd_big) p s m args meth c) (h : sd_Wd D vwCl cA sd_nw (wY ad cA) A s S H locs) (hl : lv_has ls 7 [(0, .ref (ad 0)), (4, .int v4), (5, .int v5), (6, .int v6)]) (hrc47 : ∀ (v5 : Int32) (v6 : Int32) (S : St) (H : Heap) (locs : List Loc) (ls : Array Slot), sd_Wd D vwCl cA sd_nw (wY ad cA) A s S H locs → lv_has ls 7 [(0, .ref (ad 0)), (4, .int v4), (5, .int v5), (6, .int v6)] → rc47 v5 v6 S = some q → W p l e rX10_way s m args below meth c H locs 0 0 (MQ below (sd_Qi D vwCl (wY ad cA) A q) args s 0 0 A) (F0 m 47 ls [])) (hm : mX10_way_47b z rc47 v4 v5 v6 S = some q) : W p l e rX10_way s m args below meth c H locs 0 0 (MQ below (sd_Qi D vwCl (wY ad cA) A q) args s 0 0 A) (F0 m 47 ls []) := by
  unfold mX10_way_47b at hm
  have hx := C0.1
  have hb := C0.2.1
  refine lv_iload hx hb dX10_way_47 (lv_at hl 3 rfl) ?_
  refine lv_iload hx hb dX10_way_49 (lv_at hl 1 rfl) ?_
  refine lv_icmp_ge (tgt := 68) hx hb dX10_way_51 (by decide) (fun c1 => ?_) (fun c1 => ?_)
  · replace hm := ip c1 hm
    refine lv_iload hx hb dX10_way_68 (lv_at hl 2 rfl) ?_
    exact sd_iret C0 h (Option.some.inj hm) dX10_way_70
  · replace hm := iq c1 hm
    refine lv_aload_n hx hb dX10_way_54 rfl (lv_at hl 0 rfl) ?_
    refine lv_iload hx hb dX10_way_55 (lv_at hl 2 rfl) ?_
    obtain ⟨u2, hu2, hm⟩ := bs hm
    refine sd_Vi C0 h kYX10_next kmX10_177 0 (aY_0 ad cA _) rfl [.int v5] (tX10_next l D cA ad hu2) rfl hl.1 rfl (Nat.le_of_ble_eq_true rfl) (by decide) dX10_way_57 (by decide) (fun H locs h => ?_)
    refine lv_istore (lv' := [(5, .int u2), (0, .ref (ad 0)), (4, .int v4), (6, .int v6)]) hx hb dX10_way_60 hl (by decide) rfl (fun ls hl => ?_)
    refine lv_iinc (v := (v6 + 1)) (lv' := [(6, .int (v6 + 1)), (5, .int u2), (0, .ref (ad 0)), (4, .int v4)]) hx hb dX10_way_62 hl (k := 3) rfl rfl (by decide) rfl (fun ls hl => ?_)
    refine lv_goto (tgt := 47) hx hb dX10_way_65 (by decide) ?_
    exact hrc47 _ _ _ _ _ _ h (lv_sub hl [2, 3, 1, 0] rfl) hm
def mX10_way_47 (z : Nat) (v4 : Int32) : Nat → Int32 → Int32 → St → Option (Int32 × St)
  | 0, _, _, _ => none
  | n + 1, v5, v6, S => mX10_way_47b z (mX10_way_47 z v4 n) v4 v5 v6 S
set_option maxHeartbeats 4000000 in
set_option maxRecDepth 100000 in
theorem lX10_way_47 {p : Program} {l : Launch} {e : Env} {s : State} {m : MethodId} {args : Array Value} {below : List Frame} {meth : Method} {c : Code} {D : va_G} {cA : ClassId} {ad : Nat → Nat} {A : Nat → Prop} {q : (Int32 × St)} {z : Nat} {v4 : Int32} (C0 : sd_Cx RX10 cX10_way 7 (some .int) (Cond.code yX10_way cX10_way 7 (some .int) :: sd_big) p s m args meth c)  : ∀ (n : Nat) (v5 : Int32) (v6 : Int32) (S : St) (H : Heap) (locs : List Loc) (ls : Array Slot), sd_Wd D vwCl cA sd_nw (wY ad cA) A s S H locs → lv_has ls 7 [(0, .ref (ad 0)), (4, .int v4), (5, .int v5), (6, .int v6)] → mX10_way_47 z v4 n v5 v6 S = some q → W p l e rX10_way s m args below meth c H locs 0 0 (MQ below (sd_Qi D vwCl (wY ad cA) A q) args s 0 0 A) (F0 m 47 ls []) := by
  intro n
  induction n with
  | zero =>
    intro v5 v6 S H locs ls h hl hm
    exact nomatch (show none = some q from hm)
  | succ n ih =>
    intro v5 v6 S H locs ls h hl hm
    exact bX10_way_47b C0 h hl ih hm
def mX10_way (z : Nat) (v1 : Int32) (v2 : Int32) (v3 : Int32) (v4 : Int32) (S : St) : Option (Int32 × St) :=
  (mX10_isAsked S v1 v2 v3).bind fun u1 =>
  if u1 = 0 then
    some ((-1), S)
  else
    if v4 < 0 then
      some ((-1), S)
    else
      (mX10_channel z v1 v2 v3 S).bind fun u4 =>
      if u4.1 = (-30000) then
        some ((-1), u4.2)
      else
        (rd (fA u4.2 6) 256 v2).bind fun x6 =>
        if v4 ≤ x6 then
          mX10_way_47 z v4 z v2 0 u4.2
        else
          some ((-1), u4.2)
set_option maxHeartbeats 4000000 in
set_option maxRecDepth 100000 in
theorem bX10_way {p : Program} {l : Launch} {e : Env} {s : State} {m : MethodId} {args : Array Value} {below : List Frame} {meth : Method} {c : Code} {D : va_G} {cA : ClassId} {ad : Nat → Nat} {A : Nat → Prop} {H : Heap} {locs : List Loc} {ls : Array Slot} {q : (Int32 × St)} {z : Nat} {v1 : Int32} {v2 : Int32} {v3 : Int32} {v4 : Int32} {S : St} (C0 : sd_Cx RX10 cX10_way 7 (some .int) (Cond.code yX10_way cX10_way 7 (some .int) :: sd_big) p s m args meth c) (h : sd_Wd D vwCl cA sd_nw (wY ad cA) A s S H locs) (hl : lv_has ls 7 [(0, .ref (ad 0)), (1, .int v1), (2, .int v2), (3, .int v3), (4, .int v4)])  (hm : mX10_way z v1 v2 v3 v4 S = some q) : W p l e rX10_way s m args below meth c H locs 0 0 (MQ below (sd_Qi D vwCl (wY ad cA) A q) args s 0 0 A) (F0 m 0 ls []) := by
  unfold mX10_way at hm
  have hx := C0.1
  have hb := C0.2.1
  refine lv_aload_n hx hb dX10_way_0 rfl (lv_at hl 0 rfl) ?_
  refine lv_iload_n hx hb dX10_way_1 rfl (lv_at hl 1 rfl) ?_
  refine lv_iload_n hx hb dX10_way_2 rfl (lv_at hl 2 rfl) ?_
  refine lv_iload_n hx hb dX10_way_3 rfl (lv_at hl 3 rfl) ?_
  obtain ⟨u1, hu1, hm⟩ := bs hm
  refine sd_Vi C0 h kYX10_isAsked kmX10_170 0 (aY_0 ad cA _) rfl [.int v1, .int v2, .int v3] (tX10_isAsked l D cA ad hu1) rfl hl.1 rfl (Nat.le_of_ble_eq_true rfl) (by decide) dX10_way_4 (by decide) (fun H locs h => ?_)
  refine lv_if_eq (tgt := 39) hx hb dX10_way_7 (by decide) (fun c2 => ?_) (fun c2 => ?_)
  · replace hm := ip c2 hm
    refine lv_iconst (v := (-1)) hx hb dX10_way_39 (by decide) ?_
    exact sd_iret C0 h (Option.some.inj hm) dX10_way_40
  · replace hm := iq c2 hm
    refine lv_iload hx hb dX10_way_10 (lv_at hl 4 rfl) ?_
    refine lv_if_lt (tgt := 39) hx hb dX10_way_12 (by decide) (fun c3 => ?_) (fun c3 => ?_)
    · replace hm := ip c3 hm
      refine lv_iconst (v := (-1)) hx hb dX10_way_39 (by decide) ?_
      exact sd_iret C0 h (Option.some.inj hm) dX10_way_40
    · replace hm := iq c3 hm
      refine lv_aload_n hx hb dX10_way_15 rfl (lv_at hl 0 rfl) ?_
      refine lv_iload_n hx hb dX10_way_16 rfl (lv_at hl 1 rfl) ?_
      refine lv_iload_n hx hb dX10_way_17 rfl (lv_at hl 2 rfl) ?_
      refine lv_iload_n hx hb dX10_way_18 rfl (lv_at hl 3 rfl) ?_
      obtain ⟨u4, hu4, hm⟩ := bs hm
      refine sd_Vi C0 h kYX10_channel kmX10_173 0 (aY_0 ad cA _) rfl [.int v1, .int v2, .int v3] (tX10_channel l D cA ad hu4) rfl hl.1 rfl (Nat.le_of_ble_eq_true rfl) (by decide) dX10_way_19 (by decide) (fun H locs h => ?_)
      refine lv_sipush (v := (-30000)) hx hb dX10_way_22 (by decide) ?_
      refine lv_icmp_eq (tgt := 39) hx hb dX10_way_25 (by decide) (fun c5 => ?_) (fun c5 => ?_)
      · replace hm := ip c5 hm
        refine lv_iconst (v := (-1)) hx hb dX10_way_39 (by decide) ?_
        exact sd_iret C0 h (Option.some.inj hm) dX10_way_40
      · replace hm := iq c5 hm
        refine lv_iload hx hb dX10_way_28 (lv_at hl 4 rfl) ?_
        refine lv_aload_n hx hb dX10_way_30 rfl (lv_at hl 0 rfl) ?_
        refine sd_get C0 h (C := RX10) (T := TX10) (N := 17) kcX10 0 (aY_0 ad cA _) rfl 15 (by decide) kfX10_29 (v := .ref (ad 7)) rfl dX10_way_31 ?_
        refine lv_iload_n hx hb dX10_way_34 rfl (lv_at hl 2 rfl) ?_
        obtain ⟨x6, hx6, hm⟩ := bs hm
        refine sd_rd C0 h 7 (aY_7 ad cA _) hx6 dX10_way_35 ?_
        refine lv_icmp_le (tgt := 41) hx hb dX10_way_36 (by decide) (fun c7 => ?_) (fun c7 => ?_)
        · replace hm := ip c7 hm
          refine lv_iload_n hx hb dX10_way_41 rfl (lv_at hl 2 rfl) ?_
          refine lv_istore (lv' := [(5, .int v2), (0, .ref (ad 0)), (1, .int v1), (2, .int v2), (3, .int v3), (4, .int v4)]) hx hb dX10_way_42 hl (by decide) rfl (fun ls hl => ?_)
          refine lv_iconst (v := 0) hx hb dX10_way_44 (by decide) ?_
          refine lv_istore (lv' := [(6, .int 0), (5, .int v2), (0, .ref (ad 0)), (1, .int v1), (2, .int v2), (3, .int v3), (4, .int v4)]) hx hb dX10_way_45 hl (by decide) rfl (fun ls hl => ?_)
          exact lX10_way_47 C0 _ _ _ _ _ _ _ h (lv_sub hl [2, 6, 1, 0] rfl) hm
        · replace hm := iq c7 hm
          refine lv_iconst (v := (-1)) hx hb dX10_way_39 (by decide) ?_
          exact sd_iret C0 h (Option.some.inj hm) dX10_way_40
theorem tX10_way (l : Launch) (D : va_G) (cA : ClassId) (ad : Nat → Nat) {z : Nat} {S : St} {v1 : Int32} {v2 : Int32} {v3 : Int32} {v4 : Int32} {q : (Int32 × St)} (hm : mX10_way z v1 v2 v3 v4 S = some q) : sd_MI l D vwCl cA sd_nw (wY ad cA) yX10_way (Cond.code yX10_way cX10_way 7 (some .int) :: sd_big) rX10_way [.ref (ad 0), .int v1, .int v2, .int v3, .int v4] S q :=
  sd_ofI (by decide +kernel) (Nat.le_of_ble_eq_true rfl) (fun _ _ _ _ _ _ _ _ _ _ C0 h hl => bX10_way C0 h (lv_sub hl [0, 1, 2, 3, 4] rfl) hm)

def rX10_narrow : Room := { frames := 6, cells := 0, slots := 0, locals := 154 }
def mX10_narrow_34b (z : Nat) (rc34 : Int32 → St → Option (Int32 × St)) (v4 : Int32) (v5 : Int32) (S : St) : Option (Int32 × St) :=
  (rd (fA S 5) 256 v5).bind fun x1 =>
  if x1 = v4 then
    some (v5, S)
  else
    (mX10_next z S v5).bind fun u3 =>
    rc34 u3 S
set_option maxHeartbeats 4000000 in
set_option maxRecDepth 100000 in
theorem bX10_narrow_34b {p : Program} {l : Launch} {e : Env} {s : State} {m : MethodId} {args : Array Value} {below : List Frame} {meth : Method} {c : Code} {D : va_G} {cA : ClassId} {ad : Nat → Nat} {A : Nat → Prop} {H : Heap} {locs : List Loc} {ls : Array Slot} {q : (Int32 × St)} {z : Nat} {rc34 : Int32 → St → Option (Int32 × St)} {v4 : Int32} {v5 : Int32} {S : St} (C0 : sd_Cx RX10 cX10_narrow 6 (some .int) (Cond.code yX10_narrow cX10_narrow 6 (some .int) :: sd_big) p s m args meth c) (h : sd_Wd D vwCl cA sd_nw (wY ad cA) A s S H locs) (hl : lv_has ls 6 [(0, .ref (ad 0)), (4, .int v4), (5, .int v5)]) (hrc34 : ∀ (v5 : Int32) (S : St) (H : Heap) (locs : List Loc) (ls : Array Slot), sd_Wd D vwCl cA sd_nw (wY ad cA) A s S H locs → lv_has ls 6 [(0, .ref (ad 0)), (4, .int v4), (5, .int v5)] → rc34 v5 S = some q → W p l e rX10_narrow s m args below meth c H locs 0 0 (MQ below (sd_Qi D vwCl (wY ad cA) A q) args s 0 0 A) (F0 m 34 ls [])) (hm : mX10_narrow_34b z rc34 v4 v5 S = some q) : W p l e rX10_narrow s m args below meth c H locs 0 0 (MQ below (sd_Qi D vwCl (wY ad cA) A q) args s 0 0 A) (F0 m 34 ls []) := by
  unfold mX10_narrow_34b at hm
  have hx := C0.1
  have hb := C0.2.1
  refine lv_aload_n hx hb dX10_narrow_34 rfl (lv_at hl 0 rfl) ?_
  refine sd_get C0 h (C := RX10) (T := TX10) (N := 17) kcX10 0 (aY_0 ad cA _) rfl 14 (by decide) kfX10_26 (v := .ref (ad 6)) rfl dX10_narrow_35 ?_
  refine lv_iload hx hb dX10_narrow_38 (lv_at hl 2 rfl) ?_
  obtain ⟨x1, hx1, hm⟩ := bs hm
  refine sd_rd C0 h 6 (aY_6 ad cA _) hx1 dX10_narrow_40 ?_
  refine lv_iload hx hb dX10_narrow_41 (lv_at hl 1 rfl) ?_
  refine lv_icmp_eq (tgt := 57) hx hb dX10_narrow_43 (by decide) (fun c2 => ?_) (fun c2 => ?_)
  · replace hm := ip c2 hm
    refine lv_iload hx hb dX10_narrow_57 (lv_at hl 2 rfl) ?_
    exact sd_iret C0 h (Option.some.inj hm) dX10_narrow_59
  · replace hm := iq c2 hm
    refine lv_aload_n hx hb dX10_narrow_46 rfl (lv_at hl 0 rfl) ?_
    refine lv_iload hx hb dX10_narrow_47 (lv_at hl 2 rfl) ?_
    obtain ⟨u3, hu3, hm⟩ := bs hm
    refine sd_Vi C0 h kYX10_next kmX10_177 0 (aY_0 ad cA _) rfl [.int v5] (tX10_next l D cA ad hu3) rfl hl.1 rfl (Nat.le_of_ble_eq_true rfl) (by decide) dX10_narrow_49 (by decide) (fun H locs h => ?_)
    refine lv_istore (lv' := [(5, .int u3), (0, .ref (ad 0)), (4, .int v4)]) hx hb dX10_narrow_52 hl (by decide) rfl (fun ls hl => ?_)
    refine lv_goto (tgt := 34) hx hb dX10_narrow_54 (by decide) ?_
    exact hrc34 _ _ _ _ _ h (lv_sub hl [1, 2, 0] rfl) hm
def mX10_narrow_34 (z : Nat) (v4 : Int32) : Nat → Int32 → St → Option (Int32 × St)
  | 0, _, _ => none
  | n + 1, v5, S => mX10_narrow_34b z (mX10_narrow_34 z v4 n) v4 v5 S
set_option maxHeartbeats 4000000 in
set_option maxRecDepth 100000 in
theorem lX10_narrow_34 {p : Program} {l : Launch} {e : Env} {s : State} {m : MethodId} {args : Array Value} {below : List Frame} {meth : Method} {c : Code} {D : va_G} {cA : ClassId} {ad : Nat → Nat} {A : Nat → Prop} {q : (Int32 × St)} {z : Nat} {v4 : Int32} (C0 : sd_Cx RX10 cX10_narrow 6 (some .int) (Cond.code yX10_narrow cX10_narrow 6 (some .int) :: sd_big) p s m args meth c)  : ∀ (n : Nat) (v5 : Int32) (S : St) (H : Heap) (locs : List Loc) (ls : Array Slot), sd_Wd D vwCl cA sd_nw (wY ad cA) A s S H locs → lv_has ls 6 [(0, .ref (ad 0)), (4, .int v4), (5, .int v5)] → mX10_narrow_34 z v4 n v5 S = some q → W p l e rX10_narrow s m args below meth c H locs 0 0 (MQ below (sd_Qi D vwCl (wY ad cA) A q) args s 0 0 A) (F0 m 34 ls []) := by
  intro n
  induction n with
  | zero =>
    intro v5 S H locs ls h hl hm
    exact nomatch (show none = some q from hm)
  | succ n ih =>
    intro v5 S H locs ls h hl hm
    exact bX10_narrow_34b C0 h hl ih hm
def mX10_narrow (z : Nat) (v1 : Int32) (v2 : Int32) (v3 : Int32) (S : St) : Option (Int32 × St) :=
  (mX10_isAsked S v1 v2 v3).bind fun u1 =>
  if u1 = 0 then
    some ((-1), S)
  else
    (mX10_channel z v1 v2 v3 S).bind fun u3 =>
    if u3.1 = (-30000) then
      some ((-1), u3.2)
    else
      mX10_narrow_34 z u3.1 z v2 u3.2
set_option maxHeartbeats 4000000 in
set_option maxRecDepth 100000 in
theorem bX10_narrow {p : Program} {l : Launch} {e : Env} {s : State} {m : MethodId} {args : Array Value} {below : List Frame} {meth : Method} {c : Code} {D : va_G} {cA : ClassId} {ad : Nat → Nat} {A : Nat → Prop} {H : Heap} {locs : List Loc} {ls : Array Slot} {q : (Int32 × St)} {z : Nat} {v1 : Int32} {v2 : Int32} {v3 : Int32} {S : St} (C0 : sd_Cx RX10 cX10_narrow 6 (some .int) (Cond.code yX10_narrow cX10_narrow 6 (some .int) :: sd_big) p s m args meth c) (h : sd_Wd D vwCl cA sd_nw (wY ad cA) A s S H locs) (hl : lv_has ls 6 [(0, .ref (ad 0)), (1, .int v1), (2, .int v2), (3, .int v3)])  (hm : mX10_narrow z v1 v2 v3 S = some q) : W p l e rX10_narrow s m args below meth c H locs 0 0 (MQ below (sd_Qi D vwCl (wY ad cA) A q) args s 0 0 A) (F0 m 0 ls []) := by
  unfold mX10_narrow at hm
  have hx := C0.1
  have hb := C0.2.1
  refine lv_aload_n hx hb dX10_narrow_0 rfl (lv_at hl 0 rfl) ?_
  refine lv_iload_n hx hb dX10_narrow_1 rfl (lv_at hl 1 rfl) ?_
  refine lv_iload_n hx hb dX10_narrow_2 rfl (lv_at hl 2 rfl) ?_
  refine lv_iload_n hx hb dX10_narrow_3 rfl (lv_at hl 3 rfl) ?_
  obtain ⟨u1, hu1, hm⟩ := bs hm
  refine sd_Vi C0 h kYX10_isAsked kmX10_170 0 (aY_0 ad cA _) rfl [.int v1, .int v2, .int v3] (tX10_isAsked l D cA ad hu1) rfl hl.1 rfl (Nat.le_of_ble_eq_true rfl) (by decide) dX10_narrow_4 (by decide) (fun H locs h => ?_)
  refine lv_if_ne (tgt := 12) hx hb dX10_narrow_7 (by decide) (fun c2 => ?_) (fun c2 => ?_)
  · replace hm := iq c2 hm
    refine lv_aload_n hx hb dX10_narrow_12 rfl (lv_at hl 0 rfl) ?_
    refine lv_iload_n hx hb dX10_narrow_13 rfl (lv_at hl 1 rfl) ?_
    refine lv_iload_n hx hb dX10_narrow_14 rfl (lv_at hl 2 rfl) ?_
    refine lv_iload_n hx hb dX10_narrow_15 rfl (lv_at hl 3 rfl) ?_
    obtain ⟨u3, hu3, hm⟩ := bs hm
    refine sd_Vi C0 h kYX10_channel kmX10_173 0 (aY_0 ad cA _) rfl [.int v1, .int v2, .int v3] (tX10_channel l D cA ad hu3) rfl hl.1 rfl (Nat.le_of_ble_eq_true rfl) (by decide) dX10_narrow_16 (by decide) (fun H locs h => ?_)
    refine lv_istore (lv' := [(4, .int u3.1), (0, .ref (ad 0)), (1, .int v1), (2, .int v2), (3, .int v3)]) hx hb dX10_narrow_19 hl (by decide) rfl (fun ls hl => ?_)
    refine lv_iload hx hb dX10_narrow_21 (lv_at hl 0 rfl) ?_
    refine lv_sipush (v := (-30000)) hx hb dX10_narrow_23 (by decide) ?_
    refine lv_icmp_ne (tgt := 31) hx hb dX10_narrow_26 (by decide) (fun c4 => ?_) (fun c4 => ?_)
    · replace hm := iq c4 hm
      refine lv_iload_n hx hb dX10_narrow_31 rfl (lv_at hl 3 rfl) ?_
      refine lv_istore (lv' := [(5, .int v2), (4, .int u3.1), (0, .ref (ad 0)), (1, .int v1), (2, .int v2), (3, .int v3)]) hx hb dX10_narrow_32 hl (by decide) rfl (fun ls hl => ?_)
      exact lX10_narrow_34 C0 _ _ _ _ _ _ h (lv_sub hl [2, 1, 0] rfl) hm
    · replace hm := ip c4 hm
      refine lv_iconst (v := (-1)) hx hb dX10_narrow_29 (by decide) ?_
      exact sd_iret C0 h (Option.some.inj hm) dX10_narrow_30
  · replace hm := ip c2 hm
    refine lv_iconst (v := (-1)) hx hb dX10_narrow_10 (by decide) ?_
    exact sd_iret C0 h (Option.some.inj hm) dX10_narrow_11
theorem tX10_narrow (l : Launch) (D : va_G) (cA : ClassId) (ad : Nat → Nat) {z : Nat} {S : St} {v1 : Int32} {v2 : Int32} {v3 : Int32} {q : (Int32 × St)} (hm : mX10_narrow z v1 v2 v3 S = some q) : sd_MI l D vwCl cA sd_nw (wY ad cA) yX10_narrow (Cond.code yX10_narrow cX10_narrow 6 (some .int) :: sd_big) rX10_narrow [.ref (ad 0), .int v1, .int v2, .int v3] S q :=
  sd_ofI (by decide +kernel) (Nat.le_of_ble_eq_true rfl) (fun _ _ _ _ _ _ _ _ _ _ C0 h hl => bX10_narrow C0 h (lv_sub hl [0, 1, 2, 3] rfl) hm)

def rX10_draught : Room := { frames := 5, cells := 0, slots := 0, locals := 128 }
def mX10_draught (z : Nat) (v1 : Int32) (v2 : Int32) (v3 : Int32) (v4 : Int32) (S : St) : Option (Int32 × St) :=
  (mX10_isAsked S v1 v2 v3).bind fun u1 =>
  if u1 = 0 then
    some (0, S)
  else
    (mX10_depths z v1 S).bind fun u3 =>
    (mX10_floods z v3 v2 v4 u3).bind fun u4 =>
    zb u4.1 (u4.1, u4.2)
set_option maxHeartbeats 4000000 in
set_option maxRecDepth 100000 in
theorem bX10_draught {p : Program} {l : Launch} {e : Env} {s : State} {m : MethodId} {args : Array Value} {below : List Frame} {meth : Method} {c : Code} {D : va_G} {cA : ClassId} {ad : Nat → Nat} {A : Nat → Prop} {H : Heap} {locs : List Loc} {ls : Array Slot} {q : (Int32 × St)} {z : Nat} {v1 : Int32} {v2 : Int32} {v3 : Int32} {v4 : Int32} {S : St} (C0 : sd_Cx RX10 cX10_draught 5 (some .boolean) (Cond.code yX10_draught cX10_draught 5 (some .boolean) :: sd_big) p s m args meth c) (h : sd_Wd D vwCl cA sd_nw (wY ad cA) A s S H locs) (hl : lv_has ls 5 [(0, .ref (ad 0)), (1, .int v1), (2, .int v2), (3, .int v3), (4, .int v4)])  (hm : mX10_draught z v1 v2 v3 v4 S = some q) : W p l e rX10_draught s m args below meth c H locs 0 0 (MQ below (sd_Qi D vwCl (wY ad cA) A q) args s 0 0 A) (F0 m 0 ls []) := by
  unfold mX10_draught at hm
  have hx := C0.1
  have hb := C0.2.1
  refine lv_aload_n hx hb dX10_draught_0 rfl (lv_at hl 0 rfl) ?_
  refine lv_iload_n hx hb dX10_draught_1 rfl (lv_at hl 1 rfl) ?_
  refine lv_iload_n hx hb dX10_draught_2 rfl (lv_at hl 2 rfl) ?_
  refine lv_iload_n hx hb dX10_draught_3 rfl (lv_at hl 3 rfl) ?_
  obtain ⟨u1, hu1, hm⟩ := bs hm
  refine sd_Vi C0 h kYX10_isAsked kmX10_170 0 (aY_0 ad cA _) rfl [.int v1, .int v2, .int v3] (tX10_isAsked l D cA ad hu1) rfl hl.1 rfl (Nat.le_of_ble_eq_true rfl) (by decide) dX10_draught_4 (by decide) (fun H locs h => ?_)
  refine lv_if_ne (tgt := 12) hx hb dX10_draught_7 (by decide) (fun c2 => ?_) (fun c2 => ?_)
  · replace hm := iq c2 hm
    refine lv_aload_n hx hb dX10_draught_12 rfl (lv_at hl 0 rfl) ?_
    refine lv_iload_n hx hb dX10_draught_13 rfl (lv_at hl 1 rfl) ?_
    obtain ⟨u3, hu3, hm⟩ := bs hm
    refine sd_Vv C0 h kYX10_depths kmX10_163 0 (aY_0 ad cA _) rfl [.int v1] (tX10_depths l D cA ad hu3) rfl hl.1 rfl (Nat.le_of_ble_eq_true rfl) (by decide) dX10_draught_14 (by decide) (fun H locs h => ?_)
    refine lv_aload_n hx hb dX10_draught_17 rfl (lv_at hl 0 rfl) ?_
    refine lv_iload_n hx hb dX10_draught_18 rfl (lv_at hl 3 rfl) ?_
    refine lv_iload_n hx hb dX10_draught_19 rfl (lv_at hl 2 rfl) ?_
    refine lv_iload hx hb dX10_draught_20 (lv_at hl 4 rfl) ?_
    obtain ⟨u4, hu4, hm⟩ := bs hm
    refine sd_Vi C0 h kYX10_floods kmX10_167 0 (aY_0 ad cA _) rfl [.int v3, .int v2, .int v4] (tX10_floods l D cA ad hu4) rfl hl.1 rfl (Nat.le_of_ble_eq_true rfl) (by decide) dX10_draught_22 (by decide) (fun H locs h => ?_)
    obtain ⟨hz, hm⟩ := zb_some hm
    exact sd_zret C0 h hm hz dX10_draught_25
  · replace hm := ip c2 hm
    refine lv_iconst (v := 0) hx hb dX10_draught_10 (by decide) ?_
    exact sd_zret C0 h (Option.some.inj hm) rfl dX10_draught_11
theorem tX10_draught (l : Launch) (D : va_G) (cA : ClassId) (ad : Nat → Nat) {z : Nat} {S : St} {v1 : Int32} {v2 : Int32} {v3 : Int32} {v4 : Int32} {q : (Int32 × St)} (hm : mX10_draught z v1 v2 v3 v4 S = some q) : sd_MI l D vwCl cA sd_nw (wY ad cA) yX10_draught (Cond.code yX10_draught cX10_draught 5 (some .boolean) :: sd_big) rX10_draught [.ref (ad 0), .int v1, .int v2, .int v3, .int v4] S q :=
  sd_ofI (by decide +kernel) (Nat.le_of_ble_eq_true rfl) (fun _ _ _ _ _ _ _ _ _ _ C0 h hl => bX10_draught C0 h (lv_sub hl [0, 1, 2, 3, 4] rfl) hm)

def rX10_check : Room := { frames := 4, cells := 0, slots := 0, locals := 106 }
def mX10_check (z : Nat) (v1 : Int32) (v2 : Int32) (v3 : Int32) (S : St) : Option (Int32 × St) :=
  (mX10_in S v1 0 99).bind fun u1 =>
  if u1 = 0 then
    some ((-2), S)
  else
    (mX10_in S v2 0 255).bind fun u3 =>
    if u3 = 0 then
      some ((-2), S)
    else
      (mX10_depthOf z v1 v2 S).bind fun u5 =>
      if u5.1 = (-30000) then
        some (2, u5.2)
      else
        if v3 ≤ u5.1 then
          if u5.1 ≤ v3 then
            some ((-1), u5.2)
          else
            some (1, u5.2)
        else
          some (0, u5.2)
set_option maxHeartbeats 4000000 in
set_option maxRecDepth 100000 in
theorem bX10_check {p : Program} {l : Launch} {e : Env} {s : State} {m : MethodId} {args : Array Value} {below : List Frame} {meth : Method} {c : Code} {D : va_G} {cA : ClassId} {ad : Nat → Nat} {A : Nat → Prop} {H : Heap} {locs : List Loc} {ls : Array Slot} {q : (Int32 × St)} {z : Nat} {v1 : Int32} {v2 : Int32} {v3 : Int32} {S : St} (C0 : sd_Cx RX10 cX10_check 5 (some .int) (Cond.code yX10_check cX10_check 5 (some .int) :: sd_big) p s m args meth c) (h : sd_Wd D vwCl cA sd_nw (wY ad cA) A s S H locs) (hl : lv_has ls 5 [(0, .ref (ad 0)), (1, .int v1), (2, .int v2), (3, .int v3)])  (hm : mX10_check z v1 v2 v3 S = some q) : W p l e rX10_check s m args below meth c H locs 0 0 (MQ below (sd_Qi D vwCl (wY ad cA) A q) args s 0 0 A) (F0 m 0 ls []) := by
  unfold mX10_check at hm
  have hx := C0.1
  have hb := C0.2.1
  refine lv_iload_n hx hb dX10_check_0 rfl (lv_at hl 1 rfl) ?_
  refine lv_iconst (v := 0) hx hb dX10_check_1 (by decide) ?_
  refine lv_bipush (v := 99) hx hb dX10_check_2 (by decide) ?_
  obtain ⟨u1, hu1, hm⟩ := bs hm
  refine sd_Si C0 h kYX10_in kmX10_46 [.int v1, .int 0, .int 99] (tX10_in l D cA ad hu1) rfl hl.1 rfl (Nat.le_of_ble_eq_true rfl) (by decide) dX10_check_4 (by decide) (fun H locs h => ?_)
  refine lv_if_eq (tgt := 21) hx hb dX10_check_7 (by decide) (fun c2 => ?_) (fun c2 => ?_)
  · replace hm := ip c2 hm
    refine lv_bipush (v := (-2)) hx hb dX10_check_21 (by decide) ?_
    exact sd_iret C0 h (Option.some.inj hm) dX10_check_23
  · replace hm := iq c2 hm
    refine lv_iload_n hx hb dX10_check_10 rfl (lv_at hl 2 rfl) ?_
    refine lv_iconst (v := 0) hx hb dX10_check_11 (by decide) ?_
    refine lv_sipush (v := 255) hx hb dX10_check_12 (by decide) ?_
    obtain ⟨u3, hu3, hm⟩ := bs hm
    refine sd_Si C0 h kYX10_in kmX10_46 [.int v2, .int 0, .int 255] (tX10_in l D cA ad hu3) rfl hl.1 rfl (Nat.le_of_ble_eq_true rfl) (by decide) dX10_check_15 (by decide) (fun H locs h => ?_)
    refine lv_if_ne (tgt := 24) hx hb dX10_check_18 (by decide) (fun c4 => ?_) (fun c4 => ?_)
    · replace hm := iq c4 hm
      refine lv_aload_n hx hb dX10_check_24 rfl (lv_at hl 0 rfl) ?_
      refine lv_iload_n hx hb dX10_check_25 rfl (lv_at hl 1 rfl) ?_
      refine lv_iload_n hx hb dX10_check_26 rfl (lv_at hl 2 rfl) ?_
      obtain ⟨u5, hu5, hm⟩ := bs hm
      refine sd_Vi C0 h kYX10_depthOf kmX10_157 0 (aY_0 ad cA _) rfl [.int v1, .int v2] (tX10_depthOf l D cA ad hu5) rfl hl.1 rfl (Nat.le_of_ble_eq_true rfl) (by decide) dX10_check_27 (by decide) (fun H locs h => ?_)
      refine lv_istore (lv' := [(4, .int u5.1), (0, .ref (ad 0)), (1, .int v1), (2, .int v2), (3, .int v3)]) hx hb dX10_check_30 hl (by decide) rfl (fun ls hl => ?_)
      refine lv_iload hx hb dX10_check_32 (lv_at hl 0 rfl) ?_
      refine lv_sipush (v := (-30000)) hx hb dX10_check_34 (by decide) ?_
      refine lv_icmp_ne (tgt := 44) hx hb dX10_check_37 (by decide) (fun c6 => ?_) (fun c6 => ?_)
      · replace hm := iq c6 hm
        refine lv_iload hx hb dX10_check_44 (lv_at hl 0 rfl) ?_
        refine lv_iload_n hx hb dX10_check_46 rfl (lv_at hl 4 rfl) ?_
        refine lv_icmp_ge (tgt := 54) hx hb dX10_check_47 (by decide) (fun c7 => ?_) (fun c7 => ?_)
        · replace hm := ip c7 hm
          refine lv_iload hx hb dX10_check_54 (lv_at hl 0 rfl) ?_
          refine lv_iload_n hx hb dX10_check_56 rfl (lv_at hl 4 rfl) ?_
          refine lv_icmp_le (tgt := 64) hx hb dX10_check_57 (by decide) (fun c8 => ?_) (fun c8 => ?_)
          · replace hm := ip c8 hm
            refine lv_iconst (v := (-1)) hx hb dX10_check_64 (by decide) ?_
            exact sd_iret C0 h (Option.some.inj hm) dX10_check_65
          · replace hm := iq c8 hm
            refine lv_iconst (v := 1) hx hb dX10_check_60 (by decide) ?_
            refine lv_goto (tgt := 65) hx hb dX10_check_61 (by decide) ?_
            exact sd_iret C0 h (Option.some.inj hm) dX10_check_65
        · replace hm := iq c7 hm
          refine lv_iconst (v := 0) hx hb dX10_check_50 (by decide) ?_
          refine lv_goto (tgt := 65) hx hb dX10_check_51 (by decide) ?_
          exact sd_iret C0 h (Option.some.inj hm) dX10_check_65
      · replace hm := ip c6 hm
        refine lv_iconst (v := 2) hx hb dX10_check_40 (by decide) ?_
        refine lv_goto (tgt := 65) hx hb dX10_check_41 (by decide) ?_
        exact sd_iret C0 h (Option.some.inj hm) dX10_check_65
    · replace hm := ip c4 hm
      refine lv_bipush (v := (-2)) hx hb dX10_check_21 (by decide) ?_
      exact sd_iret C0 h (Option.some.inj hm) dX10_check_23
theorem tX10_check (l : Launch) (D : va_G) (cA : ClassId) (ad : Nat → Nat) {z : Nat} {S : St} {v1 : Int32} {v2 : Int32} {v3 : Int32} {q : (Int32 × St)} (hm : mX10_check z v1 v2 v3 S = some q) : sd_MI l D vwCl cA sd_nw (wY ad cA) yX10_check (Cond.code yX10_check cX10_check 5 (some .int) :: sd_big) rX10_check [.ref (ad 0), .int v1, .int v2, .int v3] S q :=
  sd_ofI (by decide +kernel) (Nat.le_of_ble_eq_true rfl) (fun _ _ _ _ _ _ _ _ _ _ C0 h hl => bX10_check C0 h (lv_sub hl [0, 1, 2, 3] rfl) hm)

def rX10_undo : Room := { frames := 0, cells := 0, slots := 0, locals := 0 }
def mX10_undo_35b (z : Nat) (rc35 : Int32 → St → Option (Int32 × St)) (v1 : Int32) (S : St) : Option (Int32 × St) :=
  if 4564 ≤ v1 then
    some (1, S)
  else
    (rd (fA S 1) 91280 ((4564 * (fI S 1)) + v1)).bind fun x2 =>
    (wr (fA S 0) 4564 v1 x2).bind fun g3 =>
    rc35 (v1 + 1) (sA S 0 g3)
set_option maxHeartbeats 4000000 in
set_option maxRecDepth 100000 in
theorem bX10_undo_35b {p : Program} {l : Launch} {e : Env} {s : State} {m : MethodId} {args : Array Value} {below : List Frame} {meth : Method} {c : Code} {D : va_G} {cA : ClassId} {ad : Nat → Nat} {A : Nat → Prop} {H : Heap} {locs : List Loc} {ls : Array Slot} {q : (Int32 × St)} {z : Nat} {rc35 : Int32 → St → Option (Int32 × St)} {v1 : Int32} {S : St} (C0 : sd_Cx RX10 cX10_undo 2 (some .boolean) (Cond.code yX10_undo cX10_undo 2 (some .boolean) :: sd_big) p s m args meth c) (h : sd_Wd D vwCl cA sd_nw (wY ad cA) A s S H locs) (hl : lv_has ls 2 [(0, .ref (ad 0)), (1, .int v1)]) (hrc35 : ∀ (v1 : Int32) (S : St) (H : Heap) (locs : List Loc) (ls : Array Slot), sd_Wd D vwCl cA sd_nw (wY ad cA) A s S H locs → lv_has ls 2 [(0, .ref (ad 0)), (1, .int v1)] → rc35 v1 S = some q → W p l e rX10_undo s m args below meth c H locs 0 0 (MQ below (sd_Qi D vwCl (wY ad cA) A q) args s 0 0 A) (F0 m 35 ls [])) (hm : mX10_undo_35b z rc35 v1 S = some q) : W p l e rX10_undo s m args below meth c H locs 0 0 (MQ below (sd_Qi D vwCl (wY ad cA) A q) args s 0 0 A) (F0 m 35 ls []) := by
  unfold mX10_undo_35b at hm
  have hx := C0.1
  have hb := C0.2.1
  refine lv_iload_n hx hb dX10_undo_35 rfl (lv_at hl 1 rfl) ?_
  refine lv_sipush (v := 4564) hx hb dX10_undo_36 (by decide) ?_
  refine lv_icmp_ge (tgt := 69) hx hb dX10_undo_39 (by decide) (fun c1 => ?_) (fun c1 => ?_)
  · replace hm := ip c1 hm
    refine lv_iconst (v := 1) hx hb dX10_undo_69 (by decide) ?_
    exact sd_zret C0 h (Option.some.inj hm) rfl dX10_undo_70
  · replace hm := iq c1 hm
    refine lv_aload_n hx hb dX10_undo_42 rfl (lv_at hl 0 rfl) ?_
    refine sd_get C0 h (C := RX10) (T := TX10) (N := 17) kcX10 0 (aY_0 ad cA _) rfl 0 (by decide) kfX10_7 (v := .ref (ad 1)) rfl dX10_undo_43 ?_
    refine lv_iload_n hx hb dX10_undo_46 rfl (lv_at hl 1 rfl) ?_
    refine lv_aload_n hx hb dX10_undo_47 rfl (lv_at hl 0 rfl) ?_
    refine sd_get C0 h (C := RX10) (T := TX10) (N := 17) kcX10 0 (aY_0 ad cA _) rfl 1 (by decide) kfX10_14 (v := .ref (ad 2)) rfl dX10_undo_48 ?_
    refine lv_sipush (v := 4564) hx hb dX10_undo_51 (by decide) ?_
    refine lv_aload_n hx hb dX10_undo_54 rfl (lv_at hl 0 rfl) ?_
    refine sd_get C0 h (C := RX10) (T := TX10) (N := 17) kcX10 0 (aY_0 ad cA _) rfl 4 (by decide) kfX10_35 (v := .int (fI S 1)) rfl dX10_undo_55 ?_
    refine lv_imul hx hb dX10_undo_58 ?_
    refine lv_iload_n hx hb dX10_undo_59 rfl (lv_at hl 1 rfl) ?_
    refine lv_iadd hx hb dX10_undo_60 ?_
    obtain ⟨x2, hx2, hm⟩ := bs hm
    refine sd_rd C0 h 2 (aY_2 ad cA _) hx2 dX10_undo_61 ?_
    obtain ⟨g3, hg3, hm⟩ := bs hm
    refine sd_wr C0 h (S1 := (sA S 0 g3)) 1 (aY_1 ad cA _) hg3 (eY_1 ad cA _ _) dX10_undo_62 (fun H locs h => ?_)
    refine lv_iinc (v := (v1 + 1)) (lv' := [(1, .int (v1 + 1)), (0, .ref (ad 0))]) hx hb dX10_undo_63 hl (k := 1) rfl rfl (by decide) rfl (fun ls hl => ?_)
    refine lv_goto (tgt := 35) hx hb dX10_undo_66 (by decide) ?_
    exact hrc35 _ _ _ _ _ h (lv_sub hl [1, 0] rfl) hm
def mX10_undo_35 (z : Nat) : Nat → Int32 → St → Option (Int32 × St)
  | 0, _, _ => none
  | n + 1, v1, S => mX10_undo_35b z (mX10_undo_35 z n) v1 S
set_option maxHeartbeats 4000000 in
set_option maxRecDepth 100000 in
theorem lX10_undo_35 {p : Program} {l : Launch} {e : Env} {s : State} {m : MethodId} {args : Array Value} {below : List Frame} {meth : Method} {c : Code} {D : va_G} {cA : ClassId} {ad : Nat → Nat} {A : Nat → Prop} {q : (Int32 × St)} {z : Nat} (C0 : sd_Cx RX10 cX10_undo 2 (some .boolean) (Cond.code yX10_undo cX10_undo 2 (some .boolean) :: sd_big) p s m args meth c)  : ∀ (n : Nat) (v1 : Int32) (S : St) (H : Heap) (locs : List Loc) (ls : Array Slot), sd_Wd D vwCl cA sd_nw (wY ad cA) A s S H locs → lv_has ls 2 [(0, .ref (ad 0)), (1, .int v1)] → mX10_undo_35 z n v1 S = some q → W p l e rX10_undo s m args below meth c H locs 0 0 (MQ below (sd_Qi D vwCl (wY ad cA) A q) args s 0 0 A) (F0 m 35 ls []) := by
  intro n
  induction n with
  | zero =>
    intro v1 S H locs ls h hl hm
    exact nomatch (show none = some q from hm)
  | succ n ih =>
    intro v1 S H locs ls h hl hm
    exact bX10_undo_35b C0 h hl ih hm
def mX10_undo (z : Nat) (S : St) : Option (Int32 × St) :=
  if (fI S 0) = 0 then
    some (0, S)
  else
    mX10_undo_35 z z 0 (sI (sI S 1 (((fI S 1) + 19) - ((fI S 1) + 19) / 20 * 20)) 0 ((fI (sI S 1 (((fI S 1) + 19) - ((fI S 1) + 19) / 20 * 20)) 0) - 1))
set_option maxHeartbeats 4000000 in
set_option maxRecDepth 100000 in
theorem bX10_undo {p : Program} {l : Launch} {e : Env} {s : State} {m : MethodId} {args : Array Value} {below : List Frame} {meth : Method} {c : Code} {D : va_G} {cA : ClassId} {ad : Nat → Nat} {A : Nat → Prop} {H : Heap} {locs : List Loc} {ls : Array Slot} {q : (Int32 × St)} {z : Nat} {S : St} (C0 : sd_Cx RX10 cX10_undo 2 (some .boolean) (Cond.code yX10_undo cX10_undo 2 (some .boolean) :: sd_big) p s m args meth c) (h : sd_Wd D vwCl cA sd_nw (wY ad cA) A s S H locs) (hl : lv_has ls 2 [(0, .ref (ad 0))])  (hm : mX10_undo z S = some q) : W p l e rX10_undo s m args below meth c H locs 0 0 (MQ below (sd_Qi D vwCl (wY ad cA) A q) args s 0 0 A) (F0 m 0 ls []) := by
  unfold mX10_undo at hm
  have hx := C0.1
  have hb := C0.2.1
  refine lv_aload_n hx hb dX10_undo_0 rfl (lv_at hl 0 rfl) ?_
  refine sd_get C0 h (C := RX10) (T := TX10) (N := 17) kcX10 0 (aY_0 ad cA _) rfl 3 (by decide) kfX10_39 (v := .int (fI S 0)) rfl dX10_undo_1 ?_
  refine lv_if_ne (tgt := 9) hx hb dX10_undo_4 (by decide) (fun c1 => ?_) (fun c1 => ?_)
  · replace hm := iq c1 hm
    refine lv_aload_n hx hb dX10_undo_9 rfl (lv_at hl 0 rfl) ?_
    refine lv_aload_n hx hb dX10_undo_10 rfl (lv_at hl 0 rfl) ?_
    refine sd_get C0 h (C := RX10) (T := TX10) (N := 17) kcX10 0 (aY_0 ad cA _) rfl 4 (by decide) kfX10_35 (v := .int (fI S 1)) rfl dX10_undo_11 ?_
    refine lv_bipush (v := 19) hx hb dX10_undo_14 (by decide) ?_
    refine lv_iadd hx hb dX10_undo_16 ?_
    refine lv_bipush (v := 20) hx hb dX10_undo_17 (by decide) ?_
    refine lv_irem hx hb dX10_undo_19 (by decide) ?_
    refine sd_put C0 h (C := RX10) (T := TX10) (N := 17) (S1 := (sI S 1 (((fI S 1) + 19) - ((fI S 1) + 19) / 20 * 20))) kcX10 tyX10 tyX10_ok nmX10 0 (aY_0 ad cA _) rfl 4 (by decide) kfX10_35 rfl (ty := .int) (by decide +kernel) rfl rfl (Nat.le_of_ble_eq_true rfl) (eY_0_4 ad cA _ _) dX10_undo_20 (fun H locs h => ?_)
    refine lv_aload_n hx hb dX10_undo_23 rfl (lv_at hl 0 rfl) ?_
    refine lv_dup hx hb dX10_undo_24 rfl ?_
    refine sd_get C0 h (C := RX10) (T := TX10) (N := 17) kcX10 0 (aY_0 ad cA _) rfl 3 (by decide) kfX10_39 (v := .int (fI (sI S 1 (((fI S 1) + 19) - ((fI S 1) + 19) / 20 * 20)) 0)) rfl dX10_undo_25 ?_
    refine lv_iconst (v := 1) hx hb dX10_undo_28 (by decide) ?_
    refine lv_isub hx hb dX10_undo_29 ?_
    refine sd_put C0 h (C := RX10) (T := TX10) (N := 17) (S1 := (sI (sI S 1 (((fI S 1) + 19) - ((fI S 1) + 19) / 20 * 20)) 0 ((fI (sI S 1 (((fI S 1) + 19) - ((fI S 1) + 19) / 20 * 20)) 0) - 1))) kcX10 tyX10 tyX10_ok nmX10 0 (aY_0 ad cA _) rfl 3 (by decide) kfX10_39 rfl (ty := .int) (by decide +kernel) rfl rfl (Nat.le_of_ble_eq_true rfl) (eY_0_3 ad cA _ _) dX10_undo_30 (fun H locs h => ?_)
    refine lv_iconst (v := 0) hx hb dX10_undo_33 (by decide) ?_
    refine lv_istore_n (lv' := [(1, .int 0), (0, .ref (ad 0))]) hx hb dX10_undo_34 rfl hl (by decide) rfl (fun ls hl => ?_)
    exact lX10_undo_35 C0 _ _ _ _ _ _ h (lv_sub hl [1, 0] rfl) hm
  · replace hm := ip c1 hm
    refine lv_iconst (v := 0) hx hb dX10_undo_7 (by decide) ?_
    exact sd_zret C0 h (Option.some.inj hm) rfl dX10_undo_8
theorem tX10_undo (l : Launch) (D : va_G) (cA : ClassId) (ad : Nat → Nat) {z : Nat} {S : St}  {q : (Int32 × St)} (hm : mX10_undo z S = some q) : sd_MI l D vwCl cA sd_nw (wY ad cA) yX10_undo (Cond.code yX10_undo cX10_undo 2 (some .boolean) :: sd_big) rX10_undo [.ref (ad 0)] S q :=
  sd_ofI (by decide +kernel) (Nat.le_of_ble_eq_true rfl) (fun _ _ _ _ _ _ _ _ _ _ C0 h hl => bX10_undo C0 h (lv_sub hl [0] rfl) hm)

def rX10_image : Room := { frames := 0, cells := 0, slots := 0, locals := 0 }
def mX10_image_27 (z : Nat) (S : St) : Option St :=
  some (sI S 2 1)
set_option maxHeartbeats 4000000 in
set_option maxRecDepth 100000 in
theorem bX10_image_27 {p : Program} {l : Launch} {e : Env} {s : State} {m : MethodId} {args : Array Value} {below : List Frame} {meth : Method} {c : Code} {D : va_G} {cA : ClassId} {ad : Nat → Nat} {A : Nat → Prop} {H : Heap} {locs : List Loc} {ls : Array Slot} {q : St} {z : Nat} {S : St} (C0 : sd_Cx RX10 cX10_image 2 none (Cond.code yX10_image cX10_image 2 none :: sd_big) p s m args meth c) (h : sd_Wd D vwCl cA sd_nw (wY ad cA) A s S H locs) (hl : lv_has ls 2 [(0, .ref (ad 0))])  (hm : mX10_image_27 z S = some q) : W p l e rX10_image s m args below meth c H locs 0 0 (MQ below (sd_Qv D vwCl (wY ad cA) A q) args s 0 0 A) (F0 m 27 ls []) := by
  unfold mX10_image_27 at hm
  have hx := C0.1
  have hb := C0.2.1
  refine lv_aload_n hx hb dX10_image_27 rfl (lv_at hl 0 rfl) ?_
  refine lv_iconst (v := 1) hx hb dX10_image_28 (by decide) ?_
  refine sd_put C0 h (C := RX10) (T := TX10) (N := 17) (S1 := (sI S 2 1)) kcX10 tyX10 tyX10_ok nmX10 0 (aY_0 ad cA _) rfl 5 (by decide) kfX10_42 rfl (ty := .boolean) (by decide +kernel) rfl rfl (Nat.le_of_ble_eq_true rfl) (eY_0_5 ad cA _ _) dX10_image_29 (fun H locs h => ?_)
  exact sd_vret C0 h (Option.some.inj hm) dX10_image_32
def mX10_image_2b (z : Nat) (rc2 : Int32 → St → Option St) (v1 : Int32) (S : St) : Option St :=
  if 4564 ≤ v1 then
    mX10_image_27 z S
  else
    (rd (fA S 0) 4564 v1).bind fun x2 =>
    (wr (fA S 2) 4564 v1 x2).bind fun g3 =>
    rc2 (v1 + 1) (sA S 2 g3)
set_option maxHeartbeats 4000000 in
set_option maxRecDepth 100000 in
theorem bX10_image_2b {p : Program} {l : Launch} {e : Env} {s : State} {m : MethodId} {args : Array Value} {below : List Frame} {meth : Method} {c : Code} {D : va_G} {cA : ClassId} {ad : Nat → Nat} {A : Nat → Prop} {H : Heap} {locs : List Loc} {ls : Array Slot} {q : St} {z : Nat} {rc2 : Int32 → St → Option St} {v1 : Int32} {S : St} (C0 : sd_Cx RX10 cX10_image 2 none (Cond.code yX10_image cX10_image 2 none :: sd_big) p s m args meth c) (h : sd_Wd D vwCl cA sd_nw (wY ad cA) A s S H locs) (hl : lv_has ls 2 [(0, .ref (ad 0)), (1, .int v1)]) (hrc2 : ∀ (v1 : Int32) (S : St) (H : Heap) (locs : List Loc) (ls : Array Slot), sd_Wd D vwCl cA sd_nw (wY ad cA) A s S H locs → lv_has ls 2 [(0, .ref (ad 0)), (1, .int v1)] → rc2 v1 S = some q → W p l e rX10_image s m args below meth c H locs 0 0 (MQ below (sd_Qv D vwCl (wY ad cA) A q) args s 0 0 A) (F0 m 2 ls [])) (hm : mX10_image_2b z rc2 v1 S = some q) : W p l e rX10_image s m args below meth c H locs 0 0 (MQ below (sd_Qv D vwCl (wY ad cA) A q) args s 0 0 A) (F0 m 2 ls []) := by
  unfold mX10_image_2b at hm
  have hx := C0.1
  have hb := C0.2.1
  refine lv_iload_n hx hb dX10_image_2 rfl (lv_at hl 1 rfl) ?_
  refine lv_sipush (v := 4564) hx hb dX10_image_3 (by decide) ?_
  refine lv_icmp_ge (tgt := 27) hx hb dX10_image_6 (by decide) (fun c1 => ?_) (fun c1 => ?_)
  · replace hm := ip c1 hm
    exact bX10_image_27 C0 h (lv_sub hl [0] rfl) hm
  · replace hm := iq c1 hm
    refine lv_aload_n hx hb dX10_image_9 rfl (lv_at hl 0 rfl) ?_
    refine sd_get C0 h (C := RX10) (T := TX10) (N := 17) kcX10 0 (aY_0 ad cA _) rfl 2 (by decide) kfX10_17 (v := .ref (ad 3)) rfl dX10_image_10 ?_
    refine lv_iload_n hx hb dX10_image_13 rfl (lv_at hl 1 rfl) ?_
    refine lv_aload_n hx hb dX10_image_14 rfl (lv_at hl 0 rfl) ?_
    refine sd_get C0 h (C := RX10) (T := TX10) (N := 17) kcX10 0 (aY_0 ad cA _) rfl 0 (by decide) kfX10_7 (v := .ref (ad 1)) rfl dX10_image_15 ?_
    refine lv_iload_n hx hb dX10_image_18 rfl (lv_at hl 1 rfl) ?_
    obtain ⟨x2, hx2, hm⟩ := bs hm
    refine sd_rd C0 h 1 (aY_1 ad cA _) hx2 dX10_image_19 ?_
    obtain ⟨g3, hg3, hm⟩ := bs hm
    refine sd_wr C0 h (S1 := (sA S 2 g3)) 3 (aY_3 ad cA _) hg3 (eY_3 ad cA _ _) dX10_image_20 (fun H locs h => ?_)
    refine lv_iinc (v := (v1 + 1)) (lv' := [(1, .int (v1 + 1)), (0, .ref (ad 0))]) hx hb dX10_image_21 hl (k := 1) rfl rfl (by decide) rfl (fun ls hl => ?_)
    refine lv_goto (tgt := 2) hx hb dX10_image_24 (by decide) ?_
    exact hrc2 _ _ _ _ _ h (lv_sub hl [1, 0] rfl) hm
def mX10_image_2 (z : Nat) : Nat → Int32 → St → Option St
  | 0, _, _ => none
  | n + 1, v1, S => mX10_image_2b z (mX10_image_2 z n) v1 S
set_option maxHeartbeats 4000000 in
set_option maxRecDepth 100000 in
theorem lX10_image_2 {p : Program} {l : Launch} {e : Env} {s : State} {m : MethodId} {args : Array Value} {below : List Frame} {meth : Method} {c : Code} {D : va_G} {cA : ClassId} {ad : Nat → Nat} {A : Nat → Prop} {q : St} {z : Nat} (C0 : sd_Cx RX10 cX10_image 2 none (Cond.code yX10_image cX10_image 2 none :: sd_big) p s m args meth c)  : ∀ (n : Nat) (v1 : Int32) (S : St) (H : Heap) (locs : List Loc) (ls : Array Slot), sd_Wd D vwCl cA sd_nw (wY ad cA) A s S H locs → lv_has ls 2 [(0, .ref (ad 0)), (1, .int v1)] → mX10_image_2 z n v1 S = some q → W p l e rX10_image s m args below meth c H locs 0 0 (MQ below (sd_Qv D vwCl (wY ad cA) A q) args s 0 0 A) (F0 m 2 ls []) := by
  intro n
  induction n with
  | zero =>
    intro v1 S H locs ls h hl hm
    exact nomatch (show none = some q from hm)
  | succ n ih =>
    intro v1 S H locs ls h hl hm
    exact bX10_image_2b C0 h hl ih hm
def mX10_image (z : Nat) (S : St) : Option St :=
  mX10_image_2 z z 0 S
set_option maxHeartbeats 4000000 in
set_option maxRecDepth 100000 in
theorem bX10_image {p : Program} {l : Launch} {e : Env} {s : State} {m : MethodId} {args : Array Value} {below : List Frame} {meth : Method} {c : Code} {D : va_G} {cA : ClassId} {ad : Nat → Nat} {A : Nat → Prop} {H : Heap} {locs : List Loc} {ls : Array Slot} {q : St} {z : Nat} {S : St} (C0 : sd_Cx RX10 cX10_image 2 none (Cond.code yX10_image cX10_image 2 none :: sd_big) p s m args meth c) (h : sd_Wd D vwCl cA sd_nw (wY ad cA) A s S H locs) (hl : lv_has ls 2 [(0, .ref (ad 0))])  (hm : mX10_image z S = some q) : W p l e rX10_image s m args below meth c H locs 0 0 (MQ below (sd_Qv D vwCl (wY ad cA) A q) args s 0 0 A) (F0 m 0 ls []) := by
  unfold mX10_image at hm
  have hx := C0.1
  have hb := C0.2.1
  refine lv_iconst (v := 0) hx hb dX10_image_0 (by decide) ?_
  refine lv_istore_n (lv' := [(1, .int 0), (0, .ref (ad 0))]) hx hb dX10_image_1 rfl hl (by decide) rfl (fun ls hl => ?_)
  exact lX10_image_2 C0 _ _ _ _ _ _ h (lv_sub hl [1, 0] rfl) hm
theorem tX10_image (l : Launch) (D : va_G) (cA : ClassId) (ad : Nat → Nat) {z : Nat} {S : St}  {q : St} (hm : mX10_image z S = some q) : sd_MV l D vwCl cA sd_nw (wY ad cA) yX10_image (Cond.code yX10_image cX10_image 2 none :: sd_big) rX10_image [.ref (ad 0)] S q :=
  sd_ofV (by decide +kernel) (Nat.le_of_ble_eq_true rfl) (fun _ _ _ _ _ _ _ _ _ _ C0 h hl => bX10_image C0 h (lv_sub hl [0] rfl) hm)

def rX10_load : Room := { frames := 0, cells := 0, slots := 0, locals := 0 }
def mX10_load_36 (z : Nat) (S : St) : Option (Int32 × St) :=
  some (1, (sI S 0 0))
set_option maxHeartbeats 4000000 in
set_option maxRecDepth 100000 in
theorem bX10_load_36 {p : Program} {l : Launch} {e : Env} {s : State} {m : MethodId} {args : Array Value} {below : List Frame} {meth : Method} {c : Code} {D : va_G} {cA : ClassId} {ad : Nat → Nat} {A : Nat → Prop} {H : Heap} {locs : List Loc} {ls : Array Slot} {q : (Int32 × St)} {z : Nat} {S : St} (C0 : sd_Cx RX10 cX10_load 2 (some .boolean) (Cond.code yX10_load cX10_load 2 (some .boolean) :: sd_big) p s m args meth c) (h : sd_Wd D vwCl cA sd_nw (wY ad cA) A s S H locs) (hl : lv_has ls 2 [(0, .ref (ad 0))])  (hm : mX10_load_36 z S = some q) : W p l e rX10_load s m args below meth c H locs 0 0 (MQ below (sd_Qi D vwCl (wY ad cA) A q) args s 0 0 A) (F0 m 36 ls []) := by
  unfold mX10_load_36 at hm
  have hx := C0.1
  have hb := C0.2.1
  refine lv_aload_n hx hb dX10_load_36 rfl (lv_at hl 0 rfl) ?_
  refine lv_iconst (v := 0) hx hb dX10_load_37 (by decide) ?_
  refine sd_put C0 h (C := RX10) (T := TX10) (N := 17) (S1 := (sI S 0 0)) kcX10 tyX10 tyX10_ok nmX10 0 (aY_0 ad cA _) rfl 3 (by decide) kfX10_39 rfl (ty := .int) (by decide +kernel) rfl rfl (Nat.le_of_ble_eq_true rfl) (eY_0_3 ad cA _ _) dX10_load_38 (fun H locs h => ?_)
  refine lv_iconst (v := 1) hx hb dX10_load_41 (by decide) ?_
  exact sd_zret C0 h (Option.some.inj hm) rfl dX10_load_42
def mX10_load_11b (z : Nat) (rc11 : Int32 → St → Option (Int32 × St)) (v1 : Int32) (S : St) : Option (Int32 × St) :=
  if 4564 ≤ v1 then
    mX10_load_36 z S
  else
    (rd (fA S 2) 4564 v1).bind fun x2 =>
    (wr (fA S 0) 4564 v1 x2).bind fun g3 =>
    rc11 (v1 + 1) (sA S 0 g3)
set_option maxHeartbeats 4000000 in
set_option maxRecDepth 100000 in
theorem bX10_load_11b {p : Program} {l : Launch} {e : Env} {s : State} {m : MethodId} {args : Array Value} {below : List Frame} {meth : Method} {c : Code} {D : va_G} {cA : ClassId} {ad : Nat → Nat} {A : Nat → Prop} {H : Heap} {locs : List Loc} {ls : Array Slot} {q : (Int32 × St)} {z : Nat} {rc11 : Int32 → St → Option (Int32 × St)} {v1 : Int32} {S : St} (C0 : sd_Cx RX10 cX10_load 2 (some .boolean) (Cond.code yX10_load cX10_load 2 (some .boolean) :: sd_big) p s m args meth c) (h : sd_Wd D vwCl cA sd_nw (wY ad cA) A s S H locs) (hl : lv_has ls 2 [(0, .ref (ad 0)), (1, .int v1)]) (hrc11 : ∀ (v1 : Int32) (S : St) (H : Heap) (locs : List Loc) (ls : Array Slot), sd_Wd D vwCl cA sd_nw (wY ad cA) A s S H locs → lv_has ls 2 [(0, .ref (ad 0)), (1, .int v1)] → rc11 v1 S = some q → W p l e rX10_load s m args below meth c H locs 0 0 (MQ below (sd_Qi D vwCl (wY ad cA) A q) args s 0 0 A) (F0 m 11 ls [])) (hm : mX10_load_11b z rc11 v1 S = some q) : W p l e rX10_load s m args below meth c H locs 0 0 (MQ below (sd_Qi D vwCl (wY ad cA) A q) args s 0 0 A) (F0 m 11 ls []) := by
  unfold mX10_load_11b at hm
  have hx := C0.1
  have hb := C0.2.1
  refine lv_iload_n hx hb dX10_load_11 rfl (lv_at hl 1 rfl) ?_
  refine lv_sipush (v := 4564) hx hb dX10_load_12 (by decide) ?_
  refine lv_icmp_ge (tgt := 36) hx hb dX10_load_15 (by decide) (fun c1 => ?_) (fun c1 => ?_)
  · replace hm := ip c1 hm
    exact bX10_load_36 C0 h (lv_sub hl [0] rfl) hm
  · replace hm := iq c1 hm
    refine lv_aload_n hx hb dX10_load_18 rfl (lv_at hl 0 rfl) ?_
    refine sd_get C0 h (C := RX10) (T := TX10) (N := 17) kcX10 0 (aY_0 ad cA _) rfl 0 (by decide) kfX10_7 (v := .ref (ad 1)) rfl dX10_load_19 ?_
    refine lv_iload_n hx hb dX10_load_22 rfl (lv_at hl 1 rfl) ?_
    refine lv_aload_n hx hb dX10_load_23 rfl (lv_at hl 0 rfl) ?_
    refine sd_get C0 h (C := RX10) (T := TX10) (N := 17) kcX10 0 (aY_0 ad cA _) rfl 2 (by decide) kfX10_17 (v := .ref (ad 3)) rfl dX10_load_24 ?_
    refine lv_iload_n hx hb dX10_load_27 rfl (lv_at hl 1 rfl) ?_
    obtain ⟨x2, hx2, hm⟩ := bs hm
    refine sd_rd C0 h 3 (aY_3 ad cA _) hx2 dX10_load_28 ?_
    obtain ⟨g3, hg3, hm⟩ := bs hm
    refine sd_wr C0 h (S1 := (sA S 0 g3)) 1 (aY_1 ad cA _) hg3 (eY_1 ad cA _ _) dX10_load_29 (fun H locs h => ?_)
    refine lv_iinc (v := (v1 + 1)) (lv' := [(1, .int (v1 + 1)), (0, .ref (ad 0))]) hx hb dX10_load_30 hl (k := 1) rfl rfl (by decide) rfl (fun ls hl => ?_)
    refine lv_goto (tgt := 11) hx hb dX10_load_33 (by decide) ?_
    exact hrc11 _ _ _ _ _ h (lv_sub hl [1, 0] rfl) hm
def mX10_load_11 (z : Nat) : Nat → Int32 → St → Option (Int32 × St)
  | 0, _, _ => none
  | n + 1, v1, S => mX10_load_11b z (mX10_load_11 z n) v1 S
set_option maxHeartbeats 4000000 in
set_option maxRecDepth 100000 in
theorem lX10_load_11 {p : Program} {l : Launch} {e : Env} {s : State} {m : MethodId} {args : Array Value} {below : List Frame} {meth : Method} {c : Code} {D : va_G} {cA : ClassId} {ad : Nat → Nat} {A : Nat → Prop} {q : (Int32 × St)} {z : Nat} (C0 : sd_Cx RX10 cX10_load 2 (some .boolean) (Cond.code yX10_load cX10_load 2 (some .boolean) :: sd_big) p s m args meth c)  : ∀ (n : Nat) (v1 : Int32) (S : St) (H : Heap) (locs : List Loc) (ls : Array Slot), sd_Wd D vwCl cA sd_nw (wY ad cA) A s S H locs → lv_has ls 2 [(0, .ref (ad 0)), (1, .int v1)] → mX10_load_11 z n v1 S = some q → W p l e rX10_load s m args below meth c H locs 0 0 (MQ below (sd_Qi D vwCl (wY ad cA) A q) args s 0 0 A) (F0 m 11 ls []) := by
  intro n
  induction n with
  | zero =>
    intro v1 S H locs ls h hl hm
    exact nomatch (show none = some q from hm)
  | succ n ih =>
    intro v1 S H locs ls h hl hm
    exact bX10_load_11b C0 h hl ih hm
def mX10_load (z : Nat) (S : St) : Option (Int32 × St) :=
  if (fI S 2) = 0 then
    some (0, S)
  else
    mX10_load_11 z z 0 S
set_option maxHeartbeats 4000000 in
set_option maxRecDepth 100000 in
theorem bX10_load {p : Program} {l : Launch} {e : Env} {s : State} {m : MethodId} {args : Array Value} {below : List Frame} {meth : Method} {c : Code} {D : va_G} {cA : ClassId} {ad : Nat → Nat} {A : Nat → Prop} {H : Heap} {locs : List Loc} {ls : Array Slot} {q : (Int32 × St)} {z : Nat} {S : St} (C0 : sd_Cx RX10 cX10_load 2 (some .boolean) (Cond.code yX10_load cX10_load 2 (some .boolean) :: sd_big) p s m args meth c) (h : sd_Wd D vwCl cA sd_nw (wY ad cA) A s S H locs) (hl : lv_has ls 2 [(0, .ref (ad 0))])  (hm : mX10_load z S = some q) : W p l e rX10_load s m args below meth c H locs 0 0 (MQ below (sd_Qi D vwCl (wY ad cA) A q) args s 0 0 A) (F0 m 0 ls []) := by
  unfold mX10_load at hm
  have hx := C0.1
  have hb := C0.2.1
  refine lv_aload_n hx hb dX10_load_0 rfl (lv_at hl 0 rfl) ?_
  refine sd_get C0 h (C := RX10) (T := TX10) (N := 17) kcX10 0 (aY_0 ad cA _) rfl 5 (by decide) kfX10_42 (v := .int (fI S 2)) rfl dX10_load_1 ?_
  refine lv_if_ne (tgt := 9) hx hb dX10_load_4 (by decide) (fun c1 => ?_) (fun c1 => ?_)
  · replace hm := iq c1 hm
    refine lv_iconst (v := 0) hx hb dX10_load_9 (by decide) ?_
    refine lv_istore_n (lv' := [(1, .int 0), (0, .ref (ad 0))]) hx hb dX10_load_10 rfl hl (by decide) rfl (fun ls hl => ?_)
    exact lX10_load_11 C0 _ _ _ _ _ _ h (lv_sub hl [1, 0] rfl) hm
  · replace hm := ip c1 hm
    refine lv_iconst (v := 0) hx hb dX10_load_7 (by decide) ?_
    exact sd_zret C0 h (Option.some.inj hm) rfl dX10_load_8
theorem tX10_load (l : Launch) (D : va_G) (cA : ClassId) (ad : Nat → Nat) {z : Nat} {S : St}  {q : (Int32 × St)} (hm : mX10_load z S = some q) : sd_MI l D vwCl cA sd_nw (wY ad cA) yX10_load (Cond.code yX10_load cX10_load 2 (some .boolean) :: sd_big) rX10_load [.ref (ad 0)] S q :=
  sd_ofI (by decide +kernel) (Nat.le_of_ble_eq_true rfl) (fun _ _ _ _ _ _ _ _ _ _ C0 h hl => bX10_load C0 h (lv_sub hl [0] rfl) hm)
