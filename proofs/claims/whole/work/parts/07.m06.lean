def rX10_lists : Room := { frames := 0, cells := 0, slots := 0, locals := 0 }
def mX10_lists (v1 : Int32) (v2 : Int32) (S : St) : Option St :=
  (wr (fA S 3) 200 (fI S 6) v1).bind fun g1 =>
  (wr (fA (sA S 3 g1) 4) 200 (fI (sA S 3 g1) 6) v2).bind fun g2 =>
  some (sI (sA (sA S 3 g1) 4 g2) 6 ((fI (sA (sA S 3 g1) 4 g2) 6) + 1))
set_option maxHeartbeats 4000000 in
set_option maxRecDepth 100000 in
theorem bX10_lists {p : Program} {l : Launch} {e : Env} {s : State} {m : MethodId} {args : Array Value} {below : List Frame} {meth : Method} {c : Code} {D : va_G} {cA : ClassId} {ad : Nat → Nat} {A : Nat → Prop} {H : Heap} {locs : List Loc} {ls : Array Slot} {q : St} {v1 : Int32} {v2 : Int32} {S : St} (C0 : sd_Cx RX10 cX10_lists 3 none (Cond.code yX10_lists cX10_lists 3 none :: sd_big) p s m args meth c) (h : sd_Wd D vwCl cA sd_nw (wY ad cA) A s S H locs) (hl : lv_has ls 3 [(0, .ref (ad 0)), (1, .int v1), (2, .int v2)])  (hm : mX10_lists v1 v2 S = some q) : W p l e rX10_lists s m args below meth c H locs 0 0 (MQ below (sd_Qv D vwCl (wY ad cA) A q) args s 0 0 A) (F0 m 0 ls []) := by
  unfold mX10_lists at hm
  have hx := C0.1
  have hb := C0.2.1
  refine lv_aload_n hx hb dX10_lists_0 rfl (lv_at hl 0 rfl) ?_
  refine sd_get C0 h (C := RX10) (T := TX10) (N := 17) kcX10 0 (aY_0 ad cA _) rfl 11 (by decide) kfX10_20 (v := .ref (ad 4)) rfl dX10_lists_1 ?_
  refine lv_aload_n hx hb dX10_lists_4 rfl (lv_at hl 0 rfl) ?_
  refine sd_get C0 h (C := RX10) (T := TX10) (N := 17) kcX10 0 (aY_0 ad cA _) rfl 13 (by decide) kfX10_137 (v := .int (fI S 6)) rfl dX10_lists_5 ?_
  refine lv_iload_n hx hb dX10_lists_8 rfl (lv_at hl 1 rfl) ?_
  obtain ⟨g1, hg1, hm⟩ := bs hm
  refine sd_wr C0 h (S1 := (sA S 3 g1)) 4 (aY_4 ad cA _) hg1 (eY_4 ad cA _ _) dX10_lists_9 (fun H locs h => ?_)
  refine lv_aload_n hx hb dX10_lists_10 rfl (lv_at hl 0 rfl) ?_
  refine sd_get C0 h (C := RX10) (T := TX10) (N := 17) kcX10 0 (aY_0 ad cA _) rfl 12 (by decide) kfX10_23 (v := .ref (ad 5)) rfl dX10_lists_11 ?_
  refine lv_aload_n hx hb dX10_lists_14 rfl (lv_at hl 0 rfl) ?_
  refine sd_get C0 h (C := RX10) (T := TX10) (N := 17) kcX10 0 (aY_0 ad cA _) rfl 13 (by decide) kfX10_137 (v := .int (fI (sA S 3 g1) 6)) rfl dX10_lists_15 ?_
  refine lv_iload_n hx hb dX10_lists_18 rfl (lv_at hl 2 rfl) ?_
  obtain ⟨g2, hg2, hm⟩ := bs hm
  refine sd_wr C0 h (S1 := (sA (sA S 3 g1) 4 g2)) 5 (aY_5 ad cA _) hg2 (eY_5 ad cA _ _) dX10_lists_19 (fun H locs h => ?_)
  refine lv_aload_n hx hb dX10_lists_20 rfl (lv_at hl 0 rfl) ?_
  refine lv_dup hx hb dX10_lists_21 rfl ?_
  refine sd_get C0 h (C := RX10) (T := TX10) (N := 17) kcX10 0 (aY_0 ad cA _) rfl 13 (by decide) kfX10_137 (v := .int (fI (sA (sA S 3 g1) 4 g2) 6)) rfl dX10_lists_22 ?_
  refine lv_iconst (v := 1) hx hb dX10_lists_25 (by decide) ?_
  refine lv_iadd hx hb dX10_lists_26 ?_
  refine sd_put C0 h (C := RX10) (T := TX10) (N := 17) (S1 := (sI (sA (sA S 3 g1) 4 g2) 6 ((fI (sA (sA S 3 g1) 4 g2) 6) + 1))) kcX10 tyX10 tyX10_ok nmX10 0 (aY_0 ad cA _) rfl 13 (by decide) kfX10_137 rfl (ty := .int) (by decide +kernel) rfl rfl (Nat.le_of_ble_eq_true rfl) (eY_0_13 ad cA _ _) dX10_lists_27 (fun H locs h => ?_)
  exact sd_vret C0 h (Option.some.inj hm) dX10_lists_30
theorem tX10_lists (l : Launch) (D : va_G) (cA : ClassId) (ad : Nat → Nat) {S : St} {v1 : Int32} {v2 : Int32} {q : St} (hm : mX10_lists v1 v2 S = some q) : sd_MV l D vwCl cA sd_nw (wY ad cA) yX10_lists (Cond.code yX10_lists cX10_lists 3 none :: sd_big) rX10_lists [.ref (ad 0), .int v1, .int v2] S q :=
  sd_ofV (by decide +kernel) (Nat.le_of_ble_eq_true rfl) (fun _ _ _ _ _ _ _ _ _ _ C0 h hl => bX10_lists C0 h (lv_sub hl [0, 1, 2] rfl) hm)

def rX10_isListed : Room := { frames := 0, cells := 0, slots := 0, locals := 0 }
def mX10_isListed_4b (z : Nat) (S : St) (rc4 : Int32 → Int32 → Option Int32) (v1 : Int32) (v2 : Int32) (v3 : Int32) : Option Int32 :=
  if (fI S 6) ≤ v3 then
    zb v2 v2
  else
    if v2 = 0 then
      (rd (fA S 3) 200 v3).bind fun x3 =>
      if x3 = v1 then
        rc4 1 (v3 + 1)
      else
        rc4 0 (v3 + 1)
    else
      zb v2 v2
set_option maxHeartbeats 4000000 in
set_option maxRecDepth 100000 in
theorem bX10_isListed_4b {p : Program} {l : Launch} {e : Env} {s : State} {m : MethodId} {args : Array Value} {below : List Frame} {meth : Method} {c : Code} {D : va_G} {cA : ClassId} {ad : Nat → Nat} {A : Nat → Prop} {H : Heap} {locs : List Loc} {ls : Array Slot} {q : Int32} {z : Nat} {S : St} {rc4 : Int32 → Int32 → Option Int32} {v1 : Int32} {v2 : Int32} {v3 : Int32} (C0 : sd_Cx RX10 cX10_isListed 4 (some .boolean) (Cond.code yX10_isListed cX10_isListed 4 (some .boolean) :: sd_big) p s m args meth c) (h : sd_Wd D vwCl cA sd_nw (wY ad cA) A s S H locs) (hl : lv_has ls 4 [(0, .ref (ad 0)), (1, .int v1), (2, .int v2), (3, .int v3)]) (hrc4 : ∀ (v2 : Int32) (v3 : Int32) (H : Heap) (locs : List Loc) (ls : Array Slot), sd_Wd D vwCl cA sd_nw (wY ad cA) A s S H locs → lv_has ls 4 [(0, .ref (ad 0)), (1, .int v1), (2, .int v2), (3, .int v3)] → rc4 v2 v3 = some q → W p l e rX10_isListed s m args below meth c H locs 0 0 (MQ below (sd_Qi D vwCl (wY ad cA) A (q, S)) args s 0 0 A) (F0 m 4 ls [])) (hm : mX10_isListed_4b z S rc4 v1 v2 v3 = some q) : W p l e rX10_isListed s m args below meth c H locs 0 0 (MQ below (sd_Qi D vwCl (wY ad cA) A (q, S)) args s 0 0 A) (F0 m 4 ls []) := by
  unfold mX10_isListed_4b at hm
  have hx := C0.1
  have hb := C0.2.1
  refine lv_iload_n hx hb dX10_isListed_4 rfl (lv_at hl 3 rfl) ?_
  refine lv_aload_n hx hb dX10_isListed_5 rfl (lv_at hl 0 rfl) ?_
  refine sd_get C0 h (C := RX10) (T := TX10) (N := 17) kcX10 0 (aY_0 ad cA _) rfl 13 (by decide) kfX10_137 (v := .int (fI S 6)) rfl dX10_isListed_6 ?_
  refine lv_icmp_ge (tgt := 38) hx hb dX10_isListed_9 (by decide) (fun c1 => ?_) (fun c1 => ?_)
  · replace hm := ip c1 hm
    refine lv_iload_n hx hb dX10_isListed_38 rfl (lv_at hl 2 rfl) ?_
    obtain ⟨hz, hm⟩ := zb_some hm
    exact sd_zret C0 h (congrArg (fun x => (x, S)) hm) hz dX10_isListed_39
  · replace hm := iq c1 hm
    refine lv_iload_n hx hb dX10_isListed_12 rfl (lv_at hl 2 rfl) ?_
    refine lv_if_ne (tgt := 38) hx hb dX10_isListed_13 (by decide) (fun c2 => ?_) (fun c2 => ?_)
    · replace hm := iq c2 hm
      refine lv_iload_n hx hb dX10_isListed_38 rfl (lv_at hl 2 rfl) ?_
      obtain ⟨hz, hm⟩ := zb_some hm
      exact sd_zret C0 h (congrArg (fun x => (x, S)) hm) hz dX10_isListed_39
    · replace hm := ip c2 hm
      refine lv_aload_n hx hb dX10_isListed_16 rfl (lv_at hl 0 rfl) ?_
      refine sd_get C0 h (C := RX10) (T := TX10) (N := 17) kcX10 0 (aY_0 ad cA _) rfl 11 (by decide) kfX10_20 (v := .ref (ad 4)) rfl dX10_isListed_17 ?_
      refine lv_iload_n hx hb dX10_isListed_20 rfl (lv_at hl 3 rfl) ?_
      obtain ⟨x3, hx3, hm⟩ := bs hm
      refine sd_rd C0 h 4 (aY_4 ad cA _) hx3 dX10_isListed_21 ?_
      refine lv_iload_n hx hb dX10_isListed_22 rfl (lv_at hl 1 rfl) ?_
      refine lv_icmp_ne (tgt := 30) hx hb dX10_isListed_23 (by decide) (fun c4 => ?_) (fun c4 => ?_)
      · replace hm := iq c4 hm
        refine lv_iconst (v := 0) hx hb dX10_isListed_30 (by decide) ?_
        refine lv_istore_n (lv' := [(2, .int 0), (0, .ref (ad 0)), (1, .int v1), (3, .int v3)]) hx hb dX10_isListed_31 rfl hl (by decide) rfl (fun ls hl => ?_)
        refine lv_iinc (v := (v3 + 1)) (lv' := [(3, .int (v3 + 1)), (2, .int 0), (0, .ref (ad 0)), (1, .int v1)]) hx hb dX10_isListed_32 hl (k := 3) rfl rfl (by decide) rfl (fun ls hl => ?_)
        refine lv_goto (tgt := 4) hx hb dX10_isListed_35 (by decide) ?_
        exact hrc4 _ _ _ _ _ h (lv_sub hl [2, 3, 1, 0] rfl) hm
      · replace hm := ip c4 hm
        refine lv_iconst (v := 1) hx hb dX10_isListed_26 (by decide) ?_
        refine lv_goto (tgt := 31) hx hb dX10_isListed_27 (by decide) ?_
        refine lv_istore_n (lv' := [(2, .int 1), (0, .ref (ad 0)), (1, .int v1), (3, .int v3)]) hx hb dX10_isListed_31 rfl hl (by decide) rfl (fun ls hl => ?_)
        refine lv_iinc (v := (v3 + 1)) (lv' := [(3, .int (v3 + 1)), (2, .int 1), (0, .ref (ad 0)), (1, .int v1)]) hx hb dX10_isListed_32 hl (k := 3) rfl rfl (by decide) rfl (fun ls hl => ?_)
        refine lv_goto (tgt := 4) hx hb dX10_isListed_35 (by decide) ?_
        exact hrc4 _ _ _ _ _ h (lv_sub hl [2, 3, 1, 0] rfl) hm
def mX10_isListed_4 (z : Nat) (S : St) (v1 : Int32) : Nat → Int32 → Int32 → Option Int32
  | 0, _, _ => none
  | n + 1, v2, v3 => mX10_isListed_4b z S (mX10_isListed_4 z S v1 n) v1 v2 v3
set_option maxHeartbeats 4000000 in
set_option maxRecDepth 100000 in
theorem lX10_isListed_4 {p : Program} {l : Launch} {e : Env} {s : State} {m : MethodId} {args : Array Value} {below : List Frame} {meth : Method} {c : Code} {D : va_G} {cA : ClassId} {ad : Nat → Nat} {A : Nat → Prop} {q : Int32} {z : Nat} {S : St} {v1 : Int32} (C0 : sd_Cx RX10 cX10_isListed 4 (some .boolean) (Cond.code yX10_isListed cX10_isListed 4 (some .boolean) :: sd_big) p s m args meth c)  : ∀ (n : Nat) (v2 : Int32) (v3 : Int32) (H : Heap) (locs : List Loc) (ls : Array Slot), sd_Wd D vwCl cA sd_nw (wY ad cA) A s S H locs → lv_has ls 4 [(0, .ref (ad 0)), (1, .int v1), (2, .int v2), (3, .int v3)] → mX10_isListed_4 z S v1 n v2 v3 = some q → W p l e rX10_isListed s m args below meth c H locs 0 0 (MQ below (sd_Qi D vwCl (wY ad cA) A (q, S)) args s 0 0 A) (F0 m 4 ls []) := by
  intro n
  induction n with
  | zero =>
    intro v2 v3 H locs ls h hl hm
    exact nomatch (show none = some q from hm)
  | succ n ih =>
    intro v2 v3 H locs ls h hl hm
    exact bX10_isListed_4b C0 h hl ih hm
def mX10_isListed (z : Nat) (S : St) (v1 : Int32) : Option Int32 :=
  mX10_isListed_4 z S v1 z 0 0
set_option maxHeartbeats 4000000 in
set_option maxRecDepth 100000 in
theorem bX10_isListed {p : Program} {l : Launch} {e : Env} {s : State} {m : MethodId} {args : Array Value} {below : List Frame} {meth : Method} {c : Code} {D : va_G} {cA : ClassId} {ad : Nat → Nat} {A : Nat → Prop} {H : Heap} {locs : List Loc} {ls : Array Slot} {q : Int32} {z : Nat} {S : St} {v1 : Int32} (C0 : sd_Cx RX10 cX10_isListed 4 (some .boolean) (Cond.code yX10_isListed cX10_isListed 4 (some .boolean) :: sd_big) p s m args meth c) (h : sd_Wd D vwCl cA sd_nw (wY ad cA) A s S H locs) (hl : lv_has ls 4 [(0, .ref (ad 0)), (1, .int v1)])  (hm : mX10_isListed z S v1 = some q) : W p l e rX10_isListed s m args below meth c H locs 0 0 (MQ below (sd_Qi D vwCl (wY ad cA) A (q, S)) args s 0 0 A) (F0 m 0 ls []) := by
  unfold mX10_isListed at hm
  have hx := C0.1
  have hb := C0.2.1
  refine lv_iconst (v := 0) hx hb dX10_isListed_0 (by decide) ?_
  refine lv_istore_n (lv' := [(2, .int 0), (0, .ref (ad 0)), (1, .int v1)]) hx hb dX10_isListed_1 rfl hl (by decide) rfl (fun ls hl => ?_)
  refine lv_iconst (v := 0) hx hb dX10_isListed_2 (by decide) ?_
  refine lv_istore_n (lv' := [(3, .int 0), (2, .int 0), (0, .ref (ad 0)), (1, .int v1)]) hx hb dX10_isListed_3 rfl hl (by decide) rfl (fun ls hl => ?_)
  exact lX10_isListed_4 C0 _ _ _ _ _ _ h (lv_sub hl [2, 3, 1, 0] rfl) hm
theorem tX10_isListed (l : Launch) (D : va_G) (cA : ClassId) (ad : Nat → Nat) {z : Nat} {S : St} {v1 : Int32} {q : Int32} (hm : mX10_isListed z S v1 = some q) : sd_MI l D vwCl cA sd_nw (wY ad cA) yX10_isListed (Cond.code yX10_isListed cX10_isListed 4 (some .boolean) :: sd_big) rX10_isListed [.ref (ad 0), .int v1] S (q, S) :=
  sd_ofI (by decide +kernel) (Nat.le_of_ble_eq_true rfl) (fun _ _ _ _ _ _ _ _ _ _ C0 h hl => bX10_isListed C0 h (lv_sub hl [0, 1] rfl) hm)

def rX10_sheet : Room := { frames := 4, cells := 0, slots := 0, locals := 99 }
def mX10_sheet_273 (z : Nat) (rc108 : Int32 → St → Option St) (v1 : Int32) (v2 : Int32) (v3 : Int32) (v6 : Int32) (t0 : Int32) (S : St) : Option St :=
  if t0 = 0 then
    rc108 t0 S
  else
    (mX10_lists v6 2 S).bind fun u2 =>
    rc108 t0 u2
set_option maxHeartbeats 4000000 in
set_option maxRecDepth 100000 in
theorem bX10_sheet_273 {p : Program} {l : Launch} {e : Env} {s : State} {m : MethodId} {args : Array Value} {below : List Frame} {meth : Method} {c : Code} {D : va_G} {cA : ClassId} {ad : Nat → Nat} {A : Nat → Prop} {H : Heap} {locs : List Loc} {ls : Array Slot} {q : St} {z : Nat} {rc108 : Int32 → St → Option St} {v1 : Int32} {v2 : Int32} {v3 : Int32} {v6 : Int32} {t0 : Int32} {S : St} (C0 : sd_Cx RX10 cX10_sheet 11 none (Cond.code yX10_sheet cX10_sheet 11 none :: sd_big) p s m args meth c) (h : sd_Wd D vwCl cA sd_nw (wY ad cA) A s S H locs) (hl : lv_has ls 11 [(0, .ref (ad 0)), (1, .int v1), (2, .int v2), (3, .int v3), (6, .int v6)]) (hrc108 : ∀ (v5 : Int32) (S : St) (H : Heap) (locs : List Loc) (ls : Array Slot), sd_Wd D vwCl cA sd_nw (wY ad cA) A s S H locs → lv_has ls 11 [(0, .ref (ad 0)), (1, .int v1), (2, .int v2), (3, .int v3), (5, .int v5)] → rc108 v5 S = some q → W p l e rX10_sheet s m args below meth c H locs 0 0 (MQ below (sd_Qv D vwCl (wY ad cA) A q) args s 0 0 A) (F0 m 108 ls [])) (hm : mX10_sheet_273 z rc108 v1 v2 v3 v6 t0 S = some q) : W p l e rX10_sheet s m args below meth c H locs 0 0 (MQ below (sd_Qv D vwCl (wY ad cA) A q) args s 0 0 A) (F0 m 273 ls [.int t0]) := by
  unfold mX10_sheet_273 at hm
  have hx := C0.1
  have hb := C0.2.1
  refine lv_istore (lv' := [(5, .int t0), (0, .ref (ad 0)), (1, .int v1), (2, .int v2), (3, .int v3), (6, .int v6)]) hx hb dX10_sheet_273 hl (by decide) rfl (fun ls hl => ?_)
  refine lv_iload hx hb dX10_sheet_275 (lv_at hl 0 rfl) ?_
  refine lv_if_eq (tgt := 287) hx hb dX10_sheet_277 (by decide) (fun c1 => ?_) (fun c1 => ?_)
  · replace hm := ip c1 hm
    refine lv_goto (tgt := 108) hx hb dX10_sheet_287 (by decide) ?_
    exact hrc108 _ _ _ _ _ h (lv_sub hl [1, 2, 3, 4, 0] rfl) hm
  · replace hm := iq c1 hm
    refine lv_aload_n hx hb dX10_sheet_280 rfl (lv_at hl 1 rfl) ?_
    refine lv_iload hx hb dX10_sheet_281 (lv_at hl 5 rfl) ?_
    refine lv_iconst (v := 2) hx hb dX10_sheet_283 (by decide) ?_
    obtain ⟨u2, hu2, hm⟩ := bs hm
    refine sd_Vv C0 h kYX10_lists kmX10_146 0 (aY_0 ad cA _) rfl [.int v6, .int 2] (tX10_lists l D cA ad hu2) rfl hl.1 rfl (Nat.le_of_ble_eq_true rfl) (by decide) dX10_sheet_284 (by decide) (fun H locs h => ?_)
    refine lv_goto (tgt := 108) hx hb dX10_sheet_287 (by decide) ?_
    exact hrc108 _ _ _ _ _ h (lv_sub hl [1, 2, 3, 4, 0] rfl) hm
def mX10_sheet_263 (z : Nat) (rc108 : Int32 → St → Option St) (v1 : Int32) (v2 : Int32) (v3 : Int32) (v6 : Int32) (S : St) : Option St :=
  if v6 < 0 then
    mX10_sheet_273 z rc108 v1 v2 v3 v6 0 S
  else
    mX10_sheet_273 z rc108 v1 v2 v3 v6 1 S
set_option maxHeartbeats 4000000 in
set_option maxRecDepth 100000 in
theorem bX10_sheet_263 {p : Program} {l : Launch} {e : Env} {s : State} {m : MethodId} {args : Array Value} {below : List Frame} {meth : Method} {c : Code} {D : va_G} {cA : ClassId} {ad : Nat → Nat} {A : Nat → Prop} {H : Heap} {locs : List Loc} {ls : Array Slot} {q : St} {z : Nat} {rc108 : Int32 → St → Option St} {v1 : Int32} {v2 : Int32} {v3 : Int32} {v6 : Int32} {S : St} (C0 : sd_Cx RX10 cX10_sheet 11 none (Cond.code yX10_sheet cX10_sheet 11 none :: sd_big) p s m args meth c) (h : sd_Wd D vwCl cA sd_nw (wY ad cA) A s S H locs) (hl : lv_has ls 11 [(0, .ref (ad 0)), (1, .int v1), (2, .int v2), (3, .int v3), (6, .int v6)]) (hrc108 : ∀ (v5 : Int32) (S : St) (H : Heap) (locs : List Loc) (ls : Array Slot), sd_Wd D vwCl cA sd_nw (wY ad cA) A s S H locs → lv_has ls 11 [(0, .ref (ad 0)), (1, .int v1), (2, .int v2), (3, .int v3), (5, .int v5)] → rc108 v5 S = some q → W p l e rX10_sheet s m args below meth c H locs 0 0 (MQ below (sd_Qv D vwCl (wY ad cA) A q) args s 0 0 A) (F0 m 108 ls [])) (hm : mX10_sheet_263 z rc108 v1 v2 v3 v6 S = some q) : W p l e rX10_sheet s m args below meth c H locs 0 0 (MQ below (sd_Qv D vwCl (wY ad cA) A q) args s 0 0 A) (F0 m 263 ls []) := by
  unfold mX10_sheet_263 at hm
  have hx := C0.1
  have hb := C0.2.1
  refine lv_iload hx hb dX10_sheet_263 (lv_at hl 4 rfl) ?_
  refine lv_if_lt (tgt := 272) hx hb dX10_sheet_265 (by decide) (fun c1 => ?_) (fun c1 => ?_)
  · replace hm := ip c1 hm
    refine lv_iconst (v := 0) hx hb dX10_sheet_272 (by decide) ?_
    exact bX10_sheet_273 C0 h (lv_sub hl [0, 1, 2, 3, 4] rfl) hrc108 hm
  · replace hm := iq c1 hm
    refine lv_iconst (v := 1) hx hb dX10_sheet_268 (by decide) ?_
    refine lv_goto (tgt := 273) hx hb dX10_sheet_269 (by decide) ?_
    exact bX10_sheet_273 C0 h (lv_sub hl [0, 1, 2, 3, 4] rfl) hrc108 hm
def mX10_sheet_234 (z : Nat) (rc108 : Int32 → St → Option St) (rc130 : Int32 → Int32 → Int32 → St → Option St) (v1 : Int32) (v2 : Int32) (v3 : Int32) (v6 : Int32) (v7 : Int32) (v8 : Int32) (v9 : Int32) (S : St) : Option St :=
  if v6 < 0 then
    rc130 v8 v9 (v8 + 1) S
  else
    if v7 < v9 then
      rc130 v8 v9 (v8 + 1) S
    else
      rc130 v6 v7 (v8 + 1) S
set_option maxHeartbeats 4000000 in
set_option maxRecDepth 100000 in
theorem bX10_sheet_234 {p : Program} {l : Launch} {e : Env} {s : State} {m : MethodId} {args : Array Value} {below : List Frame} {meth : Method} {c : Code} {D : va_G} {cA : ClassId} {ad : Nat → Nat} {A : Nat → Prop} {H : Heap} {locs : List Loc} {ls : Array Slot} {q : St} {z : Nat} {rc108 : Int32 → St → Option St} {rc130 : Int32 → Int32 → Int32 → St → Option St} {v1 : Int32} {v2 : Int32} {v3 : Int32} {v6 : Int32} {v7 : Int32} {v8 : Int32} {v9 : Int32} {S : St} (C0 : sd_Cx RX10 cX10_sheet 11 none (Cond.code yX10_sheet cX10_sheet 11 none :: sd_big) p s m args meth c) (h : sd_Wd D vwCl cA sd_nw (wY ad cA) A s S H locs) (hl : lv_has ls 11 [(0, .ref (ad 0)), (1, .int v1), (2, .int v2), (3, .int v3), (6, .int v6), (7, .int v7), (8, .int v8), (9, .int v9)]) (hrc108 : ∀ (v5 : Int32) (S : St) (H : Heap) (locs : List Loc) (ls : Array Slot), sd_Wd D vwCl cA sd_nw (wY ad cA) A s S H locs → lv_has ls 11 [(0, .ref (ad 0)), (1, .int v1), (2, .int v2), (3, .int v3), (5, .int v5)] → rc108 v5 S = some q → W p l e rX10_sheet s m args below meth c H locs 0 0 (MQ below (sd_Qv D vwCl (wY ad cA) A q) args s 0 0 A) (F0 m 108 ls [])) (hrc130 : ∀ (v6 : Int32) (v7 : Int32) (v8 : Int32) (S : St) (H : Heap) (locs : List Loc) (ls : Array Slot), sd_Wd D vwCl cA sd_nw (wY ad cA) A s S H locs → lv_has ls 11 [(0, .ref (ad 0)), (1, .int v1), (2, .int v2), (3, .int v3), (6, .int v6), (7, .int v7), (8, .int v8)] → rc130 v6 v7 v8 S = some q → W p l e rX10_sheet s m args below meth c H locs 0 0 (MQ below (sd_Qv D vwCl (wY ad cA) A q) args s 0 0 A) (F0 m 130 ls [])) (hm : mX10_sheet_234 z rc108 rc130 v1 v2 v3 v6 v7 v8 v9 S = some q) : W p l e rX10_sheet s m args below meth c H locs 0 0 (MQ below (sd_Qv D vwCl (wY ad cA) A q) args s 0 0 A) (F0 m 234 ls []) := by
  unfold mX10_sheet_234 at hm
  have hx := C0.1
  have hb := C0.2.1
  refine lv_iload hx hb dX10_sheet_234 (lv_at hl 4 rfl) ?_
  refine lv_if_lt (tgt := 249) hx hb dX10_sheet_236 (by decide) (fun c1 => ?_) (fun c1 => ?_)
  · replace hm := ip c1 hm
    refine lv_iload hx hb dX10_sheet_249 (lv_at hl 6 rfl) ?_
    refine lv_istore (lv' := [(6, .int v8), (0, .ref (ad 0)), (1, .int v1), (2, .int v2), (3, .int v3), (7, .int v7), (8, .int v8), (9, .int v9)]) hx hb dX10_sheet_251 hl (by decide) rfl (fun ls hl => ?_)
    refine lv_iload hx hb dX10_sheet_253 (lv_at hl 7 rfl) ?_
    refine lv_istore (lv' := [(7, .int v9), (6, .int v8), (0, .ref (ad 0)), (1, .int v1), (2, .int v2), (3, .int v3), (8, .int v8), (9, .int v9)]) hx hb dX10_sheet_255 hl (by decide) rfl (fun ls hl => ?_)
    refine lv_iinc (v := (v8 + 1)) (lv' := [(8, .int (v8 + 1)), (7, .int v9), (6, .int v8), (0, .ref (ad 0)), (1, .int v1), (2, .int v2), (3, .int v3), (9, .int v9)]) hx hb dX10_sheet_257 hl (k := 6) rfl rfl (by decide) rfl (fun ls hl => ?_)
    refine lv_goto (tgt := 130) hx hb dX10_sheet_260 (by decide) ?_
    exact hrc130 _ _ _ _ _ _ _ h (lv_sub hl [3, 4, 5, 6, 2, 1, 0] rfl) hm
  · replace hm := iq c1 hm
    refine lv_iload hx hb dX10_sheet_239 (lv_at hl 7 rfl) ?_
    refine lv_iload hx hb dX10_sheet_241 (lv_at hl 5 rfl) ?_
    refine lv_icmp_gt (tgt := 249) hx hb dX10_sheet_243 (by decide) (fun c2 => ?_) (fun c2 => ?_)
    · replace hm := ip c2 hm
      refine lv_iload hx hb dX10_sheet_249 (lv_at hl 6 rfl) ?_
      refine lv_istore (lv' := [(6, .int v8), (0, .ref (ad 0)), (1, .int v1), (2, .int v2), (3, .int v3), (7, .int v7), (8, .int v8), (9, .int v9)]) hx hb dX10_sheet_251 hl (by decide) rfl (fun ls hl => ?_)
      refine lv_iload hx hb dX10_sheet_253 (lv_at hl 7 rfl) ?_
      refine lv_istore (lv' := [(7, .int v9), (6, .int v8), (0, .ref (ad 0)), (1, .int v1), (2, .int v2), (3, .int v3), (8, .int v8), (9, .int v9)]) hx hb dX10_sheet_255 hl (by decide) rfl (fun ls hl => ?_)
      refine lv_iinc (v := (v8 + 1)) (lv' := [(8, .int (v8 + 1)), (7, .int v9), (6, .int v8), (0, .ref (ad 0)), (1, .int v1), (2, .int v2), (3, .int v3), (9, .int v9)]) hx hb dX10_sheet_257 hl (k := 6) rfl rfl (by decide) rfl (fun ls hl => ?_)
      refine lv_goto (tgt := 130) hx hb dX10_sheet_260 (by decide) ?_
      exact hrc130 _ _ _ _ _ _ _ h (lv_sub hl [3, 4, 5, 6, 2, 1, 0] rfl) hm
    · replace hm := iq c2 hm
      refine lv_goto (tgt := 257) hx hb dX10_sheet_246 (by decide) ?_
      refine lv_iinc (v := (v8 + 1)) (lv' := [(8, .int (v8 + 1)), (0, .ref (ad 0)), (1, .int v1), (2, .int v2), (3, .int v3), (6, .int v6), (7, .int v7), (9, .int v9)]) hx hb dX10_sheet_257 hl (k := 6) rfl rfl (by decide) rfl (fun ls hl => ?_)
      refine lv_goto (tgt := 130) hx hb dX10_sheet_260 (by decide) ?_
      exact hrc130 _ _ _ _ _ _ _ h (lv_sub hl [1, 2, 3, 4, 5, 6, 0] rfl) hm
def mX10_sheet_181b (z : Nat) (rc108 : Int32 → St → Option St) (rc130 : Int32 → Int32 → Int32 → St → Option St) (rc181 : Int32 → Int32 → St → Option St) (v1 : Int32) (v2 : Int32) (v3 : Int32) (v6 : Int32) (v7 : Int32) (v8 : Int32) (v9 : Int32) (v10 : Int32) (S : St) : Option St :=
  if (fI S 6) ≤ v10 then
    mX10_sheet_234 z rc108 rc130 v1 v2 v3 v6 v7 v8 v9 S
  else
    (rd (fA S 3) 200 v10).bind fun x2 =>
    (mX10_far S v8 x2).bind fun u3 =>
    if v9 ≤ u3 then
      rc181 v9 (v10 + 1) S
    else
      (rd (fA S 3) 200 v10).bind fun x5 =>
      (mX10_far S v8 x5).bind fun u6 =>
      rc181 u6 (v10 + 1) S
set_option maxHeartbeats 4000000 in
set_option maxRecDepth 100000 in
theorem bX10_sheet_181b {p : Program} {l : Launch} {e : Env} {s : State} {m : MethodId} {args : Array Value} {below : List Frame} {meth : Method} {c : Code} {D : va_G} {cA : ClassId} {ad : Nat → Nat} {A : Nat → Prop} {H : Heap} {locs : List Loc} {ls : Array Slot} {q : St} {z : Nat} {rc108 : Int32 → St → Option St} {rc130 : Int32 → Int32 → Int32 → St → Option St} {rc181 : Int32 → Int32 → St → Option St} {v1 : Int32} {v2 : Int32} {v3 : Int32} {v6 : Int32} {v7 : Int32} {v8 : Int32} {v9 : Int32} {v10 : Int32} {S : St} (C0 : sd_Cx RX10 cX10_sheet 11 none (Cond.code yX10_sheet cX10_sheet 11 none :: sd_big) p s m args meth c) (h : sd_Wd D vwCl cA sd_nw (wY ad cA) A s S H locs) (hl : lv_has ls 11 [(0, .ref (ad 0)), (1, .int v1), (2, .int v2), (3, .int v3), (6, .int v6), (7, .int v7), (8, .int v8), (9, .int v9), (10, .int v10)]) (hrc108 : ∀ (v5 : Int32) (S : St) (H : Heap) (locs : List Loc) (ls : Array Slot), sd_Wd D vwCl cA sd_nw (wY ad cA) A s S H locs → lv_has ls 11 [(0, .ref (ad 0)), (1, .int v1), (2, .int v2), (3, .int v3), (5, .int v5)] → rc108 v5 S = some q → W p l e rX10_sheet s m args below meth c H locs 0 0 (MQ below (sd_Qv D vwCl (wY ad cA) A q) args s 0 0 A) (F0 m 108 ls [])) (hrc130 : ∀ (v6 : Int32) (v7 : Int32) (v8 : Int32) (S : St) (H : Heap) (locs : List Loc) (ls : Array Slot), sd_Wd D vwCl cA sd_nw (wY ad cA) A s S H locs → lv_has ls 11 [(0, .ref (ad 0)), (1, .int v1), (2, .int v2), (3, .int v3), (6, .int v6), (7, .int v7), (8, .int v8)] → rc130 v6 v7 v8 S = some q → W p l e rX10_sheet s m args below meth c H locs 0 0 (MQ below (sd_Qv D vwCl (wY ad cA) A q) args s 0 0 A) (F0 m 130 ls [])) (hrc181 : ∀ (v9 : Int32) (v10 : Int32) (S : St) (H : Heap) (locs : List Loc) (ls : Array Slot), sd_Wd D vwCl cA sd_nw (wY ad cA) A s S H locs → lv_has ls 11 [(0, .ref (ad 0)), (1, .int v1), (2, .int v2), (3, .int v3), (6, .int v6), (7, .int v7), (8, .int v8), (9, .int v9), (10, .int v10)] → rc181 v9 v10 S = some q → W p l e rX10_sheet s m args below meth c H locs 0 0 (MQ below (sd_Qv D vwCl (wY ad cA) A q) args s 0 0 A) (F0 m 181 ls [])) (hm : mX10_sheet_181b z rc108 rc130 rc181 v1 v2 v3 v6 v7 v8 v9 v10 S = some q) : W p l e rX10_sheet s m args below meth c H locs 0 0 (MQ below (sd_Qv D vwCl (wY ad cA) A q) args s 0 0 A) (F0 m 181 ls []) := by
  unfold mX10_sheet_181b at hm
  have hx := C0.1
  have hb := C0.2.1
  refine lv_iload hx hb dX10_sheet_181 (lv_at hl 8 rfl) ?_
  refine lv_aload_n hx hb dX10_sheet_183 rfl (lv_at hl 0 rfl) ?_
  refine sd_get C0 h (C := RX10) (T := TX10) (N := 17) kcX10 0 (aY_0 ad cA _) rfl 13 (by decide) kfX10_137 (v := .int (fI S 6)) rfl dX10_sheet_184 ?_
  refine lv_icmp_ge (tgt := 234) hx hb dX10_sheet_187 (by decide) (fun c1 => ?_) (fun c1 => ?_)
  · replace hm := ip c1 hm
    exact bX10_sheet_234 C0 h (lv_sub hl [0, 1, 2, 3, 4, 5, 6, 7] rfl) hrc108 hrc130 hm
  · replace hm := iq c1 hm
    refine lv_aload_n hx hb dX10_sheet_190 rfl (lv_at hl 0 rfl) ?_
    refine lv_iload hx hb dX10_sheet_191 (lv_at hl 6 rfl) ?_
    refine lv_aload_n hx hb dX10_sheet_193 rfl (lv_at hl 0 rfl) ?_
    refine sd_get C0 h (C := RX10) (T := TX10) (N := 17) kcX10 0 (aY_0 ad cA _) rfl 11 (by decide) kfX10_20 (v := .ref (ad 4)) rfl dX10_sheet_194 ?_
    refine lv_iload hx hb dX10_sheet_197 (lv_at hl 8 rfl) ?_
    obtain ⟨x2, hx2, hm⟩ := bs hm
    refine sd_rd C0 h 4 (aY_4 ad cA _) hx2 dX10_sheet_199 ?_
    obtain ⟨u3, hu3, hm⟩ := bs hm
    refine sd_Vi C0 h kYX10_far kmX10_113 0 (aY_0 ad cA _) rfl [.int v8, .int x2] (tX10_far l D cA ad hu3) rfl hl.1 rfl (Nat.le_of_ble_eq_true rfl) (by decide) dX10_sheet_200 (by decide) (fun H locs h => ?_)
    refine lv_iload hx hb dX10_sheet_203 (lv_at hl 7 rfl) ?_
    refine lv_icmp_ge (tgt := 224) hx hb dX10_sheet_205 (by decide) (fun c4 => ?_) (fun c4 => ?_)
    · replace hm := ip c4 hm
      refine lv_iload hx hb dX10_sheet_224 (lv_at hl 7 rfl) ?_
      refine lv_istore (lv' := [(9, .int v9), (0, .ref (ad 0)), (1, .int v1), (2, .int v2), (3, .int v3), (6, .int v6), (7, .int v7), (8, .int v8), (10, .int v10)]) hx hb dX10_sheet_226 hl (by decide) rfl (fun ls hl => ?_)
      refine lv_iinc (v := (v10 + 1)) (lv' := [(10, .int (v10 + 1)), (9, .int v9), (0, .ref (ad 0)), (1, .int v1), (2, .int v2), (3, .int v3), (6, .int v6), (7, .int v7), (8, .int v8)]) hx hb dX10_sheet_228 hl (k := 8) rfl rfl (by decide) rfl (fun ls hl => ?_)
      refine lv_goto (tgt := 181) hx hb dX10_sheet_231 (by decide) ?_
      exact hrc181 _ _ _ _ _ _ h (lv_sub hl [2, 3, 4, 5, 6, 7, 8, 1, 0] rfl) hm
    · replace hm := iq c4 hm
      refine lv_aload_n hx hb dX10_sheet_208 rfl (lv_at hl 0 rfl) ?_
      refine lv_iload hx hb dX10_sheet_209 (lv_at hl 6 rfl) ?_
      refine lv_aload_n hx hb dX10_sheet_211 rfl (lv_at hl 0 rfl) ?_
      refine sd_get C0 h (C := RX10) (T := TX10) (N := 17) kcX10 0 (aY_0 ad cA _) rfl 11 (by decide) kfX10_20 (v := .ref (ad 4)) rfl dX10_sheet_212 ?_
      refine lv_iload hx hb dX10_sheet_215 (lv_at hl 8 rfl) ?_
      obtain ⟨x5, hx5, hm⟩ := bs hm
      refine sd_rd C0 h 4 (aY_4 ad cA _) hx5 dX10_sheet_217 ?_
      obtain ⟨u6, hu6, hm⟩ := bs hm
      refine sd_Vi C0 h kYX10_far kmX10_113 0 (aY_0 ad cA _) rfl [.int v8, .int x5] (tX10_far l D cA ad hu6) rfl hl.1 rfl (Nat.le_of_ble_eq_true rfl) (by decide) dX10_sheet_218 (by decide) (fun H locs h => ?_)
      refine lv_goto (tgt := 226) hx hb dX10_sheet_221 (by decide) ?_
      refine lv_istore (lv' := [(9, .int u6), (0, .ref (ad 0)), (1, .int v1), (2, .int v2), (3, .int v3), (6, .int v6), (7, .int v7), (8, .int v8), (10, .int v10)]) hx hb dX10_sheet_226 hl (by decide) rfl (fun ls hl => ?_)
      refine lv_iinc (v := (v10 + 1)) (lv' := [(10, .int (v10 + 1)), (9, .int u6), (0, .ref (ad 0)), (1, .int v1), (2, .int v2), (3, .int v3), (6, .int v6), (7, .int v7), (8, .int v8)]) hx hb dX10_sheet_228 hl (k := 8) rfl rfl (by decide) rfl (fun ls hl => ?_)
      refine lv_goto (tgt := 181) hx hb dX10_sheet_231 (by decide) ?_
      exact hrc181 _ _ _ _ _ _ h (lv_sub hl [2, 3, 4, 5, 6, 7, 8, 1, 0] rfl) hm
def mX10_sheet_181 (z : Nat) (rc108 : Int32 → St → Option St) (rc130 : Int32 → Int32 → Int32 → St → Option St) (v1 : Int32) (v2 : Int32) (v3 : Int32) (v6 : Int32) (v7 : Int32) (v8 : Int32) : Nat → Int32 → Int32 → St → Option St
  | 0, _, _, _ => none
  | n + 1, v9, v10, S => mX10_sheet_181b z rc108 rc130 (mX10_sheet_181 z rc108 rc130 v1 v2 v3 v6 v7 v8 n) v1 v2 v3 v6 v7 v8 v9 v10 S
set_option maxHeartbeats 4000000 in
set_option maxRecDepth 100000 in
theorem lX10_sheet_181 {p : Program} {l : Launch} {e : Env} {s : State} {m : MethodId} {args : Array Value} {below : List Frame} {meth : Method} {c : Code} {D : va_G} {cA : ClassId} {ad : Nat → Nat} {A : Nat → Prop} {q : St} {z : Nat} {rc108 : Int32 → St → Option St} {rc130 : Int32 → Int32 → Int32 → St → Option St} {v1 : Int32} {v2 : Int32} {v3 : Int32} {v6 : Int32} {v7 : Int32} {v8 : Int32} (C0 : sd_Cx RX10 cX10_sheet 11 none (Cond.code yX10_sheet cX10_sheet 11 none :: sd_big) p s m args meth c) (hrc108 : ∀ (v5 : Int32) (S : St) (H : Heap) (locs : List Loc) (ls : Array Slot), sd_Wd D vwCl cA sd_nw (wY ad cA) A s S H locs → lv_has ls 11 [(0, .ref (ad 0)), (1, .int v1), (2, .int v2), (3, .int v3), (5, .int v5)] → rc108 v5 S = some q → W p l e rX10_sheet s m args below meth c H locs 0 0 (MQ below (sd_Qv D vwCl (wY ad cA) A q) args s 0 0 A) (F0 m 108 ls [])) (hrc130 : ∀ (v6 : Int32) (v7 : Int32) (v8 : Int32) (S : St) (H : Heap) (locs : List Loc) (ls : Array Slot), sd_Wd D vwCl cA sd_nw (wY ad cA) A s S H locs → lv_has ls 11 [(0, .ref (ad 0)), (1, .int v1), (2, .int v2), (3, .int v3), (6, .int v6), (7, .int v7), (8, .int v8)] → rc130 v6 v7 v8 S = some q → W p l e rX10_sheet s m args below meth c H locs 0 0 (MQ below (sd_Qv D vwCl (wY ad cA) A q) args s 0 0 A) (F0 m 130 ls [])) : ∀ (n : Nat) (v9 : Int32) (v10 : Int32) (S : St) (H : Heap) (locs : List Loc) (ls : Array Slot), sd_Wd D vwCl cA sd_nw (wY ad cA) A s S H locs → lv_has ls 11 [(0, .ref (ad 0)), (1, .int v1), (2, .int v2), (3, .int v3), (6, .int v6), (7, .int v7), (8, .int v8), (9, .int v9), (10, .int v10)] → mX10_sheet_181 z rc108 rc130 v1 v2 v3 v6 v7 v8 n v9 v10 S = some q → W p l e rX10_sheet s m args below meth c H locs 0 0 (MQ below (sd_Qv D vwCl (wY ad cA) A q) args s 0 0 A) (F0 m 181 ls []) := by
  intro n
  induction n with
  | zero =>
    intro v9 v10 S H locs ls h hl hm
    exact nomatch (show none = some q from hm)
  | succ n ih =>
    intro v9 v10 S H locs ls h hl hm
    exact bX10_sheet_181b C0 h hl hrc108 hrc130 ih hm
def mX10_sheet_130b (z : Nat) (rc108 : Int32 → St → Option St) (rc130 : Int32 → Int32 → Int32 → St → Option St) (v1 : Int32) (v2 : Int32) (v3 : Int32) (v6 : Int32) (v7 : Int32) (v8 : Int32) (S : St) : Option St :=
  (rd (fA S 0) 4564 1).bind fun x1 =>
  if x1 ≤ v8 then
    mX10_sheet_263 z rc108 v1 v2 v3 v6 S
  else
    (mX10_isFound z v8 v1 v3 S).bind fun u3 =>
    if u3.1 = 0 then
      rc130 v6 v7 (v8 + 1) u3.2
    else
      (mX10_isListed z u3.2 v8).bind fun u5 =>
      if u5 = 0 then
        (rd (fA u3.2 3) 200 0).bind fun x7 =>
        (mX10_far u3.2 v8 x7).bind fun u8 =>
        mX10_sheet_181 z rc108 rc130 v1 v2 v3 v6 v7 v8 z u8 1 u3.2
      else
        rc130 v6 v7 (v8 + 1) u3.2
set_option maxHeartbeats 4000000 in
set_option maxRecDepth 100000 in
theorem bX10_sheet_130b {p : Program} {l : Launch} {e : Env} {s : State} {m : MethodId} {args : Array Value} {below : List Frame} {meth : Method} {c : Code} {D : va_G} {cA : ClassId} {ad : Nat → Nat} {A : Nat → Prop} {H : Heap} {locs : List Loc} {ls : Array Slot} {q : St} {z : Nat} {rc108 : Int32 → St → Option St} {rc130 : Int32 → Int32 → Int32 → St → Option St} {v1 : Int32} {v2 : Int32} {v3 : Int32} {v6 : Int32} {v7 : Int32} {v8 : Int32} {S : St} (C0 : sd_Cx RX10 cX10_sheet 11 none (Cond.code yX10_sheet cX10_sheet 11 none :: sd_big) p s m args meth c) (h : sd_Wd D vwCl cA sd_nw (wY ad cA) A s S H locs) (hl : lv_has ls 11 [(0, .ref (ad 0)), (1, .int v1), (2, .int v2), (3, .int v3), (6, .int v6), (7, .int v7), (8, .int v8)]) (hrc108 : ∀ (v5 : Int32) (S : St) (H : Heap) (locs : List Loc) (ls : Array Slot), sd_Wd D vwCl cA sd_nw (wY ad cA) A s S H locs → lv_has ls 11 [(0, .ref (ad 0)), (1, .int v1), (2, .int v2), (3, .int v3), (5, .int v5)] → rc108 v5 S = some q → W p l e rX10_sheet s m args below meth c H locs 0 0 (MQ below (sd_Qv D vwCl (wY ad cA) A q) args s 0 0 A) (F0 m 108 ls [])) (hrc130 : ∀ (v6 : Int32) (v7 : Int32) (v8 : Int32) (S : St) (H : Heap) (locs : List Loc) (ls : Array Slot), sd_Wd D vwCl cA sd_nw (wY ad cA) A s S H locs → lv_has ls 11 [(0, .ref (ad 0)), (1, .int v1), (2, .int v2), (3, .int v3), (6, .int v6), (7, .int v7), (8, .int v8)] → rc130 v6 v7 v8 S = some q → W p l e rX10_sheet s m args below meth c H locs 0 0 (MQ below (sd_Qv D vwCl (wY ad cA) A q) args s 0 0 A) (F0 m 130 ls [])) (hm : mX10_sheet_130b z rc108 rc130 v1 v2 v3 v6 v7 v8 S = some q) : W p l e rX10_sheet s m args below meth c H locs 0 0 (MQ below (sd_Qv D vwCl (wY ad cA) A q) args s 0 0 A) (F0 m 130 ls []) := by
  unfold mX10_sheet_130b at hm
  have hx := C0.1
  have hb := C0.2.1
  refine lv_iload hx hb dX10_sheet_130 (lv_at hl 6 rfl) ?_
  refine lv_aload_n hx hb dX10_sheet_132 rfl (lv_at hl 0 rfl) ?_
  refine sd_get C0 h (C := RX10) (T := TX10) (N := 17) kcX10 0 (aY_0 ad cA _) rfl 0 (by decide) kfX10_7 (v := .ref (ad 1)) rfl dX10_sheet_133 ?_
  refine lv_iconst (v := 1) hx hb dX10_sheet_136 (by decide) ?_
  obtain ⟨x1, hx1, hm⟩ := bs hm
  refine sd_rd C0 h 1 (aY_1 ad cA _) hx1 dX10_sheet_137 ?_
  refine lv_icmp_ge (tgt := 263) hx hb dX10_sheet_138 (by decide) (fun c2 => ?_) (fun c2 => ?_)
  · replace hm := ip c2 hm
    exact bX10_sheet_263 C0 h (lv_sub hl [0, 1, 2, 3, 4] rfl) hrc108 hm
  · replace hm := iq c2 hm
    refine lv_aload_n hx hb dX10_sheet_141 rfl (lv_at hl 0 rfl) ?_
    refine lv_iload hx hb dX10_sheet_142 (lv_at hl 6 rfl) ?_
    refine lv_iload_n hx hb dX10_sheet_144 rfl (lv_at hl 1 rfl) ?_
    refine lv_iload_n hx hb dX10_sheet_145 rfl (lv_at hl 3 rfl) ?_
    obtain ⟨u3, hu3, hm⟩ := bs hm
    refine sd_Vi C0 h kYX10_isFound kmX10_140 0 (aY_0 ad cA _) rfl [.int v8, .int v1, .int v3] (tX10_isFound l D cA ad hu3) rfl hl.1 rfl (Nat.le_of_ble_eq_true rfl) (by decide) dX10_sheet_146 (by decide) (fun H locs h => ?_)
    refine lv_if_eq (tgt := 257) hx hb dX10_sheet_149 (by decide) (fun c4 => ?_) (fun c4 => ?_)
    · replace hm := ip c4 hm
      refine lv_iinc (v := (v8 + 1)) (lv' := [(8, .int (v8 + 1)), (0, .ref (ad 0)), (1, .int v1), (2, .int v2), (3, .int v3), (6, .int v6), (7, .int v7)]) hx hb dX10_sheet_257 hl (k := 6) rfl rfl (by decide) rfl (fun ls hl => ?_)
      refine lv_goto (tgt := 130) hx hb dX10_sheet_260 (by decide) ?_
      exact hrc130 _ _ _ _ _ _ _ h (lv_sub hl [1, 2, 3, 4, 5, 6, 0] rfl) hm
    · replace hm := iq c4 hm
      refine lv_aload_n hx hb dX10_sheet_152 rfl (lv_at hl 0 rfl) ?_
      refine lv_iload hx hb dX10_sheet_153 (lv_at hl 6 rfl) ?_
      obtain ⟨u5, hu5, hm⟩ := bs hm
      refine sd_Vi C0 h kYX10_isListed kmX10_150 0 (aY_0 ad cA _) rfl [.int v8] (tX10_isListed l D cA ad hu5) rfl hl.1 rfl (Nat.le_of_ble_eq_true rfl) (by decide) dX10_sheet_155 (by decide) (fun H locs h => ?_)
      refine lv_if_eq (tgt := 164) hx hb dX10_sheet_158 (by decide) (fun c6 => ?_) (fun c6 => ?_)
      · replace hm := ip c6 hm
        refine lv_aload_n hx hb dX10_sheet_164 rfl (lv_at hl 0 rfl) ?_
        refine lv_iload hx hb dX10_sheet_165 (lv_at hl 6 rfl) ?_
        refine lv_aload_n hx hb dX10_sheet_167 rfl (lv_at hl 0 rfl) ?_
        refine sd_get C0 h (C := RX10) (T := TX10) (N := 17) kcX10 0 (aY_0 ad cA _) rfl 11 (by decide) kfX10_20 (v := .ref (ad 4)) rfl dX10_sheet_168 ?_
        refine lv_iconst (v := 0) hx hb dX10_sheet_171 (by decide) ?_
        obtain ⟨x7, hx7, hm⟩ := bs hm
        refine sd_rd C0 h 4 (aY_4 ad cA _) hx7 dX10_sheet_172 ?_
        obtain ⟨u8, hu8, hm⟩ := bs hm
        refine sd_Vi C0 h kYX10_far kmX10_113 0 (aY_0 ad cA _) rfl [.int v8, .int x7] (tX10_far l D cA ad hu8) rfl hl.1 rfl (Nat.le_of_ble_eq_true rfl) (by decide) dX10_sheet_173 (by decide) (fun H locs h => ?_)
        refine lv_istore (lv' := [(9, .int u8), (0, .ref (ad 0)), (1, .int v1), (2, .int v2), (3, .int v3), (6, .int v6), (7, .int v7), (8, .int v8)]) hx hb dX10_sheet_176 hl (by decide) rfl (fun ls hl => ?_)
        refine lv_iconst (v := 1) hx hb dX10_sheet_178 (by decide) ?_
        refine lv_istore (lv' := [(10, .int 1), (9, .int u8), (0, .ref (ad 0)), (1, .int v1), (2, .int v2), (3, .int v3), (6, .int v6), (7, .int v7), (8, .int v8)]) hx hb dX10_sheet_179 hl (by decide) rfl (fun ls hl => ?_)
        exact lX10_sheet_181 C0 hrc108 hrc130 _ _ _ _ _ _ _ h (lv_sub hl [2, 3, 4, 5, 6, 7, 8, 1, 0] rfl) hm
      · replace hm := iq c6 hm
        refine lv_goto (tgt := 257) hx hb dX10_sheet_161 (by decide) ?_
        refine lv_iinc (v := (v8 + 1)) (lv' := [(8, .int (v8 + 1)), (0, .ref (ad 0)), (1, .int v1), (2, .int v2), (3, .int v3), (6, .int v6), (7, .int v7)]) hx hb dX10_sheet_257 hl (k := 6) rfl rfl (by decide) rfl (fun ls hl => ?_)
        refine lv_goto (tgt := 130) hx hb dX10_sheet_260 (by decide) ?_
        exact hrc130 _ _ _ _ _ _ _ h (lv_sub hl [1, 2, 3, 4, 5, 6, 0] rfl) hm
def mX10_sheet_130 (z : Nat) (rc108 : Int32 → St → Option St) (v1 : Int32) (v2 : Int32) (v3 : Int32) : Nat → Int32 → Int32 → Int32 → St → Option St
  | 0, _, _, _, _ => none
  | n + 1, v6, v7, v8, S => mX10_sheet_130b z rc108 (mX10_sheet_130 z rc108 v1 v2 v3 n) v1 v2 v3 v6 v7 v8 S
set_option maxHeartbeats 4000000 in
set_option maxRecDepth 100000 in
theorem lX10_sheet_130 {p : Program} {l : Launch} {e : Env} {s : State} {m : MethodId} {args : Array Value} {below : List Frame} {meth : Method} {c : Code} {D : va_G} {cA : ClassId} {ad : Nat → Nat} {A : Nat → Prop} {q : St} {z : Nat} {rc108 : Int32 → St → Option St} {v1 : Int32} {v2 : Int32} {v3 : Int32} (C0 : sd_Cx RX10 cX10_sheet 11 none (Cond.code yX10_sheet cX10_sheet 11 none :: sd_big) p s m args meth c) (hrc108 : ∀ (v5 : Int32) (S : St) (H : Heap) (locs : List Loc) (ls : Array Slot), sd_Wd D vwCl cA sd_nw (wY ad cA) A s S H locs → lv_has ls 11 [(0, .ref (ad 0)), (1, .int v1), (2, .int v2), (3, .int v3), (5, .int v5)] → rc108 v5 S = some q → W p l e rX10_sheet s m args below meth c H locs 0 0 (MQ below (sd_Qv D vwCl (wY ad cA) A q) args s 0 0 A) (F0 m 108 ls [])) : ∀ (n : Nat) (v6 : Int32) (v7 : Int32) (v8 : Int32) (S : St) (H : Heap) (locs : List Loc) (ls : Array Slot), sd_Wd D vwCl cA sd_nw (wY ad cA) A s S H locs → lv_has ls 11 [(0, .ref (ad 0)), (1, .int v1), (2, .int v2), (3, .int v3), (6, .int v6), (7, .int v7), (8, .int v8)] → mX10_sheet_130 z rc108 v1 v2 v3 n v6 v7 v8 S = some q → W p l e rX10_sheet s m args below meth c H locs 0 0 (MQ below (sd_Qv D vwCl (wY ad cA) A q) args s 0 0 A) (F0 m 130 ls []) := by
  intro n
  induction n with
  | zero =>
    intro v6 v7 v8 S H locs ls h hl hm
    exact nomatch (show none = some q from hm)
  | succ n ih =>
    intro v6 v7 v8 S H locs ls h hl hm
    exact bX10_sheet_130b C0 h hl hrc108 ih hm
def mX10_sheet_108b (z : Nat) (rc108 : Int32 → St → Option St) (v1 : Int32) (v2 : Int32) (v3 : Int32) (v5 : Int32) (S : St) : Option St :=
  if v5 = 0 then
    some S
  else
    if v2 ≤ (fI S 6) then
      some S
    else
      mX10_sheet_130 z rc108 v1 v2 v3 z (-1) 0 0 S
set_option maxHeartbeats 4000000 in
set_option maxRecDepth 100000 in
theorem bX10_sheet_108b {p : Program} {l : Launch} {e : Env} {s : State} {m : MethodId} {args : Array Value} {below : List Frame} {meth : Method} {c : Code} {D : va_G} {cA : ClassId} {ad : Nat → Nat} {A : Nat → Prop} {H : Heap} {locs : List Loc} {ls : Array Slot} {q : St} {z : Nat} {rc108 : Int32 → St → Option St} {v1 : Int32} {v2 : Int32} {v3 : Int32} {v5 : Int32} {S : St} (C0 : sd_Cx RX10 cX10_sheet 11 none (Cond.code yX10_sheet cX10_sheet 11 none :: sd_big) p s m args meth c) (h : sd_Wd D vwCl cA sd_nw (wY ad cA) A s S H locs) (hl : lv_has ls 11 [(0, .ref (ad 0)), (1, .int v1), (2, .int v2), (3, .int v3), (5, .int v5)]) (hrc108 : ∀ (v5 : Int32) (S : St) (H : Heap) (locs : List Loc) (ls : Array Slot), sd_Wd D vwCl cA sd_nw (wY ad cA) A s S H locs → lv_has ls 11 [(0, .ref (ad 0)), (1, .int v1), (2, .int v2), (3, .int v3), (5, .int v5)] → rc108 v5 S = some q → W p l e rX10_sheet s m args below meth c H locs 0 0 (MQ below (sd_Qv D vwCl (wY ad cA) A q) args s 0 0 A) (F0 m 108 ls [])) (hm : mX10_sheet_108b z rc108 v1 v2 v3 v5 S = some q) : W p l e rX10_sheet s m args below meth c H locs 0 0 (MQ below (sd_Qv D vwCl (wY ad cA) A q) args s 0 0 A) (F0 m 108 ls []) := by
  unfold mX10_sheet_108b at hm
  have hx := C0.1
  have hb := C0.2.1
  refine lv_iload hx hb dX10_sheet_108 (lv_at hl 4 rfl) ?_
  refine lv_if_eq (tgt := 290) hx hb dX10_sheet_110 (by decide) (fun c1 => ?_) (fun c1 => ?_)
  · replace hm := ip c1 hm
    exact sd_vret C0 h (Option.some.inj hm) dX10_sheet_290
  · replace hm := iq c1 hm
    refine lv_aload_n hx hb dX10_sheet_113 rfl (lv_at hl 0 rfl) ?_
    refine sd_get C0 h (C := RX10) (T := TX10) (N := 17) kcX10 0 (aY_0 ad cA _) rfl 13 (by decide) kfX10_137 (v := .int (fI S 6)) rfl dX10_sheet_114 ?_
    refine lv_iload_n hx hb dX10_sheet_117 rfl (lv_at hl 2 rfl) ?_
    refine lv_icmp_ge (tgt := 290) hx hb dX10_sheet_118 (by decide) (fun c2 => ?_) (fun c2 => ?_)
    · replace hm := ip c2 hm
      exact sd_vret C0 h (Option.some.inj hm) dX10_sheet_290
    · replace hm := iq c2 hm
      refine lv_iconst (v := (-1)) hx hb dX10_sheet_121 (by decide) ?_
      refine lv_istore (lv' := [(6, .int (-1)), (0, .ref (ad 0)), (1, .int v1), (2, .int v2), (3, .int v3), (5, .int v5)]) hx hb dX10_sheet_122 hl (by decide) rfl (fun ls hl => ?_)
      refine lv_iconst (v := 0) hx hb dX10_sheet_124 (by decide) ?_
      refine lv_istore (lv' := [(7, .int 0), (6, .int (-1)), (0, .ref (ad 0)), (1, .int v1), (2, .int v2), (3, .int v3), (5, .int v5)]) hx hb dX10_sheet_125 hl (by decide) rfl (fun ls hl => ?_)
      refine lv_iconst (v := 0) hx hb dX10_sheet_127 (by decide) ?_
      refine lv_istore (lv' := [(8, .int 0), (7, .int 0), (6, .int (-1)), (0, .ref (ad 0)), (1, .int v1), (2, .int v2), (3, .int v3), (5, .int v5)]) hx hb dX10_sheet_128 hl (by decide) rfl (fun ls hl => ?_)
      exact lX10_sheet_130 C0 hrc108 _ _ _ _ _ _ _ _ h (lv_sub hl [3, 4, 5, 6, 2, 1, 0] rfl) hm
def mX10_sheet_108 (z : Nat) (v1 : Int32) (v2 : Int32) (v3 : Int32) : Nat → Int32 → St → Option St
  | 0, _, _ => none
  | n + 1, v5, S => mX10_sheet_108b z (mX10_sheet_108 z v1 v2 v3 n) v1 v2 v3 v5 S
set_option maxHeartbeats 4000000 in
set_option maxRecDepth 100000 in
theorem lX10_sheet_108 {p : Program} {l : Launch} {e : Env} {s : State} {m : MethodId} {args : Array Value} {below : List Frame} {meth : Method} {c : Code} {D : va_G} {cA : ClassId} {ad : Nat → Nat} {A : Nat → Prop} {q : St} {z : Nat} {v1 : Int32} {v2 : Int32} {v3 : Int32} (C0 : sd_Cx RX10 cX10_sheet 11 none (Cond.code yX10_sheet cX10_sheet 11 none :: sd_big) p s m args meth c)  : ∀ (n : Nat) (v5 : Int32) (S : St) (H : Heap) (locs : List Loc) (ls : Array Slot), sd_Wd D vwCl cA sd_nw (wY ad cA) A s S H locs → lv_has ls 11 [(0, .ref (ad 0)), (1, .int v1), (2, .int v2), (3, .int v3), (5, .int v5)] → mX10_sheet_108 z v1 v2 v3 n v5 S = some q → W p l e rX10_sheet s m args below meth c H locs 0 0 (MQ below (sd_Qv D vwCl (wY ad cA) A q) args s 0 0 A) (F0 m 108 ls []) := by
  intro n
  induction n with
  | zero =>
    intro v5 S H locs ls h hl hm
    exact nomatch (show none = some q from hm)
  | succ n ih =>
    intro v5 S H locs ls h hl hm
    exact bX10_sheet_108b C0 h hl ih hm
def mX10_sheet_83 (z : Nat) (v1 : Int32) (v2 : Int32) (v3 : Int32) (v4 : Int32) (S : St) : Option St :=
  if 0 ≤ v4 then
    (mX10_isListed z S v4).bind fun u2 =>
    if u2 = 0 then
      (mX10_lists v4 1 S).bind fun u4 =>
      mX10_sheet_108 z v1 v2 v3 z 1 u4
    else
      mX10_sheet_108 z v1 v2 v3 z 1 S
  else
    some S
set_option maxHeartbeats 4000000 in
set_option maxRecDepth 100000 in
theorem bX10_sheet_83 {p : Program} {l : Launch} {e : Env} {s : State} {m : MethodId} {args : Array Value} {below : List Frame} {meth : Method} {c : Code} {D : va_G} {cA : ClassId} {ad : Nat → Nat} {A : Nat → Prop} {H : Heap} {locs : List Loc} {ls : Array Slot} {q : St} {z : Nat} {v1 : Int32} {v2 : Int32} {v3 : Int32} {v4 : Int32} {S : St} (C0 : sd_Cx RX10 cX10_sheet 11 none (Cond.code yX10_sheet cX10_sheet 11 none :: sd_big) p s m args meth c) (h : sd_Wd D vwCl cA sd_nw (wY ad cA) A s S H locs) (hl : lv_has ls 11 [(0, .ref (ad 0)), (1, .int v1), (2, .int v2), (3, .int v3), (4, .int v4)])  (hm : mX10_sheet_83 z v1 v2 v3 v4 S = some q) : W p l e rX10_sheet s m args below meth c H locs 0 0 (MQ below (sd_Qv D vwCl (wY ad cA) A q) args s 0 0 A) (F0 m 83 ls []) := by
  unfold mX10_sheet_83 at hm
  have hx := C0.1
  have hb := C0.2.1
  refine lv_iload hx hb dX10_sheet_83 (lv_at hl 4 rfl) ?_
  refine lv_if_ge (tgt := 89) hx hb dX10_sheet_85 (by decide) (fun c1 => ?_) (fun c1 => ?_)
  · replace hm := ip c1 hm
    refine lv_aload_n hx hb dX10_sheet_89 rfl (lv_at hl 0 rfl) ?_
    refine lv_iload hx hb dX10_sheet_90 (lv_at hl 4 rfl) ?_
    obtain ⟨u2, hu2, hm⟩ := bs hm
    refine sd_Vi C0 h kYX10_isListed kmX10_150 0 (aY_0 ad cA _) rfl [.int v4] (tX10_isListed l D cA ad hu2) rfl hl.1 rfl (Nat.le_of_ble_eq_true rfl) (by decide) dX10_sheet_92 (by decide) (fun H locs h => ?_)
    refine lv_if_ne (tgt := 105) hx hb dX10_sheet_95 (by decide) (fun c3 => ?_) (fun c3 => ?_)
    · replace hm := iq c3 hm
      refine lv_iconst (v := 1) hx hb dX10_sheet_105 (by decide) ?_
      refine lv_istore (lv' := [(5, .int 1), (0, .ref (ad 0)), (1, .int v1), (2, .int v2), (3, .int v3), (4, .int v4)]) hx hb dX10_sheet_106 hl (by decide) rfl (fun ls hl => ?_)
      exact lX10_sheet_108 C0 _ _ _ _ _ _ h (lv_sub hl [1, 2, 3, 4, 0] rfl) hm
    · replace hm := ip c3 hm
      refine lv_aload_n hx hb dX10_sheet_98 rfl (lv_at hl 0 rfl) ?_
      refine lv_iload hx hb dX10_sheet_99 (lv_at hl 4 rfl) ?_
      refine lv_iconst (v := 1) hx hb dX10_sheet_101 (by decide) ?_
      obtain ⟨u4, hu4, hm⟩ := bs hm
      refine sd_Vv C0 h kYX10_lists kmX10_146 0 (aY_0 ad cA _) rfl [.int v4, .int 1] (tX10_lists l D cA ad hu4) rfl hl.1 rfl (Nat.le_of_ble_eq_true rfl) (by decide) dX10_sheet_102 (by decide) (fun H locs h => ?_)
      refine lv_iconst (v := 1) hx hb dX10_sheet_105 (by decide) ?_
      refine lv_istore (lv' := [(5, .int 1), (0, .ref (ad 0)), (1, .int v1), (2, .int v2), (3, .int v3), (4, .int v4)]) hx hb dX10_sheet_106 hl (by decide) rfl (fun ls hl => ?_)
      exact lX10_sheet_108 C0 _ _ _ _ _ _ h (lv_sub hl [1, 2, 3, 4, 0] rfl) hm
  · replace hm := iq c1 hm
    exact sd_vret C0 h (Option.some.inj hm) dX10_sheet_88
def mX10_sheet_53 (z : Nat) (rc11 : Int32 → Int32 → St → Option St) (v1 : Int32) (v2 : Int32) (v3 : Int32) (v4 : Int32) (v5 : Int32) (S : St) : Option St :=
  if v4 < 0 then
    rc11 v5 (v5 + 1) S
  else
    (mX10_corrected z v5 S).bind fun u2 =>
    (mX10_corrected z v4 u2.2).bind fun u3 =>
    if u3.1 ≤ u2.1 then
      rc11 v4 (v5 + 1) u3.2
    else
      rc11 v5 (v5 + 1) u3.2
set_option maxHeartbeats 4000000 in
set_option maxRecDepth 100000 in
theorem bX10_sheet_53 {p : Program} {l : Launch} {e : Env} {s : State} {m : MethodId} {args : Array Value} {below : List Frame} {meth : Method} {c : Code} {D : va_G} {cA : ClassId} {ad : Nat → Nat} {A : Nat → Prop} {H : Heap} {locs : List Loc} {ls : Array Slot} {q : St} {z : Nat} {rc11 : Int32 → Int32 → St → Option St} {v1 : Int32} {v2 : Int32} {v3 : Int32} {v4 : Int32} {v5 : Int32} {S : St} (C0 : sd_Cx RX10 cX10_sheet 11 none (Cond.code yX10_sheet cX10_sheet 11 none :: sd_big) p s m args meth c) (h : sd_Wd D vwCl cA sd_nw (wY ad cA) A s S H locs) (hl : lv_has ls 11 [(0, .ref (ad 0)), (1, .int v1), (2, .int v2), (3, .int v3), (4, .int v4), (5, .int v5)]) (hrc11 : ∀ (v4 : Int32) (v5 : Int32) (S : St) (H : Heap) (locs : List Loc) (ls : Array Slot), sd_Wd D vwCl cA sd_nw (wY ad cA) A s S H locs → lv_has ls 11 [(0, .ref (ad 0)), (1, .int v1), (2, .int v2), (3, .int v3), (4, .int v4), (5, .int v5)] → rc11 v4 v5 S = some q → W p l e rX10_sheet s m args below meth c H locs 0 0 (MQ below (sd_Qv D vwCl (wY ad cA) A q) args s 0 0 A) (F0 m 11 ls [])) (hm : mX10_sheet_53 z rc11 v1 v2 v3 v4 v5 S = some q) : W p l e rX10_sheet s m args below meth c H locs 0 0 (MQ below (sd_Qv D vwCl (wY ad cA) A q) args s 0 0 A) (F0 m 53 ls []) := by
  unfold mX10_sheet_53 at hm
  have hx := C0.1
  have hb := C0.2.1
  refine lv_iload hx hb dX10_sheet_53 (lv_at hl 4 rfl) ?_
  refine lv_if_lt (tgt := 73) hx hb dX10_sheet_55 (by decide) (fun c1 => ?_) (fun c1 => ?_)
  · replace hm := ip c1 hm
    refine lv_iload hx hb dX10_sheet_73 (lv_at hl 5 rfl) ?_
    refine lv_istore (lv' := [(4, .int v5), (0, .ref (ad 0)), (1, .int v1), (2, .int v2), (3, .int v3), (5, .int v5)]) hx hb dX10_sheet_75 hl (by decide) rfl (fun ls hl => ?_)
    refine lv_iinc (v := (v5 + 1)) (lv' := [(5, .int (v5 + 1)), (4, .int v5), (0, .ref (ad 0)), (1, .int v1), (2, .int v2), (3, .int v3)]) hx hb dX10_sheet_77 hl (k := 5) rfl rfl (by decide) rfl (fun ls hl => ?_)
    refine lv_goto (tgt := 11) hx hb dX10_sheet_80 (by decide) ?_
    exact hrc11 _ _ _ _ _ _ h (lv_sub hl [2, 3, 4, 5, 1, 0] rfl) hm
  · replace hm := iq c1 hm
    refine lv_aload_n hx hb dX10_sheet_58 rfl (lv_at hl 0 rfl) ?_
    refine lv_iload hx hb dX10_sheet_59 (lv_at hl 5 rfl) ?_
    obtain ⟨u2, hu2, hm⟩ := bs hm
    refine sd_Vi C0 h kYX10_corrected kmX10_104 0 (aY_0 ad cA _) rfl [.int v5] (tX10_corrected l D cA ad hu2) rfl hl.1 rfl (Nat.le_of_ble_eq_true rfl) (by decide) dX10_sheet_61 (by decide) (fun H locs h => ?_)
    refine lv_aload_n hx hb dX10_sheet_64 rfl (lv_at hl 0 rfl) ?_
    refine lv_iload hx hb dX10_sheet_65 (lv_at hl 4 rfl) ?_
    obtain ⟨u3, hu3, hm⟩ := bs hm
    refine sd_Vi C0 h kYX10_corrected kmX10_104 0 (aY_0 ad cA _) rfl [.int v4] (tX10_corrected l D cA ad hu3) rfl hl.1 rfl (Nat.le_of_ble_eq_true rfl) (by decide) dX10_sheet_67 (by decide) (fun H locs h => ?_)
    refine lv_icmp_ge (tgt := 77) hx hb dX10_sheet_70 (by decide) (fun c4 => ?_) (fun c4 => ?_)
    · replace hm := ip c4 hm
      refine lv_iinc (v := (v5 + 1)) (lv' := [(5, .int (v5 + 1)), (0, .ref (ad 0)), (1, .int v1), (2, .int v2), (3, .int v3), (4, .int v4)]) hx hb dX10_sheet_77 hl (k := 5) rfl rfl (by decide) rfl (fun ls hl => ?_)
      refine lv_goto (tgt := 11) hx hb dX10_sheet_80 (by decide) ?_
      exact hrc11 _ _ _ _ _ _ h (lv_sub hl [1, 2, 3, 4, 5, 0] rfl) hm
    · replace hm := iq c4 hm
      refine lv_iload hx hb dX10_sheet_73 (lv_at hl 5 rfl) ?_
      refine lv_istore (lv' := [(4, .int v5), (0, .ref (ad 0)), (1, .int v1), (2, .int v2), (3, .int v3), (5, .int v5)]) hx hb dX10_sheet_75 hl (by decide) rfl (fun ls hl => ?_)
      refine lv_iinc (v := (v5 + 1)) (lv' := [(5, .int (v5 + 1)), (4, .int v5), (0, .ref (ad 0)), (1, .int v1), (2, .int v2), (3, .int v3)]) hx hb dX10_sheet_77 hl (k := 5) rfl rfl (by decide) rfl (fun ls hl => ?_)
      refine lv_goto (tgt := 11) hx hb dX10_sheet_80 (by decide) ?_
      exact hrc11 _ _ _ _ _ _ h (lv_sub hl [2, 3, 4, 5, 1, 0] rfl) hm
def mX10_sheet_11b (z : Nat) (rc11 : Int32 → Int32 → St → Option St) (v1 : Int32) (v2 : Int32) (v3 : Int32) (v4 : Int32) (v5 : Int32) (S : St) : Option St :=
  (rd (fA S 0) 4564 1).bind fun x1 =>
  if x1 ≤ v5 then
    mX10_sheet_83 z v1 v2 v3 v4 S
  else
    (mX10_isFound z v5 v1 v3 S).bind fun u3 =>
    if u3.1 = 0 then
      rc11 v4 (v5 + 1) u3.2
    else
      (mX10_isAlways z v5 v1 u3.2).bind fun u5 =>
      if u5.1 = 0 then
        mX10_sheet_53 z rc11 v1 v2 v3 v4 v5 u5.2
      else
        (mX10_lists v5 0 u5.2).bind fun u7 =>
        mX10_sheet_53 z rc11 v1 v2 v3 v4 v5 u7
set_option maxHeartbeats 4000000 in
set_option maxRecDepth 100000 in
theorem bX10_sheet_11b {p : Program} {l : Launch} {e : Env} {s : State} {m : MethodId} {args : Array Value} {below : List Frame} {meth : Method} {c : Code} {D : va_G} {cA : ClassId} {ad : Nat → Nat} {A : Nat → Prop} {H : Heap} {locs : List Loc} {ls : Array Slot} {q : St} {z : Nat} {rc11 : Int32 → Int32 → St → Option St} {v1 : Int32} {v2 : Int32} {v3 : Int32} {v4 : Int32} {v5 : Int32} {S : St} (C0 : sd_Cx RX10 cX10_sheet 11 none (Cond.code yX10_sheet cX10_sheet 11 none :: sd_big) p s m args meth c) (h : sd_Wd D vwCl cA sd_nw (wY ad cA) A s S H locs) (hl : lv_has ls 11 [(0, .ref (ad 0)), (1, .int v1), (2, .int v2), (3, .int v3), (4, .int v4), (5, .int v5)]) (hrc11 : ∀ (v4 : Int32) (v5 : Int32) (S : St) (H : Heap) (locs : List Loc) (ls : Array Slot), sd_Wd D vwCl cA sd_nw (wY ad cA) A s S H locs → lv_has ls 11 [(0, .ref (ad 0)), (1, .int v1), (2, .int v2), (3, .int v3), (4, .int v4), (5, .int v5)] → rc11 v4 v5 S = some q → W p l e rX10_sheet s m args below meth c H locs 0 0 (MQ below (sd_Qv D vwCl (wY ad cA) A q) args s 0 0 A) (F0 m 11 ls [])) (hm : mX10_sheet_11b z rc11 v1 v2 v3 v4 v5 S = some q) : W p l e rX10_sheet s m args below meth c H locs 0 0 (MQ below (sd_Qv D vwCl (wY ad cA) A q) args s 0 0 A) (F0 m 11 ls []) := by
  unfold mX10_sheet_11b at hm
  have hx := C0.1
  have hb := C0.2.1
  refine lv_iload hx hb dX10_sheet_11 (lv_at hl 5 rfl) ?_
  refine lv_aload_n hx hb dX10_sheet_13 rfl (lv_at hl 0 rfl) ?_
  refine sd_get C0 h (C := RX10) (T := TX10) (N := 17) kcX10 0 (aY_0 ad cA _) rfl 0 (by decide) kfX10_7 (v := .ref (ad 1)) rfl dX10_sheet_14 ?_
  refine lv_iconst (v := 1) hx hb dX10_sheet_17 (by decide) ?_
  obtain ⟨x1, hx1, hm⟩ := bs hm
  refine sd_rd C0 h 1 (aY_1 ad cA _) hx1 dX10_sheet_18 ?_
  refine lv_icmp_ge (tgt := 83) hx hb dX10_sheet_19 (by decide) (fun c2 => ?_) (fun c2 => ?_)
  · replace hm := ip c2 hm
    exact bX10_sheet_83 C0 h (lv_sub hl [0, 1, 2, 3, 4] rfl) hm
  · replace hm := iq c2 hm
    refine lv_aload_n hx hb dX10_sheet_22 rfl (lv_at hl 0 rfl) ?_
    refine lv_iload hx hb dX10_sheet_23 (lv_at hl 5 rfl) ?_
    refine lv_iload_n hx hb dX10_sheet_25 rfl (lv_at hl 1 rfl) ?_
    refine lv_iload_n hx hb dX10_sheet_26 rfl (lv_at hl 3 rfl) ?_
    obtain ⟨u3, hu3, hm⟩ := bs hm
    refine sd_Vi C0 h kYX10_isFound kmX10_140 0 (aY_0 ad cA _) rfl [.int v5, .int v1, .int v3] (tX10_isFound l D cA ad hu3) rfl hl.1 rfl (Nat.le_of_ble_eq_true rfl) (by decide) dX10_sheet_27 (by decide) (fun H locs h => ?_)
    refine lv_if_ne (tgt := 36) hx hb dX10_sheet_30 (by decide) (fun c4 => ?_) (fun c4 => ?_)
    · replace hm := iq c4 hm
      refine lv_aload_n hx hb dX10_sheet_36 rfl (lv_at hl 0 rfl) ?_
      refine lv_iload hx hb dX10_sheet_37 (lv_at hl 5 rfl) ?_
      refine lv_iload_n hx hb dX10_sheet_39 rfl (lv_at hl 1 rfl) ?_
      obtain ⟨u5, hu5, hm⟩ := bs hm
      refine sd_Vi C0 h kYX10_isAlways kmX10_143 0 (aY_0 ad cA _) rfl [.int v5, .int v1] (tX10_isAlways l D cA ad hu5) rfl hl.1 rfl (Nat.le_of_ble_eq_true rfl) (by decide) dX10_sheet_40 (by decide) (fun H locs h => ?_)
      refine lv_if_eq (tgt := 53) hx hb dX10_sheet_43 (by decide) (fun c6 => ?_) (fun c6 => ?_)
      · replace hm := ip c6 hm
        exact bX10_sheet_53 C0 h (lv_sub hl [0, 1, 2, 3, 4, 5] rfl) hrc11 hm
      · replace hm := iq c6 hm
        refine lv_aload_n hx hb dX10_sheet_46 rfl (lv_at hl 0 rfl) ?_
        refine lv_iload hx hb dX10_sheet_47 (lv_at hl 5 rfl) ?_
        refine lv_iconst (v := 0) hx hb dX10_sheet_49 (by decide) ?_
        obtain ⟨u7, hu7, hm⟩ := bs hm
        refine sd_Vv C0 h kYX10_lists kmX10_146 0 (aY_0 ad cA _) rfl [.int v5, .int 0] (tX10_lists l D cA ad hu7) rfl hl.1 rfl (Nat.le_of_ble_eq_true rfl) (by decide) dX10_sheet_50 (by decide) (fun H locs h => ?_)
        exact bX10_sheet_53 C0 h (lv_sub hl [0, 1, 2, 3, 4, 5] rfl) hrc11 hm
    · replace hm := ip c4 hm
      refine lv_goto (tgt := 77) hx hb dX10_sheet_33 (by decide) ?_
      refine lv_iinc (v := (v5 + 1)) (lv' := [(5, .int (v5 + 1)), (0, .ref (ad 0)), (1, .int v1), (2, .int v2), (3, .int v3), (4, .int v4)]) hx hb dX10_sheet_77 hl (k := 5) rfl rfl (by decide) rfl (fun ls hl => ?_)
      refine lv_goto (tgt := 11) hx hb dX10_sheet_80 (by decide) ?_
      exact hrc11 _ _ _ _ _ _ h (lv_sub hl [1, 2, 3, 4, 5, 0] rfl) hm
def mX10_sheet_11 (z : Nat) (v1 : Int32) (v2 : Int32) (v3 : Int32) : Nat → Int32 → Int32 → St → Option St
  | 0, _, _, _ => none
  | n + 1, v4, v5, S => mX10_sheet_11b z (mX10_sheet_11 z v1 v2 v3 n) v1 v2 v3 v4 v5 S
set_option maxHeartbeats 4000000 in
set_option maxRecDepth 100000 in
theorem lX10_sheet_11 {p : Program} {l : Launch} {e : Env} {s : State} {m : MethodId} {args : Array Value} {below : List Frame} {meth : Method} {c : Code} {D : va_G} {cA : ClassId} {ad : Nat → Nat} {A : Nat → Prop} {q : St} {z : Nat} {v1 : Int32} {v2 : Int32} {v3 : Int32} (C0 : sd_Cx RX10 cX10_sheet 11 none (Cond.code yX10_sheet cX10_sheet 11 none :: sd_big) p s m args meth c)  : ∀ (n : Nat) (v4 : Int32) (v5 : Int32) (S : St) (H : Heap) (locs : List Loc) (ls : Array Slot), sd_Wd D vwCl cA sd_nw (wY ad cA) A s S H locs → lv_has ls 11 [(0, .ref (ad 0)), (1, .int v1), (2, .int v2), (3, .int v3), (4, .int v4), (5, .int v5)] → mX10_sheet_11 z v1 v2 v3 n v4 v5 S = some q → W p l e rX10_sheet s m args below meth c H locs 0 0 (MQ below (sd_Qv D vwCl (wY ad cA) A q) args s 0 0 A) (F0 m 11 ls []) := by
  intro n
  induction n with
  | zero =>
    intro v4 v5 S H locs ls h hl hm
    exact nomatch (show none = some q from hm)
  | succ n ih =>
    intro v4 v5 S H locs ls h hl hm
    exact bX10_sheet_11b C0 h hl ih hm
def mX10_sheet (z : Nat) (v1 : Int32) (v2 : Int32) (v3 : Int32) (S : St) : Option St :=
  mX10_sheet_11 z v1 v2 v3 z (-1) 0 (sI S 6 0)
set_option maxHeartbeats 4000000 in
set_option maxRecDepth 100000 in
theorem bX10_sheet {p : Program} {l : Launch} {e : Env} {s : State} {m : MethodId} {args : Array Value} {below : List Frame} {meth : Method} {c : Code} {D : va_G} {cA : ClassId} {ad : Nat → Nat} {A : Nat → Prop} {H : Heap} {locs : List Loc} {ls : Array Slot} {q : St} {z : Nat} {v1 : Int32} {v2 : Int32} {v3 : Int32} {S : St} (C0 : sd_Cx RX10 cX10_sheet 11 none (Cond.code yX10_sheet cX10_sheet 11 none :: sd_big) p s m args meth c) (h : sd_Wd D vwCl cA sd_nw (wY ad cA) A s S H locs) (hl : lv_has ls 11 [(0, .ref (ad 0)), (1, .int v1), (2, .int v2), (3, .int v3)])  (hm : mX10_sheet z v1 v2 v3 S = some q) : W p l e rX10_sheet s m args below meth c H locs 0 0 (MQ below (sd_Qv D vwCl (wY ad cA) A q) args s 0 0 A) (F0 m 0 ls []) := by
  unfold mX10_sheet at hm
  have hx := C0.1
  have hb := C0.2.1
  refine lv_aload_n hx hb dX10_sheet_0 rfl (lv_at hl 0 rfl) ?_
  refine lv_iconst (v := 0) hx hb dX10_sheet_1 (by decide) ?_
  refine sd_put C0 h (C := RX10) (T := TX10) (N := 17) (S1 := (sI S 6 0)) kcX10 tyX10 tyX10_ok nmX10 0 (aY_0 ad cA _) rfl 13 (by decide) kfX10_137 rfl (ty := .int) (by decide +kernel) rfl rfl (Nat.le_of_ble_eq_true rfl) (eY_0_13 ad cA _ _) dX10_sheet_2 (fun H locs h => ?_)
  refine lv_iconst (v := (-1)) hx hb dX10_sheet_5 (by decide) ?_
  refine lv_istore (lv' := [(4, .int (-1)), (0, .ref (ad 0)), (1, .int v1), (2, .int v2), (3, .int v3)]) hx hb dX10_sheet_6 hl (by decide) rfl (fun ls hl => ?_)
  refine lv_iconst (v := 0) hx hb dX10_sheet_8 (by decide) ?_
  refine lv_istore (lv' := [(5, .int 0), (4, .int (-1)), (0, .ref (ad 0)), (1, .int v1), (2, .int v2), (3, .int v3)]) hx hb dX10_sheet_9 hl (by decide) rfl (fun ls hl => ?_)
  exact lX10_sheet_11 C0 _ _ _ _ _ _ _ h (lv_sub hl [2, 3, 4, 5, 1, 0] rfl) hm
theorem tX10_sheet (l : Launch) (D : va_G) (cA : ClassId) (ad : Nat → Nat) {z : Nat} {S : St} {v1 : Int32} {v2 : Int32} {v3 : Int32} {q : St} (hm : mX10_sheet z v1 v2 v3 S = some q) : sd_MV l D vwCl cA sd_nw (wY ad cA) yX10_sheet (Cond.code yX10_sheet cX10_sheet 11 none :: sd_big) rX10_sheet [.ref (ad 0), .int v1, .int v2, .int v3] S q :=
  sd_ofV (by decide +kernel) (Nat.le_of_ble_eq_true rfl) (fun _ _ _ _ _ _ _ _ _ _ C0 h hl => bX10_sheet C0 h (lv_sub hl [0, 1, 2, 3] rfl) hm)

def rX10_shown : Room := { frames := 5, cells := 0, slots := 0, locals := 129 }
def mX10_shown (z : Nat) (v1 : Int32) (v2 : Int32) (v3 : Int32) (v4 : Int32) (S : St) : Option (Int32 × St) :=
  (mX10_in S v1 0 99).bind fun u1 =>
  if u1 = 0 then
    some ((-1), S)
  else
    (mX10_in S v2 1 6).bind fun u3 =>
    if u3 = 0 then
      some ((-1), S)
    else
      (mX10_in S v3 0 255).bind fun u5 =>
      if u5 = 0 then
        some ((-1), S)
      else
        (mX10_sheet z v1 v2 v3 S).bind fun u7 =>
        (mX10_in u7 v4 0 ((fI u7 6) - 1)).bind fun u8 =>
        if u8 = 0 then
          some ((-1), u7)
        else
          (rd (fA u7 3) 200 v4).bind fun x10 =>
          some (x10, u7)
set_option maxHeartbeats 4000000 in
set_option maxRecDepth 100000 in
theorem bX10_shown {p : Program} {l : Launch} {e : Env} {s : State} {m : MethodId} {args : Array Value} {below : List Frame} {meth : Method} {c : Code} {D : va_G} {cA : ClassId} {ad : Nat → Nat} {A : Nat → Prop} {H : Heap} {locs : List Loc} {ls : Array Slot} {q : (Int32 × St)} {z : Nat} {v1 : Int32} {v2 : Int32} {v3 : Int32} {v4 : Int32} {S : St} (C0 : sd_Cx RX10 cX10_shown 5 (some .int) (Cond.code yX10_shown cX10_shown 5 (some .int) :: sd_big) p s m args meth c) (h : sd_Wd D vwCl cA sd_nw (wY ad cA) A s S H locs) (hl : lv_has ls 5 [(0, .ref (ad 0)), (1, .int v1), (2, .int v2), (3, .int v3), (4, .int v4)])  (hm : mX10_shown z v1 v2 v3 v4 S = some q) : W p l e rX10_shown s m args below meth c H locs 0 0 (MQ below (sd_Qi D vwCl (wY ad cA) A q) args s 0 0 A) (F0 m 0 ls []) := by
  unfold mX10_shown at hm
  have hx := C0.1
  have hb := C0.2.1
  refine lv_iload_n hx hb dX10_shown_0 rfl (lv_at hl 1 rfl) ?_
  refine lv_iconst (v := 0) hx hb dX10_shown_1 (by decide) ?_
  refine lv_bipush (v := 99) hx hb dX10_shown_2 (by decide) ?_
  obtain ⟨u1, hu1, hm⟩ := bs hm
  refine sd_Si C0 h kYX10_in kmX10_46 [.int v1, .int 0, .int 99] (tX10_in l D cA ad hu1) rfl hl.1 rfl (Nat.le_of_ble_eq_true rfl) (by decide) dX10_shown_4 (by decide) (fun H locs h => ?_)
  refine lv_if_eq (tgt := 31) hx hb dX10_shown_7 (by decide) (fun c2 => ?_) (fun c2 => ?_)
  · replace hm := ip c2 hm
    refine lv_iconst (v := (-1)) hx hb dX10_shown_31 (by decide) ?_
    exact sd_iret C0 h (Option.some.inj hm) dX10_shown_32
  · replace hm := iq c2 hm
    refine lv_iload_n hx hb dX10_shown_10 rfl (lv_at hl 2 rfl) ?_
    refine lv_iconst (v := 1) hx hb dX10_shown_11 (by decide) ?_
    refine lv_bipush (v := 6) hx hb dX10_shown_12 (by decide) ?_
    obtain ⟨u3, hu3, hm⟩ := bs hm
    refine sd_Si C0 h kYX10_in kmX10_46 [.int v2, .int 1, .int 6] (tX10_in l D cA ad hu3) rfl hl.1 rfl (Nat.le_of_ble_eq_true rfl) (by decide) dX10_shown_14 (by decide) (fun H locs h => ?_)
    refine lv_if_eq (tgt := 31) hx hb dX10_shown_17 (by decide) (fun c4 => ?_) (fun c4 => ?_)
    · replace hm := ip c4 hm
      refine lv_iconst (v := (-1)) hx hb dX10_shown_31 (by decide) ?_
      exact sd_iret C0 h (Option.some.inj hm) dX10_shown_32
    · replace hm := iq c4 hm
      refine lv_iload_n hx hb dX10_shown_20 rfl (lv_at hl 3 rfl) ?_
      refine lv_iconst (v := 0) hx hb dX10_shown_21 (by decide) ?_
      refine lv_sipush (v := 255) hx hb dX10_shown_22 (by decide) ?_
      obtain ⟨u5, hu5, hm⟩ := bs hm
      refine sd_Si C0 h kYX10_in kmX10_46 [.int v3, .int 0, .int 255] (tX10_in l D cA ad hu5) rfl hl.1 rfl (Nat.le_of_ble_eq_true rfl) (by decide) dX10_shown_25 (by decide) (fun H locs h => ?_)
      refine lv_if_ne (tgt := 33) hx hb dX10_shown_28 (by decide) (fun c6 => ?_) (fun c6 => ?_)
      · replace hm := iq c6 hm
        refine lv_aload_n hx hb dX10_shown_33 rfl (lv_at hl 0 rfl) ?_
        refine lv_iload_n hx hb dX10_shown_34 rfl (lv_at hl 1 rfl) ?_
        refine lv_iload_n hx hb dX10_shown_35 rfl (lv_at hl 2 rfl) ?_
        refine lv_iload_n hx hb dX10_shown_36 rfl (lv_at hl 3 rfl) ?_
        obtain ⟨u7, hu7, hm⟩ := bs hm
        refine sd_Vv C0 h kYX10_sheet kmX10_153 0 (aY_0 ad cA _) rfl [.int v1, .int v2, .int v3] (tX10_sheet l D cA ad hu7) rfl hl.1 rfl (Nat.le_of_ble_eq_true rfl) (by decide) dX10_shown_37 (by decide) (fun H locs h => ?_)
        refine lv_iload hx hb dX10_shown_40 (lv_at hl 4 rfl) ?_
        refine lv_iconst (v := 0) hx hb dX10_shown_42 (by decide) ?_
        refine lv_aload_n hx hb dX10_shown_43 rfl (lv_at hl 0 rfl) ?_
        refine sd_get C0 h (C := RX10) (T := TX10) (N := 17) kcX10 0 (aY_0 ad cA _) rfl 13 (by decide) kfX10_137 (v := .int (fI u7 6)) rfl dX10_shown_44 ?_
        refine lv_iconst (v := 1) hx hb dX10_shown_47 (by decide) ?_
        refine lv_isub hx hb dX10_shown_48 ?_
        obtain ⟨u8, hu8, hm⟩ := bs hm
        refine sd_Si C0 h kYX10_in kmX10_46 [.int v4, .int 0, .int ((fI u7 6) - 1)] (tX10_in l D cA ad hu8) rfl hl.1 rfl (Nat.le_of_ble_eq_true rfl) (by decide) dX10_shown_49 (by decide) (fun H locs h => ?_)
        refine lv_if_eq (tgt := 65) hx hb dX10_shown_52 (by decide) (fun c9 => ?_) (fun c9 => ?_)
        · replace hm := ip c9 hm
          refine lv_iconst (v := (-1)) hx hb dX10_shown_65 (by decide) ?_
          exact sd_iret C0 h (Option.some.inj hm) dX10_shown_66
        · replace hm := iq c9 hm
          refine lv_aload_n hx hb dX10_shown_55 rfl (lv_at hl 0 rfl) ?_
          refine sd_get C0 h (C := RX10) (T := TX10) (N := 17) kcX10 0 (aY_0 ad cA _) rfl 11 (by decide) kfX10_20 (v := .ref (ad 4)) rfl dX10_shown_56 ?_
          refine lv_iload hx hb dX10_shown_59 (lv_at hl 4 rfl) ?_
          obtain ⟨x10, hx10, hm⟩ := bs hm
          refine sd_rd C0 h 4 (aY_4 ad cA _) hx10 dX10_shown_61 ?_
          refine lv_goto (tgt := 66) hx hb dX10_shown_62 (by decide) ?_
          exact sd_iret C0 h (Option.some.inj hm) dX10_shown_66
      · replace hm := ip c6 hm
        refine lv_iconst (v := (-1)) hx hb dX10_shown_31 (by decide) ?_
        exact sd_iret C0 h (Option.some.inj hm) dX10_shown_32
theorem tX10_shown (l : Launch) (D : va_G) (cA : ClassId) (ad : Nat → Nat) {z : Nat} {S : St} {v1 : Int32} {v2 : Int32} {v3 : Int32} {v4 : Int32} {q : (Int32 × St)} (hm : mX10_shown z v1 v2 v3 v4 S = some q) : sd_MI l D vwCl cA sd_nw (wY ad cA) yX10_shown (Cond.code yX10_shown cX10_shown 5 (some .int) :: sd_big) rX10_shown [.ref (ad 0), .int v1, .int v2, .int v3, .int v4] S q :=
  sd_ofI (by decide +kernel) (Nat.le_of_ble_eq_true rfl) (fun _ _ _ _ _ _ _ _ _ _ C0 h hl => bX10_shown C0 h (lv_sub hl [0, 1, 2, 3, 4] rfl) hm)

def rX10_why : Room := { frames := 5, cells := 0, slots := 0, locals := 129 }
def mX10_why_107 (z : Nat) (v4 : Int32) (S : St) : Option (Int32 × St) :=
  (rd (fA S 4) 200 v4).bind fun x1 =>
  some (x1, S)
set_option maxHeartbeats 4000000 in
set_option maxRecDepth 100000 in
theorem bX10_why_107 {p : Program} {l : Launch} {e : Env} {s : State} {m : MethodId} {args : Array Value} {below : List Frame} {meth : Method} {c : Code} {D : va_G} {cA : ClassId} {ad : Nat → Nat} {A : Nat → Prop} {H : Heap} {locs : List Loc} {ls : Array Slot} {q : (Int32 × St)} {z : Nat} {v4 : Int32} {S : St} (C0 : sd_Cx RX10 cX10_why 5 (some .int) (Cond.code yX10_why cX10_why 5 (some .int) :: sd_big) p s m args meth c) (h : sd_Wd D vwCl cA sd_nw (wY ad cA) A s S H locs) (hl : lv_has ls 5 [(0, .ref (ad 0)), (4, .int v4)])  (hm : mX10_why_107 z v4 S = some q) : W p l e rX10_why s m args below meth c H locs 0 0 (MQ below (sd_Qi D vwCl (wY ad cA) A q) args s 0 0 A) (F0 m 107 ls []) := by
  unfold mX10_why_107 at hm
  have hx := C0.1
  have hb := C0.2.1
  refine lv_aload_n hx hb dX10_why_107 rfl (lv_at hl 0 rfl) ?_
  refine sd_get C0 h (C := RX10) (T := TX10) (N := 17) kcX10 0 (aY_0 ad cA _) rfl 12 (by decide) kfX10_23 (v := .ref (ad 5)) rfl dX10_why_108 ?_
  refine lv_iload hx hb dX10_why_111 (lv_at hl 1 rfl) ?_
  obtain ⟨x1, hx1, hm⟩ := bs hm
  refine sd_rd C0 h 5 (aY_5 ad cA _) hx1 dX10_why_113 ?_
  exact sd_iret C0 h (Option.some.inj hm) dX10_why_114
def mX10_why_87b (z : Nat) (rc87 : Int32 → St → Option (Int32 × St)) (v3 : Int32) (v4 : Int32) (S : St) : Option (Int32 × St) :=
  if (fI S 6) ≤ v4 then
    some (6, S)
  else
    (rd (fA S 3) 200 v4).bind fun x2 =>
    if x2 = v3 then
      mX10_why_107 z v4 S
    else
      rc87 (v4 + 1) S
set_option maxHeartbeats 4000000 in
set_option maxRecDepth 100000 in
theorem bX10_why_87b {p : Program} {l : Launch} {e : Env} {s : State} {m : MethodId} {args : Array Value} {below : List Frame} {meth : Method} {c : Code} {D : va_G} {cA : ClassId} {ad : Nat → Nat} {A : Nat → Prop} {H : Heap} {locs : List Loc} {ls : Array Slot} {q : (Int32 × St)} {z : Nat} {rc87 : Int32 → St → Option (Int32 × St)} {v3 : Int32} {v4 : Int32} {S : St} (C0 : sd_Cx RX10 cX10_why 5 (some .int) (Cond.code yX10_why cX10_why 5 (some .int) :: sd_big) p s m args meth c) (h : sd_Wd D vwCl cA sd_nw (wY ad cA) A s S H locs) (hl : lv_has ls 5 [(0, .ref (ad 0)), (3, .int v3), (4, .int v4)]) (hrc87 : ∀ (v4 : Int32) (S : St) (H : Heap) (locs : List Loc) (ls : Array Slot), sd_Wd D vwCl cA sd_nw (wY ad cA) A s S H locs → lv_has ls 5 [(0, .ref (ad 0)), (3, .int v3), (4, .int v4)] → rc87 v4 S = some q → W p l e rX10_why s m args below meth c H locs 0 0 (MQ below (sd_Qi D vwCl (wY ad cA) A q) args s 0 0 A) (F0 m 87 ls [])) (hm : mX10_why_87b z rc87 v3 v4 S = some q) : W p l e rX10_why s m args below meth c H locs 0 0 (MQ below (sd_Qi D vwCl (wY ad cA) A q) args s 0 0 A) (F0 m 87 ls []) := by
  unfold mX10_why_87b at hm
  have hx := C0.1
  have hb := C0.2.1
  refine lv_iload hx hb dX10_why_87 (lv_at hl 2 rfl) ?_
  refine lv_aload_n hx hb dX10_why_89 rfl (lv_at hl 0 rfl) ?_
  refine sd_get C0 h (C := RX10) (T := TX10) (N := 17) kcX10 0 (aY_0 ad cA _) rfl 13 (by decide) kfX10_137 (v := .int (fI S 6)) rfl dX10_why_90 ?_
  refine lv_icmp_ge (tgt := 121) hx hb dX10_why_93 (by decide) (fun c1 => ?_) (fun c1 => ?_)
  · replace hm := ip c1 hm
    refine lv_bipush (v := 6) hx hb dX10_why_121 (by decide) ?_
    exact sd_iret C0 h (Option.some.inj hm) dX10_why_123
  · replace hm := iq c1 hm
    refine lv_aload_n hx hb dX10_why_96 rfl (lv_at hl 0 rfl) ?_
    refine sd_get C0 h (C := RX10) (T := TX10) (N := 17) kcX10 0 (aY_0 ad cA _) rfl 11 (by decide) kfX10_20 (v := .ref (ad 4)) rfl dX10_why_97 ?_
    refine lv_iload hx hb dX10_why_100 (lv_at hl 2 rfl) ?_
    obtain ⟨x2, hx2, hm⟩ := bs hm
    refine sd_rd C0 h 4 (aY_4 ad cA _) hx2 dX10_why_102 ?_
    refine lv_iload_n hx hb dX10_why_103 rfl (lv_at hl 1 rfl) ?_
    refine lv_icmp_ne (tgt := 115) hx hb dX10_why_104 (by decide) (fun c3 => ?_) (fun c3 => ?_)
    · replace hm := iq c3 hm
      refine lv_iinc (v := (v4 + 1)) (lv' := [(4, .int (v4 + 1)), (0, .ref (ad 0)), (3, .int v3)]) hx hb dX10_why_115 hl (k := 2) rfl rfl (by decide) rfl (fun ls hl => ?_)
      refine lv_goto (tgt := 87) hx hb dX10_why_118 (by decide) ?_
      exact hrc87 _ _ _ _ _ h (lv_sub hl [1, 2, 0] rfl) hm
    · replace hm := ip c3 hm
      exact bX10_why_107 C0 h (lv_sub hl [0, 2] rfl) hm
def mX10_why_87 (z : Nat) (v3 : Int32) : Nat → Int32 → St → Option (Int32 × St)
  | 0, _, _ => none
  | n + 1, v4, S => mX10_why_87b z (mX10_why_87 z v3 n) v3 v4 S
set_option maxHeartbeats 4000000 in
set_option maxRecDepth 100000 in
theorem lX10_why_87 {p : Program} {l : Launch} {e : Env} {s : State} {m : MethodId} {args : Array Value} {below : List Frame} {meth : Method} {c : Code} {D : va_G} {cA : ClassId} {ad : Nat → Nat} {A : Nat → Prop} {q : (Int32 × St)} {z : Nat} {v3 : Int32} (C0 : sd_Cx RX10 cX10_why 5 (some .int) (Cond.code yX10_why cX10_why 5 (some .int) :: sd_big) p s m args meth c)  : ∀ (n : Nat) (v4 : Int32) (S : St) (H : Heap) (locs : List Loc) (ls : Array Slot), sd_Wd D vwCl cA sd_nw (wY ad cA) A s S H locs → lv_has ls 5 [(0, .ref (ad 0)), (3, .int v3), (4, .int v4)] → mX10_why_87 z v3 n v4 S = some q → W p l e rX10_why s m args below meth c H locs 0 0 (MQ below (sd_Qi D vwCl (wY ad cA) A q) args s 0 0 A) (F0 m 87 ls []) := by
  intro n
  induction n with
  | zero =>
    intro v4 S H locs ls h hl hm
    exact nomatch (show none = some q from hm)
  | succ n ih =>
    intro v4 S H locs ls h hl hm
    exact bX10_why_87b C0 h hl ih hm
def mX10_why (z : Nat) (v1 : Int32) (v2 : Int32) (v3 : Int32) (S : St) : Option (Int32 × St) :=
  (mX10_in S v1 0 99).bind fun u1 =>
  if u1 = 0 then
    some ((-1), S)
  else
    (mX10_in S v2 1 6).bind fun u3 =>
    if u3 = 0 then
      some ((-1), S)
    else
      (mX10_isSounding S v3).bind fun u5 =>
      if u5 = 0 then
        some ((-1), S)
      else
        (mX10_of S v3 0).bind fun u7 =>
        if u7 = 2 then
          some (3, S)
        else
          (mX10_isThere S v3 v1).bind fun u9 =>
          if u9 = 0 then
            some (4, S)
          else
            (mX10_waits z v3 S).bind fun u11 =>
            if u11.1 = 0 then
              (mX10_of u11.2 v3 1).bind fun u13 =>
              (mX10_of u11.2 v3 2).bind fun u14 =>
              (mX10_squareOf u11.2 u13 u14).bind fun u15 =>
              (mX10_sheet z v1 v2 u15 u11.2).bind fun u16 =>
              mX10_why_87 z v3 z 0 u16
            else
              some (5, u11.2)
set_option maxHeartbeats 4000000 in
set_option maxRecDepth 100000 in
theorem bX10_why {p : Program} {l : Launch} {e : Env} {s : State} {m : MethodId} {args : Array Value} {below : List Frame} {meth : Method} {c : Code} {D : va_G} {cA : ClassId} {ad : Nat → Nat} {A : Nat → Prop} {H : Heap} {locs : List Loc} {ls : Array Slot} {q : (Int32 × St)} {z : Nat} {v1 : Int32} {v2 : Int32} {v3 : Int32} {S : St} (C0 : sd_Cx RX10 cX10_why 5 (some .int) (Cond.code yX10_why cX10_why 5 (some .int) :: sd_big) p s m args meth c) (h : sd_Wd D vwCl cA sd_nw (wY ad cA) A s S H locs) (hl : lv_has ls 5 [(0, .ref (ad 0)), (1, .int v1), (2, .int v2), (3, .int v3)])  (hm : mX10_why z v1 v2 v3 S = some q) : W p l e rX10_why s m args below meth c H locs 0 0 (MQ below (sd_Qi D vwCl (wY ad cA) A q) args s 0 0 A) (F0 m 0 ls []) := by
  unfold mX10_why at hm
  have hx := C0.1
  have hb := C0.2.1
  refine lv_iload_n hx hb dX10_why_0 rfl (lv_at hl 1 rfl) ?_
  refine lv_iconst (v := 0) hx hb dX10_why_1 (by decide) ?_
  refine lv_bipush (v := 99) hx hb dX10_why_2 (by decide) ?_
  obtain ⟨u1, hu1, hm⟩ := bs hm
  refine sd_Si C0 h kYX10_in kmX10_46 [.int v1, .int 0, .int 99] (tX10_in l D cA ad hu1) rfl hl.1 rfl (Nat.le_of_ble_eq_true rfl) (by decide) dX10_why_4 (by decide) (fun H locs h => ?_)
  refine lv_if_eq (tgt := 28) hx hb dX10_why_7 (by decide) (fun c2 => ?_) (fun c2 => ?_)
  · replace hm := ip c2 hm
    refine lv_iconst (v := (-1)) hx hb dX10_why_28 (by decide) ?_
    exact sd_iret C0 h (Option.some.inj hm) dX10_why_29
  · replace hm := iq c2 hm
    refine lv_iload_n hx hb dX10_why_10 rfl (lv_at hl 2 rfl) ?_
    refine lv_iconst (v := 1) hx hb dX10_why_11 (by decide) ?_
    refine lv_bipush (v := 6) hx hb dX10_why_12 (by decide) ?_
    obtain ⟨u3, hu3, hm⟩ := bs hm
    refine sd_Si C0 h kYX10_in kmX10_46 [.int v2, .int 1, .int 6] (tX10_in l D cA ad hu3) rfl hl.1 rfl (Nat.le_of_ble_eq_true rfl) (by decide) dX10_why_14 (by decide) (fun H locs h => ?_)
    refine lv_if_eq (tgt := 28) hx hb dX10_why_17 (by decide) (fun c4 => ?_) (fun c4 => ?_)
    · replace hm := ip c4 hm
      refine lv_iconst (v := (-1)) hx hb dX10_why_28 (by decide) ?_
      exact sd_iret C0 h (Option.some.inj hm) dX10_why_29
    · replace hm := iq c4 hm
      refine lv_aload_n hx hb dX10_why_20 rfl (lv_at hl 0 rfl) ?_
      refine lv_iload_n hx hb dX10_why_21 rfl (lv_at hl 3 rfl) ?_
      obtain ⟨u5, hu5, hm⟩ := bs hm
      refine sd_Vi C0 h kYX10_isSounding kmX10_93 0 (aY_0 ad cA _) rfl [.int v3] (tX10_isSounding l D cA ad hu5) rfl hl.1 rfl (Nat.le_of_ble_eq_true rfl) (by decide) dX10_why_22 (by decide) (fun H locs h => ?_)
      refine lv_if_ne (tgt := 30) hx hb dX10_why_25 (by decide) (fun c6 => ?_) (fun c6 => ?_)
      · replace hm := iq c6 hm
        refine lv_aload_n hx hb dX10_why_30 rfl (lv_at hl 0 rfl) ?_
        refine lv_iload_n hx hb dX10_why_31 rfl (lv_at hl 3 rfl) ?_
        refine lv_iconst (v := 0) hx hb dX10_why_32 (by decide) ?_
        obtain ⟨u7, hu7, hm⟩ := bs hm
        refine sd_Vi C0 h kYX10_of kmX10_96 0 (aY_0 ad cA _) rfl [.int v3, .int 0] (tX10_of l D cA ad hu7) rfl hl.1 rfl (Nat.le_of_ble_eq_true rfl) (by decide) dX10_why_33 (by decide) (fun H locs h => ?_)
        refine lv_iconst (v := 2) hx hb dX10_why_36 (by decide) ?_
        refine lv_icmp_ne (tgt := 42) hx hb dX10_why_37 (by decide) (fun c8 => ?_) (fun c8 => ?_)
        · replace hm := iq c8 hm
          refine lv_aload_n hx hb dX10_why_42 rfl (lv_at hl 0 rfl) ?_
          refine lv_iload_n hx hb dX10_why_43 rfl (lv_at hl 3 rfl) ?_
          refine lv_iload_n hx hb dX10_why_44 rfl (lv_at hl 1 rfl) ?_
          obtain ⟨u9, hu9, hm⟩ := bs hm
          refine sd_Vi C0 h kYX10_isThere kmX10_128 0 (aY_0 ad cA _) rfl [.int v3, .int v1] (tX10_isThere l D cA ad hu9) rfl hl.1 rfl (Nat.le_of_ble_eq_true rfl) (by decide) dX10_why_45 (by decide) (fun H locs h => ?_)
          refine lv_if_ne (tgt := 53) hx hb dX10_why_48 (by decide) (fun c10 => ?_) (fun c10 => ?_)
          · replace hm := iq c10 hm
            refine lv_aload_n hx hb dX10_why_53 rfl (lv_at hl 0 rfl) ?_
            refine lv_iload_n hx hb dX10_why_54 rfl (lv_at hl 3 rfl) ?_
            obtain ⟨u11, hu11, hm⟩ := bs hm
            refine sd_Vi C0 h kYX10_waits kmX10_101 0 (aY_0 ad cA _) rfl [.int v3] (tX10_waits l D cA ad hu11) rfl hl.1 rfl (Nat.le_of_ble_eq_true rfl) (by decide) dX10_why_55 (by decide) (fun H locs h => ?_)
            refine lv_if_eq (tgt := 63) hx hb dX10_why_58 (by decide) (fun c12 => ?_) (fun c12 => ?_)
            · replace hm := ip c12 hm
              refine lv_aload_n hx hb dX10_why_63 rfl (lv_at hl 0 rfl) ?_
              refine lv_iload_n hx hb dX10_why_64 rfl (lv_at hl 1 rfl) ?_
              refine lv_iload_n hx hb dX10_why_65 rfl (lv_at hl 2 rfl) ?_
              refine lv_aload_n hx hb dX10_why_66 rfl (lv_at hl 0 rfl) ?_
              refine lv_iload_n hx hb dX10_why_67 rfl (lv_at hl 3 rfl) ?_
              refine lv_iconst (v := 1) hx hb dX10_why_68 (by decide) ?_
              obtain ⟨u13, hu13, hm⟩ := bs hm
              refine sd_Vi C0 h kYX10_of kmX10_96 0 (aY_0 ad cA _) rfl [.int v3, .int 1] (tX10_of l D cA ad hu13) rfl hl.1 rfl (Nat.le_of_ble_eq_true rfl) (by decide) dX10_why_69 (by decide) (fun H locs h => ?_)
              refine lv_aload_n hx hb dX10_why_72 rfl (lv_at hl 0 rfl) ?_
              refine lv_iload_n hx hb dX10_why_73 rfl (lv_at hl 3 rfl) ?_
              refine lv_iconst (v := 2) hx hb dX10_why_74 (by decide) ?_
              obtain ⟨u14, hu14, hm⟩ := bs hm
              refine sd_Vi C0 h kYX10_of kmX10_96 0 (aY_0 ad cA _) rfl [.int v3, .int 2] (tX10_of l D cA ad hu14) rfl hl.1 rfl (Nat.le_of_ble_eq_true rfl) (by decide) dX10_why_75 (by decide) (fun H locs h => ?_)
              obtain ⟨u15, hu15, hm⟩ := bs hm
              refine sd_Si C0 h kYX10_squareOf kmX10_125 [.int u13, .int u14] (tX10_squareOf l D cA ad hu15) rfl hl.1 rfl (Nat.le_of_ble_eq_true rfl) (by decide) dX10_why_78 (by decide) (fun H locs h => ?_)
              obtain ⟨u16, hu16, hm⟩ := bs hm
              refine sd_Vv C0 h kYX10_sheet kmX10_153 0 (aY_0 ad cA _) rfl [.int v1, .int v2, .int u15] (tX10_sheet l D cA ad hu16) rfl hl.1 rfl (Nat.le_of_ble_eq_true rfl) (by decide) dX10_why_81 (by decide) (fun H locs h => ?_)
              refine lv_iconst (v := 0) hx hb dX10_why_84 (by decide) ?_
              refine lv_istore (lv' := [(4, .int 0), (0, .ref (ad 0)), (1, .int v1), (2, .int v2), (3, .int v3)]) hx hb dX10_why_85 hl (by decide) rfl (fun ls hl => ?_)
              exact lX10_why_87 C0 _ _ _ _ _ _ h (lv_sub hl [1, 4, 0] rfl) hm
            · replace hm := iq c12 hm
              refine lv_iconst (v := 5) hx hb dX10_why_61 (by decide) ?_
              exact sd_iret C0 h (Option.some.inj hm) dX10_why_62
          · replace hm := ip c10 hm
            refine lv_iconst (v := 4) hx hb dX10_why_51 (by decide) ?_
            exact sd_iret C0 h (Option.some.inj hm) dX10_why_52
        · replace hm := ip c8 hm
          refine lv_iconst (v := 3) hx hb dX10_why_40 (by decide) ?_
          exact sd_iret C0 h (Option.some.inj hm) dX10_why_41
      · replace hm := ip c6 hm
        refine lv_iconst (v := (-1)) hx hb dX10_why_28 (by decide) ?_
        exact sd_iret C0 h (Option.some.inj hm) dX10_why_29
theorem tX10_why (l : Launch) (D : va_G) (cA : ClassId) (ad : Nat → Nat) {z : Nat} {S : St} {v1 : Int32} {v2 : Int32} {v3 : Int32} {q : (Int32 × St)} (hm : mX10_why z v1 v2 v3 S = some q) : sd_MI l D vwCl cA sd_nw (wY ad cA) yX10_why (Cond.code yX10_why cX10_why 5 (some .int) :: sd_big) rX10_why [.ref (ad 0), .int v1, .int v2, .int v3] S q :=
  sd_ofI (by decide +kernel) (Nat.le_of_ble_eq_true rfl) (fun _ _ _ _ _ _ _ _ _ _ C0 h hl => bX10_why C0 h (lv_sub hl [0, 1, 2, 3] rfl) hm)

def rX10_depthOf : Room := { frames := 3, cells := 0, slots := 0, locals := 77 }
def mX10_depthOf_103b (z : Nat) (rc103 : Int32 → Int32 → Int32 → St → Option (Int32 × St)) (v1 : Int32) (v5 : Int32) (v6 : Int32) (v4 : Int32) (v7 : Int32) (v8 : Int32) (S : St) : Option (Int32 × St) :=
  (rd (fA S 0) 4564 1).bind fun x1 =>
  if x1 ≤ v8 then
    some (v7, S)
  else
    (mX10_isSwept z v8 v1 S).bind fun u3 =>
    if u3.1 = 0 then
      rc103 v4 v7 (v8 + 1) u3.2
    else
      (mX10_hasPlace u3.2 v8 v5 v6).bind fun u5 =>
      if u5 = 0 then
        rc103 v4 v7 (v8 + 1) u3.2
      else
        (mX10_hasPlace u3.2 v8 (v5 + 15) (v6 + 15)).bind fun u7 =>
        if u7 = 0 then
          rc103 v4 v7 (v8 + 1) u3.2
        else
          (mX10_corrected z v8 u3.2).bind fun u9 =>
          if v4 = 0 then
            rc103 1 u9.1 (v8 + 1) u9.2
          else
            if u9.1 ≤ v7 then
              rc103 1 v7 (v8 + 1) u9.2
            else
              rc103 1 u9.1 (v8 + 1) u9.2
set_option maxHeartbeats 4000000 in
set_option maxRecDepth 100000 in
theorem bX10_depthOf_103b {p : Program} {l : Launch} {e : Env} {s : State} {m : MethodId} {args : Array Value} {below : List Frame} {meth : Method} {c : Code} {D : va_G} {cA : ClassId} {ad : Nat → Nat} {A : Nat → Prop} {H : Heap} {locs : List Loc} {ls : Array Slot} {q : (Int32 × St)} {z : Nat} {rc103 : Int32 → Int32 → Int32 → St → Option (Int32 × St)} {v1 : Int32} {v5 : Int32} {v6 : Int32} {v4 : Int32} {v7 : Int32} {v8 : Int32} {S : St} (C0 : sd_Cx RX10 cX10_depthOf 10 (some .int) (Cond.code yX10_depthOf cX10_depthOf 10 (some .int) :: sd_big) p s m args meth c) (h : sd_Wd D vwCl cA sd_nw (wY ad cA) A s S H locs) (hl : lv_has ls 10 [(0, .ref (ad 0)), (1, .int v1), (4, .int v4), (5, .int v5), (6, .int v6), (7, .int v7), (8, .int v8)]) (hrc103 : ∀ (v4 : Int32) (v7 : Int32) (v8 : Int32) (S : St) (H : Heap) (locs : List Loc) (ls : Array Slot), sd_Wd D vwCl cA sd_nw (wY ad cA) A s S H locs → lv_has ls 10 [(0, .ref (ad 0)), (1, .int v1), (4, .int v4), (5, .int v5), (6, .int v6), (7, .int v7), (8, .int v8)] → rc103 v4 v7 v8 S = some q → W p l e rX10_depthOf s m args below meth c H locs 0 0 (MQ below (sd_Qi D vwCl (wY ad cA) A q) args s 0 0 A) (F0 m 103 ls [])) (hm : mX10_depthOf_103b z rc103 v1 v5 v6 v4 v7 v8 S = some q) : W p l e rX10_depthOf s m args below meth c H locs 0 0 (MQ below (sd_Qi D vwCl (wY ad cA) A q) args s 0 0 A) (F0 m 103 ls []) := by
  unfold mX10_depthOf_103b at hm
  have hx := C0.1
  have hb := C0.2.1
  refine lv_iload hx hb dX10_depthOf_103 (lv_at hl 6 rfl) ?_
  refine lv_aload_n hx hb dX10_depthOf_105 rfl (lv_at hl 0 rfl) ?_
  refine sd_get C0 h (C := RX10) (T := TX10) (N := 17) kcX10 0 (aY_0 ad cA _) rfl 0 (by decide) kfX10_7 (v := .ref (ad 1)) rfl dX10_depthOf_106 ?_
  refine lv_iconst (v := 1) hx hb dX10_depthOf_109 (by decide) ?_
  obtain ⟨x1, hx1, hm⟩ := bs hm
  refine sd_rd C0 h 1 (aY_1 ad cA _) hx1 dX10_depthOf_110 ?_
  refine lv_icmp_ge (tgt := 197) hx hb dX10_depthOf_111 (by decide) (fun c2 => ?_) (fun c2 => ?_)
  · replace hm := ip c2 hm
    refine lv_iload hx hb dX10_depthOf_197 (lv_at hl 5 rfl) ?_
    exact sd_iret C0 h (Option.some.inj hm) dX10_depthOf_199
  · replace hm := iq c2 hm
    refine lv_aload_n hx hb dX10_depthOf_114 rfl (lv_at hl 0 rfl) ?_
    refine lv_iload hx hb dX10_depthOf_115 (lv_at hl 6 rfl) ?_
    refine lv_iload_n hx hb dX10_depthOf_117 rfl (lv_at hl 1 rfl) ?_
    obtain ⟨u3, hu3, hm⟩ := bs hm
    refine sd_Vi C0 h kYX10_isSwept kmX10_131 0 (aY_0 ad cA _) rfl [.int v8, .int v1] (tX10_isSwept l D cA ad hu3) rfl hl.1 rfl (Nat.le_of_ble_eq_true rfl) (by decide) dX10_depthOf_118 (by decide) (fun H locs h => ?_)
    refine lv_if_eq (tgt := 191) hx hb dX10_depthOf_121 (by decide) (fun c4 => ?_) (fun c4 => ?_)
    · replace hm := ip c4 hm
      refine lv_iinc (v := (v8 + 1)) (lv' := [(8, .int (v8 + 1)), (0, .ref (ad 0)), (1, .int v1), (4, .int v4), (5, .int v5), (6, .int v6), (7, .int v7)]) hx hb dX10_depthOf_191 hl (k := 6) rfl rfl (by decide) rfl (fun ls hl => ?_)
      refine lv_goto (tgt := 103) hx hb dX10_depthOf_194 (by decide) ?_
      exact hrc103 _ _ _ _ _ _ _ h (lv_sub hl [1, 2, 3, 4, 5, 6, 0] rfl) hm
    · replace hm := iq c4 hm
      refine lv_aload_n hx hb dX10_depthOf_124 rfl (lv_at hl 0 rfl) ?_
      refine lv_iload hx hb dX10_depthOf_125 (lv_at hl 6 rfl) ?_
      refine lv_iload hx hb dX10_depthOf_127 (lv_at hl 3 rfl) ?_
      refine lv_iload hx hb dX10_depthOf_129 (lv_at hl 4 rfl) ?_
      obtain ⟨u5, hu5, hm⟩ := bs hm
      refine sd_Vi C0 h kYX10_hasPlace kmX10_134 0 (aY_0 ad cA _) rfl [.int v8, .int v5, .int v6] (tX10_hasPlace l D cA ad hu5) rfl hl.1 rfl (Nat.le_of_ble_eq_true rfl) (by decide) dX10_depthOf_131 (by decide) (fun H locs h => ?_)
      refine lv_if_eq (tgt := 191) hx hb dX10_depthOf_134 (by decide) (fun c6 => ?_) (fun c6 => ?_)
      · replace hm := ip c6 hm
        refine lv_iinc (v := (v8 + 1)) (lv' := [(8, .int (v8 + 1)), (0, .ref (ad 0)), (1, .int v1), (4, .int v4), (5, .int v5), (6, .int v6), (7, .int v7)]) hx hb dX10_depthOf_191 hl (k := 6) rfl rfl (by decide) rfl (fun ls hl => ?_)
        refine lv_goto (tgt := 103) hx hb dX10_depthOf_194 (by decide) ?_
        exact hrc103 _ _ _ _ _ _ _ h (lv_sub hl [1, 2, 3, 4, 5, 6, 0] rfl) hm
      · replace hm := iq c6 hm
        refine lv_aload_n hx hb dX10_depthOf_137 rfl (lv_at hl 0 rfl) ?_
        refine lv_iload hx hb dX10_depthOf_138 (lv_at hl 6 rfl) ?_
        refine lv_iload hx hb dX10_depthOf_140 (lv_at hl 3 rfl) ?_
        refine lv_bipush (v := 15) hx hb dX10_depthOf_142 (by decide) ?_
        refine lv_iadd hx hb dX10_depthOf_144 ?_
        refine lv_iload hx hb dX10_depthOf_145 (lv_at hl 4 rfl) ?_
        refine lv_bipush (v := 15) hx hb dX10_depthOf_147 (by decide) ?_
        refine lv_iadd hx hb dX10_depthOf_149 ?_
        obtain ⟨u7, hu7, hm⟩ := bs hm
        refine sd_Vi C0 h kYX10_hasPlace kmX10_134 0 (aY_0 ad cA _) rfl [.int v8, .int (v5 + 15), .int (v6 + 15)] (tX10_hasPlace l D cA ad hu7) rfl hl.1 rfl (Nat.le_of_ble_eq_true rfl) (by decide) dX10_depthOf_150 (by decide) (fun H locs h => ?_)
        refine lv_if_ne (tgt := 159) hx hb dX10_depthOf_153 (by decide) (fun c8 => ?_) (fun c8 => ?_)
        · replace hm := iq c8 hm
          refine lv_aload_n hx hb dX10_depthOf_159 rfl (lv_at hl 0 rfl) ?_
          refine lv_iload hx hb dX10_depthOf_160 (lv_at hl 6 rfl) ?_
          obtain ⟨u9, hu9, hm⟩ := bs hm
          refine sd_Vi C0 h kYX10_corrected kmX10_104 0 (aY_0 ad cA _) rfl [.int v8] (tX10_corrected l D cA ad hu9) rfl hl.1 rfl (Nat.le_of_ble_eq_true rfl) (by decide) dX10_depthOf_162 (by decide) (fun H locs h => ?_)
          refine lv_istore (lv' := [(9, .int u9.1), (0, .ref (ad 0)), (1, .int v1), (4, .int v4), (5, .int v5), (6, .int v6), (7, .int v7), (8, .int v8)]) hx hb dX10_depthOf_165 hl (by decide) rfl (fun ls hl => ?_)
          refine lv_iload hx hb dX10_depthOf_167 (lv_at hl 3 rfl) ?_
          refine lv_if_eq (tgt := 179) hx hb dX10_depthOf_169 (by decide) (fun c10 => ?_) (fun c10 => ?_)
          · replace hm := ip c10 hm
            refine lv_iload hx hb dX10_depthOf_179 (lv_at hl 0 rfl) ?_
            refine lv_goto (tgt := 186) hx hb dX10_depthOf_181 (by decide) ?_
            refine lv_istore (lv' := [(7, .int u9.1), (9, .int u9.1), (0, .ref (ad 0)), (1, .int v1), (4, .int v4), (5, .int v5), (6, .int v6), (8, .int v8)]) hx hb dX10_depthOf_186 hl (by decide) rfl (fun ls hl => ?_)
            refine lv_iconst (v := 1) hx hb dX10_depthOf_188 (by decide) ?_
            refine lv_istore (lv' := [(4, .int 1), (7, .int u9.1), (9, .int u9.1), (0, .ref (ad 0)), (1, .int v1), (5, .int v5), (6, .int v6), (8, .int v8)]) hx hb dX10_depthOf_189 hl (by decide) rfl (fun ls hl => ?_)
            refine lv_iinc (v := (v8 + 1)) (lv' := [(8, .int (v8 + 1)), (4, .int 1), (7, .int u9.1), (9, .int u9.1), (0, .ref (ad 0)), (1, .int v1), (5, .int v5), (6, .int v6)]) hx hb dX10_depthOf_191 hl (k := 7) rfl rfl (by decide) rfl (fun ls hl => ?_)
            refine lv_goto (tgt := 103) hx hb dX10_depthOf_194 (by decide) ?_
            exact hrc103 _ _ _ _ _ _ _ h (lv_sub hl [4, 5, 1, 6, 7, 2, 0] rfl) hm
          · replace hm := iq c10 hm
            refine lv_iload hx hb dX10_depthOf_172 (lv_at hl 0 rfl) ?_
            refine lv_iload hx hb dX10_depthOf_174 (lv_at hl 6 rfl) ?_
            refine lv_icmp_le (tgt := 184) hx hb dX10_depthOf_176 (by decide) (fun c11 => ?_) (fun c11 => ?_)
            · replace hm := ip c11 hm
              refine lv_iload hx hb dX10_depthOf_184 (lv_at hl 6 rfl) ?_
              refine lv_istore (lv' := [(7, .int v7), (9, .int u9.1), (0, .ref (ad 0)), (1, .int v1), (4, .int v4), (5, .int v5), (6, .int v6), (8, .int v8)]) hx hb dX10_depthOf_186 hl (by decide) rfl (fun ls hl => ?_)
              refine lv_iconst (v := 1) hx hb dX10_depthOf_188 (by decide) ?_
              refine lv_istore (lv' := [(4, .int 1), (7, .int v7), (9, .int u9.1), (0, .ref (ad 0)), (1, .int v1), (5, .int v5), (6, .int v6), (8, .int v8)]) hx hb dX10_depthOf_189 hl (by decide) rfl (fun ls hl => ?_)
              refine lv_iinc (v := (v8 + 1)) (lv' := [(8, .int (v8 + 1)), (4, .int 1), (7, .int v7), (9, .int u9.1), (0, .ref (ad 0)), (1, .int v1), (5, .int v5), (6, .int v6)]) hx hb dX10_depthOf_191 hl (k := 7) rfl rfl (by decide) rfl (fun ls hl => ?_)
              refine lv_goto (tgt := 103) hx hb dX10_depthOf_194 (by decide) ?_
              exact hrc103 _ _ _ _ _ _ _ h (lv_sub hl [4, 5, 1, 6, 7, 2, 0] rfl) hm
            · replace hm := iq c11 hm
              refine lv_iload hx hb dX10_depthOf_179 (lv_at hl 0 rfl) ?_
              refine lv_goto (tgt := 186) hx hb dX10_depthOf_181 (by decide) ?_
              refine lv_istore (lv' := [(7, .int u9.1), (9, .int u9.1), (0, .ref (ad 0)), (1, .int v1), (4, .int v4), (5, .int v5), (6, .int v6), (8, .int v8)]) hx hb dX10_depthOf_186 hl (by decide) rfl (fun ls hl => ?_)
              refine lv_iconst (v := 1) hx hb dX10_depthOf_188 (by decide) ?_
              refine lv_istore (lv' := [(4, .int 1), (7, .int u9.1), (9, .int u9.1), (0, .ref (ad 0)), (1, .int v1), (5, .int v5), (6, .int v6), (8, .int v8)]) hx hb dX10_depthOf_189 hl (by decide) rfl (fun ls hl => ?_)
              refine lv_iinc (v := (v8 + 1)) (lv' := [(8, .int (v8 + 1)), (4, .int 1), (7, .int u9.1), (9, .int u9.1), (0, .ref (ad 0)), (1, .int v1), (5, .int v5), (6, .int v6)]) hx hb dX10_depthOf_191 hl (k := 7) rfl rfl (by decide) rfl (fun ls hl => ?_)
              refine lv_goto (tgt := 103) hx hb dX10_depthOf_194 (by decide) ?_
              exact hrc103 _ _ _ _ _ _ _ h (lv_sub hl [4, 5, 1, 6, 7, 2, 0] rfl) hm
        · replace hm := ip c8 hm
          refine lv_goto (tgt := 191) hx hb dX10_depthOf_156 (by decide) ?_
          refine lv_iinc (v := (v8 + 1)) (lv' := [(8, .int (v8 + 1)), (0, .ref (ad 0)), (1, .int v1), (4, .int v4), (5, .int v5), (6, .int v6), (7, .int v7)]) hx hb dX10_depthOf_191 hl (k := 6) rfl rfl (by decide) rfl (fun ls hl => ?_)
          refine lv_goto (tgt := 103) hx hb dX10_depthOf_194 (by decide) ?_
          exact hrc103 _ _ _ _ _ _ _ h (lv_sub hl [1, 2, 3, 4, 5, 6, 0] rfl) hm
def mX10_depthOf_103 (z : Nat) (v1 : Int32) (v5 : Int32) (v6 : Int32) : Nat → Int32 → Int32 → Int32 → St → Option (Int32 × St)
  | 0, _, _, _, _ => none
  | n + 1, v4, v7, v8, S => mX10_depthOf_103b z (mX10_depthOf_103 z v1 v5 v6 n) v1 v5 v6 v4 v7 v8 S
set_option maxHeartbeats 4000000 in
set_option maxRecDepth 100000 in
theorem lX10_depthOf_103 {p : Program} {l : Launch} {e : Env} {s : State} {m : MethodId} {args : Array Value} {below : List Frame} {meth : Method} {c : Code} {D : va_G} {cA : ClassId} {ad : Nat → Nat} {A : Nat → Prop} {q : (Int32 × St)} {z : Nat} {v1 : Int32} {v5 : Int32} {v6 : Int32} (C0 : sd_Cx RX10 cX10_depthOf 10 (some .int) (Cond.code yX10_depthOf cX10_depthOf 10 (some .int) :: sd_big) p s m args meth c)  : ∀ (n : Nat) (v4 : Int32) (v7 : Int32) (v8 : Int32) (S : St) (H : Heap) (locs : List Loc) (ls : Array Slot), sd_Wd D vwCl cA sd_nw (wY ad cA) A s S H locs → lv_has ls 10 [(0, .ref (ad 0)), (1, .int v1), (4, .int v4), (5, .int v5), (6, .int v6), (7, .int v7), (8, .int v8)] → mX10_depthOf_103 z v1 v5 v6 n v4 v7 v8 S = some q → W p l e rX10_depthOf s m args below meth c H locs 0 0 (MQ below (sd_Qi D vwCl (wY ad cA) A q) args s 0 0 A) (F0 m 103 ls []) := by
  intro n
  induction n with
  | zero =>
    intro v4 v7 v8 S H locs ls h hl hm
    exact nomatch (show none = some q from hm)
  | succ n ih =>
    intro v4 v7 v8 S H locs ls h hl hm
    exact bX10_depthOf_103b C0 h hl ih hm
def mX10_depthOf_70 (z : Nat) (v1 : Int32) (v2 : Int32) (v3 : Int32) (v4 : Int32) (S : St) : Option (Int32 × St) :=
  if v4 = 0 then
    mX10_depthOf_103 z v1 (16 * (v2 - v2 / 16 * 16)) (16 * (v2 / 16)) z v4 (-30000) 0 S
  else
    some (v3, S)
set_option maxHeartbeats 4000000 in
set_option maxRecDepth 100000 in
theorem bX10_depthOf_70 {p : Program} {l : Launch} {e : Env} {s : State} {m : MethodId} {args : Array Value} {below : List Frame} {meth : Method} {c : Code} {D : va_G} {cA : ClassId} {ad : Nat → Nat} {A : Nat → Prop} {H : Heap} {locs : List Loc} {ls : Array Slot} {q : (Int32 × St)} {z : Nat} {v1 : Int32} {v2 : Int32} {v3 : Int32} {v4 : Int32} {S : St} (C0 : sd_Cx RX10 cX10_depthOf 10 (some .int) (Cond.code yX10_depthOf cX10_depthOf 10 (some .int) :: sd_big) p s m args meth c) (h : sd_Wd D vwCl cA sd_nw (wY ad cA) A s S H locs) (hl : lv_has ls 10 [(0, .ref (ad 0)), (1, .int v1), (2, .int v2), (3, .int v3), (4, .int v4)])  (hm : mX10_depthOf_70 z v1 v2 v3 v4 S = some q) : W p l e rX10_depthOf s m args below meth c H locs 0 0 (MQ below (sd_Qi D vwCl (wY ad cA) A q) args s 0 0 A) (F0 m 70 ls []) := by
  unfold mX10_depthOf_70 at hm
  have hx := C0.1
  have hb := C0.2.1
  refine lv_iload hx hb dX10_depthOf_70 (lv_at hl 4 rfl) ?_
  refine lv_if_eq (tgt := 77) hx hb dX10_depthOf_72 (by decide) (fun c1 => ?_) (fun c1 => ?_)
  · replace hm := ip c1 hm
    refine lv_bipush (v := 16) hx hb dX10_depthOf_77 (by decide) ?_
    refine lv_iload_n hx hb dX10_depthOf_79 rfl (lv_at hl 2 rfl) ?_
    refine lv_bipush (v := 16) hx hb dX10_depthOf_80 (by decide) ?_
    refine lv_irem hx hb dX10_depthOf_82 (by decide) ?_
    refine lv_imul hx hb dX10_depthOf_83 ?_
    refine lv_istore (lv' := [(5, .int (16 * (v2 - v2 / 16 * 16))), (0, .ref (ad 0)), (1, .int v1), (2, .int v2), (3, .int v3), (4, .int v4)]) hx hb dX10_depthOf_84 hl (by decide) rfl (fun ls hl => ?_)
    refine lv_bipush (v := 16) hx hb dX10_depthOf_86 (by decide) ?_
    refine lv_iload_n hx hb dX10_depthOf_88 rfl (lv_at hl 3 rfl) ?_
    refine lv_bipush (v := 16) hx hb dX10_depthOf_89 (by decide) ?_
    refine lv_idiv hx hb dX10_depthOf_91 (by decide) ?_
    refine lv_imul hx hb dX10_depthOf_92 ?_
    refine lv_istore (lv' := [(6, .int (16 * (v2 / 16))), (5, .int (16 * (v2 - v2 / 16 * 16))), (0, .ref (ad 0)), (1, .int v1), (2, .int v2), (3, .int v3), (4, .int v4)]) hx hb dX10_depthOf_93 hl (by decide) rfl (fun ls hl => ?_)
    refine lv_sipush (v := (-30000)) hx hb dX10_depthOf_95 (by decide) ?_
    refine lv_istore (lv' := [(7, .int (-30000)), (6, .int (16 * (v2 / 16))), (5, .int (16 * (v2 - v2 / 16 * 16))), (0, .ref (ad 0)), (1, .int v1), (2, .int v2), (3, .int v3), (4, .int v4)]) hx hb dX10_depthOf_98 hl (by decide) rfl (fun ls hl => ?_)
    refine lv_iconst (v := 0) hx hb dX10_depthOf_100 (by decide) ?_
    refine lv_istore (lv' := [(8, .int 0), (7, .int (-30000)), (6, .int (16 * (v2 / 16))), (5, .int (16 * (v2 - v2 / 16 * 16))), (0, .ref (ad 0)), (1, .int v1), (2, .int v2), (3, .int v3), (4, .int v4)]) hx hb dX10_depthOf_101 hl (by decide) rfl (fun ls hl => ?_)
    exact lX10_depthOf_103 C0 _ _ _ _ _ _ _ _ h (lv_sub hl [4, 5, 8, 3, 2, 1, 0] rfl) hm
  · replace hm := iq c1 hm
    refine lv_iload_n hx hb dX10_depthOf_75 rfl (lv_at hl 3 rfl) ?_
    exact sd_iret C0 h (Option.some.inj hm) dX10_depthOf_76
def mX10_depthOf_10b (z : Nat) (rc10 : Int32 → Int32 → Int32 → St → Option (Int32 × St)) (v1 : Int32) (v2 : Int32) (v3 : Int32) (v4 : Int32) (v5 : Int32) (S : St) : Option (Int32 × St) :=
  (rd (fA S 0) 4564 1).bind fun x1 =>
  if x1 ≤ v5 then
    mX10_depthOf_70 z v1 v2 v3 v4 S
  else
    (mX10_isFound z v5 v1 v2 S).bind fun u3 =>
    if u3.1 = 0 then
      rc10 v3 v4 (v5 + 1) u3.2
    else
      (mX10_corrected z v5 u3.2).bind fun u5 =>
      if v4 = 0 then
        rc10 u5.1 1 (v5 + 1) u5.2
      else
        if v3 ≤ u5.1 then
          rc10 v3 1 (v5 + 1) u5.2
        else
          rc10 u5.1 1 (v5 + 1) u5.2
set_option maxHeartbeats 4000000 in
set_option maxRecDepth 100000 in
theorem bX10_depthOf_10b {p : Program} {l : Launch} {e : Env} {s : State} {m : MethodId} {args : Array Value} {below : List Frame} {meth : Method} {c : Code} {D : va_G} {cA : ClassId} {ad : Nat → Nat} {A : Nat → Prop} {H : Heap} {locs : List Loc} {ls : Array Slot} {q : (Int32 × St)} {z : Nat} {rc10 : Int32 → Int32 → Int32 → St → Option (Int32 × St)} {v1 : Int32} {v2 : Int32} {v3 : Int32} {v4 : Int32} {v5 : Int32} {S : St} (C0 : sd_Cx RX10 cX10_depthOf 10 (some .int) (Cond.code yX10_depthOf cX10_depthOf 10 (some .int) :: sd_big) p s m args meth c) (h : sd_Wd D vwCl cA sd_nw (wY ad cA) A s S H locs) (hl : lv_has ls 10 [(0, .ref (ad 0)), (1, .int v1), (2, .int v2), (3, .int v3), (4, .int v4), (5, .int v5)]) (hrc10 : ∀ (v3 : Int32) (v4 : Int32) (v5 : Int32) (S : St) (H : Heap) (locs : List Loc) (ls : Array Slot), sd_Wd D vwCl cA sd_nw (wY ad cA) A s S H locs → lv_has ls 10 [(0, .ref (ad 0)), (1, .int v1), (2, .int v2), (3, .int v3), (4, .int v4), (5, .int v5)] → rc10 v3 v4 v5 S = some q → W p l e rX10_depthOf s m args below meth c H locs 0 0 (MQ below (sd_Qi D vwCl (wY ad cA) A q) args s 0 0 A) (F0 m 10 ls [])) (hm : mX10_depthOf_10b z rc10 v1 v2 v3 v4 v5 S = some q) : W p l e rX10_depthOf s m args below meth c H locs 0 0 (MQ below (sd_Qi D vwCl (wY ad cA) A q) args s 0 0 A) (F0 m 10 ls []) := by
  unfold mX10_depthOf_10b at hm
  have hx := C0.1
  have hb := C0.2.1
  refine lv_iload hx hb dX10_depthOf_10 (lv_at hl 5 rfl) ?_
  refine lv_aload_n hx hb dX10_depthOf_12 rfl (lv_at hl 0 rfl) ?_
  refine sd_get C0 h (C := RX10) (T := TX10) (N := 17) kcX10 0 (aY_0 ad cA _) rfl 0 (by decide) kfX10_7 (v := .ref (ad 1)) rfl dX10_depthOf_13 ?_
  refine lv_iconst (v := 1) hx hb dX10_depthOf_16 (by decide) ?_
  obtain ⟨x1, hx1, hm⟩ := bs hm
  refine sd_rd C0 h 1 (aY_1 ad cA _) hx1 dX10_depthOf_17 ?_
  refine lv_icmp_ge (tgt := 70) hx hb dX10_depthOf_18 (by decide) (fun c2 => ?_) (fun c2 => ?_)
  · replace hm := ip c2 hm
    exact bX10_depthOf_70 C0 h (lv_sub hl [0, 1, 2, 3, 4] rfl) hm
  · replace hm := iq c2 hm
    refine lv_aload_n hx hb dX10_depthOf_21 rfl (lv_at hl 0 rfl) ?_
    refine lv_iload hx hb dX10_depthOf_22 (lv_at hl 5 rfl) ?_
    refine lv_iload_n hx hb dX10_depthOf_24 rfl (lv_at hl 1 rfl) ?_
    refine lv_iload_n hx hb dX10_depthOf_25 rfl (lv_at hl 2 rfl) ?_
    obtain ⟨u3, hu3, hm⟩ := bs hm
    refine sd_Vi C0 h kYX10_isFound kmX10_140 0 (aY_0 ad cA _) rfl [.int v5, .int v1, .int v2] (tX10_isFound l D cA ad hu3) rfl hl.1 rfl (Nat.le_of_ble_eq_true rfl) (by decide) dX10_depthOf_26 (by decide) (fun H locs h => ?_)
    refine lv_if_ne (tgt := 35) hx hb dX10_depthOf_29 (by decide) (fun c4 => ?_) (fun c4 => ?_)
    · replace hm := iq c4 hm
      refine lv_aload_n hx hb dX10_depthOf_35 rfl (lv_at hl 0 rfl) ?_
      refine lv_iload hx hb dX10_depthOf_36 (lv_at hl 5 rfl) ?_
      obtain ⟨u5, hu5, hm⟩ := bs hm
      refine sd_Vi C0 h kYX10_corrected kmX10_104 0 (aY_0 ad cA _) rfl [.int v5] (tX10_corrected l D cA ad hu5) rfl hl.1 rfl (Nat.le_of_ble_eq_true rfl) (by decide) dX10_depthOf_38 (by decide) (fun H locs h => ?_)
      refine lv_istore (lv' := [(6, .int u5.1), (0, .ref (ad 0)), (1, .int v1), (2, .int v2), (3, .int v3), (4, .int v4), (5, .int v5)]) hx hb dX10_depthOf_41 hl (by decide) rfl (fun ls hl => ?_)
      refine lv_iload hx hb dX10_depthOf_43 (lv_at hl 5 rfl) ?_
      refine lv_if_eq (tgt := 54) hx hb dX10_depthOf_45 (by decide) (fun c6 => ?_) (fun c6 => ?_)
      · replace hm := ip c6 hm
        refine lv_iload hx hb dX10_depthOf_54 (lv_at hl 0 rfl) ?_
        refine lv_goto (tgt := 60) hx hb dX10_depthOf_56 (by decide) ?_
        refine lv_istore_n (lv' := [(3, .int u5.1), (6, .int u5.1), (0, .ref (ad 0)), (1, .int v1), (2, .int v2), (4, .int v4), (5, .int v5)]) hx hb dX10_depthOf_60 rfl hl (by decide) rfl (fun ls hl => ?_)
        refine lv_iconst (v := 1) hx hb dX10_depthOf_61 (by decide) ?_
        refine lv_istore (lv' := [(4, .int 1), (3, .int u5.1), (6, .int u5.1), (0, .ref (ad 0)), (1, .int v1), (2, .int v2), (5, .int v5)]) hx hb dX10_depthOf_62 hl (by decide) rfl (fun ls hl => ?_)
        refine lv_iinc (v := (v5 + 1)) (lv' := [(5, .int (v5 + 1)), (4, .int 1), (3, .int u5.1), (6, .int u5.1), (0, .ref (ad 0)), (1, .int v1), (2, .int v2)]) hx hb dX10_depthOf_64 hl (k := 6) rfl rfl (by decide) rfl (fun ls hl => ?_)
        refine lv_goto (tgt := 10) hx hb dX10_depthOf_67 (by decide) ?_
        exact hrc10 _ _ _ _ _ _ _ h (lv_sub hl [4, 5, 6, 2, 1, 0] rfl) hm
      · replace hm := iq c6 hm
        refine lv_iload hx hb dX10_depthOf_48 (lv_at hl 0 rfl) ?_
        refine lv_iload_n hx hb dX10_depthOf_50 rfl (lv_at hl 4 rfl) ?_
        refine lv_icmp_ge (tgt := 59) hx hb dX10_depthOf_51 (by decide) (fun c7 => ?_) (fun c7 => ?_)
        · replace hm := ip c7 hm
          refine lv_iload_n hx hb dX10_depthOf_59 rfl (lv_at hl 4 rfl) ?_
          refine lv_istore_n (lv' := [(3, .int v3), (6, .int u5.1), (0, .ref (ad 0)), (1, .int v1), (2, .int v2), (4, .int v4), (5, .int v5)]) hx hb dX10_depthOf_60 rfl hl (by decide) rfl (fun ls hl => ?_)
          refine lv_iconst (v := 1) hx hb dX10_depthOf_61 (by decide) ?_
          refine lv_istore (lv' := [(4, .int 1), (3, .int v3), (6, .int u5.1), (0, .ref (ad 0)), (1, .int v1), (2, .int v2), (5, .int v5)]) hx hb dX10_depthOf_62 hl (by decide) rfl (fun ls hl => ?_)
          refine lv_iinc (v := (v5 + 1)) (lv' := [(5, .int (v5 + 1)), (4, .int 1), (3, .int v3), (6, .int u5.1), (0, .ref (ad 0)), (1, .int v1), (2, .int v2)]) hx hb dX10_depthOf_64 hl (k := 6) rfl rfl (by decide) rfl (fun ls hl => ?_)
          refine lv_goto (tgt := 10) hx hb dX10_depthOf_67 (by decide) ?_
          exact hrc10 _ _ _ _ _ _ _ h (lv_sub hl [4, 5, 6, 2, 1, 0] rfl) hm
        · replace hm := iq c7 hm
          refine lv_iload hx hb dX10_depthOf_54 (lv_at hl 0 rfl) ?_
          refine lv_goto (tgt := 60) hx hb dX10_depthOf_56 (by decide) ?_
          refine lv_istore_n (lv' := [(3, .int u5.1), (6, .int u5.1), (0, .ref (ad 0)), (1, .int v1), (2, .int v2), (4, .int v4), (5, .int v5)]) hx hb dX10_depthOf_60 rfl hl (by decide) rfl (fun ls hl => ?_)
          refine lv_iconst (v := 1) hx hb dX10_depthOf_61 (by decide) ?_
          refine lv_istore (lv' := [(4, .int 1), (3, .int u5.1), (6, .int u5.1), (0, .ref (ad 0)), (1, .int v1), (2, .int v2), (5, .int v5)]) hx hb dX10_depthOf_62 hl (by decide) rfl (fun ls hl => ?_)
          refine lv_iinc (v := (v5 + 1)) (lv' := [(5, .int (v5 + 1)), (4, .int 1), (3, .int u5.1), (6, .int u5.1), (0, .ref (ad 0)), (1, .int v1), (2, .int v2)]) hx hb dX10_depthOf_64 hl (k := 6) rfl rfl (by decide) rfl (fun ls hl => ?_)
          refine lv_goto (tgt := 10) hx hb dX10_depthOf_67 (by decide) ?_
          exact hrc10 _ _ _ _ _ _ _ h (lv_sub hl [4, 5, 6, 2, 1, 0] rfl) hm
    · replace hm := ip c4 hm
      refine lv_goto (tgt := 64) hx hb dX10_depthOf_32 (by decide) ?_
      refine lv_iinc (v := (v5 + 1)) (lv' := [(5, .int (v5 + 1)), (0, .ref (ad 0)), (1, .int v1), (2, .int v2), (3, .int v3), (4, .int v4)]) hx hb dX10_depthOf_64 hl (k := 5) rfl rfl (by decide) rfl (fun ls hl => ?_)
      refine lv_goto (tgt := 10) hx hb dX10_depthOf_67 (by decide) ?_
      exact hrc10 _ _ _ _ _ _ _ h (lv_sub hl [1, 2, 3, 4, 5, 0] rfl) hm
def mX10_depthOf_10 (z : Nat) (v1 : Int32) (v2 : Int32) : Nat → Int32 → Int32 → Int32 → St → Option (Int32 × St)
  | 0, _, _, _, _ => none
  | n + 1, v3, v4, v5, S => mX10_depthOf_10b z (mX10_depthOf_10 z v1 v2 n) v1 v2 v3 v4 v5 S
set_option maxHeartbeats 4000000 in
set_option maxRecDepth 100000 in
theorem lX10_depthOf_10 {p : Program} {l : Launch} {e : Env} {s : State} {m : MethodId} {args : Array Value} {below : List Frame} {meth : Method} {c : Code} {D : va_G} {cA : ClassId} {ad : Nat → Nat} {A : Nat → Prop} {q : (Int32 × St)} {z : Nat} {v1 : Int32} {v2 : Int32} (C0 : sd_Cx RX10 cX10_depthOf 10 (some .int) (Cond.code yX10_depthOf cX10_depthOf 10 (some .int) :: sd_big) p s m args meth c)  : ∀ (n : Nat) (v3 : Int32) (v4 : Int32) (v5 : Int32) (S : St) (H : Heap) (locs : List Loc) (ls : Array Slot), sd_Wd D vwCl cA sd_nw (wY ad cA) A s S H locs → lv_has ls 10 [(0, .ref (ad 0)), (1, .int v1), (2, .int v2), (3, .int v3), (4, .int v4), (5, .int v5)] → mX10_depthOf_10 z v1 v2 n v3 v4 v5 S = some q → W p l e rX10_depthOf s m args below meth c H locs 0 0 (MQ below (sd_Qi D vwCl (wY ad cA) A q) args s 0 0 A) (F0 m 10 ls []) := by
  intro n
  induction n with
  | zero =>
    intro v3 v4 v5 S H locs ls h hl hm
    exact nomatch (show none = some q from hm)
  | succ n ih =>
    intro v3 v4 v5 S H locs ls h hl hm
    exact bX10_depthOf_10b C0 h hl ih hm
def mX10_depthOf (z : Nat) (v1 : Int32) (v2 : Int32) (S : St) : Option (Int32 × St) :=
  mX10_depthOf_10 z v1 v2 z (-30000) 0 0 S
set_option maxHeartbeats 4000000 in
set_option maxRecDepth 100000 in
theorem bX10_depthOf {p : Program} {l : Launch} {e : Env} {s : State} {m : MethodId} {args : Array Value} {below : List Frame} {meth : Method} {c : Code} {D : va_G} {cA : ClassId} {ad : Nat → Nat} {A : Nat → Prop} {H : Heap} {locs : List Loc} {ls : Array Slot} {q : (Int32 × St)} {z : Nat} {v1 : Int32} {v2 : Int32} {S : St} (C0 : sd_Cx RX10 cX10_depthOf 10 (some .int) (Cond.code yX10_depthOf cX10_depthOf 10 (some .int) :: sd_big) p s m args meth c) (h : sd_Wd D vwCl cA sd_nw (wY ad cA) A s S H locs) (hl : lv_has ls 10 [(0, .ref (ad 0)), (1, .int v1), (2, .int v2)])  (hm : mX10_depthOf z v1 v2 S = some q) : W p l e rX10_depthOf s m args below meth c H locs 0 0 (MQ below (sd_Qi D vwCl (wY ad cA) A q) args s 0 0 A) (F0 m 0 ls []) := by
  unfold mX10_depthOf at hm
  have hx := C0.1
  have hb := C0.2.1
  refine lv_sipush (v := (-30000)) hx hb dX10_depthOf_0 (by decide) ?_
  refine lv_istore_n (lv' := [(3, .int (-30000)), (0, .ref (ad 0)), (1, .int v1), (2, .int v2)]) hx hb dX10_depthOf_3 rfl hl (by decide) rfl (fun ls hl => ?_)
  refine lv_iconst (v := 0) hx hb dX10_depthOf_4 (by decide) ?_
  refine lv_istore (lv' := [(4, .int 0), (3, .int (-30000)), (0, .ref (ad 0)), (1, .int v1), (2, .int v2)]) hx hb dX10_depthOf_5 hl (by decide) rfl (fun ls hl => ?_)
  refine lv_iconst (v := 0) hx hb dX10_depthOf_7 (by decide) ?_
  refine lv_istore (lv' := [(5, .int 0), (4, .int 0), (3, .int (-30000)), (0, .ref (ad 0)), (1, .int v1), (2, .int v2)]) hx hb dX10_depthOf_8 hl (by decide) rfl (fun ls hl => ?_)
  exact lX10_depthOf_10 C0 _ _ _ _ _ _ _ _ h (lv_sub hl [3, 4, 5, 2, 1, 0] rfl) hm
theorem tX10_depthOf (l : Launch) (D : va_G) (cA : ClassId) (ad : Nat → Nat) {z : Nat} {S : St} {v1 : Int32} {v2 : Int32} {q : (Int32 × St)} (hm : mX10_depthOf z v1 v2 S = some q) : sd_MI l D vwCl cA sd_nw (wY ad cA) yX10_depthOf (Cond.code yX10_depthOf cX10_depthOf 10 (some .int) :: sd_big) rX10_depthOf [.ref (ad 0), .int v1, .int v2] S q :=
  sd_ofI (by decide +kernel) (Nat.le_of_ble_eq_true rfl) (fun _ _ _ _ _ _ _ _ _ _ C0 h hl => bX10_depthOf C0 h (lv_sub hl [0, 1, 2] rfl) hm)

def rX10_bottom : Room := { frames := 4, cells := 0, slots := 0, locals := 106 }
def mX10_bottom (z : Nat) (v1 : Int32) (v2 : Int32) (S : St) : Option (Int32 × St) :=
  (mX10_in S v1 0 99).bind fun u1 =>
  if u1 = 0 then
    some ((-30000), S)
  else
    (mX10_in S v2 0 255).bind fun u3 =>
    if u3 = 0 then
      some ((-30000), S)
    else
      (mX10_depthOf z v1 v2 S).bind fun u5 =>
      some (u5.1, u5.2)
set_option maxHeartbeats 4000000 in
set_option maxRecDepth 100000 in
theorem bX10_bottom {p : Program} {l : Launch} {e : Env} {s : State} {m : MethodId} {args : Array Value} {below : List Frame} {meth : Method} {c : Code} {D : va_G} {cA : ClassId} {ad : Nat → Nat} {A : Nat → Prop} {H : Heap} {locs : List Loc} {ls : Array Slot} {q : (Int32 × St)} {z : Nat} {v1 : Int32} {v2 : Int32} {S : St} (C0 : sd_Cx RX10 cX10_bottom 3 (some .int) (Cond.code yX10_bottom cX10_bottom 3 (some .int) :: sd_big) p s m args meth c) (h : sd_Wd D vwCl cA sd_nw (wY ad cA) A s S H locs) (hl : lv_has ls 3 [(0, .ref (ad 0)), (1, .int v1), (2, .int v2)])  (hm : mX10_bottom z v1 v2 S = some q) : W p l e rX10_bottom s m args below meth c H locs 0 0 (MQ below (sd_Qi D vwCl (wY ad cA) A q) args s 0 0 A) (F0 m 0 ls []) := by
  unfold mX10_bottom at hm
  have hx := C0.1
  have hb := C0.2.1
  refine lv_iload_n hx hb dX10_bottom_0 rfl (lv_at hl 1 rfl) ?_
  refine lv_iconst (v := 0) hx hb dX10_bottom_1 (by decide) ?_
  refine lv_bipush (v := 99) hx hb dX10_bottom_2 (by decide) ?_
  obtain ⟨u1, hu1, hm⟩ := bs hm
  refine sd_Si C0 h kYX10_in kmX10_46 [.int v1, .int 0, .int 99] (tX10_in l D cA ad hu1) rfl hl.1 rfl (Nat.le_of_ble_eq_true rfl) (by decide) dX10_bottom_4 (by decide) (fun H locs h => ?_)
  refine lv_if_eq (tgt := 30) hx hb dX10_bottom_7 (by decide) (fun c2 => ?_) (fun c2 => ?_)
  · replace hm := ip c2 hm
    refine lv_sipush (v := (-30000)) hx hb dX10_bottom_30 (by decide) ?_
    exact sd_iret C0 h (Option.some.inj hm) dX10_bottom_33
  · replace hm := iq c2 hm
    refine lv_iload_n hx hb dX10_bottom_10 rfl (lv_at hl 2 rfl) ?_
    refine lv_iconst (v := 0) hx hb dX10_bottom_11 (by decide) ?_
    refine lv_sipush (v := 255) hx hb dX10_bottom_12 (by decide) ?_
    obtain ⟨u3, hu3, hm⟩ := bs hm
    refine sd_Si C0 h kYX10_in kmX10_46 [.int v2, .int 0, .int 255] (tX10_in l D cA ad hu3) rfl hl.1 rfl (Nat.le_of_ble_eq_true rfl) (by decide) dX10_bottom_15 (by decide) (fun H locs h => ?_)
    refine lv_if_eq (tgt := 30) hx hb dX10_bottom_18 (by decide) (fun c4 => ?_) (fun c4 => ?_)
    · replace hm := ip c4 hm
      refine lv_sipush (v := (-30000)) hx hb dX10_bottom_30 (by decide) ?_
      exact sd_iret C0 h (Option.some.inj hm) dX10_bottom_33
    · replace hm := iq c4 hm
      refine lv_aload_n hx hb dX10_bottom_21 rfl (lv_at hl 0 rfl) ?_
      refine lv_iload_n hx hb dX10_bottom_22 rfl (lv_at hl 1 rfl) ?_
      refine lv_iload_n hx hb dX10_bottom_23 rfl (lv_at hl 2 rfl) ?_
      obtain ⟨u5, hu5, hm⟩ := bs hm
      refine sd_Vi C0 h kYX10_depthOf kmX10_157 0 (aY_0 ad cA _) rfl [.int v1, .int v2] (tX10_depthOf l D cA ad hu5) rfl hl.1 rfl (Nat.le_of_ble_eq_true rfl) (by decide) dX10_bottom_24 (by decide) (fun H locs h => ?_)
      refine lv_goto (tgt := 33) hx hb dX10_bottom_27 (by decide) ?_
      exact sd_iret C0 h (Option.some.inj hm) dX10_bottom_33
theorem tX10_bottom (l : Launch) (D : va_G) (cA : ClassId) (ad : Nat → Nat) {z : Nat} {S : St} {v1 : Int32} {v2 : Int32} {q : (Int32 × St)} (hm : mX10_bottom z v1 v2 S = some q) : sd_MI l D vwCl cA sd_nw (wY ad cA) yX10_bottom (Cond.code yX10_bottom cX10_bottom 3 (some .int) :: sd_big) rX10_bottom [.ref (ad 0), .int v1, .int v2] S q :=
  sd_ofI (by decide +kernel) (Nat.le_of_ble_eq_true rfl) (fun _ _ _ _ _ _ _ _ _ _ C0 h hl => bX10_bottom C0 h (lv_sub hl [0, 1, 2] rfl) hm)

def rX10_isAsked : Room := { frames := 1, cells := 0, slots := 0, locals := 22 }
def mX10_isAsked (S : St) (v1 : Int32) (v2 : Int32) (v3 : Int32) : Option Int32 :=
  (mX10_in S v1 0 99).bind fun u1 =>
  if u1 = 0 then
    some 0
  else
    (mX10_in S v2 0 255).bind fun u3 =>
    if u3 = 0 then
      some 0
    else
      (mX10_in S v3 0 255).bind fun u5 =>
      if u5 = 0 then
        some 0
      else
        some 1
set_option maxHeartbeats 4000000 in
set_option maxRecDepth 100000 in
theorem bX10_isAsked {p : Program} {l : Launch} {e : Env} {s : State} {m : MethodId} {args : Array Value} {below : List Frame} {meth : Method} {c : Code} {D : va_G} {cA : ClassId} {ad : Nat → Nat} {A : Nat → Prop} {H : Heap} {locs : List Loc} {ls : Array Slot} {q : Int32} {S : St} {v1 : Int32} {v2 : Int32} {v3 : Int32} (C0 : sd_Cx RX10 cX10_isAsked 4 (some .boolean) (Cond.code yX10_isAsked cX10_isAsked 4 (some .boolean) :: sd_big) p s m args meth c) (h : sd_Wd D vwCl cA sd_nw (wY ad cA) A s S H locs) (hl : lv_has ls 4 [(1, .int v1), (2, .int v2), (3, .int v3)])  (hm : mX10_isAsked S v1 v2 v3 = some q) : W p l e rX10_isAsked s m args below meth c H locs 0 0 (MQ below (sd_Qi D vwCl (wY ad cA) A (q, S)) args s 0 0 A) (F0 m 0 ls []) := by
  unfold mX10_isAsked at hm
  have hx := C0.1
  have hb := C0.2.1
  refine lv_iload_n hx hb dX10_isAsked_0 rfl (lv_at hl 0 rfl) ?_
  refine lv_iconst (v := 0) hx hb dX10_isAsked_1 (by decide) ?_
  refine lv_bipush (v := 99) hx hb dX10_isAsked_2 (by decide) ?_
  obtain ⟨u1, hu1, hm⟩ := bs hm
  refine sd_Si C0 h kYX10_in kmX10_46 [.int v1, .int 0, .int 99] (tX10_in l D cA ad hu1) rfl hl.1 rfl (Nat.le_of_ble_eq_true rfl) (by decide) dX10_isAsked_4 (by decide) (fun H locs h => ?_)
  refine lv_if_eq (tgt := 36) hx hb dX10_isAsked_7 (by decide) (fun c2 => ?_) (fun c2 => ?_)
  · replace hm := ip c2 hm
    refine lv_iconst (v := 0) hx hb dX10_isAsked_36 (by decide) ?_
    exact sd_zret C0 h (congrArg (fun x => (x, S)) (Option.some.inj hm)) rfl dX10_isAsked_37
  · replace hm := iq c2 hm
    refine lv_iload_n hx hb dX10_isAsked_10 rfl (lv_at hl 1 rfl) ?_
    refine lv_iconst (v := 0) hx hb dX10_isAsked_11 (by decide) ?_
    refine lv_sipush (v := 255) hx hb dX10_isAsked_12 (by decide) ?_
    obtain ⟨u3, hu3, hm⟩ := bs hm
    refine sd_Si C0 h kYX10_in kmX10_46 [.int v2, .int 0, .int 255] (tX10_in l D cA ad hu3) rfl hl.1 rfl (Nat.le_of_ble_eq_true rfl) (by decide) dX10_isAsked_15 (by decide) (fun H locs h => ?_)
    refine lv_if_eq (tgt := 36) hx hb dX10_isAsked_18 (by decide) (fun c4 => ?_) (fun c4 => ?_)
    · replace hm := ip c4 hm
      refine lv_iconst (v := 0) hx hb dX10_isAsked_36 (by decide) ?_
      exact sd_zret C0 h (congrArg (fun x => (x, S)) (Option.some.inj hm)) rfl dX10_isAsked_37
    · replace hm := iq c4 hm
      refine lv_iload_n hx hb dX10_isAsked_21 rfl (lv_at hl 2 rfl) ?_
      refine lv_iconst (v := 0) hx hb dX10_isAsked_22 (by decide) ?_
      refine lv_sipush (v := 255) hx hb dX10_isAsked_23 (by decide) ?_
      obtain ⟨u5, hu5, hm⟩ := bs hm
      refine sd_Si C0 h kYX10_in kmX10_46 [.int v3, .int 0, .int 255] (tX10_in l D cA ad hu5) rfl hl.1 rfl (Nat.le_of_ble_eq_true rfl) (by decide) dX10_isAsked_26 (by decide) (fun H locs h => ?_)
      refine lv_if_eq (tgt := 36) hx hb dX10_isAsked_29 (by decide) (fun c6 => ?_) (fun c6 => ?_)
      · replace hm := ip c6 hm
        refine lv_iconst (v := 0) hx hb dX10_isAsked_36 (by decide) ?_
        exact sd_zret C0 h (congrArg (fun x => (x, S)) (Option.some.inj hm)) rfl dX10_isAsked_37
      · replace hm := iq c6 hm
        refine lv_iconst (v := 1) hx hb dX10_isAsked_32 (by decide) ?_
        refine lv_goto (tgt := 37) hx hb dX10_isAsked_33 (by decide) ?_
        exact sd_zret C0 h (congrArg (fun x => (x, S)) (Option.some.inj hm)) rfl dX10_isAsked_37
theorem tX10_isAsked (l : Launch) (D : va_G) (cA : ClassId) (ad : Nat → Nat) {S : St} {v1 : Int32} {v2 : Int32} {v3 : Int32} {q : Int32} (hm : mX10_isAsked S v1 v2 v3 = some q) : sd_MI l D vwCl cA sd_nw (wY ad cA) yX10_isAsked (Cond.code yX10_isAsked cX10_isAsked 4 (some .boolean) :: sd_big) rX10_isAsked [.ref (ad 0), .int v1, .int v2, .int v3] S (q, S) :=
  sd_ofI (by decide +kernel) (Nat.le_of_ble_eq_true rfl) (fun _ _ _ _ _ _ _ _ _ _ C0 h hl => bX10_isAsked C0 h (lv_sub hl [1, 2, 3] rfl) hm)

def rX10_depths : Room := { frames := 4, cells := 0, slots := 0, locals := 106 }
def mX10_depths_2b (z : Nat) (rc2 : Int32 → St → Option St) (v1 : Int32) (v2 : Int32) (S : St) : Option St :=
  if 256 ≤ v2 then
    some S
  else
    (mX10_depthOf z v1 v2 S).bind fun u2 =>
    (wr (fA u2.2 5) 256 v2 u2.1).bind fun g3 =>
    rc2 (v2 + 1) (sA u2.2 5 g3)
set_option maxHeartbeats 4000000 in
set_option maxRecDepth 100000 in
theorem bX10_depths_2b {p : Program} {l : Launch} {e : Env} {s : State} {m : MethodId} {args : Array Value} {below : List Frame} {meth : Method} {c : Code} {D : va_G} {cA : ClassId} {ad : Nat → Nat} {A : Nat → Prop} {H : Heap} {locs : List Loc} {ls : Array Slot} {q : St} {z : Nat} {rc2 : Int32 → St → Option St} {v1 : Int32} {v2 : Int32} {S : St} (C0 : sd_Cx RX10 cX10_depths 3 none (Cond.code yX10_depths cX10_depths 3 none :: sd_big) p s m args meth c) (h : sd_Wd D vwCl cA sd_nw (wY ad cA) A s S H locs) (hl : lv_has ls 3 [(0, .ref (ad 0)), (1, .int v1), (2, .int v2)]) (hrc2 : ∀ (v2 : Int32) (S : St) (H : Heap) (locs : List Loc) (ls : Array Slot), sd_Wd D vwCl cA sd_nw (wY ad cA) A s S H locs → lv_has ls 3 [(0, .ref (ad 0)), (1, .int v1), (2, .int v2)] → rc2 v2 S = some q → W p l e rX10_depths s m args below meth c H locs 0 0 (MQ below (sd_Qv D vwCl (wY ad cA) A q) args s 0 0 A) (F0 m 2 ls [])) (hm : mX10_depths_2b z rc2 v1 v2 S = some q) : W p l e rX10_depths s m args below meth c H locs 0 0 (MQ below (sd_Qv D vwCl (wY ad cA) A q) args s 0 0 A) (F0 m 2 ls []) := by
  unfold mX10_depths_2b at hm
  have hx := C0.1
  have hb := C0.2.1
  refine lv_iload_n hx hb dX10_depths_2 rfl (lv_at hl 2 rfl) ?_
  refine lv_sipush (v := 256) hx hb dX10_depths_3 (by decide) ?_
  refine lv_icmp_ge (tgt := 27) hx hb dX10_depths_6 (by decide) (fun c1 => ?_) (fun c1 => ?_)
  · replace hm := ip c1 hm
    exact sd_vret C0 h (Option.some.inj hm) dX10_depths_27
  · replace hm := iq c1 hm
    refine lv_aload_n hx hb dX10_depths_9 rfl (lv_at hl 0 rfl) ?_
    refine sd_get C0 h (C := RX10) (T := TX10) (N := 17) kcX10 0 (aY_0 ad cA _) rfl 14 (by decide) kfX10_26 (v := .ref (ad 6)) rfl dX10_depths_10 ?_
    refine lv_iload_n hx hb dX10_depths_13 rfl (lv_at hl 2 rfl) ?_
    refine lv_aload_n hx hb dX10_depths_14 rfl (lv_at hl 0 rfl) ?_
    refine lv_iload_n hx hb dX10_depths_15 rfl (lv_at hl 1 rfl) ?_
    refine lv_iload_n hx hb dX10_depths_16 rfl (lv_at hl 2 rfl) ?_
    obtain ⟨u2, hu2, hm⟩ := bs hm
    refine sd_Vi C0 h kYX10_depthOf kmX10_157 0 (aY_0 ad cA _) rfl [.int v1, .int v2] (tX10_depthOf l D cA ad hu2) rfl hl.1 rfl (Nat.le_of_ble_eq_true rfl) (by decide) dX10_depths_17 (by decide) (fun H locs h => ?_)
    obtain ⟨g3, hg3, hm⟩ := bs hm
    refine sd_wr C0 h (S1 := (sA u2.2 5 g3)) 6 (aY_6 ad cA _) hg3 (eY_6 ad cA _ _) dX10_depths_20 (fun H locs h => ?_)
    refine lv_iinc (v := (v2 + 1)) (lv' := [(2, .int (v2 + 1)), (0, .ref (ad 0)), (1, .int v1)]) hx hb dX10_depths_21 hl (k := 2) rfl rfl (by decide) rfl (fun ls hl => ?_)
    refine lv_goto (tgt := 2) hx hb dX10_depths_24 (by decide) ?_
    exact hrc2 _ _ _ _ _ h (lv_sub hl [1, 2, 0] rfl) hm
def mX10_depths_2 (z : Nat) (v1 : Int32) : Nat → Int32 → St → Option St
  | 0, _, _ => none
  | n + 1, v2, S => mX10_depths_2b z (mX10_depths_2 z v1 n) v1 v2 S
set_option maxHeartbeats 4000000 in
set_option maxRecDepth 100000 in
theorem lX10_depths_2 {p : Program} {l : Launch} {e : Env} {s : State} {m : MethodId} {args : Array Value} {below : List Frame} {meth : Method} {c : Code} {D : va_G} {cA : ClassId} {ad : Nat → Nat} {A : Nat → Prop} {q : St} {z : Nat} {v1 : Int32} (C0 : sd_Cx RX10 cX10_depths 3 none (Cond.code yX10_depths cX10_depths 3 none :: sd_big) p s m args meth c)  : ∀ (n : Nat) (v2 : Int32) (S : St) (H : Heap) (locs : List Loc) (ls : Array Slot), sd_Wd D vwCl cA sd_nw (wY ad cA) A s S H locs → lv_has ls 3 [(0, .ref (ad 0)), (1, .int v1), (2, .int v2)] → mX10_depths_2 z v1 n v2 S = some q → W p l e rX10_depths s m args below meth c H locs 0 0 (MQ below (sd_Qv D vwCl (wY ad cA) A q) args s 0 0 A) (F0 m 2 ls []) := by
  intro n
  induction n with
  | zero =>
    intro v2 S H locs ls h hl hm
    exact nomatch (show none = some q from hm)
  | succ n ih =>
    intro v2 S H locs ls h hl hm
    exact bX10_depths_2b C0 h hl ih hm
def mX10_depths (z : Nat) (v1 : Int32) (S : St) : Option St :=
  mX10_depths_2 z v1 z 0 S
set_option maxHeartbeats 4000000 in
set_option maxRecDepth 100000 in
theorem bX10_depths {p : Program} {l : Launch} {e : Env} {s : State} {m : MethodId} {args : Array Value} {below : List Frame} {meth : Method} {c : Code} {D : va_G} {cA : ClassId} {ad : Nat → Nat} {A : Nat → Prop} {H : Heap} {locs : List Loc} {ls : Array Slot} {q : St} {z : Nat} {v1 : Int32} {S : St} (C0 : sd_Cx RX10 cX10_depths 3 none (Cond.code yX10_depths cX10_depths 3 none :: sd_big) p s m args meth c) (h : sd_Wd D vwCl cA sd_nw (wY ad cA) A s S H locs) (hl : lv_has ls 3 [(0, .ref (ad 0)), (1, .int v1)])  (hm : mX10_depths z v1 S = some q) : W p l e rX10_depths s m args below meth c H locs 0 0 (MQ below (sd_Qv D vwCl (wY ad cA) A q) args s 0 0 A) (F0 m 0 ls []) := by
  unfold mX10_depths at hm
  have hx := C0.1
  have hb := C0.2.1
  refine lv_iconst (v := 0) hx hb dX10_depths_0 (by decide) ?_
  refine lv_istore_n (lv' := [(2, .int 0), (0, .ref (ad 0)), (1, .int v1)]) hx hb dX10_depths_1 rfl hl (by decide) rfl (fun ls hl => ?_)
  exact lX10_depths_2 C0 _ _ _ _ _ _ h (lv_sub hl [1, 2, 0] rfl) hm
theorem tX10_depths (l : Launch) (D : va_G) (cA : ClassId) (ad : Nat → Nat) {z : Nat} {S : St} {v1 : Int32} {q : St} (hm : mX10_depths z v1 S = some q) : sd_MV l D vwCl cA sd_nw (wY ad cA) yX10_depths (Cond.code yX10_depths cX10_depths 3 none :: sd_big) rX10_depths [.ref (ad 0), .int v1] S q :=
  sd_ofV (by decide +kernel) (Nat.le_of_ble_eq_true rfl) (fun _ _ _ _ _ _ _ _ _ _ C0 h hl => bX10_depths C0 h (lv_sub hl [0, 1] rfl) hm)

def rX10_beside : Room := { frames := 0, cells := 0, slots := 0, locals := 0 }
def mX10_beside (S : St) (v0 : Int32) (v1 : Int32) : Option Int32 :=
  if v1 = 0 then
    if v0 < 16 then
      some (-1)
    else
      some (v0 - 16)
  else
    if v1 = 1 then
      if (v0 - v0 / 16 * 16) ≤ 0 then
        some (-1)
      else
        some (v0 - 1)
    else
      if v1 = 2 then
        if 15 ≤ (v0 - v0 / 16 * 16) then
          some (-1)
        else
          some (v0 + 1)
      else
        if 240 ≤ v0 then
          some (-1)
        else
          some (v0 + 16)
set_option maxHeartbeats 4000000 in
set_option maxRecDepth 100000 in
theorem bX10_beside {p : Program} {l : Launch} {e : Env} {s : State} {m : MethodId} {args : Array Value} {below : List Frame} {meth : Method} {c : Code} {D : va_G} {cA : ClassId} {ad : Nat → Nat} {A : Nat → Prop} {H : Heap} {locs : List Loc} {ls : Array Slot} {q : Int32} {S : St} {v0 : Int32} {v1 : Int32} (C0 : sd_Cx RX10 cX10_beside 2 (some .int) (Cond.code yX10_beside cX10_beside 2 (some .int) :: sd_big) p s m args meth c) (h : sd_Wd D vwCl cA sd_nw (wY ad cA) A s S H locs) (hl : lv_has ls 2 [(0, .int v0), (1, .int v1)])  (hm : mX10_beside S v0 v1 = some q) : W p l e rX10_beside s m args below meth c H locs 0 0 (MQ below (sd_Qi D vwCl (wY ad cA) A (q, S)) args s 0 0 A) (F0 m 0 ls []) := by
  unfold mX10_beside at hm
  have hx := C0.1
  have hb := C0.2.1
  refine lv_iload_n hx hb dX10_beside_0 rfl (lv_at hl 1 rfl) ?_
  refine lv_if_ne (tgt := 19) hx hb dX10_beside_1 (by decide) (fun c1 => ?_) (fun c1 => ?_)
  · replace hm := iq c1 hm
    refine lv_iload_n hx hb dX10_beside_19 rfl (lv_at hl 1 rfl) ?_
    refine lv_iconst (v := 1) hx hb dX10_beside_20 (by decide) ?_
    refine lv_icmp_ne (tgt := 39) hx hb dX10_beside_21 (by decide) (fun c2 => ?_) (fun c2 => ?_)
    · replace hm := iq c2 hm
      refine lv_iload_n hx hb dX10_beside_39 rfl (lv_at hl 1 rfl) ?_
      refine lv_iconst (v := 2) hx hb dX10_beside_40 (by decide) ?_
      refine lv_icmp_ne (tgt := 61) hx hb dX10_beside_41 (by decide) (fun c3 => ?_) (fun c3 => ?_)
      · replace hm := iq c3 hm
        refine lv_iload_n hx hb dX10_beside_61 rfl (lv_at hl 0 rfl) ?_
        refine lv_sipush (v := 240) hx hb dX10_beside_62 (by decide) ?_
        refine lv_icmp_ge (tgt := 75) hx hb dX10_beside_65 (by decide) (fun c4 => ?_) (fun c4 => ?_)
        · replace hm := ip c4 hm
          refine lv_iconst (v := (-1)) hx hb dX10_beside_75 (by decide) ?_
          exact sd_iret C0 h (congrArg (fun x => (x, S)) (Option.some.inj hm)) dX10_beside_76
        · replace hm := iq c4 hm
          refine lv_iload_n hx hb dX10_beside_68 rfl (lv_at hl 0 rfl) ?_
          refine lv_bipush (v := 16) hx hb dX10_beside_69 (by decide) ?_
          refine lv_iadd hx hb dX10_beside_71 ?_
          refine lv_goto (tgt := 76) hx hb dX10_beside_72 (by decide) ?_
          exact sd_iret C0 h (congrArg (fun x => (x, S)) (Option.some.inj hm)) dX10_beside_76
      · replace hm := ip c3 hm
        refine lv_iload_n hx hb dX10_beside_44 rfl (lv_at hl 0 rfl) ?_
        refine lv_bipush (v := 16) hx hb dX10_beside_45 (by decide) ?_
        refine lv_irem hx hb dX10_beside_47 (by decide) ?_
        refine lv_bipush (v := 15) hx hb dX10_beside_48 (by decide) ?_
        refine lv_icmp_ge (tgt := 59) hx hb dX10_beside_50 (by decide) (fun c5 => ?_) (fun c5 => ?_)
        · replace hm := ip c5 hm
          refine lv_iconst (v := (-1)) hx hb dX10_beside_59 (by decide) ?_
          exact sd_iret C0 h (congrArg (fun x => (x, S)) (Option.some.inj hm)) dX10_beside_60
        · replace hm := iq c5 hm
          refine lv_iload_n hx hb dX10_beside_53 rfl (lv_at hl 0 rfl) ?_
          refine lv_iconst (v := 1) hx hb dX10_beside_54 (by decide) ?_
          refine lv_iadd hx hb dX10_beside_55 ?_
          refine lv_goto (tgt := 60) hx hb dX10_beside_56 (by decide) ?_
          exact sd_iret C0 h (congrArg (fun x => (x, S)) (Option.some.inj hm)) dX10_beside_60
    · replace hm := ip c2 hm
      refine lv_iload_n hx hb dX10_beside_24 rfl (lv_at hl 0 rfl) ?_
      refine lv_bipush (v := 16) hx hb dX10_beside_25 (by decide) ?_
      refine lv_irem hx hb dX10_beside_27 (by decide) ?_
      refine lv_if_le (tgt := 37) hx hb dX10_beside_28 (by decide) (fun c6 => ?_) (fun c6 => ?_)
      · replace hm := ip c6 hm
        refine lv_iconst (v := (-1)) hx hb dX10_beside_37 (by decide) ?_
        exact sd_iret C0 h (congrArg (fun x => (x, S)) (Option.some.inj hm)) dX10_beside_38
      · replace hm := iq c6 hm
        refine lv_iload_n hx hb dX10_beside_31 rfl (lv_at hl 0 rfl) ?_
        refine lv_iconst (v := 1) hx hb dX10_beside_32 (by decide) ?_
        refine lv_isub hx hb dX10_beside_33 ?_
        refine lv_goto (tgt := 38) hx hb dX10_beside_34 (by decide) ?_
        exact sd_iret C0 h (congrArg (fun x => (x, S)) (Option.some.inj hm)) dX10_beside_38
  · replace hm := ip c1 hm
    refine lv_iload_n hx hb dX10_beside_4 rfl (lv_at hl 0 rfl) ?_
    refine lv_bipush (v := 16) hx hb dX10_beside_5 (by decide) ?_
    refine lv_icmp_lt (tgt := 17) hx hb dX10_beside_7 (by decide) (fun c7 => ?_) (fun c7 => ?_)
    · replace hm := ip c7 hm
      refine lv_iconst (v := (-1)) hx hb dX10_beside_17 (by decide) ?_
      exact sd_iret C0 h (congrArg (fun x => (x, S)) (Option.some.inj hm)) dX10_beside_18
    · replace hm := iq c7 hm
      refine lv_iload_n hx hb dX10_beside_10 rfl (lv_at hl 0 rfl) ?_
      refine lv_bipush (v := 16) hx hb dX10_beside_11 (by decide) ?_
      refine lv_isub hx hb dX10_beside_13 ?_
      refine lv_goto (tgt := 18) hx hb dX10_beside_14 (by decide) ?_
      exact sd_iret C0 h (congrArg (fun x => (x, S)) (Option.some.inj hm)) dX10_beside_18
theorem tX10_beside (l : Launch) (D : va_G) (cA : ClassId) (ad : Nat → Nat) {S : St} {v0 : Int32} {v1 : Int32} {q : Int32} (hm : mX10_beside S v0 v1 = some q) : sd_MI l D vwCl cA sd_nw (wY ad cA) yX10_beside (Cond.code yX10_beside cX10_beside 2 (some .int) :: sd_big) rX10_beside [.int v0, .int v1] S (q, S) :=
  sd_ofI (by decide +kernel) (Nat.le_of_ble_eq_true rfl) (fun _ _ _ _ _ _ _ _ _ _ C0 h hl => bX10_beside C0 h (lv_sub hl [0, 1] rfl) hm)

def rX10_floods : Room := { frames := 1, cells := 0, slots := 0, locals := 21 }
def mX10_floods_185 (z : Nat) (v2 : Int32) (S : St) : Option (Int32 × St) :=
  (rd (fA S 6) 256 v2).bind fun x1 =>
  if x1 < 0 then
    some (0, S)
  else
    some (1, S)
set_option maxHeartbeats 4000000 in
set_option maxRecDepth 100000 in
theorem bX10_floods_185 {p : Program} {l : Launch} {e : Env} {s : State} {m : MethodId} {args : Array Value} {below : List Frame} {meth : Method} {c : Code} {D : va_G} {cA : ClassId} {ad : Nat → Nat} {A : Nat → Prop} {H : Heap} {locs : List Loc} {ls : Array Slot} {q : (Int32 × St)} {z : Nat} {v2 : Int32} {S : St} (C0 : sd_Cx RX10 cX10_floods 9 (some .boolean) (Cond.code yX10_floods cX10_floods 9 (some .boolean) :: sd_big) p s m args meth c) (h : sd_Wd D vwCl cA sd_nw (wY ad cA) A s S H locs) (hl : lv_has ls 9 [(0, .ref (ad 0)), (2, .int v2)])  (hm : mX10_floods_185 z v2 S = some q) : W p l e rX10_floods s m args below meth c H locs 0 0 (MQ below (sd_Qi D vwCl (wY ad cA) A q) args s 0 0 A) (F0 m 185 ls []) := by
  unfold mX10_floods_185 at hm
  have hx := C0.1
  have hb := C0.2.1
  refine lv_aload_n hx hb dX10_floods_185 rfl (lv_at hl 0 rfl) ?_
  refine sd_get C0 h (C := RX10) (T := TX10) (N := 17) kcX10 0 (aY_0 ad cA _) rfl 15 (by decide) kfX10_29 (v := .ref (ad 7)) rfl dX10_floods_186 ?_
  refine lv_iload_n hx hb dX10_floods_189 rfl (lv_at hl 1 rfl) ?_
  obtain ⟨x1, hx1, hm⟩ := bs hm
  refine sd_rd C0 h 7 (aY_7 ad cA _) hx1 dX10_floods_190 ?_
  refine lv_if_lt (tgt := 198) hx hb dX10_floods_191 (by decide) (fun c2 => ?_) (fun c2 => ?_)
  · replace hm := ip c2 hm
    refine lv_iconst (v := 0) hx hb dX10_floods_198 (by decide) ?_
    exact sd_zret C0 h (Option.some.inj hm) rfl dX10_floods_199
  · replace hm := iq c2 hm
    refine lv_iconst (v := 1) hx hb dX10_floods_194 (by decide) ?_
    refine lv_goto (tgt := 199) hx hb dX10_floods_195 (by decide) ?_
    exact sd_zret C0 h (Option.some.inj hm) rfl dX10_floods_199
def mX10_floods_88b (z : Nat) (rc69 : Int32 → Int32 → St → Option (Int32 × St)) (rc88 : Int32 → Int32 → St → Option (Int32 × St)) (v2 : Int32) (v3 : Int32) (v5 : Int32) (v6 : Int32) (v4 : Int32) (v7 : Int32) (S : St) : Option (Int32 × St) :=
  if 4 ≤ v7 then
    rc69 v4 (v5 + 1) S
  else
    (mX10_beside S v6 v7).bind fun u2 =>
    if u2 < 0 then
      rc88 v4 (v7 + 1) S
    else
      (rd (fA S 6) 256 u2).bind fun x4 =>
      if 0 ≤ x4 then
        rc88 v4 (v7 + 1) S
      else
        (rd (fA S 5) 256 u2).bind fun x6 =>
        if x6 = (-30000) then
          rc88 v4 (v7 + 1) S
        else
          (rd (fA S 5) 256 u2).bind fun x8 =>
          if v3 ≤ x8 then
            (rd (fA S 6) 256 v6).bind fun x10 =>
            (wr (fA S 6) 256 u2 (x10 + 1)).bind fun g11 =>
            (wr (fA (sA S 6 g11) 7) 256 v4 u2).bind fun g12 =>
            rc88 (v4 + 1) (v7 + 1) (sA (sA S 6 g11) 7 g12)
          else
            rc88 v4 (v7 + 1) S
set_option maxHeartbeats 4000000 in
set_option maxRecDepth 100000 in
theorem bX10_floods_88b {p : Program} {l : Launch} {e : Env} {s : State} {m : MethodId} {args : Array Value} {below : List Frame} {meth : Method} {c : Code} {D : va_G} {cA : ClassId} {ad : Nat → Nat} {A : Nat → Prop} {H : Heap} {locs : List Loc} {ls : Array Slot} {q : (Int32 × St)} {z : Nat} {rc69 : Int32 → Int32 → St → Option (Int32 × St)} {rc88 : Int32 → Int32 → St → Option (Int32 × St)} {v2 : Int32} {v3 : Int32} {v5 : Int32} {v6 : Int32} {v4 : Int32} {v7 : Int32} {S : St} (C0 : sd_Cx RX10 cX10_floods 9 (some .boolean) (Cond.code yX10_floods cX10_floods 9 (some .boolean) :: sd_big) p s m args meth c) (h : sd_Wd D vwCl cA sd_nw (wY ad cA) A s S H locs) (hl : lv_has ls 9 [(0, .ref (ad 0)), (2, .int v2), (3, .int v3), (4, .int v4), (5, .int v5), (6, .int v6), (7, .int v7)]) (hrc69 : ∀ (v4 : Int32) (v5 : Int32) (S : St) (H : Heap) (locs : List Loc) (ls : Array Slot), sd_Wd D vwCl cA sd_nw (wY ad cA) A s S H locs → lv_has ls 9 [(0, .ref (ad 0)), (2, .int v2), (3, .int v3), (4, .int v4), (5, .int v5)] → rc69 v4 v5 S = some q → W p l e rX10_floods s m args below meth c H locs 0 0 (MQ below (sd_Qi D vwCl (wY ad cA) A q) args s 0 0 A) (F0 m 69 ls [])) (hrc88 : ∀ (v4 : Int32) (v7 : Int32) (S : St) (H : Heap) (locs : List Loc) (ls : Array Slot), sd_Wd D vwCl cA sd_nw (wY ad cA) A s S H locs → lv_has ls 9 [(0, .ref (ad 0)), (2, .int v2), (3, .int v3), (4, .int v4), (5, .int v5), (6, .int v6), (7, .int v7)] → rc88 v4 v7 S = some q → W p l e rX10_floods s m args below meth c H locs 0 0 (MQ below (sd_Qi D vwCl (wY ad cA) A q) args s 0 0 A) (F0 m 88 ls [])) (hm : mX10_floods_88b z rc69 rc88 v2 v3 v5 v6 v4 v7 S = some q) : W p l e rX10_floods s m args below meth c H locs 0 0 (MQ below (sd_Qi D vwCl (wY ad cA) A q) args s 0 0 A) (F0 m 88 ls []) := by
  unfold mX10_floods_88b at hm
  have hx := C0.1
  have hb := C0.2.1
  refine lv_iload hx hb dX10_floods_88 (lv_at hl 6 rfl) ?_
  refine lv_iconst (v := 4) hx hb dX10_floods_90 (by decide) ?_
  refine lv_icmp_ge (tgt := 179) hx hb dX10_floods_91 (by decide) (fun c1 => ?_) (fun c1 => ?_)
  · replace hm := ip c1 hm
    refine lv_iinc (v := (v5 + 1)) (lv' := [(5, .int (v5 + 1)), (0, .ref (ad 0)), (2, .int v2), (3, .int v3), (4, .int v4), (6, .int v6), (7, .int v7)]) hx hb dX10_floods_179 hl (k := 4) rfl rfl (by decide) rfl (fun ls hl => ?_)
    refine lv_goto (tgt := 69) hx hb dX10_floods_182 (by decide) ?_
    exact hrc69 _ _ _ _ _ _ h (lv_sub hl [1, 2, 3, 4, 0] rfl) hm
  · replace hm := iq c1 hm
    refine lv_iload hx hb dX10_floods_94 (lv_at hl 5 rfl) ?_
    refine lv_iload hx hb dX10_floods_96 (lv_at hl 6 rfl) ?_
    obtain ⟨u2, hu2, hm⟩ := bs hm
    refine sd_Si C0 h kYX10_beside kmX10_160 [.int v6, .int v7] (tX10_beside l D cA ad hu2) rfl hl.1 rfl (Nat.le_of_ble_eq_true rfl) (by decide) dX10_floods_98 (by decide) (fun H locs h => ?_)
    refine lv_istore (lv' := [(8, .int u2), (0, .ref (ad 0)), (2, .int v2), (3, .int v3), (4, .int v4), (5, .int v5), (6, .int v6), (7, .int v7)]) hx hb dX10_floods_101 hl (by decide) rfl (fun ls hl => ?_)
    refine lv_iload hx hb dX10_floods_103 (lv_at hl 0 rfl) ?_
    refine lv_if_lt (tgt := 173) hx hb dX10_floods_105 (by decide) (fun c3 => ?_) (fun c3 => ?_)
    · replace hm := ip c3 hm
      refine lv_iinc (v := (v7 + 1)) (lv' := [(7, .int (v7 + 1)), (8, .int u2), (0, .ref (ad 0)), (2, .int v2), (3, .int v3), (4, .int v4), (5, .int v5), (6, .int v6)]) hx hb dX10_floods_173 hl (k := 7) rfl rfl (by decide) rfl (fun ls hl => ?_)
      refine lv_goto (tgt := 88) hx hb dX10_floods_176 (by decide) ?_
      exact hrc88 _ _ _ _ _ _ h (lv_sub hl [2, 3, 4, 5, 6, 7, 0] rfl) hm
    · replace hm := iq c3 hm
      refine lv_aload_n hx hb dX10_floods_108 rfl (lv_at hl 1 rfl) ?_
      refine sd_get C0 h (C := RX10) (T := TX10) (N := 17) kcX10 0 (aY_0 ad cA _) rfl 15 (by decide) kfX10_29 (v := .ref (ad 7)) rfl dX10_floods_109 ?_
      refine lv_iload hx hb dX10_floods_112 (lv_at hl 0 rfl) ?_
      obtain ⟨x4, hx4, hm⟩ := bs hm
      refine sd_rd C0 h 7 (aY_7 ad cA _) hx4 dX10_floods_114 ?_
      refine lv_if_ge (tgt := 173) hx hb dX10_floods_115 (by decide) (fun c5 => ?_) (fun c5 => ?_)
      · replace hm := ip c5 hm
        refine lv_iinc (v := (v7 + 1)) (lv' := [(7, .int (v7 + 1)), (8, .int u2), (0, .ref (ad 0)), (2, .int v2), (3, .int v3), (4, .int v4), (5, .int v5), (6, .int v6)]) hx hb dX10_floods_173 hl (k := 7) rfl rfl (by decide) rfl (fun ls hl => ?_)
        refine lv_goto (tgt := 88) hx hb dX10_floods_176 (by decide) ?_
        exact hrc88 _ _ _ _ _ _ h (lv_sub hl [2, 3, 4, 5, 6, 7, 0] rfl) hm
      · replace hm := iq c5 hm
        refine lv_aload_n hx hb dX10_floods_118 rfl (lv_at hl 1 rfl) ?_
        refine sd_get C0 h (C := RX10) (T := TX10) (N := 17) kcX10 0 (aY_0 ad cA _) rfl 14 (by decide) kfX10_26 (v := .ref (ad 6)) rfl dX10_floods_119 ?_
        refine lv_iload hx hb dX10_floods_122 (lv_at hl 0 rfl) ?_
        obtain ⟨x6, hx6, hm⟩ := bs hm
        refine sd_rd C0 h 6 (aY_6 ad cA _) hx6 dX10_floods_124 ?_
        refine lv_sipush (v := (-30000)) hx hb dX10_floods_125 (by decide) ?_
        refine lv_icmp_eq (tgt := 173) hx hb dX10_floods_128 (by decide) (fun c7 => ?_) (fun c7 => ?_)
        · replace hm := ip c7 hm
          refine lv_iinc (v := (v7 + 1)) (lv' := [(7, .int (v7 + 1)), (8, .int u2), (0, .ref (ad 0)), (2, .int v2), (3, .int v3), (4, .int v4), (5, .int v5), (6, .int v6)]) hx hb dX10_floods_173 hl (k := 7) rfl rfl (by decide) rfl (fun ls hl => ?_)
          refine lv_goto (tgt := 88) hx hb dX10_floods_176 (by decide) ?_
          exact hrc88 _ _ _ _ _ _ h (lv_sub hl [2, 3, 4, 5, 6, 7, 0] rfl) hm
        · replace hm := iq c7 hm
          refine lv_aload_n hx hb dX10_floods_131 rfl (lv_at hl 1 rfl) ?_
          refine sd_get C0 h (C := RX10) (T := TX10) (N := 17) kcX10 0 (aY_0 ad cA _) rfl 14 (by decide) kfX10_26 (v := .ref (ad 6)) rfl dX10_floods_132 ?_
          refine lv_iload hx hb dX10_floods_135 (lv_at hl 0 rfl) ?_
          obtain ⟨x8, hx8, hm⟩ := bs hm
          refine sd_rd C0 h 6 (aY_6 ad cA _) hx8 dX10_floods_137 ?_
          refine lv_iload_n hx hb dX10_floods_138 rfl (lv_at hl 3 rfl) ?_
          refine lv_icmp_ge (tgt := 145) hx hb dX10_floods_139 (by decide) (fun c9 => ?_) (fun c9 => ?_)
          · replace hm := ip c9 hm
            refine lv_aload_n hx hb dX10_floods_145 rfl (lv_at hl 1 rfl) ?_
            refine sd_get C0 h (C := RX10) (T := TX10) (N := 17) kcX10 0 (aY_0 ad cA _) rfl 15 (by decide) kfX10_29 (v := .ref (ad 7)) rfl dX10_floods_146 ?_
            refine lv_iload hx hb dX10_floods_149 (lv_at hl 0 rfl) ?_
            refine lv_aload_n hx hb dX10_floods_151 rfl (lv_at hl 1 rfl) ?_
            refine sd_get C0 h (C := RX10) (T := TX10) (N := 17) kcX10 0 (aY_0 ad cA _) rfl 15 (by decide) kfX10_29 (v := .ref (ad 7)) rfl dX10_floods_152 ?_
            refine lv_iload hx hb dX10_floods_155 (lv_at hl 6 rfl) ?_
            obtain ⟨x10, hx10, hm⟩ := bs hm
            refine sd_rd C0 h 7 (aY_7 ad cA _) hx10 dX10_floods_157 ?_
            refine lv_iconst (v := 1) hx hb dX10_floods_158 (by decide) ?_
            refine lv_iadd hx hb dX10_floods_159 ?_
            obtain ⟨g11, hg11, hm⟩ := bs hm
            refine sd_wr C0 h (S1 := (sA S 6 g11)) 7 (aY_7 ad cA _) hg11 (eY_7 ad cA _ _) dX10_floods_160 (fun H locs h => ?_)
            refine lv_aload_n hx hb dX10_floods_161 rfl (lv_at hl 1 rfl) ?_
            refine sd_get C0 h (C := RX10) (T := TX10) (N := 17) kcX10 0 (aY_0 ad cA _) rfl 16 (by decide) kfX10_32 (v := .ref (ad 8)) rfl dX10_floods_162 ?_
            refine lv_iload hx hb dX10_floods_165 (lv_at hl 4 rfl) ?_
            refine lv_iload hx hb dX10_floods_167 (lv_at hl 0 rfl) ?_
            obtain ⟨g12, hg12, hm⟩ := bs hm
            refine sd_wr C0 h (S1 := (sA (sA S 6 g11) 7 g12)) 8 (aY_8 ad cA _) hg12 (eY_8 ad cA _ _) dX10_floods_169 (fun H locs h => ?_)
            refine lv_iinc (v := (v4 + 1)) (lv' := [(4, .int (v4 + 1)), (8, .int u2), (0, .ref (ad 0)), (2, .int v2), (3, .int v3), (5, .int v5), (6, .int v6), (7, .int v7)]) hx hb dX10_floods_170 hl (k := 4) rfl rfl (by decide) rfl (fun ls hl => ?_)
            refine lv_iinc (v := (v7 + 1)) (lv' := [(7, .int (v7 + 1)), (4, .int (v4 + 1)), (8, .int u2), (0, .ref (ad 0)), (2, .int v2), (3, .int v3), (5, .int v5), (6, .int v6)]) hx hb dX10_floods_173 hl (k := 7) rfl rfl (by decide) rfl (fun ls hl => ?_)
            refine lv_goto (tgt := 88) hx hb dX10_floods_176 (by decide) ?_
            exact hrc88 _ _ _ _ _ _ h (lv_sub hl [3, 4, 5, 1, 6, 7, 0] rfl) hm
          · replace hm := iq c9 hm
            refine lv_goto (tgt := 173) hx hb dX10_floods_142 (by decide) ?_
            refine lv_iinc (v := (v7 + 1)) (lv' := [(7, .int (v7 + 1)), (8, .int u2), (0, .ref (ad 0)), (2, .int v2), (3, .int v3), (4, .int v4), (5, .int v5), (6, .int v6)]) hx hb dX10_floods_173 hl (k := 7) rfl rfl (by decide) rfl (fun ls hl => ?_)
            refine lv_goto (tgt := 88) hx hb dX10_floods_176 (by decide) ?_
            exact hrc88 _ _ _ _ _ _ h (lv_sub hl [2, 3, 4, 5, 6, 7, 0] rfl) hm
def mX10_floods_88 (z : Nat) (rc69 : Int32 → Int32 → St → Option (Int32 × St)) (v2 : Int32) (v3 : Int32) (v5 : Int32) (v6 : Int32) : Nat → Int32 → Int32 → St → Option (Int32 × St)
  | 0, _, _, _ => none
  | n + 1, v4, v7, S => mX10_floods_88b z rc69 (mX10_floods_88 z rc69 v2 v3 v5 v6 n) v2 v3 v5 v6 v4 v7 S
set_option maxHeartbeats 4000000 in
set_option maxRecDepth 100000 in
theorem lX10_floods_88 {p : Program} {l : Launch} {e : Env} {s : State} {m : MethodId} {args : Array Value} {below : List Frame} {meth : Method} {c : Code} {D : va_G} {cA : ClassId} {ad : Nat → Nat} {A : Nat → Prop} {q : (Int32 × St)} {z : Nat} {rc69 : Int32 → Int32 → St → Option (Int32 × St)} {v2 : Int32} {v3 : Int32} {v5 : Int32} {v6 : Int32} (C0 : sd_Cx RX10 cX10_floods 9 (some .boolean) (Cond.code yX10_floods cX10_floods 9 (some .boolean) :: sd_big) p s m args meth c) (hrc69 : ∀ (v4 : Int32) (v5 : Int32) (S : St) (H : Heap) (locs : List Loc) (ls : Array Slot), sd_Wd D vwCl cA sd_nw (wY ad cA) A s S H locs → lv_has ls 9 [(0, .ref (ad 0)), (2, .int v2), (3, .int v3), (4, .int v4), (5, .int v5)] → rc69 v4 v5 S = some q → W p l e rX10_floods s m args below meth c H locs 0 0 (MQ below (sd_Qi D vwCl (wY ad cA) A q) args s 0 0 A) (F0 m 69 ls [])) : ∀ (n : Nat) (v4 : Int32) (v7 : Int32) (S : St) (H : Heap) (locs : List Loc) (ls : Array Slot), sd_Wd D vwCl cA sd_nw (wY ad cA) A s S H locs → lv_has ls 9 [(0, .ref (ad 0)), (2, .int v2), (3, .int v3), (4, .int v4), (5, .int v5), (6, .int v6), (7, .int v7)] → mX10_floods_88 z rc69 v2 v3 v5 v6 n v4 v7 S = some q → W p l e rX10_floods s m args below meth c H locs 0 0 (MQ below (sd_Qi D vwCl (wY ad cA) A q) args s 0 0 A) (F0 m 88 ls []) := by
  intro n
  induction n with
  | zero =>
    intro v4 v7 S H locs ls h hl hm
    exact nomatch (show none = some q from hm)
  | succ n ih =>
    intro v4 v7 S H locs ls h hl hm
    exact bX10_floods_88b C0 h hl hrc69 ih hm
def mX10_floods_69b (z : Nat) (rc69 : Int32 → Int32 → St → Option (Int32 × St)) (v2 : Int32) (v3 : Int32) (v4 : Int32) (v5 : Int32) (S : St) : Option (Int32 × St) :=
  if v4 ≤ v5 then
    mX10_floods_185 z v2 S
  else
    (rd (fA S 7) 256 v5).bind fun x2 =>
    mX10_floods_88 z rc69 v2 v3 v5 x2 z v4 0 S
set_option maxHeartbeats 4000000 in
set_option maxRecDepth 100000 in
theorem bX10_floods_69b {p : Program} {l : Launch} {e : Env} {s : State} {m : MethodId} {args : Array Value} {below : List Frame} {meth : Method} {c : Code} {D : va_G} {cA : ClassId} {ad : Nat → Nat} {A : Nat → Prop} {H : Heap} {locs : List Loc} {ls : Array Slot} {q : (Int32 × St)} {z : Nat} {rc69 : Int32 → Int32 → St → Option (Int32 × St)} {v2 : Int32} {v3 : Int32} {v4 : Int32} {v5 : Int32} {S : St} (C0 : sd_Cx RX10 cX10_floods 9 (some .boolean) (Cond.code yX10_floods cX10_floods 9 (some .boolean) :: sd_big) p s m args meth c) (h : sd_Wd D vwCl cA sd_nw (wY ad cA) A s S H locs) (hl : lv_has ls 9 [(0, .ref (ad 0)), (2, .int v2), (3, .int v3), (4, .int v4), (5, .int v5)]) (hrc69 : ∀ (v4 : Int32) (v5 : Int32) (S : St) (H : Heap) (locs : List Loc) (ls : Array Slot), sd_Wd D vwCl cA sd_nw (wY ad cA) A s S H locs → lv_has ls 9 [(0, .ref (ad 0)), (2, .int v2), (3, .int v3), (4, .int v4), (5, .int v5)] → rc69 v4 v5 S = some q → W p l e rX10_floods s m args below meth c H locs 0 0 (MQ below (sd_Qi D vwCl (wY ad cA) A q) args s 0 0 A) (F0 m 69 ls [])) (hm : mX10_floods_69b z rc69 v2 v3 v4 v5 S = some q) : W p l e rX10_floods s m args below meth c H locs 0 0 (MQ below (sd_Qi D vwCl (wY ad cA) A q) args s 0 0 A) (F0 m 69 ls []) := by
  unfold mX10_floods_69b at hm
  have hx := C0.1
  have hb := C0.2.1
  refine lv_iload hx hb dX10_floods_69 (lv_at hl 4 rfl) ?_
  refine lv_iload hx hb dX10_floods_71 (lv_at hl 3 rfl) ?_
  refine lv_icmp_ge (tgt := 185) hx hb dX10_floods_73 (by decide) (fun c1 => ?_) (fun c1 => ?_)
  · replace hm := ip c1 hm
    exact bX10_floods_185 C0 h (lv_sub hl [0, 1] rfl) hm
  · replace hm := iq c1 hm
    refine lv_aload_n hx hb dX10_floods_76 rfl (lv_at hl 0 rfl) ?_
    refine sd_get C0 h (C := RX10) (T := TX10) (N := 17) kcX10 0 (aY_0 ad cA _) rfl 16 (by decide) kfX10_32 (v := .ref (ad 8)) rfl dX10_floods_77 ?_
    refine lv_iload hx hb dX10_floods_80 (lv_at hl 4 rfl) ?_
    obtain ⟨x2, hx2, hm⟩ := bs hm
    refine sd_rd C0 h 8 (aY_8 ad cA _) hx2 dX10_floods_82 ?_
    refine lv_istore (lv' := [(6, .int x2), (0, .ref (ad 0)), (2, .int v2), (3, .int v3), (4, .int v4), (5, .int v5)]) hx hb dX10_floods_83 hl (by decide) rfl (fun ls hl => ?_)
    refine lv_iconst (v := 0) hx hb dX10_floods_85 (by decide) ?_
    refine lv_istore (lv' := [(7, .int 0), (6, .int x2), (0, .ref (ad 0)), (2, .int v2), (3, .int v3), (4, .int v4), (5, .int v5)]) hx hb dX10_floods_86 hl (by decide) rfl (fun ls hl => ?_)
    exact lX10_floods_88 C0 hrc69 _ _ _ _ _ _ _ h (lv_sub hl [2, 3, 4, 5, 6, 1, 0] rfl) hm
def mX10_floods_69 (z : Nat) (v2 : Int32) (v3 : Int32) : Nat → Int32 → Int32 → St → Option (Int32 × St)
  | 0, _, _, _ => none
  | n + 1, v4, v5, S => mX10_floods_69b z (mX10_floods_69 z v2 v3 n) v2 v3 v4 v5 S
set_option maxHeartbeats 4000000 in
set_option maxRecDepth 100000 in
theorem lX10_floods_69 {p : Program} {l : Launch} {e : Env} {s : State} {m : MethodId} {args : Array Value} {below : List Frame} {meth : Method} {c : Code} {D : va_G} {cA : ClassId} {ad : Nat → Nat} {A : Nat → Prop} {q : (Int32 × St)} {z : Nat} {v2 : Int32} {v3 : Int32} (C0 : sd_Cx RX10 cX10_floods 9 (some .boolean) (Cond.code yX10_floods cX10_floods 9 (some .boolean) :: sd_big) p s m args meth c)  : ∀ (n : Nat) (v4 : Int32) (v5 : Int32) (S : St) (H : Heap) (locs : List Loc) (ls : Array Slot), sd_Wd D vwCl cA sd_nw (wY ad cA) A s S H locs → lv_has ls 9 [(0, .ref (ad 0)), (2, .int v2), (3, .int v3), (4, .int v4), (5, .int v5)] → mX10_floods_69 z v2 v3 n v4 v5 S = some q → W p l e rX10_floods s m args below meth c H locs 0 0 (MQ below (sd_Qi D vwCl (wY ad cA) A q) args s 0 0 A) (F0 m 69 ls []) := by
  intro n
  induction n with
  | zero =>
    intro v4 v5 S H locs ls h hl hm
    exact nomatch (show none = some q from hm)
  | succ n ih =>
    intro v4 v5 S H locs ls h hl hm
    exact bX10_floods_69b C0 h hl ih hm
def mX10_floods_25 (z : Nat) (v1 : Int32) (v2 : Int32) (v3 : Int32) (S : St) : Option (Int32 × St) :=
  (rd (fA S 5) 256 v1).bind fun x1 =>
  if x1 = (-30000) then
    some (0, S)
  else
    (rd (fA S 5) 256 v1).bind fun x3 =>
    if v3 ≤ x3 then
      (wr (fA S 6) 256 v1 0).bind fun g5 =>
      (wr (fA (sA S 6 g5) 7) 256 0 v1).bind fun g6 =>
      mX10_floods_69 z v2 v3 z 1 0 (sA (sA S 6 g5) 7 g6)
    else
      some (0, S)
set_option maxHeartbeats 4000000 in
set_option maxRecDepth 100000 in
theorem bX10_floods_25 {p : Program} {l : Launch} {e : Env} {s : State} {m : MethodId} {args : Array Value} {below : List Frame} {meth : Method} {c : Code} {D : va_G} {cA : ClassId} {ad : Nat → Nat} {A : Nat → Prop} {H : Heap} {locs : List Loc} {ls : Array Slot} {q : (Int32 × St)} {z : Nat} {v1 : Int32} {v2 : Int32} {v3 : Int32} {S : St} (C0 : sd_Cx RX10 cX10_floods 9 (some .boolean) (Cond.code yX10_floods cX10_floods 9 (some .boolean) :: sd_big) p s m args meth c) (h : sd_Wd D vwCl cA sd_nw (wY ad cA) A s S H locs) (hl : lv_has ls 9 [(0, .ref (ad 0)), (1, .int v1), (2, .int v2), (3, .int v3)])  (hm : mX10_floods_25 z v1 v2 v3 S = some q) : W p l e rX10_floods s m args below meth c H locs 0 0 (MQ below (sd_Qi D vwCl (wY ad cA) A q) args s 0 0 A) (F0 m 25 ls []) := by
  unfold mX10_floods_25 at hm
  have hx := C0.1
  have hb := C0.2.1
  refine lv_aload_n hx hb dX10_floods_25 rfl (lv_at hl 0 rfl) ?_
  refine sd_get C0 h (C := RX10) (T := TX10) (N := 17) kcX10 0 (aY_0 ad cA _) rfl 14 (by decide) kfX10_26 (v := .ref (ad 6)) rfl dX10_floods_26 ?_
  refine lv_iload_n hx hb dX10_floods_29 rfl (lv_at hl 1 rfl) ?_
  obtain ⟨x1, hx1, hm⟩ := bs hm
  refine sd_rd C0 h 6 (aY_6 ad cA _) hx1 dX10_floods_30 ?_
  refine lv_sipush (v := (-30000)) hx hb dX10_floods_31 (by decide) ?_
  refine lv_icmp_eq (tgt := 47) hx hb dX10_floods_34 (by decide) (fun c2 => ?_) (fun c2 => ?_)
  · replace hm := ip c2 hm
    refine lv_iconst (v := 0) hx hb dX10_floods_47 (by decide) ?_
    exact sd_zret C0 h (Option.some.inj hm) rfl dX10_floods_48
  · replace hm := iq c2 hm
    refine lv_aload_n hx hb dX10_floods_37 rfl (lv_at hl 0 rfl) ?_
    refine sd_get C0 h (C := RX10) (T := TX10) (N := 17) kcX10 0 (aY_0 ad cA _) rfl 14 (by decide) kfX10_26 (v := .ref (ad 6)) rfl dX10_floods_38 ?_
    refine lv_iload_n hx hb dX10_floods_41 rfl (lv_at hl 1 rfl) ?_
    obtain ⟨x3, hx3, hm⟩ := bs hm
    refine sd_rd C0 h 6 (aY_6 ad cA _) hx3 dX10_floods_42 ?_
    refine lv_iload_n hx hb dX10_floods_43 rfl (lv_at hl 3 rfl) ?_
    refine lv_icmp_ge (tgt := 49) hx hb dX10_floods_44 (by decide) (fun c4 => ?_) (fun c4 => ?_)
    · replace hm := ip c4 hm
      refine lv_aload_n hx hb dX10_floods_49 rfl (lv_at hl 0 rfl) ?_
      refine sd_get C0 h (C := RX10) (T := TX10) (N := 17) kcX10 0 (aY_0 ad cA _) rfl 15 (by decide) kfX10_29 (v := .ref (ad 7)) rfl dX10_floods_50 ?_
      refine lv_iload_n hx hb dX10_floods_53 rfl (lv_at hl 1 rfl) ?_
      refine lv_iconst (v := 0) hx hb dX10_floods_54 (by decide) ?_
      obtain ⟨g5, hg5, hm⟩ := bs hm
      refine sd_wr C0 h (S1 := (sA S 6 g5)) 7 (aY_7 ad cA _) hg5 (eY_7 ad cA _ _) dX10_floods_55 (fun H locs h => ?_)
      refine lv_aload_n hx hb dX10_floods_56 rfl (lv_at hl 0 rfl) ?_
      refine sd_get C0 h (C := RX10) (T := TX10) (N := 17) kcX10 0 (aY_0 ad cA _) rfl 16 (by decide) kfX10_32 (v := .ref (ad 8)) rfl dX10_floods_57 ?_
      refine lv_iconst (v := 0) hx hb dX10_floods_60 (by decide) ?_
      refine lv_iload_n hx hb dX10_floods_61 rfl (lv_at hl 1 rfl) ?_
      obtain ⟨g6, hg6, hm⟩ := bs hm
      refine sd_wr C0 h (S1 := (sA (sA S 6 g5) 7 g6)) 8 (aY_8 ad cA _) hg6 (eY_8 ad cA _ _) dX10_floods_62 (fun H locs h => ?_)
      refine lv_iconst (v := 1) hx hb dX10_floods_63 (by decide) ?_
      refine lv_istore (lv' := [(4, .int 1), (0, .ref (ad 0)), (1, .int v1), (2, .int v2), (3, .int v3)]) hx hb dX10_floods_64 hl (by decide) rfl (fun ls hl => ?_)
      refine lv_iconst (v := 0) hx hb dX10_floods_66 (by decide) ?_
      refine lv_istore (lv' := [(5, .int 0), (4, .int 1), (0, .ref (ad 0)), (1, .int v1), (2, .int v2), (3, .int v3)]) hx hb dX10_floods_67 hl (by decide) rfl (fun ls hl => ?_)
      exact lX10_floods_69 C0 _ _ _ _ _ _ _ h (lv_sub hl [2, 4, 5, 1, 0] rfl) hm
    · replace hm := iq c4 hm
      refine lv_iconst (v := 0) hx hb dX10_floods_47 (by decide) ?_
      exact sd_zret C0 h (Option.some.inj hm) rfl dX10_floods_48
def mX10_floods_3b (z : Nat) (rc3 : Int32 → St → Option (Int32 × St)) (v1 : Int32) (v2 : Int32) (v3 : Int32) (v4 : Int32) (S : St) : Option (Int32 × St) :=
  if 256 ≤ v4 then
    mX10_floods_25 z v1 v2 v3 S
  else
    (wr (fA S 6) 256 v4 (-1)).bind fun g2 =>
    rc3 (v4 + 1) (sA S 6 g2)
set_option maxHeartbeats 4000000 in
set_option maxRecDepth 100000 in
theorem bX10_floods_3b {p : Program} {l : Launch} {e : Env} {s : State} {m : MethodId} {args : Array Value} {below : List Frame} {meth : Method} {c : Code} {D : va_G} {cA : ClassId} {ad : Nat → Nat} {A : Nat → Prop} {H : Heap} {locs : List Loc} {ls : Array Slot} {q : (Int32 × St)} {z : Nat} {rc3 : Int32 → St → Option (Int32 × St)} {v1 : Int32} {v2 : Int32} {v3 : Int32} {v4 : Int32} {S : St} (C0 : sd_Cx RX10 cX10_floods 9 (some .boolean) (Cond.code yX10_floods cX10_floods 9 (some .boolean) :: sd_big) p s m args meth c) (h : sd_Wd D vwCl cA sd_nw (wY ad cA) A s S H locs) (hl : lv_has ls 9 [(0, .ref (ad 0)), (1, .int v1), (2, .int v2), (3, .int v3), (4, .int v4)]) (hrc3 : ∀ (v4 : Int32) (S : St) (H : Heap) (locs : List Loc) (ls : Array Slot), sd_Wd D vwCl cA sd_nw (wY ad cA) A s S H locs → lv_has ls 9 [(0, .ref (ad 0)), (1, .int v1), (2, .int v2), (3, .int v3), (4, .int v4)] → rc3 v4 S = some q → W p l e rX10_floods s m args below meth c H locs 0 0 (MQ below (sd_Qi D vwCl (wY ad cA) A q) args s 0 0 A) (F0 m 3 ls [])) (hm : mX10_floods_3b z rc3 v1 v2 v3 v4 S = some q) : W p l e rX10_floods s m args below meth c H locs 0 0 (MQ below (sd_Qi D vwCl (wY ad cA) A q) args s 0 0 A) (F0 m 3 ls []) := by
  unfold mX10_floods_3b at hm
  have hx := C0.1
  have hb := C0.2.1
  refine lv_iload hx hb dX10_floods_3 (lv_at hl 4 rfl) ?_
  refine lv_sipush (v := 256) hx hb dX10_floods_5 (by decide) ?_
  refine lv_icmp_ge (tgt := 25) hx hb dX10_floods_8 (by decide) (fun c1 => ?_) (fun c1 => ?_)
  · replace hm := ip c1 hm
    exact bX10_floods_25 C0 h (lv_sub hl [0, 1, 2, 3] rfl) hm
  · replace hm := iq c1 hm
    refine lv_aload_n hx hb dX10_floods_11 rfl (lv_at hl 0 rfl) ?_
    refine sd_get C0 h (C := RX10) (T := TX10) (N := 17) kcX10 0 (aY_0 ad cA _) rfl 15 (by decide) kfX10_29 (v := .ref (ad 7)) rfl dX10_floods_12 ?_
    refine lv_iload hx hb dX10_floods_15 (lv_at hl 4 rfl) ?_
    refine lv_iconst (v := (-1)) hx hb dX10_floods_17 (by decide) ?_
    obtain ⟨g2, hg2, hm⟩ := bs hm
    refine sd_wr C0 h (S1 := (sA S 6 g2)) 7 (aY_7 ad cA _) hg2 (eY_7 ad cA _ _) dX10_floods_18 (fun H locs h => ?_)
    refine lv_iinc (v := (v4 + 1)) (lv' := [(4, .int (v4 + 1)), (0, .ref (ad 0)), (1, .int v1), (2, .int v2), (3, .int v3)]) hx hb dX10_floods_19 hl (k := 4) rfl rfl (by decide) rfl (fun ls hl => ?_)
    refine lv_goto (tgt := 3) hx hb dX10_floods_22 (by decide) ?_
    exact hrc3 _ _ _ _ _ h (lv_sub hl [1, 2, 3, 4, 0] rfl) hm
def mX10_floods_3 (z : Nat) (v1 : Int32) (v2 : Int32) (v3 : Int32) : Nat → Int32 → St → Option (Int32 × St)
  | 0, _, _ => none
  | n + 1, v4, S => mX10_floods_3b z (mX10_floods_3 z v1 v2 v3 n) v1 v2 v3 v4 S
set_option maxHeartbeats 4000000 in
set_option maxRecDepth 100000 in
theorem lX10_floods_3 {p : Program} {l : Launch} {e : Env} {s : State} {m : MethodId} {args : Array Value} {below : List Frame} {meth : Method} {c : Code} {D : va_G} {cA : ClassId} {ad : Nat → Nat} {A : Nat → Prop} {q : (Int32 × St)} {z : Nat} {v1 : Int32} {v2 : Int32} {v3 : Int32} (C0 : sd_Cx RX10 cX10_floods 9 (some .boolean) (Cond.code yX10_floods cX10_floods 9 (some .boolean) :: sd_big) p s m args meth c)  : ∀ (n : Nat) (v4 : Int32) (S : St) (H : Heap) (locs : List Loc) (ls : Array Slot), sd_Wd D vwCl cA sd_nw (wY ad cA) A s S H locs → lv_has ls 9 [(0, .ref (ad 0)), (1, .int v1), (2, .int v2), (3, .int v3), (4, .int v4)] → mX10_floods_3 z v1 v2 v3 n v4 S = some q → W p l e rX10_floods s m args below meth c H locs 0 0 (MQ below (sd_Qi D vwCl (wY ad cA) A q) args s 0 0 A) (F0 m 3 ls []) := by
  intro n
  induction n with
  | zero =>
    intro v4 S H locs ls h hl hm
    exact nomatch (show none = some q from hm)
  | succ n ih =>
    intro v4 S H locs ls h hl hm
    exact bX10_floods_3b C0 h hl ih hm
def mX10_floods (z : Nat) (v1 : Int32) (v2 : Int32) (v3 : Int32) (S : St) : Option (Int32 × St) :=
  mX10_floods_3 z v1 v2 v3 z 0 S
set_option maxHeartbeats 4000000 in
set_option maxRecDepth 100000 in
theorem bX10_floods {p : Program} {l : Launch} {e : Env} {s : State} {m : MethodId} {args : Array Value} {below : List Frame} {meth : Method} {c : Code} {D : va_G} {cA : ClassId} {ad : Nat → Nat} {A : Nat → Prop} {H : Heap} {locs : List Loc} {ls : Array Slot} {q : (Int32 × St)} {z : Nat} {v1 : Int32} {v2 : Int32} {v3 : Int32} {S : St} (C0 : sd_Cx RX10 cX10_floods 9 (some .boolean) (Cond.code yX10_floods cX10_floods 9 (some .boolean) :: sd_big) p s m args meth c) (h : sd_Wd D vwCl cA sd_nw (wY ad cA) A s S H locs) (hl : lv_has ls 9 [(0, .ref (ad 0)), (1, .int v1), (2, .int v2), (3, .int v3)])  (hm : mX10_floods z v1 v2 v3 S = some q) : W p l e rX10_floods s m args below meth c H locs 0 0 (MQ below (sd_Qi D vwCl (wY ad cA) A q) args s 0 0 A) (F0 m 0 ls []) := by
  unfold mX10_floods at hm
  have hx := C0.1
  have hb := C0.2.1
  refine lv_iconst (v := 0) hx hb dX10_floods_0 (by decide) ?_
  refine lv_istore (lv' := [(4, .int 0), (0, .ref (ad 0)), (1, .int v1), (2, .int v2), (3, .int v3)]) hx hb dX10_floods_1 hl (by decide) rfl (fun ls hl => ?_)
  exact lX10_floods_3 C0 _ _ _ _ _ _ h (lv_sub hl [1, 2, 3, 4, 0] rfl) hm
theorem tX10_floods (l : Launch) (D : va_G) (cA : ClassId) (ad : Nat → Nat) {z : Nat} {S : St} {v1 : Int32} {v2 : Int32} {v3 : Int32} {q : (Int32 × St)} (hm : mX10_floods z v1 v2 v3 S = some q) : sd_MI l D vwCl cA sd_nw (wY ad cA) yX10_floods (Cond.code yX10_floods cX10_floods 9 (some .boolean) :: sd_big) rX10_floods [.ref (ad 0), .int v1, .int v2, .int v3] S q :=
  sd_ofI (by decide +kernel) (Nat.le_of_ble_eq_true rfl) (fun _ _ _ _ _ _ _ _ _ _ C0 h hl => bX10_floods C0 h (lv_sub hl [0, 1, 2, 3] rfl) hm)

def rX10_channel : Room := { frames := 5, cells := 0, slots := 0, locals := 128 }
def mX10_channel_91 (z : Nat) (v2 : Int32) (v3 : Int32) (v4 : Int32) (v5 : Int32) (S : St) : Option (Int32 × St) :=
  if v5 = 0 then
    some (v4, S)
  else
    (mX10_floods z v3 v2 v4 S).bind fun u2 =>
    some (v4, u2.2)
set_option maxHeartbeats 4000000 in
set_option maxRecDepth 100000 in
theorem bX10_channel_91 {p : Program} {l : Launch} {e : Env} {s : State} {m : MethodId} {args : Array Value} {below : List Frame} {meth : Method} {c : Code} {D : va_G} {cA : ClassId} {ad : Nat → Nat} {A : Nat → Prop} {H : Heap} {locs : List Loc} {ls : Array Slot} {q : (Int32 × St)} {z : Nat} {v2 : Int32} {v3 : Int32} {v4 : Int32} {v5 : Int32} {S : St} (C0 : sd_Cx RX10 cX10_channel 7 (some .int) (Cond.code yX10_channel cX10_channel 7 (some .int) :: sd_big) p s m args meth c) (h : sd_Wd D vwCl cA sd_nw (wY ad cA) A s S H locs) (hl : lv_has ls 7 [(0, .ref (ad 0)), (2, .int v2), (3, .int v3), (4, .int v4), (5, .int v5)])  (hm : mX10_channel_91 z v2 v3 v4 v5 S = some q) : W p l e rX10_channel s m args below meth c H locs 0 0 (MQ below (sd_Qi D vwCl (wY ad cA) A q) args s 0 0 A) (F0 m 91 ls []) := by
  unfold mX10_channel_91 at hm
  have hx := C0.1
  have hb := C0.2.1
  refine lv_iload hx hb dX10_channel_91 (lv_at hl 4 rfl) ?_
  refine lv_if_eq (tgt := 105) hx hb dX10_channel_93 (by decide) (fun c1 => ?_) (fun c1 => ?_)
  · replace hm := ip c1 hm
    refine lv_iload hx hb dX10_channel_105 (lv_at hl 3 rfl) ?_
    exact sd_iret C0 h (Option.some.inj hm) dX10_channel_107
  · replace hm := iq c1 hm
    refine lv_aload_n hx hb dX10_channel_96 rfl (lv_at hl 0 rfl) ?_
    refine lv_iload_n hx hb dX10_channel_97 rfl (lv_at hl 2 rfl) ?_
    refine lv_iload_n hx hb dX10_channel_98 rfl (lv_at hl 1 rfl) ?_
    refine lv_iload hx hb dX10_channel_99 (lv_at hl 3 rfl) ?_
    obtain ⟨u2, hu2, hm⟩ := bs hm
    refine sd_Vi C0 h kYX10_floods kmX10_167 0 (aY_0 ad cA _) rfl [.int v3, .int v2, .int v4] (tX10_floods l D cA ad hu2) rfl hl.1 rfl (Nat.le_of_ble_eq_true rfl) (by decide) dX10_channel_101 (by decide) (fun H locs h => ?_)
    refine lv_pop hx hb dX10_channel_104 rfl ?_
    refine lv_iload hx hb dX10_channel_105 (lv_at hl 3 rfl) ?_
    exact sd_iret C0 h (Option.some.inj hm) dX10_channel_107
def mX10_channel_54 (z : Nat) (rc16 : Int32 → Int32 → Int32 → St → Option (Int32 × St)) (v2 : Int32) (v3 : Int32) (v4 : Int32) (v5 : Int32) (v6 : Int32) (S : St) : Option (Int32 × St) :=
  (rd (fA S 5) 256 v6).bind fun x1 =>
  (mX10_floods z v3 v2 x1 S).bind fun u2 =>
  if u2.1 = 0 then
    rc16 v4 v5 (v6 + 1) u2.2
  else
    (rd (fA u2.2 5) 256 v6).bind fun x4 =>
    rc16 x4 1 (v6 + 1) u2.2
set_option maxHeartbeats 4000000 in
set_option maxRecDepth 100000 in
theorem bX10_channel_54 {p : Program} {l : Launch} {e : Env} {s : State} {m : MethodId} {args : Array Value} {below : List Frame} {meth : Method} {c : Code} {D : va_G} {cA : ClassId} {ad : Nat → Nat} {A : Nat → Prop} {H : Heap} {locs : List Loc} {ls : Array Slot} {q : (Int32 × St)} {z : Nat} {rc16 : Int32 → Int32 → Int32 → St → Option (Int32 × St)} {v2 : Int32} {v3 : Int32} {v4 : Int32} {v5 : Int32} {v6 : Int32} {S : St} (C0 : sd_Cx RX10 cX10_channel 7 (some .int) (Cond.code yX10_channel cX10_channel 7 (some .int) :: sd_big) p s m args meth c) (h : sd_Wd D vwCl cA sd_nw (wY ad cA) A s S H locs) (hl : lv_has ls 7 [(0, .ref (ad 0)), (2, .int v2), (3, .int v3), (4, .int v4), (5, .int v5), (6, .int v6)]) (hrc16 : ∀ (v4 : Int32) (v5 : Int32) (v6 : Int32) (S : St) (H : Heap) (locs : List Loc) (ls : Array Slot), sd_Wd D vwCl cA sd_nw (wY ad cA) A s S H locs → lv_has ls 7 [(0, .ref (ad 0)), (2, .int v2), (3, .int v3), (4, .int v4), (5, .int v5), (6, .int v6)] → rc16 v4 v5 v6 S = some q → W p l e rX10_channel s m args below meth c H locs 0 0 (MQ below (sd_Qi D vwCl (wY ad cA) A q) args s 0 0 A) (F0 m 16 ls [])) (hm : mX10_channel_54 z rc16 v2 v3 v4 v5 v6 S = some q) : W p l e rX10_channel s m args below meth c H locs 0 0 (MQ below (sd_Qi D vwCl (wY ad cA) A q) args s 0 0 A) (F0 m 54 ls []) := by
  unfold mX10_channel_54 at hm
  have hx := C0.1
  have hb := C0.2.1
  refine lv_aload_n hx hb dX10_channel_54 rfl (lv_at hl 0 rfl) ?_
  refine lv_iload_n hx hb dX10_channel_55 rfl (lv_at hl 2 rfl) ?_
  refine lv_iload_n hx hb dX10_channel_56 rfl (lv_at hl 1 rfl) ?_
  refine lv_aload_n hx hb dX10_channel_57 rfl (lv_at hl 0 rfl) ?_
  refine sd_get C0 h (C := RX10) (T := TX10) (N := 17) kcX10 0 (aY_0 ad cA _) rfl 14 (by decide) kfX10_26 (v := .ref (ad 6)) rfl dX10_channel_58 ?_
  refine lv_iload hx hb dX10_channel_61 (lv_at hl 5 rfl) ?_
  obtain ⟨x1, hx1, hm⟩ := bs hm
  refine sd_rd C0 h 6 (aY_6 ad cA _) hx1 dX10_channel_63 ?_
  obtain ⟨u2, hu2, hm⟩ := bs hm
  refine sd_Vi C0 h kYX10_floods kmX10_167 0 (aY_0 ad cA _) rfl [.int v3, .int v2, .int x1] (tX10_floods l D cA ad hu2) rfl hl.1 rfl (Nat.le_of_ble_eq_true rfl) (by decide) dX10_channel_64 (by decide) (fun H locs h => ?_)
  refine lv_if_ne (tgt := 73) hx hb dX10_channel_67 (by decide) (fun c3 => ?_) (fun c3 => ?_)
  · replace hm := iq c3 hm
    refine lv_aload_n hx hb dX10_channel_73 rfl (lv_at hl 0 rfl) ?_
    refine sd_get C0 h (C := RX10) (T := TX10) (N := 17) kcX10 0 (aY_0 ad cA _) rfl 14 (by decide) kfX10_26 (v := .ref (ad 6)) rfl dX10_channel_74 ?_
    refine lv_iload hx hb dX10_channel_77 (lv_at hl 5 rfl) ?_
    obtain ⟨x4, hx4, hm⟩ := bs hm
    refine sd_rd C0 h 6 (aY_6 ad cA _) hx4 dX10_channel_79 ?_
    refine lv_istore (lv' := [(4, .int x4), (0, .ref (ad 0)), (2, .int v2), (3, .int v3), (5, .int v5), (6, .int v6)]) hx hb dX10_channel_80 hl (by decide) rfl (fun ls hl => ?_)
    refine lv_iconst (v := 1) hx hb dX10_channel_82 (by decide) ?_
    refine lv_istore (lv' := [(5, .int 1), (4, .int x4), (0, .ref (ad 0)), (2, .int v2), (3, .int v3), (6, .int v6)]) hx hb dX10_channel_83 hl (by decide) rfl (fun ls hl => ?_)
    refine lv_iinc (v := (v6 + 1)) (lv' := [(6, .int (v6 + 1)), (5, .int 1), (4, .int x4), (0, .ref (ad 0)), (2, .int v2), (3, .int v3)]) hx hb dX10_channel_85 hl (k := 5) rfl rfl (by decide) rfl (fun ls hl => ?_)
    refine lv_goto (tgt := 16) hx hb dX10_channel_88 (by decide) ?_
    exact hrc16 _ _ _ _ _ _ _ h (lv_sub hl [3, 4, 5, 2, 1, 0] rfl) hm
  · replace hm := ip c3 hm
    refine lv_goto (tgt := 85) hx hb dX10_channel_70 (by decide) ?_
    refine lv_iinc (v := (v6 + 1)) (lv' := [(6, .int (v6 + 1)), (0, .ref (ad 0)), (2, .int v2), (3, .int v3), (4, .int v4), (5, .int v5)]) hx hb dX10_channel_85 hl (k := 5) rfl rfl (by decide) rfl (fun ls hl => ?_)
    refine lv_goto (tgt := 16) hx hb dX10_channel_88 (by decide) ?_
    exact hrc16 _ _ _ _ _ _ _ h (lv_sub hl [1, 2, 3, 4, 5, 0] rfl) hm
def mX10_channel_16b (z : Nat) (rc16 : Int32 → Int32 → Int32 → St → Option (Int32 × St)) (v2 : Int32) (v3 : Int32) (v4 : Int32) (v5 : Int32) (v6 : Int32) (S : St) : Option (Int32 × St) :=
  if 256 ≤ v6 then
    mX10_channel_91 z v2 v3 v4 v5 S
  else
    (rd (fA S 5) 256 v6).bind fun x2 =>
    if x2 = (-30000) then
      rc16 v4 v5 (v6 + 1) S
    else
      if v5 = 0 then
        mX10_channel_54 z rc16 v2 v3 v4 v5 v6 S
      else
        (rd (fA S 5) 256 v6).bind fun x5 =>
        if x5 ≤ v4 then
          rc16 v4 v5 (v6 + 1) S
        else
          mX10_channel_54 z rc16 v2 v3 v4 v5 v6 S
set_option maxHeartbeats 4000000 in
set_option maxRecDepth 100000 in
theorem bX10_channel_16b {p : Program} {l : Launch} {e : Env} {s : State} {m : MethodId} {args : Array Value} {below : List Frame} {meth : Method} {c : Code} {D : va_G} {cA : ClassId} {ad : Nat → Nat} {A : Nat → Prop} {H : Heap} {locs : List Loc} {ls : Array Slot} {q : (Int32 × St)} {z : Nat} {rc16 : Int32 → Int32 → Int32 → St → Option (Int32 × St)} {v2 : Int32} {v3 : Int32} {v4 : Int32} {v5 : Int32} {v6 : Int32} {S : St} (C0 : sd_Cx RX10 cX10_channel 7 (some .int) (Cond.code yX10_channel cX10_channel 7 (some .int) :: sd_big) p s m args meth c) (h : sd_Wd D vwCl cA sd_nw (wY ad cA) A s S H locs) (hl : lv_has ls 7 [(0, .ref (ad 0)), (2, .int v2), (3, .int v3), (4, .int v4), (5, .int v5), (6, .int v6)]) (hrc16 : ∀ (v4 : Int32) (v5 : Int32) (v6 : Int32) (S : St) (H : Heap) (locs : List Loc) (ls : Array Slot), sd_Wd D vwCl cA sd_nw (wY ad cA) A s S H locs → lv_has ls 7 [(0, .ref (ad 0)), (2, .int v2), (3, .int v3), (4, .int v4), (5, .int v5), (6, .int v6)] → rc16 v4 v5 v6 S = some q → W p l e rX10_channel s m args below meth c H locs 0 0 (MQ below (sd_Qi D vwCl (wY ad cA) A q) args s 0 0 A) (F0 m 16 ls [])) (hm : mX10_channel_16b z rc16 v2 v3 v4 v5 v6 S = some q) : W p l e rX10_channel s m args below meth c H locs 0 0 (MQ below (sd_Qi D vwCl (wY ad cA) A q) args s 0 0 A) (F0 m 16 ls []) := by
  unfold mX10_channel_16b at hm
  have hx := C0.1
  have hb := C0.2.1
  refine lv_iload hx hb dX10_channel_16 (lv_at hl 5 rfl) ?_
  refine lv_sipush (v := 256) hx hb dX10_channel_18 (by decide) ?_
  refine lv_icmp_ge (tgt := 91) hx hb dX10_channel_21 (by decide) (fun c1 => ?_) (fun c1 => ?_)
  · replace hm := ip c1 hm
    exact bX10_channel_91 C0 h (lv_sub hl [0, 1, 2, 3, 4] rfl) hm
  · replace hm := iq c1 hm
    refine lv_aload_n hx hb dX10_channel_24 rfl (lv_at hl 0 rfl) ?_
    refine sd_get C0 h (C := RX10) (T := TX10) (N := 17) kcX10 0 (aY_0 ad cA _) rfl 14 (by decide) kfX10_26 (v := .ref (ad 6)) rfl dX10_channel_25 ?_
    refine lv_iload hx hb dX10_channel_28 (lv_at hl 5 rfl) ?_
    obtain ⟨x2, hx2, hm⟩ := bs hm
    refine sd_rd C0 h 6 (aY_6 ad cA _) hx2 dX10_channel_30 ?_
    refine lv_sipush (v := (-30000)) hx hb dX10_channel_31 (by decide) ?_
    refine lv_icmp_eq (tgt := 85) hx hb dX10_channel_34 (by decide) (fun c3 => ?_) (fun c3 => ?_)
    · replace hm := ip c3 hm
      refine lv_iinc (v := (v6 + 1)) (lv' := [(6, .int (v6 + 1)), (0, .ref (ad 0)), (2, .int v2), (3, .int v3), (4, .int v4), (5, .int v5)]) hx hb dX10_channel_85 hl (k := 5) rfl rfl (by decide) rfl (fun ls hl => ?_)
      refine lv_goto (tgt := 16) hx hb dX10_channel_88 (by decide) ?_
      exact hrc16 _ _ _ _ _ _ _ h (lv_sub hl [1, 2, 3, 4, 5, 0] rfl) hm
    · replace hm := iq c3 hm
      refine lv_iload hx hb dX10_channel_37 (lv_at hl 4 rfl) ?_
      refine lv_if_eq (tgt := 54) hx hb dX10_channel_39 (by decide) (fun c4 => ?_) (fun c4 => ?_)
      · replace hm := ip c4 hm
        exact bX10_channel_54 C0 h (lv_sub hl [0, 1, 2, 3, 4, 5] rfl) hrc16 hm
      · replace hm := iq c4 hm
        refine lv_aload_n hx hb dX10_channel_42 rfl (lv_at hl 0 rfl) ?_
        refine sd_get C0 h (C := RX10) (T := TX10) (N := 17) kcX10 0 (aY_0 ad cA _) rfl 14 (by decide) kfX10_26 (v := .ref (ad 6)) rfl dX10_channel_43 ?_
        refine lv_iload hx hb dX10_channel_46 (lv_at hl 5 rfl) ?_
        obtain ⟨x5, hx5, hm⟩ := bs hm
        refine sd_rd C0 h 6 (aY_6 ad cA _) hx5 dX10_channel_48 ?_
        refine lv_iload hx hb dX10_channel_49 (lv_at hl 3 rfl) ?_
        refine lv_icmp_le (tgt := 85) hx hb dX10_channel_51 (by decide) (fun c6 => ?_) (fun c6 => ?_)
        · replace hm := ip c6 hm
          refine lv_iinc (v := (v6 + 1)) (lv' := [(6, .int (v6 + 1)), (0, .ref (ad 0)), (2, .int v2), (3, .int v3), (4, .int v4), (5, .int v5)]) hx hb dX10_channel_85 hl (k := 5) rfl rfl (by decide) rfl (fun ls hl => ?_)
          refine lv_goto (tgt := 16) hx hb dX10_channel_88 (by decide) ?_
          exact hrc16 _ _ _ _ _ _ _ h (lv_sub hl [1, 2, 3, 4, 5, 0] rfl) hm
        · replace hm := iq c6 hm
          exact bX10_channel_54 C0 h (lv_sub hl [0, 1, 2, 3, 4, 5] rfl) hrc16 hm
def mX10_channel_16 (z : Nat) (v2 : Int32) (v3 : Int32) : Nat → Int32 → Int32 → Int32 → St → Option (Int32 × St)
  | 0, _, _, _, _ => none
  | n + 1, v4, v5, v6, S => mX10_channel_16b z (mX10_channel_16 z v2 v3 n) v2 v3 v4 v5 v6 S
set_option maxHeartbeats 4000000 in
set_option maxRecDepth 100000 in
theorem lX10_channel_16 {p : Program} {l : Launch} {e : Env} {s : State} {m : MethodId} {args : Array Value} {below : List Frame} {meth : Method} {c : Code} {D : va_G} {cA : ClassId} {ad : Nat → Nat} {A : Nat → Prop} {q : (Int32 × St)} {z : Nat} {v2 : Int32} {v3 : Int32} (C0 : sd_Cx RX10 cX10_channel 7 (some .int) (Cond.code yX10_channel cX10_channel 7 (some .int) :: sd_big) p s m args meth c)  : ∀ (n : Nat) (v4 : Int32) (v5 : Int32) (v6 : Int32) (S : St) (H : Heap) (locs : List Loc) (ls : Array Slot), sd_Wd D vwCl cA sd_nw (wY ad cA) A s S H locs → lv_has ls 7 [(0, .ref (ad 0)), (2, .int v2), (3, .int v3), (4, .int v4), (5, .int v5), (6, .int v6)] → mX10_channel_16 z v2 v3 n v4 v5 v6 S = some q → W p l e rX10_channel s m args below meth c H locs 0 0 (MQ below (sd_Qi D vwCl (wY ad cA) A q) args s 0 0 A) (F0 m 16 ls []) := by
  intro n
  induction n with
  | zero =>
    intro v4 v5 v6 S H locs ls h hl hm
    exact nomatch (show none = some q from hm)
  | succ n ih =>
    intro v4 v5 v6 S H locs ls h hl hm
    exact bX10_channel_16b C0 h hl ih hm
def mX10_channel (z : Nat) (v1 : Int32) (v2 : Int32) (v3 : Int32) (S : St) : Option (Int32 × St) :=
  (mX10_depths z v1 S).bind fun u1 =>
  mX10_channel_16 z v2 v3 z (-30000) 0 0 u1
set_option maxHeartbeats 4000000 in
set_option maxRecDepth 100000 in
theorem bX10_channel {p : Program} {l : Launch} {e : Env} {s : State} {m : MethodId} {args : Array Value} {below : List Frame} {meth : Method} {c : Code} {D : va_G} {cA : ClassId} {ad : Nat → Nat} {A : Nat → Prop} {H : Heap} {locs : List Loc} {ls : Array Slot} {q : (Int32 × St)} {z : Nat} {v1 : Int32} {v2 : Int32} {v3 : Int32} {S : St} (C0 : sd_Cx RX10 cX10_channel 7 (some .int) (Cond.code yX10_channel cX10_channel 7 (some .int) :: sd_big) p s m args meth c) (h : sd_Wd D vwCl cA sd_nw (wY ad cA) A s S H locs) (hl : lv_has ls 7 [(0, .ref (ad 0)), (1, .int v1), (2, .int v2), (3, .int v3)])  (hm : mX10_channel z v1 v2 v3 S = some q) : W p l e rX10_channel s m args below meth c H locs 0 0 (MQ below (sd_Qi D vwCl (wY ad cA) A q) args s 0 0 A) (F0 m 0 ls []) := by
  unfold mX10_channel at hm
  have hx := C0.1
  have hb := C0.2.1
  refine lv_aload_n hx hb dX10_channel_0 rfl (lv_at hl 0 rfl) ?_
  refine lv_iload_n hx hb dX10_channel_1 rfl (lv_at hl 1 rfl) ?_
  obtain ⟨u1, hu1, hm⟩ := bs hm
  refine sd_Vv C0 h kYX10_depths kmX10_163 0 (aY_0 ad cA _) rfl [.int v1] (tX10_depths l D cA ad hu1) rfl hl.1 rfl (Nat.le_of_ble_eq_true rfl) (by decide) dX10_channel_2 (by decide) (fun H locs h => ?_)
  refine lv_sipush (v := (-30000)) hx hb dX10_channel_5 (by decide) ?_
  refine lv_istore (lv' := [(4, .int (-30000)), (0, .ref (ad 0)), (1, .int v1), (2, .int v2), (3, .int v3)]) hx hb dX10_channel_8 hl (by decide) rfl (fun ls hl => ?_)
  refine lv_iconst (v := 0) hx hb dX10_channel_10 (by decide) ?_
  refine lv_istore (lv' := [(5, .int 0), (4, .int (-30000)), (0, .ref (ad 0)), (1, .int v1), (2, .int v2), (3, .int v3)]) hx hb dX10_channel_11 hl (by decide) rfl (fun ls hl => ?_)
  refine lv_iconst (v := 0) hx hb dX10_channel_13 (by decide) ?_
  refine lv_istore (lv' := [(6, .int 0), (5, .int 0), (4, .int (-30000)), (0, .ref (ad 0)), (1, .int v1), (2, .int v2), (3, .int v3)]) hx hb dX10_channel_14 hl (by decide) rfl (fun ls hl => ?_)
  exact lX10_channel_16 C0 _ _ _ _ _ _ _ _ h (lv_sub hl [3, 5, 6, 2, 1, 0] rfl) hm
theorem tX10_channel (l : Launch) (D : va_G) (cA : ClassId) (ad : Nat → Nat) {z : Nat} {S : St} {v1 : Int32} {v2 : Int32} {v3 : Int32} {q : (Int32 × St)} (hm : mX10_channel z v1 v2 v3 S = some q) : sd_MI l D vwCl cA sd_nw (wY ad cA) yX10_channel (Cond.code yX10_channel cX10_channel 7 (some .int) :: sd_big) rX10_channel [.ref (ad 0), .int v1, .int v2, .int v3] S q :=
  sd_ofI (by decide +kernel) (Nat.le_of_ble_eq_true rfl) (fun _ _ _ _ _ _ _ _ _ _ C0 h hl => bX10_channel C0 h (lv_sub hl [0, 1, 2, 3] rfl) hm)
