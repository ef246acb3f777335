def rX7_corrected : Room := { frames := 2, cells := 0, slots := 0, locals := 49 }
def mX7_corrected_92 (z : Nat) (v1 : Int32) (v2 : Int32) (t0 : Int64) (S : St) : Option (Int32 × St) :=
  (rd (fA S 9) 200 v1).bind fun x1 =>
  (rd (fA S 2) 20 v2).bind fun x2 =>
  (mX9_floorOf S (((((x1).toInt64 * t0) + ((x2).toInt64 * 2000)) * (fL S 1)) - ((fL S 0) * 2000)) ((fL S 1) * 2000)).bind fun u3 =>
  some ((u3).toInt32, S)
set_option maxHeartbeats 4000000 in
set_option maxRecDepth 100000 in
theorem bX7_corrected_92 {p : Program} {l : Launch} {e : Env} {s : State} {m : MethodId} {args : Array Value} {below : List Frame} {meth : Method} {c : Code} {D : va_G} {cA : ClassId} {ad : Nat → Nat} {A : Nat → Prop} {H : Heap} {locs : List Loc} {ls : Array Slot} {q : (Int32 × St)} {z : Nat} {v1 : Int32} {v2 : Int32} {t0 : Int64} {S : St} (C0 : sd_Cx RX7 cX7_corrected 7 (some .int) (Cond.code yX7_corrected cX7_corrected 7 (some .int) :: sd_big) p s m args meth c) (h : sd_Wd D vwCl cA sd_nw (wX ad cA) A s S H locs) (hl : lv_has ls 7 [(0, .ref (ad 1)), (1, .int v1), (2, .int v2)])  (hm : mX7_corrected_92 z v1 v2 t0 S = some q) : W p l e rX7_corrected s m args below meth c H locs 0 0 (MQ below (sd_Qi D vwCl (wX ad cA) A q) args s 0 0 A) (F0 m 92 ls [.long t0]) := by
  unfold mX7_corrected_92 at hm
  have hx := C0.1
  have hb := C0.2.1
  refine lv_lstore_n (lv' := [(3, .long t0), (0, .ref (ad 1)), (1, .int v1), (2, .int v2)]) hx hb dX7_corrected_92 rfl hl (by decide) rfl (fun ls hl => ?_)
  refine lv_aload_n hx hb dX7_corrected_93 rfl (lv_at hl 1 rfl) ?_
  refine sd_get C0 h (C := RX7) (T := TX7) (N := 4) kcX7 1 (aX_1 ad cA _) rfl 2 (by decide) kfX7_28 (v := .ref (ad 10)) rfl dX7_corrected_94 ?_
  refine sd_get C0 h (C := RX6) (T := TX6) (N := 11) kcX6 10 (aX_10 ad cA _) rfl 3 (by decide) kfX7_42 (v := .ref (ad 14)) rfl dX7_corrected_97 ?_
  refine lv_iload_n hx hb dX7_corrected_100 rfl (lv_at hl 2 rfl) ?_
  obtain ⟨x1, hx1, hm⟩ := bs hm
  refine sd_rd C0 h 14 (aX_14 ad cA _) hx1 dX7_corrected_101 ?_
  refine lv_i2l hx hb dX7_corrected_102 (v := (x1).toInt64) rfl ?_
  refine lv_lload_n hx hb dX7_corrected_103 rfl (lv_at hl 0 rfl) ?_
  refine lv_lmul hx hb dX7_corrected_104 ?_
  refine lv_aload_n hx hb dX7_corrected_105 rfl (lv_at hl 1 rfl) ?_
  refine sd_get C0 h (C := RX7) (T := TX7) (N := 4) kcX7 1 (aX_1 ad cA _) rfl 0 (by decide) kfX7_12 (v := .ref (ad 2)) rfl dX7_corrected_106 ?_
  refine sd_get C0 h (C := RX4) (T := TX4) (N := 4) kcX4 2 (aX_2 ad cA _) rfl 2 (by decide) kfX7_63 (v := .ref (ad 5)) rfl dX7_corrected_109 ?_
  refine lv_iload_n hx hb dX7_corrected_112 rfl (lv_at hl 3 rfl) ?_
  obtain ⟨x2, hx2, hm⟩ := bs hm
  refine sd_rd C0 h 5 (aX_5 ad cA _) hx2 dX7_corrected_113 ?_
  refine lv_i2l hx hb dX7_corrected_114 (v := (x2).toInt64) rfl ?_
  refine lv_ldc2 (v := 2000) hx hb C0.2.2.2.1 (C0.2.2.2.2.1 _ (List.mem_cons_of_mem _ kkX7_61)) dX7_corrected_115 ?_
  refine lv_lmul hx hb dX7_corrected_118 ?_
  refine lv_ladd hx hb dX7_corrected_119 ?_
  refine lv_lstore (lv' := [(5, .long (((x1).toInt64 * t0) + ((x2).toInt64 * 2000))), (3, .long t0), (0, .ref (ad 1)), (1, .int v1), (2, .int v2)]) hx hb dX7_corrected_120 hl (by decide) rfl (fun ls hl => ?_)
  refine lv_lload hx hb dX7_corrected_122 (lv_at hl 0 rfl) ?_
  refine lv_aload_n hx hb dX7_corrected_124 rfl (lv_at hl 2 rfl) ?_
  refine sd_get C0 h (C := RX7) (T := TX7) (N := 4) kcX7 1 (aX_1 ad cA _) rfl 1 (by decide) kfX7_21 (v := .ref (ad 6)) rfl dX7_corrected_125 ?_
  refine sd_get C0 h (C := RX8) (T := TX8) (N := 5) kcX8 6 (aX_6 ad cA _) rfl 4 (by decide) kfX7_66 (v := .long (fL S 1)) rfl dX7_corrected_128 ?_
  refine lv_lmul hx hb dX7_corrected_131 ?_
  refine lv_aload_n hx hb dX7_corrected_132 rfl (lv_at hl 2 rfl) ?_
  refine sd_get C0 h (C := RX7) (T := TX7) (N := 4) kcX7 1 (aX_1 ad cA _) rfl 1 (by decide) kfX7_21 (v := .ref (ad 6)) rfl dX7_corrected_133 ?_
  refine sd_get C0 h (C := RX8) (T := TX8) (N := 5) kcX8 6 (aX_6 ad cA _) rfl 3 (by decide) kfX7_70 (v := .long (fL S 0)) rfl dX7_corrected_136 ?_
  refine lv_ldc2 (v := 2000) hx hb C0.2.2.2.1 (C0.2.2.2.2.1 _ (List.mem_cons_of_mem _ kkX7_61)) dX7_corrected_139 ?_
  refine lv_lmul hx hb dX7_corrected_142 ?_
  refine lv_lsub hx hb dX7_corrected_143 ?_
  refine lv_aload_n hx hb dX7_corrected_144 rfl (lv_at hl 2 rfl) ?_
  refine sd_get C0 h (C := RX7) (T := TX7) (N := 4) kcX7 1 (aX_1 ad cA _) rfl 1 (by decide) kfX7_21 (v := .ref (ad 6)) rfl dX7_corrected_145 ?_
  refine sd_get C0 h (C := RX8) (T := TX8) (N := 5) kcX8 6 (aX_6 ad cA _) rfl 4 (by decide) kfX7_66 (v := .long (fL S 1)) rfl dX7_corrected_148 ?_
  refine lv_ldc2 (v := 2000) hx hb C0.2.2.2.1 (C0.2.2.2.2.1 _ (List.mem_cons_of_mem _ kkX7_61)) dX7_corrected_151 ?_
  refine lv_lmul hx hb dX7_corrected_154 ?_
  obtain ⟨u3, hu3, hm⟩ := bs hm
  refine sd_SNl C0 h kYX9_floorOf knX7_73 [.long (((((x1).toInt64 * t0) + ((x2).toInt64 * 2000)) * (fL S 1)) - ((fL S 0) * 2000)), .long ((fL S 1) * 2000)] (tX9_floorOf l D cA ad hu3) rfl hl.1 rfl (Nat.le_of_ble_eq_true rfl) (by decide) dX7_corrected_155 (by decide) (fun H locs h => ?_)
  refine lv_l2i hx hb dX7_corrected_158 (v := (u3).toInt32) rfl ?_
  exact sd_iret C0 h (Option.some.inj hm) dX7_corrected_159
def mX7_corrected (z : Nat) (v1 : Int32) (S : St) : Option (Int32 × St) :=
  (rd (fA S 11) 200 v1).bind fun x1 =>
  (mX4_has S x1).bind fun u2 =>
  if u2 = 0 then
    (rd (fA S 9) 200 v1).bind fun x11 =>
    some (x11, S)
  else
    (rd (fA S 10) 200 v1).bind fun x4 =>
    (rd (fA S 12) 200 v1).bind fun x5 =>
    (mX8_seek z x4 x5 S).bind fun u6 =>
    if u6.1 = 0 then
      some ((-30000), u6.2)
    else
      (rd (fA u6.2 6) 200 v1).bind fun x8 =>
      if x8 = 1 then
        (rd (fA u6.2 1) 20 x1).bind fun x10 =>
        mX7_corrected_92 z v1 x1 ((x10).toInt64) u6.2
      else
        mX7_corrected_92 z v1 x1 2000 u6.2
set_option maxHeartbeats 4000000 in
set_option maxRecDepth 100000 in
theorem bX7_corrected {p : Program} {l : Launch} {e : Env} {s : State} {m : MethodId} {args : Array Value} {below : List Frame} {meth : Method} {c : Code} {D : va_G} {cA : ClassId} {ad : Nat → Nat} {A : Nat → Prop} {H : Heap} {locs : List Loc} {ls : Array Slot} {q : (Int32 × St)} {z : Nat} {v1 : Int32} {S : St} (C0 : sd_Cx RX7 cX7_corrected 7 (some .int) (Cond.code yX7_corrected cX7_corrected 7 (some .int) :: sd_big) p s m args meth c) (h : sd_Wd D vwCl cA sd_nw (wX ad cA) A s S H locs) (hl : lv_has ls 7 [(0, .ref (ad 1)), (1, .int v1)])  (hm : mX7_corrected z v1 S = some q) : W p l e rX7_corrected s m args below meth c H locs 0 0 (MQ below (sd_Qi D vwCl (wX ad cA) A q) args s 0 0 A) (F0 m 0 ls []) := by
  unfold mX7_corrected at hm
  have hx := C0.1
  have hb := C0.2.1
  refine lv_aload_n hx hb dX7_corrected_0 rfl (lv_at hl 0 rfl) ?_
  refine sd_get C0 h (C := RX7) (T := TX7) (N := 4) kcX7 1 (aX_1 ad cA _) rfl 2 (by decide) kfX7_28 (v := .ref (ad 10)) rfl dX7_corrected_1 ?_
  refine sd_get C0 h (C := RX6) (T := TX6) (N := 11) kcX6 10 (aX_10 ad cA _) rfl 5 (by decide) kfX7_36 (v := .ref (ad 16)) rfl dX7_corrected_4 ?_
  refine lv_iload_n hx hb dX7_corrected_7 rfl (lv_at hl 1 rfl) ?_
  obtain ⟨x1, hx1, hm⟩ := bs hm
  refine sd_rd C0 h 16 (aX_16 ad cA _) hx1 dX7_corrected_8 ?_
  refine lv_istore_n (lv' := [(2, .int x1), (0, .ref (ad 1)), (1, .int v1)]) hx hb dX7_corrected_9 rfl hl (by decide) rfl (fun ls hl => ?_)
  refine lv_aload_n hx hb dX7_corrected_10 rfl (lv_at hl 1 rfl) ?_
  refine sd_get C0 h (C := RX7) (T := TX7) (N := 4) kcX7 1 (aX_1 ad cA _) rfl 0 (by decide) kfX7_12 (v := .ref (ad 2)) rfl dX7_corrected_11 ?_
  refine lv_iload_n hx hb dX7_corrected_14 rfl (lv_at hl 0 rfl) ?_
  obtain ⟨u2, hu2, hm⟩ := bs hm
  refine sd_Vi C0 h kYX4_has kmX7_38 2 (aX_2 ad cA _) rfl [.int x1] (tX4_has l D cA ad hu2) rfl hl.1 rfl (Nat.le_of_ble_eq_true rfl) (by decide) dX7_corrected_15 (by decide) (fun H locs h => ?_)
  refine lv_if_ne (tgt := 31) hx hb dX7_corrected_18 (by decide) (fun c3 => ?_) (fun c3 => ?_)
  · replace hm := iq c3 hm
    refine lv_aload_n hx hb dX7_corrected_31 rfl (lv_at hl 1 rfl) ?_
    refine sd_get C0 h (C := RX7) (T := TX7) (N := 4) kcX7 1 (aX_1 ad cA _) rfl 1 (by decide) kfX7_21 (v := .ref (ad 6)) rfl dX7_corrected_32 ?_
    refine lv_aload_n hx hb dX7_corrected_35 rfl (lv_at hl 1 rfl) ?_
    refine sd_get C0 h (C := RX7) (T := TX7) (N := 4) kcX7 1 (aX_1 ad cA _) rfl 2 (by decide) kfX7_28 (v := .ref (ad 10)) rfl dX7_corrected_36 ?_
    refine sd_get C0 h (C := RX6) (T := TX6) (N := 11) kcX6 10 (aX_10 ad cA _) rfl 4 (by decide) kfX7_45 (v := .ref (ad 15)) rfl dX7_corrected_39 ?_
    refine lv_iload_n hx hb dX7_corrected_42 rfl (lv_at hl 2 rfl) ?_
    obtain ⟨x4, hx4, hm⟩ := bs hm
    refine sd_rd C0 h 15 (aX_15 ad cA _) hx4 dX7_corrected_43 ?_
    refine lv_aload_n hx hb dX7_corrected_44 rfl (lv_at hl 1 rfl) ?_
    refine sd_get C0 h (C := RX7) (T := TX7) (N := 4) kcX7 1 (aX_1 ad cA _) rfl 2 (by decide) kfX7_28 (v := .ref (ad 10)) rfl dX7_corrected_45 ?_
    refine sd_get C0 h (C := RX6) (T := TX6) (N := 11) kcX6 10 (aX_10 ad cA _) rfl 6 (by decide) kfX7_48 (v := .ref (ad 17)) rfl dX7_corrected_48 ?_
    refine lv_iload_n hx hb dX7_corrected_51 rfl (lv_at hl 2 rfl) ?_
    obtain ⟨x5, hx5, hm⟩ := bs hm
    refine sd_rd C0 h 17 (aX_17 ad cA _) hx5 dX7_corrected_52 ?_
    obtain ⟨u6, hu6, hm⟩ := bs hm
    refine sd_Vi C0 h kYX8_seek kmX7_51 6 (aX_6 ad cA _) rfl [.int x4, .int x5] (tX8_seek l D cA ad hu6) rfl hl.1 rfl (Nat.le_of_ble_eq_true rfl) (by decide) dX7_corrected_53 (by decide) (fun H locs h => ?_)
    refine lv_if_ne (tgt := 63) hx hb dX7_corrected_56 (by decide) (fun c7 => ?_) (fun c7 => ?_)
    · replace hm := iq c7 hm
      refine lv_aload_n hx hb dX7_corrected_63 rfl (lv_at hl 1 rfl) ?_
      refine sd_get C0 h (C := RX7) (T := TX7) (N := 4) kcX7 1 (aX_1 ad cA _) rfl 2 (by decide) kfX7_28 (v := .ref (ad 10)) rfl dX7_corrected_64 ?_
      refine sd_get C0 h (C := RX6) (T := TX6) (N := 11) kcX6 10 (aX_10 ad cA _) rfl 0 (by decide) kfX7_55 (v := .ref (ad 11)) rfl dX7_corrected_67 ?_
      refine lv_iload_n hx hb dX7_corrected_70 rfl (lv_at hl 2 rfl) ?_
      obtain ⟨x8, hx8, hm⟩ := bs hm
      refine sd_rd C0 h 11 (aX_11 ad cA _) hx8 dX7_corrected_71 ?_
      refine lv_iconst (v := 1) hx hb dX7_corrected_72 (by decide) ?_
      refine lv_icmp_ne (tgt := 89) hx hb dX7_corrected_73 (by decide) (fun c9 => ?_) (fun c9 => ?_)
      · replace hm := iq c9 hm
        refine lv_ldc2 (v := 2000) hx hb C0.2.2.2.1 (C0.2.2.2.2.1 _ (List.mem_cons_of_mem _ kkX7_61)) dX7_corrected_89 ?_
        exact bX7_corrected_92 C0 h (lv_sub hl [1, 2, 0] rfl) hm
      · replace hm := ip c9 hm
        refine lv_aload_n hx hb dX7_corrected_76 rfl (lv_at hl 1 rfl) ?_
        refine sd_get C0 h (C := RX7) (T := TX7) (N := 4) kcX7 1 (aX_1 ad cA _) rfl 0 (by decide) kfX7_12 (v := .ref (ad 2)) rfl dX7_corrected_77 ?_
        refine sd_get C0 h (C := RX4) (T := TX4) (N := 4) kcX4 2 (aX_2 ad cA _) rfl 1 (by decide) kfX7_58 (v := .ref (ad 4)) rfl dX7_corrected_80 ?_
        refine lv_iload_n hx hb dX7_corrected_83 rfl (lv_at hl 0 rfl) ?_
        obtain ⟨x10, hx10, hm⟩ := bs hm
        refine sd_rd C0 h 4 (aX_4 ad cA _) hx10 dX7_corrected_84 ?_
        refine lv_i2l hx hb dX7_corrected_85 (v := (x10).toInt64) rfl ?_
        refine lv_goto (tgt := 92) hx hb dX7_corrected_86 (by decide) ?_
        exact bX7_corrected_92 C0 h (lv_sub hl [1, 2, 0] rfl) hm
    · replace hm := ip c7 hm
      refine lv_sipush (v := (-30000)) hx hb dX7_corrected_59 (by decide) ?_
      exact sd_iret C0 h (Option.some.inj hm) dX7_corrected_62
  · replace hm := ip c3 hm
    refine lv_aload_n hx hb dX7_corrected_21 rfl (lv_at hl 1 rfl) ?_
    refine sd_get C0 h (C := RX7) (T := TX7) (N := 4) kcX7 1 (aX_1 ad cA _) rfl 2 (by decide) kfX7_28 (v := .ref (ad 10)) rfl dX7_corrected_22 ?_
    refine sd_get C0 h (C := RX6) (T := TX6) (N := 11) kcX6 10 (aX_10 ad cA _) rfl 3 (by decide) kfX7_42 (v := .ref (ad 14)) rfl dX7_corrected_25 ?_
    refine lv_iload_n hx hb dX7_corrected_28 rfl (lv_at hl 2 rfl) ?_
    obtain ⟨x11, hx11, hm⟩ := bs hm
    refine sd_rd C0 h 14 (aX_14 ad cA _) hx11 dX7_corrected_29 ?_
    exact sd_iret C0 h (Option.some.inj hm) dX7_corrected_30
theorem tX7_corrected (l : Launch) (D : va_G) (cA : ClassId) (ad : Nat → Nat) {z : Nat} {S : St} {v1 : Int32} {q : (Int32 × St)} (hm : mX7_corrected z v1 S = some q) : sd_MI l D vwCl cA sd_nw (wX ad cA) yX7_corrected (Cond.code yX7_corrected cX7_corrected 7 (some .int) :: sd_big) rX7_corrected [.ref (ad 1), .int v1] S q :=
  sd_ofI (by decide +kernel) (Nat.le_of_ble_eq_true rfl) (fun _ _ _ _ _ _ _ _ _ _ C0 h hl => bX7_corrected C0 h (lv_sub hl [0, 1] rfl) hm)

def rX7_waiting : Room := { frames := 3, cells := 0, slots := 0, locals := 75 }
def mX7_waiting_4b (z : Nat) (rc4 : Int32 → Int32 → St → Option (Int32 × St)) (v1 : Int32) (v2 : Int32) (S : St) : Option (Int32 × St) :=
  if (fI S 2) ≤ v2 then
    some (v1, S)
  else
    (mX7_corrected z v2 S).bind fun u2 =>
    if u2.1 = (-30000) then
      rc4 (v1 + 1) (v2 + 1) u2.2
    else
      rc4 v1 (v2 + 1) u2.2
set_option maxHeartbeats 4000000 in
set_option maxRecDepth 100000 in
theorem bX7_waiting_4b {p : Program} {l : Launch} {e : Env} {s : State} {m : MethodId} {args : Array Value} {below : List Frame} {meth : Method} {c : Code} {D : va_G} {cA : ClassId} {ad : Nat → Nat} {A : Nat → Prop} {H : Heap} {locs : List Loc} {ls : Array Slot} {q : (Int32 × St)} {z : Nat} {rc4 : Int32 → Int32 → St → Option (Int32 × St)} {v1 : Int32} {v2 : Int32} {S : St} (C0 : sd_Cx RX7 cX7_waiting 3 (some .int) (Cond.code yX7_waiting cX7_waiting 3 (some .int) :: sd_big) p s m args meth c) (h : sd_Wd D vwCl cA sd_nw (wX ad cA) A s S H locs) (hl : lv_has ls 3 [(0, .ref (ad 1)), (1, .int v1), (2, .int v2)]) (hrc4 : ∀ (v1 : Int32) (v2 : Int32) (S : St) (H : Heap) (locs : List Loc) (ls : Array Slot), sd_Wd D vwCl cA sd_nw (wX ad cA) A s S H locs → lv_has ls 3 [(0, .ref (ad 1)), (1, .int v1), (2, .int v2)] → rc4 v1 v2 S = some q → W p l e rX7_waiting s m args below meth c H locs 0 0 (MQ below (sd_Qi D vwCl (wX ad cA) A q) args s 0 0 A) (F0 m 4 ls [])) (hm : mX7_waiting_4b z rc4 v1 v2 S = some q) : W p l e rX7_waiting s m args below meth c H locs 0 0 (MQ below (sd_Qi D vwCl (wX ad cA) A q) args s 0 0 A) (F0 m 4 ls []) := by
  unfold mX7_waiting_4b at hm
  have hx := C0.1
  have hb := C0.2.1
  refine lv_iload_n hx hb dX7_waiting_4 rfl (lv_at hl 2 rfl) ?_
  refine lv_aload_n hx hb dX7_waiting_5 rfl (lv_at hl 0 rfl) ?_
  refine sd_get C0 h (C := RX7) (T := TX7) (N := 4) kcX7 1 (aX_1 ad cA _) rfl 2 (by decide) kfX7_28 (v := .ref (ad 10)) rfl dX7_waiting_6 ?_
  refine sd_get C0 h (C := RX6) (T := TX6) (N := 11) kcX6 10 (aX_10 ad cA _) rfl 10 (by decide) kfX7_77 (v := .int (fI S 2)) rfl dX7_waiting_9 ?_
  refine lv_icmp_ge (tgt := 35) hx hb dX7_waiting_12 (by decide) (fun c1 => ?_) (fun c1 => ?_)
  · replace hm := ip c1 hm
    refine lv_iload_n hx hb dX7_waiting_35 rfl (lv_at hl 1 rfl) ?_
    exact sd_iret C0 h (Option.some.inj hm) dX7_waiting_36
  · replace hm := iq c1 hm
    refine lv_aload_n hx hb dX7_waiting_15 rfl (lv_at hl 0 rfl) ?_
    refine lv_iload_n hx hb dX7_waiting_16 rfl (lv_at hl 2 rfl) ?_
    obtain ⟨u2, hu2, hm⟩ := bs hm
    refine sd_Vi C0 h kYX7_corrected kmX7_81 1 (aX_1 ad cA _) rfl [.int v2] (tX7_corrected l D cA ad hu2) rfl hl.1 rfl (Nat.le_of_ble_eq_true rfl) (by decide) dX7_waiting_17 (by decide) (fun H locs h => ?_)
    refine lv_sipush (v := (-30000)) hx hb dX7_waiting_20 (by decide) ?_
    refine lv_icmp_ne (tgt := 29) hx hb dX7_waiting_23 (by decide) (fun c3 => ?_) (fun c3 => ?_)
    · replace hm := iq c3 hm
      refine lv_iinc (v := (v2 + 1)) (lv' := [(2, .int (v2 + 1)), (0, .ref (ad 1)), (1, .int v1)]) hx hb dX7_waiting_29 hl (k := 2) rfl rfl (by decide) rfl (fun ls hl => ?_)
      refine lv_goto (tgt := 4) hx hb dX7_waiting_32 (by decide) ?_
      exact hrc4 _ _ _ _ _ _ h (lv_sub hl [1, 2, 0] rfl) hm
    · replace hm := ip c3 hm
      refine lv_iinc (v := (v1 + 1)) (lv' := [(1, .int (v1 + 1)), (0, .ref (ad 1)), (2, .int v2)]) hx hb dX7_waiting_26 hl (k := 1) rfl rfl (by decide) rfl (fun ls hl => ?_)
      refine lv_iinc (v := (v2 + 1)) (lv' := [(2, .int (v2 + 1)), (1, .int (v1 + 1)), (0, .ref (ad 1))]) hx hb dX7_waiting_29 hl (k := 2) rfl rfl (by decide) rfl (fun ls hl => ?_)
      refine lv_goto (tgt := 4) hx hb dX7_waiting_32 (by decide) ?_
      exact hrc4 _ _ _ _ _ _ h (lv_sub hl [2, 1, 0] rfl) hm
def mX7_waiting_4 (z : Nat) : Nat → Int32 → Int32 → St → Option (Int32 × St)
  | 0, _, _, _ => none
  | n + 1, v1, v2, S => mX7_waiting_4b z (mX7_waiting_4 z n) v1 v2 S
set_option maxHeartbeats 4000000 in
set_option maxRecDepth 100000 in
theorem lX7_waiting_4 {p : Program} {l : Launch} {e : Env} {s : State} {m : MethodId} {args : Array Value} {below : List Frame} {meth : Method} {c : Code} {D : va_G} {cA : ClassId} {ad : Nat → Nat} {A : Nat → Prop} {q : (Int32 × St)} {z : Nat} (C0 : sd_Cx RX7 cX7_waiting 3 (some .int) (Cond.code yX7_waiting cX7_waiting 3 (some .int) :: sd_big) p s m args meth c)  : ∀ (n : Nat) (v1 : Int32) (v2 : Int32) (S : St) (H : Heap) (locs : List Loc) (ls : Array Slot), sd_Wd D vwCl cA sd_nw (wX ad cA) A s S H locs → lv_has ls 3 [(0, .ref (ad 1)), (1, .int v1), (2, .int v2)] → mX7_waiting_4 z n v1 v2 S = some q → W p l e rX7_waiting s m args below meth c H locs 0 0 (MQ below (sd_Qi D vwCl (wX ad cA) A q) args s 0 0 A) (F0 m 4 ls []) := by
  intro n
  induction n with
  | zero =>
    intro v1 v2 S H locs ls h hl hm
    exact nomatch (show none = some q from hm)
  | succ n ih =>
    intro v1 v2 S H locs ls h hl hm
    exact bX7_waiting_4b C0 h hl ih hm
def mX7_waiting (z : Nat) (S : St) : Option (Int32 × St) :=
  mX7_waiting_4 z z 0 0 S
set_option maxHeartbeats 4000000 in
set_option maxRecDepth 100000 in
theorem bX7_waiting {p : Program} {l : Launch} {e : Env} {s : State} {m : MethodId} {args : Array Value} {below : List Frame} {meth : Method} {c : Code} {D : va_G} {cA : ClassId} {ad : Nat → Nat} {A : Nat → Prop} {H : Heap} {locs : List Loc} {ls : Array Slot} {q : (Int32 × St)} {z : Nat} {S : St} (C0 : sd_Cx RX7 cX7_waiting 3 (some .int) (Cond.code yX7_waiting cX7_waiting 3 (some .int) :: sd_big) p s m args meth c) (h : sd_Wd D vwCl cA sd_nw (wX ad cA) A s S H locs) (hl : lv_has ls 3 [(0, .ref (ad 1))])  (hm : mX7_waiting z S = some q) : W p l e rX7_waiting s m args below meth c H locs 0 0 (MQ below (sd_Qi D vwCl (wX ad cA) A q) args s 0 0 A) (F0 m 0 ls []) := by
  unfold mX7_waiting at hm
  have hx := C0.1
  have hb := C0.2.1
  refine lv_iconst (v := 0) hx hb dX7_waiting_0 (by decide) ?_
  refine lv_istore_n (lv' := [(1, .int 0), (0, .ref (ad 1))]) hx hb dX7_waiting_1 rfl hl (by decide) rfl (fun ls hl => ?_)
  refine lv_iconst (v := 0) hx hb dX7_waiting_2 (by decide) ?_
  refine lv_istore_n (lv' := [(2, .int 0), (1, .int 0), (0, .ref (ad 1))]) hx hb dX7_waiting_3 rfl hl (by decide) rfl (fun ls hl => ?_)
  exact lX7_waiting_4 C0 _ _ _ _ _ _ _ h (lv_sub hl [2, 1, 0] rfl) hm
theorem tX7_waiting (l : Launch) (D : va_G) (cA : ClassId) (ad : Nat → Nat) {z : Nat} {S : St}  {q : (Int32 × St)} (hm : mX7_waiting z S = some q) : sd_MI l D vwCl cA sd_nw (wX ad cA) yX7_waiting (Cond.code yX7_waiting cX7_waiting 3 (some .int) :: sd_big) rX7_waiting [.ref (ad 1)] S q :=
  sd_ofI (by decide +kernel) (Nat.le_of_ble_eq_true rfl) (fun _ _ _ _ _ _ _ _ _ _ C0 h hl => bX7_waiting C0 h (lv_sub hl [0] rfl) hm)

def rX9_count : Room := { frames := 4, cells := 0, slots := 0, locals := 97 }
def mX9_count (z : Nat) (v1 : Int32) (S : St) : Option (Int32 × St) :=
  if v1 = 0 then
    some ((fI S 1), S)
  else
  if v1 = 1 then
    some ((fI S 2), S)
  else
  if v1 = 2 then
    (mX7_waiting z S).bind fun u4 =>
    some (u4.1, u4.2)
  else
  if v1 = 3 then
    some ((fI S 6), S)
  else
    some ((-1), S)
set_option maxHeartbeats 4000000 in
set_option maxRecDepth 100000 in
theorem bX9_count {p : Program} {l : Launch} {e : Env} {s : State} {m : MethodId} {args : Array Value} {below : List Frame} {meth : Method} {c : Code} {D : va_G} {cA : ClassId} {ad : Nat → Nat} {A : Nat → Prop} {H : Heap} {locs : List Loc} {ls : Array Slot} {q : (Int32 × St)} {z : Nat} {v1 : Int32} {S : St} (C0 : sd_Cx RX9 cX9_count 2 (some .int) (Cond.code yX9_count cX9_count 2 (some .int) :: sd_big) p s m args meth c) (h : sd_Wd D vwCl cA sd_nw (wX ad cA) A s S H locs) (hl : lv_has ls 2 [(0, .ref (ad 0)), (1, .int v1)])  (hm : mX9_count z v1 S = some q) : W p l e rX9_count s m args below meth c H locs 0 0 (MQ below (sd_Qi D vwCl (wX ad cA) A q) args s 0 0 A) (F0 m 0 ls []) := by
  unfold mX9_count at hm
  have hx := C0.1
  have hb := C0.2.1
  refine lv_iload_n hx hb dX9_count_0 rfl (lv_at hl 1 rfl) ?_
  by_cases c1 : v1 = 0
  · replace hm := ip c1 hm
    refine lv_tableIn (off := 31) (tgt := 32) hx hb dX9_count_1 (by rw [c1]; decide) (by rw [c1]; decide) (by rw [c1]; rfl) (by decide) ?_
    refine lv_aload_n hx hb dX9_count_32 rfl (lv_at hl 0 rfl) ?_
    refine sd_get C0 h (C := RX9) (T := TX9) (N := 8) kcX9 0 (aX_0 ad cA _) rfl 0 (by decide) kfX9_10 (v := .ref (ad 1)) rfl dX9_count_33 ?_
    refine sd_get C0 h (C := RX7) (T := TX7) (N := 4) kcX7 1 (aX_1 ad cA _) rfl 0 (by decide) kfX9_69 (v := .ref (ad 2)) rfl dX9_count_36 ?_
    refine sd_get C0 h (C := RX4) (T := TX4) (N := 4) kcX4 2 (aX_2 ad cA _) rfl 3 (by decide) kfX9_73 (v := .int (fI S 1)) rfl dX9_count_39 ?_
    exact sd_iret C0 h (Option.some.inj hm) dX9_count_42
  · replace hm := iq c1 hm
    by_cases c2 : v1 = 1
    · replace hm := ip c2 hm
      refine lv_tableIn (off := 42) (tgt := 43) hx hb dX9_count_1 (by rw [c2]; decide) (by rw [c2]; decide) (by rw [c2]; rfl) (by decide) ?_
      refine lv_aload_n hx hb dX9_count_43 rfl (lv_at hl 0 rfl) ?_
      refine sd_get C0 h (C := RX9) (T := TX9) (N := 8) kcX9 0 (aX_0 ad cA _) rfl 0 (by decide) kfX9_10 (v := .ref (ad 1)) rfl dX9_count_44 ?_
      refine sd_get C0 h (C := RX7) (T := TX7) (N := 4) kcX7 1 (aX_1 ad cA _) rfl 2 (by decide) kfX9_131 (v := .ref (ad 10)) rfl dX9_count_47 ?_
      refine sd_get C0 h (C := RX6) (T := TX6) (N := 11) kcX6 10 (aX_10 ad cA _) rfl 10 (by decide) kfX9_152 (v := .int (fI S 2)) rfl dX9_count_50 ?_
      exact sd_iret C0 h (Option.some.inj hm) dX9_count_53
    · replace hm := iq c2 hm
      by_cases c3 : v1 = 2
      · replace hm := ip c3 hm
        refine lv_tableIn (off := 53) (tgt := 54) hx hb dX9_count_1 (by rw [c3]; decide) (by rw [c3]; decide) (by rw [c3]; rfl) (by decide) ?_
        refine lv_aload_n hx hb dX9_count_54 rfl (lv_at hl 0 rfl) ?_
        refine sd_get C0 h (C := RX9) (T := TX9) (N := 8) kcX9 0 (aX_0 ad cA _) rfl 0 (by decide) kfX9_10 (v := .ref (ad 1)) rfl dX9_count_55 ?_
        obtain ⟨u4, hu4, hm⟩ := bs hm
        refine sd_Vi C0 h kYX7_waiting kmX9_153 1 (aX_1 ad cA _) rfl [] (tX7_waiting l D cA ad hu4) rfl hl.1 rfl (Nat.le_of_ble_eq_true rfl) (by decide) dX9_count_58 (by decide) (fun H locs h => ?_)
        exact sd_iret C0 h (Option.some.inj hm) dX9_count_61
      · replace hm := iq c3 hm
        by_cases c5 : v1 = 3
        · replace hm := ip c5 hm
          refine lv_tableIn (off := 61) (tgt := 62) hx hb dX9_count_1 (by rw [c5]; decide) (by rw [c5]; decide) (by rw [c5]; rfl) (by decide) ?_
          refine lv_aload_n hx hb dX9_count_62 rfl (lv_at hl 0 rfl) ?_
          refine sd_get C0 h (C := RX9) (T := TX9) (N := 8) kcX9 0 (aX_0 ad cA _) rfl 2 (by decide) kfX9_22 (v := .ref (ad 43)) rfl dX9_count_63 ?_
          refine sd_get C0 h (C := RX0) (T := TX0) (N := 8) kcX0 43 (aX_43 ad cA _) rfl 4 (by decide) kfX9_157 (v := .int (fI S 6)) rfl dX9_count_66 ?_
          exact sd_iret C0 h (Option.some.inj hm) dX9_count_69
        · replace hm := iq c5 hm
          have c1 := lv_neT c1 (a := 0) (by decide)
          have c2 := lv_neT c2 (a := 1) (by decide)
          have c3 := lv_neT c3 (a := 2) (by decide)
          have c5 := lv_neT c5 (a := 3) (by decide)
          refine lv_tableOut (tgt := 70) hx hb dX9_count_1 (by omega) (by decide) ?_
          refine lv_iconst (v := (-1)) hx hb dX9_count_70 (by decide) ?_
          exact sd_iret C0 h (Option.some.inj hm) dX9_count_71
theorem tX9_count (l : Launch) (D : va_G) (cA : ClassId) (ad : Nat → Nat) {z : Nat} {S : St} {v1 : Int32} {q : (Int32 × St)} (hm : mX9_count z v1 S = some q) : sd_MI l D vwCl cA sd_nw (wX ad cA) yX9_count (Cond.code yX9_count cX9_count 2 (some .int) :: sd_big) rX9_count [.ref (ad 0), .int v1] S q :=
  sd_ofI (by decide +kernel) (Nat.le_of_ble_eq_true rfl) (fun _ _ _ _ _ _ _ _ _ _ C0 h hl => bX9_count C0 h (lv_sub hl [0, 1] rfl) hm)

def rX9_sounding : Room := { frames := 3, cells := 0, slots := 0, locals := 75 }
def mX9_sounding (z : Nat) (v1 : Int32) (v2 : Int32) (S : St) : Option (Int32 × St) :=
  (mX6_has S v1).bind fun u1 =>
  if u1 = 0 then
    some ((-1), S)
  else
    if v2 = 0 then
      (rd (fA S 6) 200 v1).bind fun x4 =>
      some (x4, S)
    else
    if v2 = 1 then
      (rd (fA S 7) 200 v1).bind fun x6 =>
      some (x6, S)
    else
    if v2 = 2 then
      (rd (fA S 8) 200 v1).bind fun x8 =>
      some (x8, S)
    else
    if v2 = 3 then
      (rd (fA S 9) 200 v1).bind fun x10 =>
      some (x10, S)
    else
    if v2 = 4 then
      (rd (fA S 10) 200 v1).bind fun x12 =>
      some (x12, S)
    else
    if v2 = 5 then
      (rd (fA S 11) 200 v1).bind fun x14 =>
      some (x14, S)
    else
    if v2 = 6 then
      (rd (fA S 12) 200 v1).bind fun x16 =>
      some (x16, S)
    else
    if v2 = 7 then
      (rd (fA S 13) 200 v1).bind fun x18 =>
      some (x18, S)
    else
    if v2 = 8 then
      (rd (fA S 14) 200 v1).bind fun x20 =>
      some (x20, S)
    else
    if v2 = 9 then
      (rd (fA S 15) 200 v1).bind fun x22 =>
      some (x22, S)
    else
    if v2 = 10 then
      (mX7_corrected z v1 S).bind fun u24 =>
      if u24.1 = (-30000) then
        some (1, u24.2)
      else
        some (0, u24.2)
    else
      some ((-1), S)
set_option maxHeartbeats 4000000 in
set_option maxRecDepth 100000 in
theorem bX9_sounding {p : Program} {l : Launch} {e : Env} {s : State} {m : MethodId} {args : Array Value} {below : List Frame} {meth : Method} {c : Code} {D : va_G} {cA : ClassId} {ad : Nat → Nat} {A : Nat → Prop} {H : Heap} {locs : List Loc} {ls : Array Slot} {q : (Int32 × St)} {z : Nat} {v1 : Int32} {v2 : Int32} {S : St} (C0 : sd_Cx RX9 cX9_sounding 4 (some .int) (Cond.code yX9_sounding cX9_sounding 4 (some .int) :: sd_big) p s m args meth c) (h : sd_Wd D vwCl cA sd_nw (wX ad cA) A s S H locs) (hl : lv_has ls 4 [(0, .ref (ad 0)), (1, .int v1), (2, .int v2)])  (hm : mX9_sounding z v1 v2 S = some q) : W p l e rX9_sounding s m args below meth c H locs 0 0 (MQ below (sd_Qi D vwCl (wX ad cA) A q) args s 0 0 A) (F0 m 0 ls []) := by
  unfold mX9_sounding at hm
  have hx := C0.1
  have hb := C0.2.1
  refine lv_aload_n hx hb dX9_sounding_0 rfl (lv_at hl 0 rfl) ?_
  refine sd_get C0 h (C := RX9) (T := TX9) (N := 8) kcX9 0 (aX_0 ad cA _) rfl 0 (by decide) kfX9_10 (v := .ref (ad 1)) rfl dX9_sounding_1 ?_
  refine sd_get C0 h (C := RX7) (T := TX7) (N := 4) kcX7 1 (aX_1 ad cA _) rfl 2 (by decide) kfX9_131 (v := .ref (ad 10)) rfl dX9_sounding_4 ?_
  refine lv_astore_n (lv' := [(3, .ref (ad 10)), (0, .ref (ad 0)), (1, .int v1), (2, .int v2)]) hx hb dX9_sounding_7 rfl hl (by decide) rfl (fun ls hl => ?_)
  refine lv_aload_n hx hb dX9_sounding_8 rfl (lv_at hl 0 rfl) ?_
  refine lv_iload_n hx hb dX9_sounding_9 rfl (lv_at hl 2 rfl) ?_
  obtain ⟨u1, hu1, hm⟩ := bs hm
  refine sd_Vi C0 h kYX6_has kmX9_148 10 (aX_10 ad cA _) rfl [.int v1] (tX6_has l D cA ad hu1) rfl hl.1 rfl (Nat.le_of_ble_eq_true rfl) (by decide) dX9_sounding_10 (by decide) (fun H locs h => ?_)
  refine lv_if_ne (tgt := 18) hx hb dX9_sounding_13 (by decide) (fun c2 => ?_) (fun c2 => ?_)
  · replace hm := iq c2 hm
    refine lv_iload_n hx hb dX9_sounding_18 rfl (lv_at hl 3 rfl) ?_
    by_cases c3 : v2 = 0
    · replace hm := ip c3 hm
      refine lv_tableIn (off := 57) (tgt := 76) hx hb dX9_sounding_19 (by rw [c3]; decide) (by rw [c3]; decide) (by rw [c3]; rfl) (by decide) ?_
      refine lv_aload_n hx hb dX9_sounding_76 rfl (lv_at hl 0 rfl) ?_
      refine sd_get C0 h (C := RX6) (T := TX6) (N := 11) kcX6 10 (aX_10 ad cA _) rfl 0 (by decide) kfX9_158 (v := .ref (ad 11)) rfl dX9_sounding_77 ?_
      refine lv_iload_n hx hb dX9_sounding_80 rfl (lv_at hl 2 rfl) ?_
      obtain ⟨x4, hx4, hm⟩ := bs hm
      refine sd_rd C0 h 11 (aX_11 ad cA _) hx4 dX9_sounding_81 ?_
      exact sd_iret C0 h (Option.some.inj hm) dX9_sounding_82
    · replace hm := iq c3 hm
      by_cases c5 : v2 = 1
      · replace hm := ip c5 hm
        refine lv_tableIn (off := 64) (tgt := 83) hx hb dX9_sounding_19 (by rw [c5]; decide) (by rw [c5]; decide) (by rw [c5]; rfl) (by decide) ?_
        refine lv_aload_n hx hb dX9_sounding_83 rfl (lv_at hl 0 rfl) ?_
        refine sd_get C0 h (C := RX6) (T := TX6) (N := 11) kcX6 10 (aX_10 ad cA _) rfl 1 (by decide) kfX9_161 (v := .ref (ad 12)) rfl dX9_sounding_84 ?_
        refine lv_iload_n hx hb dX9_sounding_87 rfl (lv_at hl 2 rfl) ?_
        obtain ⟨x6, hx6, hm⟩ := bs hm
        refine sd_rd C0 h 12 (aX_12 ad cA _) hx6 dX9_sounding_88 ?_
        exact sd_iret C0 h (Option.some.inj hm) dX9_sounding_89
      · replace hm := iq c5 hm
        by_cases c7 : v2 = 2
        · replace hm := ip c7 hm
          refine lv_tableIn (off := 71) (tgt := 90) hx hb dX9_sounding_19 (by rw [c7]; decide) (by rw [c7]; decide) (by rw [c7]; rfl) (by decide) ?_
          refine lv_aload_n hx hb dX9_sounding_90 rfl (lv_at hl 0 rfl) ?_
          refine sd_get C0 h (C := RX6) (T := TX6) (N := 11) kcX6 10 (aX_10 ad cA _) rfl 2 (by decide) kfX9_164 (v := .ref (ad 13)) rfl dX9_sounding_91 ?_
          refine lv_iload_n hx hb dX9_sounding_94 rfl (lv_at hl 2 rfl) ?_
          obtain ⟨x8, hx8, hm⟩ := bs hm
          refine sd_rd C0 h 13 (aX_13 ad cA _) hx8 dX9_sounding_95 ?_
          exact sd_iret C0 h (Option.some.inj hm) dX9_sounding_96
        · replace hm := iq c7 hm
          by_cases c9 : v2 = 3
          · replace hm := ip c9 hm
            refine lv_tableIn (off := 78) (tgt := 97) hx hb dX9_sounding_19 (by rw [c9]; decide) (by rw [c9]; decide) (by rw [c9]; rfl) (by decide) ?_
            refine lv_aload_n hx hb dX9_sounding_97 rfl (lv_at hl 0 rfl) ?_
            refine sd_get C0 h (C := RX6) (T := TX6) (N := 11) kcX6 10 (aX_10 ad cA _) rfl 3 (by decide) kfX9_167 (v := .ref (ad 14)) rfl dX9_sounding_98 ?_
            refine lv_iload_n hx hb dX9_sounding_101 rfl (lv_at hl 2 rfl) ?_
            obtain ⟨x10, hx10, hm⟩ := bs hm
            refine sd_rd C0 h 14 (aX_14 ad cA _) hx10 dX9_sounding_102 ?_
            exact sd_iret C0 h (Option.some.inj hm) dX9_sounding_103
          · replace hm := iq c9 hm
            by_cases c11 : v2 = 4
            · replace hm := ip c11 hm
              refine lv_tableIn (off := 85) (tgt := 104) hx hb dX9_sounding_19 (by rw [c11]; decide) (by rw [c11]; decide) (by rw [c11]; rfl) (by decide) ?_
              refine lv_aload_n hx hb dX9_sounding_104 rfl (lv_at hl 0 rfl) ?_
              refine sd_get C0 h (C := RX6) (T := TX6) (N := 11) kcX6 10 (aX_10 ad cA _) rfl 4 (by decide) kfX9_170 (v := .ref (ad 15)) rfl dX9_sounding_105 ?_
              refine lv_iload_n hx hb dX9_sounding_108 rfl (lv_at hl 2 rfl) ?_
              obtain ⟨x12, hx12, hm⟩ := bs hm
              refine sd_rd C0 h 15 (aX_15 ad cA _) hx12 dX9_sounding_109 ?_
              exact sd_iret C0 h (Option.some.inj hm) dX9_sounding_110
            · replace hm := iq c11 hm
              by_cases c13 : v2 = 5
              · replace hm := ip c13 hm
                refine lv_tableIn (off := 92) (tgt := 111) hx hb dX9_sounding_19 (by rw [c13]; decide) (by rw [c13]; decide) (by rw [c13]; rfl) (by decide) ?_
                refine lv_aload_n hx hb dX9_sounding_111 rfl (lv_at hl 0 rfl) ?_
                refine sd_get C0 h (C := RX6) (T := TX6) (N := 11) kcX6 10 (aX_10 ad cA _) rfl 5 (by decide) kfX9_173 (v := .ref (ad 16)) rfl dX9_sounding_112 ?_
                refine lv_iload_n hx hb dX9_sounding_115 rfl (lv_at hl 2 rfl) ?_
                obtain ⟨x14, hx14, hm⟩ := bs hm
                refine sd_rd C0 h 16 (aX_16 ad cA _) hx14 dX9_sounding_116 ?_
                exact sd_iret C0 h (Option.some.inj hm) dX9_sounding_117
              · replace hm := iq c13 hm
                by_cases c15 : v2 = 6
                · replace hm := ip c15 hm
                  refine lv_tableIn (off := 99) (tgt := 118) hx hb dX9_sounding_19 (by rw [c15]; decide) (by rw [c15]; decide) (by rw [c15]; rfl) (by decide) ?_
                  refine lv_aload_n hx hb dX9_sounding_118 rfl (lv_at hl 0 rfl) ?_
                  refine sd_get C0 h (C := RX6) (T := TX6) (N := 11) kcX6 10 (aX_10 ad cA _) rfl 6 (by decide) kfX9_175 (v := .ref (ad 17)) rfl dX9_sounding_119 ?_
                  refine lv_iload_n hx hb dX9_sounding_122 rfl (lv_at hl 2 rfl) ?_
                  obtain ⟨x16, hx16, hm⟩ := bs hm
                  refine sd_rd C0 h 17 (aX_17 ad cA _) hx16 dX9_sounding_123 ?_
                  exact sd_iret C0 h (Option.some.inj hm) dX9_sounding_124
                · replace hm := iq c15 hm
                  by_cases c17 : v2 = 7
                  · replace hm := ip c17 hm
                    refine lv_tableIn (off := 106) (tgt := 125) hx hb dX9_sounding_19 (by rw [c17]; decide) (by rw [c17]; decide) (by rw [c17]; rfl) (by decide) ?_
                    refine lv_aload_n hx hb dX9_sounding_125 rfl (lv_at hl 0 rfl) ?_
                    refine sd_get C0 h (C := RX6) (T := TX6) (N := 11) kcX6 10 (aX_10 ad cA _) rfl 7 (by decide) kfX9_149 (v := .ref (ad 18)) rfl dX9_sounding_126 ?_
                    refine lv_iload_n hx hb dX9_sounding_129 rfl (lv_at hl 2 rfl) ?_
                    obtain ⟨x18, hx18, hm⟩ := bs hm
                    refine sd_rd C0 h 18 (aX_18 ad cA _) hx18 dX9_sounding_130 ?_
                    exact sd_iret C0 h (Option.some.inj hm) dX9_sounding_131
                  · replace hm := iq c17 hm
                    by_cases c19 : v2 = 8
                    · replace hm := ip c19 hm
                      refine lv_tableIn (off := 113) (tgt := 132) hx hb dX9_sounding_19 (by rw [c19]; decide) (by rw [c19]; decide) (by rw [c19]; rfl) (by decide) ?_
                      refine lv_aload_n hx hb dX9_sounding_132 rfl (lv_at hl 0 rfl) ?_
                      refine sd_get C0 h (C := RX6) (T := TX6) (N := 11) kcX6 10 (aX_10 ad cA _) rfl 8 (by decide) kfX9_178 (v := .ref (ad 19)) rfl dX9_sounding_133 ?_
                      refine lv_iload_n hx hb dX9_sounding_136 rfl (lv_at hl 2 rfl) ?_
                      obtain ⟨x20, hx20, hm⟩ := bs hm
                      refine sd_rd C0 h 19 (aX_19 ad cA _) hx20 dX9_sounding_137 ?_
                      exact sd_iret C0 h (Option.some.inj hm) dX9_sounding_138
                    · replace hm := iq c19 hm
                      by_cases c21 : v2 = 9
                      · replace hm := ip c21 hm
                        refine lv_tableIn (off := 120) (tgt := 139) hx hb dX9_sounding_19 (by rw [c21]; decide) (by rw [c21]; decide) (by rw [c21]; rfl) (by decide) ?_
                        refine lv_aload_n hx hb dX9_sounding_139 rfl (lv_at hl 0 rfl) ?_
                        refine sd_get C0 h (C := RX6) (T := TX6) (N := 11) kcX6 10 (aX_10 ad cA _) rfl 9 (by decide) kfX9_181 (v := .ref (ad 20)) rfl dX9_sounding_140 ?_
                        refine lv_iload_n hx hb dX9_sounding_143 rfl (lv_at hl 2 rfl) ?_
                        obtain ⟨x22, hx22, hm⟩ := bs hm
                        refine sd_rd C0 h 20 (aX_20 ad cA _) hx22 dX9_sounding_144 ?_
                        exact sd_iret C0 h (Option.some.inj hm) dX9_sounding_145
                      · replace hm := iq c21 hm
                        by_cases c23 : v2 = 10
                        · replace hm := ip c23 hm
                          refine lv_tableIn (off := 127) (tgt := 146) hx hb dX9_sounding_19 (by rw [c23]; decide) (by rw [c23]; decide) (by rw [c23]; rfl) (by decide) ?_
                          refine lv_aload_n hx hb dX9_sounding_146 rfl (lv_at hl 1 rfl) ?_
                          refine sd_get C0 h (C := RX9) (T := TX9) (N := 8) kcX9 0 (aX_0 ad cA _) rfl 0 (by decide) kfX9_10 (v := .ref (ad 1)) rfl dX9_sounding_147 ?_
                          refine lv_iload_n hx hb dX9_sounding_150 rfl (lv_at hl 2 rfl) ?_
                          obtain ⟨u24, hu24, hm⟩ := bs hm
                          refine sd_Vi C0 h kYX7_corrected kmX9_182 1 (aX_1 ad cA _) rfl [.int v1] (tX7_corrected l D cA ad hu24) rfl hl.1 rfl (Nat.le_of_ble_eq_true rfl) (by decide) dX9_sounding_151 (by decide) (fun H locs h => ?_)
                          refine lv_sipush (v := (-30000)) hx hb dX9_sounding_154 (by decide) ?_
                          refine lv_icmp_ne (tgt := 164) hx hb dX9_sounding_157 (by decide) (fun c25 => ?_) (fun c25 => ?_)
                          · replace hm := iq c25 hm
                            refine lv_iconst (v := 0) hx hb dX9_sounding_164 (by decide) ?_
                            exact sd_iret C0 h (Option.some.inj hm) dX9_sounding_165
                          · replace hm := ip c25 hm
                            refine lv_iconst (v := 1) hx hb dX9_sounding_160 (by decide) ?_
                            refine lv_goto (tgt := 165) hx hb dX9_sounding_161 (by decide) ?_
                            exact sd_iret C0 h (Option.some.inj hm) dX9_sounding_165
                        · replace hm := iq c23 hm
                          have c3 := lv_neT c3 (a := 0) (by decide)
                          have c5 := lv_neT c5 (a := 1) (by decide)
                          have c7 := lv_neT c7 (a := 2) (by decide)
                          have c9 := lv_neT c9 (a := 3) (by decide)
                          have c11 := lv_neT c11 (a := 4) (by decide)
                          have c13 := lv_neT c13 (a := 5) (by decide)
                          have c15 := lv_neT c15 (a := 6) (by decide)
                          have c17 := lv_neT c17 (a := 7) (by decide)
                          have c19 := lv_neT c19 (a := 8) (by decide)
                          have c21 := lv_neT c21 (a := 9) (by decide)
                          have c23 := lv_neT c23 (a := 10) (by decide)
                          refine lv_tableOut (tgt := 166) hx hb dX9_sounding_19 (by omega) (by decide) ?_
                          refine lv_iconst (v := (-1)) hx hb dX9_sounding_166 (by decide) ?_
                          exact sd_iret C0 h (Option.some.inj hm) dX9_sounding_167
  · replace hm := ip c2 hm
    refine lv_iconst (v := (-1)) hx hb dX9_sounding_16 (by decide) ?_
    exact sd_iret C0 h (Option.some.inj hm) dX9_sounding_17
theorem tX9_sounding (l : Launch) (D : va_G) (cA : ClassId) (ad : Nat → Nat) {z : Nat} {S : St} {v1 : Int32} {v2 : Int32} {q : (Int32 × St)} (hm : mX9_sounding z v1 v2 S = some q) : sd_MI l D vwCl cA sd_nw (wX ad cA) yX9_sounding (Cond.code yX9_sounding cX9_sounding 4 (some .int) :: sd_big) rX9_sounding [.ref (ad 0), .int v1, .int v2] S q :=
  sd_ofI (by decide +kernel) (Nat.le_of_ble_eq_true rfl) (fun _ _ _ _ _ _ _ _ _ _ C0 h hl => bX9_sounding C0 h (lv_sub hl [0, 1, 2] rfl) hm)

def rX9_depth : Room := { frames := 3, cells := 0, slots := 0, locals := 75 }
def mX9_depth (z : Nat) (v1 : Int32) (S : St) : Option (Int32 × St) :=
  (mX6_has S v1).bind fun u1 =>
  if u1 = 0 then
    some ((-30000), S)
  else
    (mX7_corrected z v1 S).bind fun u3 =>
    some (u3.1, u3.2)
set_option maxHeartbeats 4000000 in
set_option maxRecDepth 100000 in
theorem bX9_depth {p : Program} {l : Launch} {e : Env} {s : State} {m : MethodId} {args : Array Value} {below : List Frame} {meth : Method} {c : Code} {D : va_G} {cA : ClassId} {ad : Nat → Nat} {A : Nat → Prop} {H : Heap} {locs : List Loc} {ls : Array Slot} {q : (Int32 × St)} {z : Nat} {v1 : Int32} {S : St} (C0 : sd_Cx RX9 cX9_depth 2 (some .int) (Cond.code yX9_depth cX9_depth 2 (some .int) :: sd_big) p s m args meth c) (h : sd_Wd D vwCl cA sd_nw (wX ad cA) A s S H locs) (hl : lv_has ls 2 [(0, .ref (ad 0)), (1, .int v1)])  (hm : mX9_depth z v1 S = some q) : W p l e rX9_depth s m args below meth c H locs 0 0 (MQ below (sd_Qi D vwCl (wX ad cA) A q) args s 0 0 A) (F0 m 0 ls []) := by
  unfold mX9_depth at hm
  have hx := C0.1
  have hb := C0.2.1
  refine lv_aload_n hx hb dX9_depth_0 rfl (lv_at hl 0 rfl) ?_
  refine sd_get C0 h (C := RX9) (T := TX9) (N := 8) kcX9 0 (aX_0 ad cA _) rfl 0 (by decide) kfX9_10 (v := .ref (ad 1)) rfl dX9_depth_1 ?_
  refine sd_get C0 h (C := RX7) (T := TX7) (N := 4) kcX7 1 (aX_1 ad cA _) rfl 2 (by decide) kfX9_131 (v := .ref (ad 10)) rfl dX9_depth_4 ?_
  refine lv_iload_n hx hb dX9_depth_7 rfl (lv_at hl 1 rfl) ?_
  obtain ⟨u1, hu1, hm⟩ := bs hm
  refine sd_Vi C0 h kYX6_has kmX9_148 10 (aX_10 ad cA _) rfl [.int v1] (tX6_has l D cA ad hu1) rfl hl.1 rfl (Nat.le_of_ble_eq_true rfl) (by decide) dX9_depth_8 (by decide) (fun H locs h => ?_)
  refine lv_if_eq (tgt := 25) hx hb dX9_depth_11 (by decide) (fun c2 => ?_) (fun c2 => ?_)
  · replace hm := ip c2 hm
    refine lv_sipush (v := (-30000)) hx hb dX9_depth_25 (by decide) ?_
    exact sd_iret C0 h (Option.some.inj hm) dX9_depth_28
  · replace hm := iq c2 hm
    refine lv_aload_n hx hb dX9_depth_14 rfl (lv_at hl 0 rfl) ?_
    refine sd_get C0 h (C := RX9) (T := TX9) (N := 8) kcX9 0 (aX_0 ad cA _) rfl 0 (by decide) kfX9_10 (v := .ref (ad 1)) rfl dX9_depth_15 ?_
    refine lv_iload_n hx hb dX9_depth_18 rfl (lv_at hl 1 rfl) ?_
    obtain ⟨u3, hu3, hm⟩ := bs hm
    refine sd_Vi C0 h kYX7_corrected kmX9_182 1 (aX_1 ad cA _) rfl [.int v1] (tX7_corrected l D cA ad hu3) rfl hl.1 rfl (Nat.le_of_ble_eq_true rfl) (by decide) dX9_depth_19 (by decide) (fun H locs h => ?_)
    refine lv_goto (tgt := 28) hx hb dX9_depth_22 (by decide) ?_
    exact sd_iret C0 h (Option.some.inj hm) dX9_depth_28
theorem tX9_depth (l : Launch) (D : va_G) (cA : ClassId) (ad : Nat → Nat) {z : Nat} {S : St} {v1 : Int32} {q : (Int32 × St)} (hm : mX9_depth z v1 S = some q) : sd_MI l D vwCl cA sd_nw (wX ad cA) yX9_depth (Cond.code yX9_depth cX9_depth 2 (some .int) :: sd_big) rX9_depth [.ref (ad 0), .int v1] S q :=
  sd_ofI (by decide +kernel) (Nat.le_of_ble_eq_true rfl) (fun _ _ _ _ _ _ _ _ _ _ C0 h hl => bX9_depth C0 h (lv_sub hl [0, 1] rfl) hm)

def rX6_ofLine : Room := { frames := 0, cells := 0, slots := 0, locals := 0 }
def mX6_ofLine_4b (z : Nat) (S : St) (rc4 : Int32 → Int32 → Option Int32) (v1 : Int32) (v2 : Int32) (v3 : Int32) : Option Int32 :=
  if (fI S 2) ≤ v3 then
    some v2
  else
    (rd (fA S 11) 200 v3).bind fun x2 =>
    if x2 = v1 then
      rc4 (v2 + 1) (v3 + 1)
    else
      rc4 v2 (v3 + 1)
set_option maxHeartbeats 4000000 in
set_option maxRecDepth 100000 in
theorem bX6_ofLine_4b {p : Program} {l : Launch} {e : Env} {s : State} {m : MethodId} {args : Array Value} {below : List Frame} {meth : Method} {c : Code} {D : va_G} {cA : ClassId} {ad : Nat → Nat} {A : Nat → Prop} {H : Heap} {locs : List Loc} {ls : Array Slot} {q : Int32} {z : Nat} {S : St} {rc4 : Int32 → Int32 → Option Int32} {v1 : Int32} {v2 : Int32} {v3 : Int32} (C0 : sd_Cx RX6 cX6_ofLine 4 (some .int) (Cond.code yX6_ofLine cX6_ofLine 4 (some .int) :: sd_big) p s m args meth c) (h : sd_Wd D vwCl cA sd_nw (wX ad cA) A s S H locs) (hl : lv_has ls 4 [(0, .ref (ad 10)), (1, .int v1), (2, .int v2), (3, .int v3)]) (hrc4 : ∀ (v2 : Int32) (v3 : Int32) (H : Heap) (locs : List Loc) (ls : Array Slot), sd_Wd D vwCl cA sd_nw (wX ad cA) A s S H locs → lv_has ls 4 [(0, .ref (ad 10)), (1, .int v1), (2, .int v2), (3, .int v3)] → rc4 v2 v3 = some q → W p l e rX6_ofLine s m args below meth c H locs 0 0 (MQ below (sd_Qi D vwCl (wX ad cA) A (q, S)) args s 0 0 A) (F0 m 4 ls [])) (hm : mX6_ofLine_4b z S rc4 v1 v2 v3 = some q) : W p l e rX6_ofLine s m args below meth c H locs 0 0 (MQ below (sd_Qi D vwCl (wX ad cA) A (q, S)) args s 0 0 A) (F0 m 4 ls []) := by
  unfold mX6_ofLine_4b at hm
  have hx := C0.1
  have hb := C0.2.1
  refine lv_iload_n hx hb dX6_ofLine_4 rfl (lv_at hl 3 rfl) ?_
  refine lv_aload_n hx hb dX6_ofLine_5 rfl (lv_at hl 0 rfl) ?_
  refine sd_get C0 h (C := RX6) (T := TX6) (N := 11) kcX6 10 (aX_10 ad cA _) rfl 10 (by decide) kfX6_42 (v := .int (fI S 2)) rfl dX6_ofLine_6 ?_
  refine lv_icmp_ge (tgt := 31) hx hb dX6_ofLine_9 (by decide) (fun c1 => ?_) (fun c1 => ?_)
  · replace hm := ip c1 hm
    refine lv_iload_n hx hb dX6_ofLine_31 rfl (lv_at hl 2 rfl) ?_
    exact sd_iret C0 h (congrArg (fun x => (x, S)) (Option.some.inj hm)) dX6_ofLine_32
  · replace hm := iq c1 hm
    refine lv_aload_n hx hb dX6_ofLine_12 rfl (lv_at hl 0 rfl) ?_
    refine sd_get C0 h (C := RX6) (T := TX6) (N := 11) kcX6 10 (aX_10 ad cA _) rfl 5 (by decide) kfX6_27 (v := .ref (ad 16)) rfl dX6_ofLine_13 ?_
    refine lv_iload_n hx hb dX6_ofLine_16 rfl (lv_at hl 3 rfl) ?_
    obtain ⟨x2, hx2, hm⟩ := bs hm
    refine sd_rd C0 h 16 (aX_16 ad cA _) hx2 dX6_ofLine_17 ?_
    refine lv_iload_n hx hb dX6_ofLine_18 rfl (lv_at hl 1 rfl) ?_
    refine lv_icmp_ne (tgt := 25) hx hb dX6_ofLine_19 (by decide) (fun c3 => ?_) (fun c3 => ?_)
    · replace hm := iq c3 hm
      refine lv_iinc (v := (v3 + 1)) (lv' := [(3, .int (v3 + 1)), (0, .ref (ad 10)), (1, .int v1), (2, .int v2)]) hx hb dX6_ofLine_25 hl (k := 3) rfl rfl (by decide) rfl (fun ls hl => ?_)
      refine lv_goto (tgt := 4) hx hb dX6_ofLine_28 (by decide) ?_
      exact hrc4 _ _ _ _ _ h (lv_sub hl [1, 2, 3, 0] rfl) hm
    · replace hm := ip c3 hm
      refine lv_iinc (v := (v2 + 1)) (lv' := [(2, .int (v2 + 1)), (0, .ref (ad 10)), (1, .int v1), (3, .int v3)]) hx hb dX6_ofLine_22 hl (k := 2) rfl rfl (by decide) rfl (fun ls hl => ?_)
      refine lv_iinc (v := (v3 + 1)) (lv' := [(3, .int (v3 + 1)), (2, .int (v2 + 1)), (0, .ref (ad 10)), (1, .int v1)]) hx hb dX6_ofLine_25 hl (k := 3) rfl rfl (by decide) rfl (fun ls hl => ?_)
      refine lv_goto (tgt := 4) hx hb dX6_ofLine_28 (by decide) ?_
      exact hrc4 _ _ _ _ _ h (lv_sub hl [2, 3, 1, 0] rfl) hm
def mX6_ofLine_4 (z : Nat) (S : St) (v1 : Int32) : Nat → Int32 → Int32 → Option Int32
  | 0, _, _ => none
  | n + 1, v2, v3 => mX6_ofLine_4b z S (mX6_ofLine_4 z S v1 n) v1 v2 v3
set_option maxHeartbeats 4000000 in
set_option maxRecDepth 100000 in
theorem lX6_ofLine_4 {p : Program} {l : Launch} {e : Env} {s : State} {m : MethodId} {args : Array Value} {below : List Frame} {meth : Method} {c : Code} {D : va_G} {cA : ClassId} {ad : Nat → Nat} {A : Nat → Prop} {q : Int32} {z : Nat} {S : St} {v1 : Int32} (C0 : sd_Cx RX6 cX6_ofLine 4 (some .int) (Cond.code yX6_ofLine cX6_ofLine 4 (some .int) :: sd_big) p s m args meth c)  : ∀ (n : Nat) (v2 : Int32) (v3 : Int32) (H : Heap) (locs : List Loc) (ls : Array Slot), sd_Wd D vwCl cA sd_nw (wX ad cA) A s S H locs → lv_has ls 4 [(0, .ref (ad 10)), (1, .int v1), (2, .int v2), (3, .int v3)] → mX6_ofLine_4 z S v1 n v2 v3 = some q → W p l e rX6_ofLine s m args below meth c H locs 0 0 (MQ below (sd_Qi D vwCl (wX ad cA) A (q, S)) args s 0 0 A) (F0 m 4 ls []) := by
  intro n
  induction n with
  | zero =>
    intro v2 v3 H locs ls h hl hm
    exact nomatch (show none = some q from hm)
  | succ n ih =>
    intro v2 v3 H locs ls h hl hm
    exact bX6_ofLine_4b C0 h hl ih hm
def mX6_ofLine (z : Nat) (S : St) (v1 : Int32) : Option Int32 :=
  mX6_ofLine_4 z S v1 z 0 0
set_option maxHeartbeats 4000000 in
set_option maxRecDepth 100000 in
theorem bX6_ofLine {p : Program} {l : Launch} {e : Env} {s : State} {m : MethodId} {args : Array Value} {below : List Frame} {meth : Method} {c : Code} {D : va_G} {cA : ClassId} {ad : Nat → Nat} {A : Nat → Prop} {H : Heap} {locs : List Loc} {ls : Array Slot} {q : Int32} {z : Nat} {S : St} {v1 : Int32} (C0 : sd_Cx RX6 cX6_ofLine 4 (some .int) (Cond.code yX6_ofLine cX6_ofLine 4 (some .int) :: sd_big) p s m args meth c) (h : sd_Wd D vwCl cA sd_nw (wX ad cA) A s S H locs) (hl : lv_has ls 4 [(0, .ref (ad 10)), (1, .int v1)])  (hm : mX6_ofLine z S v1 = some q) : W p l e rX6_ofLine s m args below meth c H locs 0 0 (MQ below (sd_Qi D vwCl (wX ad cA) A (q, S)) args s 0 0 A) (F0 m 0 ls []) := by
  unfold mX6_ofLine at hm
  have hx := C0.1
  have hb := C0.2.1
  refine lv_iconst (v := 0) hx hb dX6_ofLine_0 (by decide) ?_
  refine lv_istore_n (lv' := [(2, .int 0), (0, .ref (ad 10)), (1, .int v1)]) hx hb dX6_ofLine_1 rfl hl (by decide) rfl (fun ls hl => ?_)
  refine lv_iconst (v := 0) hx hb dX6_ofLine_2 (by decide) ?_
  refine lv_istore_n (lv' := [(3, .int 0), (2, .int 0), (0, .ref (ad 10)), (1, .int v1)]) hx hb dX6_ofLine_3 rfl hl (by decide) rfl (fun ls hl => ?_)
  exact lX6_ofLine_4 C0 _ _ _ _ _ _ h (lv_sub hl [2, 3, 1, 0] rfl) hm
theorem tX6_ofLine (l : Launch) (D : va_G) (cA : ClassId) (ad : Nat → Nat) {z : Nat} {S : St} {v1 : Int32} {q : Int32} (hm : mX6_ofLine z S v1 = some q) : sd_MI l D vwCl cA sd_nw (wX ad cA) yX6_ofLine (Cond.code yX6_ofLine cX6_ofLine 4 (some .int) :: sd_big) rX6_ofLine [.ref (ad 10), .int v1] S (q, S) :=
  sd_ofI (by decide +kernel) (Nat.le_of_ble_eq_true rfl) (fun _ _ _ _ _ _ _ _ _ _ C0 h hl => bX6_ofLine C0 h (lv_sub hl [0, 1] rfl) hm)

def rX9_boat : Room := { frames := 1, cells := 0, slots := 0, locals := 23 }
def mX9_boat (z : Nat) (S : St) (v1 : Int32) (v2 : Int32) : Option Int32 :=
  (mX4_has S v1).bind fun u1 =>
  if u1 = 0 then
    some (-1)
  else
    if v2 = 0 then
      (rd (fA S 0) 20 v1).bind fun x4 =>
      some x4
    else
    if v2 = 1 then
      (rd (fA S 1) 20 v1).bind fun x6 =>
      some x6
    else
    if v2 = 2 then
      (rd (fA S 2) 20 v1).bind fun x8 =>
      some x8
    else
    if v2 = 3 then
      (mX6_ofLine z S v1).bind fun u10 =>
      some u10
    else
      some (-1)
set_option maxHeartbeats 4000000 in
set_option maxRecDepth 100000 in
theorem bX9_boat {p : Program} {l : Launch} {e : Env} {s : State} {m : MethodId} {args : Array Value} {below : List Frame} {meth : Method} {c : Code} {D : va_G} {cA : ClassId} {ad : Nat → Nat} {A : Nat → Prop} {H : Heap} {locs : List Loc} {ls : Array Slot} {q : Int32} {z : Nat} {S : St} {v1 : Int32} {v2 : Int32} (C0 : sd_Cx RX9 cX9_boat 4 (some .int) (Cond.code yX9_boat cX9_boat 4 (some .int) :: sd_big) p s m args meth c) (h : sd_Wd D vwCl cA sd_nw (wX ad cA) A s S H locs) (hl : lv_has ls 4 [(0, .ref (ad 0)), (1, .int v1), (2, .int v2)])  (hm : mX9_boat z S v1 v2 = some q) : W p l e rX9_boat s m args below meth c H locs 0 0 (MQ below (sd_Qi D vwCl (wX ad cA) A (q, S)) args s 0 0 A) (F0 m 0 ls []) := by
  unfold mX9_boat at hm
  have hx := C0.1
  have hb := C0.2.1
  refine lv_aload_n hx hb dX9_boat_0 rfl (lv_at hl 0 rfl) ?_
  refine sd_get C0 h (C := RX9) (T := TX9) (N := 8) kcX9 0 (aX_0 ad cA _) rfl 0 (by decide) kfX9_10 (v := .ref (ad 1)) rfl dX9_boat_1 ?_
  refine sd_get C0 h (C := RX7) (T := TX7) (N := 4) kcX7 1 (aX_1 ad cA _) rfl 0 (by decide) kfX9_69 (v := .ref (ad 2)) rfl dX9_boat_4 ?_
  refine lv_astore_n (lv' := [(3, .ref (ad 2)), (0, .ref (ad 0)), (1, .int v1), (2, .int v2)]) hx hb dX9_boat_7 rfl hl (by decide) rfl (fun ls hl => ?_)
  refine lv_aload_n hx hb dX9_boat_8 rfl (lv_at hl 0 rfl) ?_
  refine lv_iload_n hx hb dX9_boat_9 rfl (lv_at hl 2 rfl) ?_
  obtain ⟨u1, hu1, hm⟩ := bs hm
  refine sd_Vi C0 h kYX4_has kmX9_110 2 (aX_2 ad cA _) rfl [.int v1] (tX4_has l D cA ad hu1) rfl hl.1 rfl (Nat.le_of_ble_eq_true rfl) (by decide) dX9_boat_10 (by decide) (fun H locs h => ?_)
  refine lv_if_ne (tgt := 18) hx hb dX9_boat_13 (by decide) (fun c2 => ?_) (fun c2 => ?_)
  · replace hm := iq c2 hm
    refine lv_iload_n hx hb dX9_boat_18 rfl (lv_at hl 3 rfl) ?_
    by_cases c3 : v2 = 0
    · replace hm := ip c3 hm
      refine lv_tableIn (off := 29) (tgt := 48) hx hb dX9_boat_19 (by rw [c3]; decide) (by rw [c3]; decide) (by rw [c3]; rfl) (by decide) ?_
      refine lv_aload_n hx hb dX9_boat_48 rfl (lv_at hl 0 rfl) ?_
      refine sd_get C0 h (C := RX4) (T := TX4) (N := 4) kcX4 2 (aX_2 ad cA _) rfl 0 (by decide) kfX9_185 (v := .ref (ad 3)) rfl dX9_boat_49 ?_
      refine lv_iload_n hx hb dX9_boat_52 rfl (lv_at hl 2 rfl) ?_
      obtain ⟨x4, hx4, hm⟩ := bs hm
      refine sd_rd C0 h 3 (aX_3 ad cA _) hx4 dX9_boat_53 ?_
      exact sd_iret C0 h (congrArg (fun x => (x, S)) (Option.some.inj hm)) dX9_boat_54
    · replace hm := iq c3 hm
      by_cases c5 : v2 = 1
      · replace hm := ip c5 hm
        refine lv_tableIn (off := 36) (tgt := 55) hx hb dX9_boat_19 (by rw [c5]; decide) (by rw [c5]; decide) (by rw [c5]; rfl) (by decide) ?_
        refine lv_aload_n hx hb dX9_boat_55 rfl (lv_at hl 0 rfl) ?_
        refine sd_get C0 h (C := RX4) (T := TX4) (N := 4) kcX4 2 (aX_2 ad cA _) rfl 1 (by decide) kfX9_113 (v := .ref (ad 4)) rfl dX9_boat_56 ?_
        refine lv_iload_n hx hb dX9_boat_59 rfl (lv_at hl 2 rfl) ?_
        obtain ⟨x6, hx6, hm⟩ := bs hm
        refine sd_rd C0 h 4 (aX_4 ad cA _) hx6 dX9_boat_60 ?_
        exact sd_iret C0 h (congrArg (fun x => (x, S)) (Option.some.inj hm)) dX9_boat_61
      · replace hm := iq c5 hm
        by_cases c7 : v2 = 2
        · replace hm := ip c7 hm
          refine lv_tableIn (off := 43) (tgt := 62) hx hb dX9_boat_19 (by rw [c7]; decide) (by rw [c7]; decide) (by rw [c7]; rfl) (by decide) ?_
          refine lv_aload_n hx hb dX9_boat_62 rfl (lv_at hl 0 rfl) ?_
          refine sd_get C0 h (C := RX4) (T := TX4) (N := 4) kcX4 2 (aX_2 ad cA _) rfl 2 (by decide) kfX9_116 (v := .ref (ad 5)) rfl dX9_boat_63 ?_
          refine lv_iload_n hx hb dX9_boat_66 rfl (lv_at hl 2 rfl) ?_
          obtain ⟨x8, hx8, hm⟩ := bs hm
          refine sd_rd C0 h 5 (aX_5 ad cA _) hx8 dX9_boat_67 ?_
          exact sd_iret C0 h (congrArg (fun x => (x, S)) (Option.some.inj hm)) dX9_boat_68
        · replace hm := iq c7 hm
          by_cases c9 : v2 = 3
          · replace hm := ip c9 hm
            refine lv_tableIn (off := 50) (tgt := 69) hx hb dX9_boat_19 (by rw [c9]; decide) (by rw [c9]; decide) (by rw [c9]; rfl) (by decide) ?_
            refine lv_aload_n hx hb dX9_boat_69 rfl (lv_at hl 1 rfl) ?_
            refine sd_get C0 h (C := RX9) (T := TX9) (N := 8) kcX9 0 (aX_0 ad cA _) rfl 0 (by decide) kfX9_10 (v := .ref (ad 1)) rfl dX9_boat_70 ?_
            refine sd_get C0 h (C := RX7) (T := TX7) (N := 4) kcX7 1 (aX_1 ad cA _) rfl 2 (by decide) kfX9_131 (v := .ref (ad 10)) rfl dX9_boat_73 ?_
            refine lv_iload_n hx hb dX9_boat_76 rfl (lv_at hl 2 rfl) ?_
            obtain ⟨u10, hu10, hm⟩ := bs hm
            refine sd_Vi C0 h kYX6_ofLine kmX9_186 10 (aX_10 ad cA _) rfl [.int v1] (tX6_ofLine l D cA ad hu10) rfl hl.1 rfl (Nat.le_of_ble_eq_true rfl) (by decide) dX9_boat_77 (by decide) (fun H locs h => ?_)
            exact sd_iret C0 h (congrArg (fun x => (x, S)) (Option.some.inj hm)) dX9_boat_80
          · replace hm := iq c9 hm
            have c3 := lv_neT c3 (a := 0) (by decide)
            have c5 := lv_neT c5 (a := 1) (by decide)
            have c7 := lv_neT c7 (a := 2) (by decide)
            have c9 := lv_neT c9 (a := 3) (by decide)
            refine lv_tableOut (tgt := 81) hx hb dX9_boat_19 (by omega) (by decide) ?_
            refine lv_iconst (v := (-1)) hx hb dX9_boat_81 (by decide) ?_
            exact sd_iret C0 h (congrArg (fun x => (x, S)) (Option.some.inj hm)) dX9_boat_82
  · replace hm := ip c2 hm
    refine lv_iconst (v := (-1)) hx hb dX9_boat_16 (by decide) ?_
    exact sd_iret C0 h (congrArg (fun x => (x, S)) (Option.some.inj hm)) dX9_boat_17
theorem tX9_boat (l : Launch) (D : va_G) (cA : ClassId) (ad : Nat → Nat) {z : Nat} {S : St} {v1 : Int32} {v2 : Int32} {q : Int32} (hm : mX9_boat z S v1 v2 = some q) : sd_MI l D vwCl cA sd_nw (wX ad cA) yX9_boat (Cond.code yX9_boat cX9_boat 4 (some .int) :: sd_big) rX9_boat [.ref (ad 0), .int v1, .int v2] S (q, S) :=
  sd_ofI (by decide +kernel) (Nat.le_of_ble_eq_true rfl) (fun _ _ _ _ _ _ _ _ _ _ C0 h hl => bX9_boat C0 h (lv_sub hl [0, 1, 2] rfl) hm)

def rX9_water : Room := { frames := 2, cells := 0, slots := 0, locals := 49 }
def mX9_water (z : Nat) (v1 : Int32) (v2 : Int32) (v3 : Int32) (S : St) : Option (Int32 × St) :=
  (mX9_isDay S v1).bind fun u1 =>
  if u1 = 0 then
    some ((-30000), S)
  else
    (mX9_isMinute S v2).bind fun u3 =>
    if u3 = 0 then
      some ((-30000), S)
    else
      (mX9_within S v3 1 1439).bind fun u5 =>
      if u5 = 0 then
        some ((-30000), S)
      else
        (mX8_seek z v1 v2 S).bind fun u7 =>
        if u7.1 = 0 then
          some ((-30000), u7.2)
        else
          (mX9_floorOf u7.2 ((fL u7.2 0) * (v3).toInt64) (fL u7.2 1)).bind fun u9 =>
          some ((u9).toInt32, u7.2)
set_option maxHeartbeats 4000000 in
set_option maxRecDepth 100000 in
theorem bX9_water {p : Program} {l : Launch} {e : Env} {s : State} {m : MethodId} {args : Array Value} {below : List Frame} {meth : Method} {c : Code} {D : va_G} {cA : ClassId} {ad : Nat → Nat} {A : Nat → Prop} {H : Heap} {locs : List Loc} {ls : Array Slot} {q : (Int32 × St)} {z : Nat} {v1 : Int32} {v2 : Int32} {v3 : Int32} {S : St} (C0 : sd_Cx RX9 cX9_water 5 (some .int) (Cond.code yX9_water cX9_water 5 (some .int) :: sd_big) p s m args meth c) (h : sd_Wd D vwCl cA sd_nw (wX ad cA) A s S H locs) (hl : lv_has ls 5 [(0, .ref (ad 0)), (1, .int v1), (2, .int v2), (3, .int v3)])  (hm : mX9_water z v1 v2 v3 S = some q) : W p l e rX9_water s m args below meth c H locs 0 0 (MQ below (sd_Qi D vwCl (wX ad cA) A q) args s 0 0 A) (F0 m 0 ls []) := by
  unfold mX9_water at hm
  have hx := C0.1
  have hb := C0.2.1
  refine lv_iload_n hx hb dX9_water_0 rfl (lv_at hl 1 rfl) ?_
  obtain ⟨u1, hu1, hm⟩ := bs hm
  refine sd_Si C0 h kYX9_isDay kmX9_62 [.int v1] (tX9_isDay l D cA ad hu1) rfl hl.1 rfl (Nat.le_of_ble_eq_true rfl) (by decide) dX9_water_1 (by decide) (fun H locs h => ?_)
  refine lv_if_eq (tgt := 25) hx hb dX9_water_4 (by decide) (fun c2 => ?_) (fun c2 => ?_)
  · replace hm := ip c2 hm
    refine lv_sipush (v := (-30000)) hx hb dX9_water_25 (by decide) ?_
    exact sd_iret C0 h (Option.some.inj hm) dX9_water_28
  · replace hm := iq c2 hm
    refine lv_iload_n hx hb dX9_water_7 rfl (lv_at hl 2 rfl) ?_
    obtain ⟨u3, hu3, hm⟩ := bs hm
    refine sd_Si C0 h kYX9_isMinute kmX9_86 [.int v2] (tX9_isMinute l D cA ad hu3) rfl hl.1 rfl (Nat.le_of_ble_eq_true rfl) (by decide) dX9_water_8 (by decide) (fun H locs h => ?_)
    refine lv_if_eq (tgt := 25) hx hb dX9_water_11 (by decide) (fun c4 => ?_) (fun c4 => ?_)
    · replace hm := ip c4 hm
      refine lv_sipush (v := (-30000)) hx hb dX9_water_25 (by decide) ?_
      exact sd_iret C0 h (Option.some.inj hm) dX9_water_28
    · replace hm := iq c4 hm
      refine lv_iload_n hx hb dX9_water_14 rfl (lv_at hl 3 rfl) ?_
      refine lv_iconst (v := 1) hx hb dX9_water_15 (by decide) ?_
      refine lv_sipush (v := 1439) hx hb dX9_water_16 (by decide) ?_
      obtain ⟨u5, hu5, hm⟩ := bs hm
      refine sd_Si C0 h kYX9_within kmX9_89 [.int v3, .int 1, .int 1439] (tX9_within l D cA ad hu5) rfl hl.1 rfl (Nat.le_of_ble_eq_true rfl) (by decide) dX9_water_19 (by decide) (fun H locs h => ?_)
      refine lv_if_ne (tgt := 29) hx hb dX9_water_22 (by decide) (fun c6 => ?_) (fun c6 => ?_)
      · replace hm := iq c6 hm
        refine lv_aload_n hx hb dX9_water_29 rfl (lv_at hl 0 rfl) ?_
        refine sd_get C0 h (C := RX9) (T := TX9) (N := 8) kcX9 0 (aX_0 ad cA _) rfl 0 (by decide) kfX9_10 (v := .ref (ad 1)) rfl dX9_water_30 ?_
        refine sd_get C0 h (C := RX7) (T := TX7) (N := 4) kcX7 1 (aX_1 ad cA _) rfl 1 (by decide) kfX9_93 (v := .ref (ad 6)) rfl dX9_water_33 ?_
        refine lv_astore (lv' := [(4, .ref (ad 6)), (0, .ref (ad 0)), (1, .int v1), (2, .int v2), (3, .int v3)]) hx hb dX9_water_36 hl (by decide) rfl (fun ls hl => ?_)
        refine lv_aload hx hb dX9_water_38 (lv_at hl 0 rfl) ?_
        refine lv_iload_n hx hb dX9_water_40 rfl (lv_at hl 2 rfl) ?_
        refine lv_iload_n hx hb dX9_water_41 rfl (lv_at hl 3 rfl) ?_
        obtain ⟨u7, hu7, hm⟩ := bs hm
        refine sd_Vi C0 h kYX8_seek kmX9_189 6 (aX_6 ad cA _) rfl [.int v1, .int v2] (tX8_seek l D cA ad hu7) rfl hl.1 rfl (Nat.le_of_ble_eq_true rfl) (by decide) dX9_water_42 (by decide) (fun H locs h => ?_)
        refine lv_if_ne (tgt := 52) hx hb dX9_water_45 (by decide) (fun c8 => ?_) (fun c8 => ?_)
        · replace hm := iq c8 hm
          refine lv_aload hx hb dX9_water_52 (lv_at hl 0 rfl) ?_
          refine sd_get C0 h (C := RX8) (T := TX8) (N := 5) kcX8 6 (aX_6 ad cA _) rfl 3 (by decide) kfX9_192 (v := .long (fL u7.2 0)) rfl dX9_water_54 ?_
          refine lv_iload_n hx hb dX9_water_57 rfl (lv_at hl 4 rfl) ?_
          refine lv_i2l hx hb dX9_water_58 (v := (v3).toInt64) rfl ?_
          refine lv_lmul hx hb dX9_water_59 ?_
          refine lv_aload hx hb dX9_water_60 (lv_at hl 0 rfl) ?_
          refine sd_get C0 h (C := RX8) (T := TX8) (N := 5) kcX8 6 (aX_6 ad cA _) rfl 4 (by decide) kfX9_196 (v := .long (fL u7.2 1)) rfl dX9_water_62 ?_
          obtain ⟨u9, hu9, hm⟩ := bs hm
          refine sd_Sl C0 h kYX9_floorOf kmX9_199 [.long ((fL u7.2 0) * (v3).toInt64), .long (fL u7.2 1)] (tX9_floorOf l D cA ad hu9) rfl hl.1 rfl (Nat.le_of_ble_eq_true rfl) (by decide) dX9_water_65 (by decide) (fun H locs h => ?_)
          refine lv_l2i hx hb dX9_water_68 (v := (u9).toInt32) rfl ?_
          exact sd_iret C0 h (Option.some.inj hm) dX9_water_69
        · replace hm := ip c8 hm
          refine lv_sipush (v := (-30000)) hx hb dX9_water_48 (by decide) ?_
          exact sd_iret C0 h (Option.some.inj hm) dX9_water_51
      · replace hm := ip c6 hm
        refine lv_sipush (v := (-30000)) hx hb dX9_water_25 (by decide) ?_
        exact sd_iret C0 h (Option.some.inj hm) dX9_water_28
theorem tX9_water (l : Launch) (D : va_G) (cA : ClassId) (ad : Nat → Nat) {z : Nat} {S : St} {v1 : Int32} {v2 : Int32} {v3 : Int32} {q : (Int32 × St)} (hm : mX9_water z v1 v2 v3 S = some q) : sd_MI l D vwCl cA sd_nw (wX ad cA) yX9_water (Cond.code yX9_water cX9_water 5 (some .int) :: sd_big) rX9_water [.ref (ad 0), .int v1, .int v2, .int v3] S q :=
  sd_ofI (by decide +kernel) (Nat.le_of_ble_eq_true rfl) (fun _ _ _ _ _ _ _ _ _ _ C0 h hl => bX9_water C0 h (lv_sub hl [0, 1, 2, 3] rfl) hm)

def rX9_isReach : Room := { frames := 1, cells := 0, slots := 0, locals := 22 }
def mX9_isReach (S : St) (v0 : Int32) : Option Int32 :=
  (mX9_within S v0 0 400).bind fun u1 =>
  zb u1 u1
set_option maxHeartbeats 4000000 in
set_option maxRecDepth 100000 in
theorem bX9_isReach {p : Program} {l : Launch} {e : Env} {s : State} {m : MethodId} {args : Array Value} {below : List Frame} {meth : Method} {c : Code} {D : va_G} {cA : ClassId} {ad : Nat → Nat} {A : Nat → Prop} {H : Heap} {locs : List Loc} {ls : Array Slot} {q : Int32} {S : St} {v0 : Int32} (C0 : sd_Cx RX9 cX9_isReach 1 (some .boolean) (Cond.code yX9_isReach cX9_isReach 1 (some .boolean) :: sd_big) p s m args meth c) (h : sd_Wd D vwCl cA sd_nw (wX ad cA) A s S H locs) (hl : lv_has ls 1 [(0, .int v0)])  (hm : mX9_isReach S v0 = some q) : W p l e rX9_isReach s m args below meth c H locs 0 0 (MQ below (sd_Qi D vwCl (wX ad cA) A (q, S)) args s 0 0 A) (F0 m 0 ls []) := by
  unfold mX9_isReach at hm
  have hx := C0.1
  have hb := C0.2.1
  refine lv_iload_n hx hb dX9_isReach_0 rfl (lv_at hl 0 rfl) ?_
  refine lv_iconst (v := 0) hx hb dX9_isReach_1 (by decide) ?_
  refine lv_sipush (v := 400) hx hb dX9_isReach_2 (by decide) ?_
  obtain ⟨u1, hu1, hm⟩ := bs hm
  refine sd_Si C0 h kYX9_within kmX9_89 [.int v0, .int 0, .int 400] (tX9_within l D cA ad hu1) rfl hl.1 rfl (Nat.le_of_ble_eq_true rfl) (by decide) dX9_isReach_5 (by decide) (fun H locs h => ?_)
  obtain ⟨hz, hm⟩ := zb_some hm
  exact sd_zret C0 h (congrArg (fun x => (x, S)) hm) hz dX9_isReach_8
theorem tX9_isReach (l : Launch) (D : va_G) (cA : ClassId) (ad : Nat → Nat) {S : St} {v0 : Int32} {q : Int32} (hm : mX9_isReach S v0 = some q) : sd_MI l D vwCl cA sd_nw (wX ad cA) yX9_isReach (Cond.code yX9_isReach cX9_isReach 1 (some .boolean) :: sd_big) rX9_isReach [.int v0] S (q, S) :=
  sd_ofI (by decide +kernel) (Nat.le_of_ble_eq_true rfl) (fun _ _ _ _ _ _ _ _ _ _ C0 h hl => bX9_isReach C0 h (lv_sub hl [0] rfl) hm)

def rX7_measure : Room := { frames := 3, cells := 0, slots := 0, locals := 75 }
def mX7_measure_2b (z : Nat) (rc2 : Int32 → St → Option St) (v1 : Int32) (S : St) : Option St :=
  if (fI S 2) ≤ v1 then
    some S
  else
    (mX7_corrected z v1 S).bind fun u2 =>
    (wr (fA u2.2 16) 200 v1 u2.1).bind fun g3 =>
    rc2 (v1 + 1) (sA u2.2 16 g3)
set_option maxHeartbeats 4000000 in
set_option maxRecDepth 100000 in
theorem bX7_measure_2b {p : Program} {l : Launch} {e : Env} {s : State} {m : MethodId} {args : Array Value} {below : List Frame} {meth : Method} {c : Code} {D : va_G} {cA : ClassId} {ad : Nat → Nat} {A : Nat → Prop} {H : Heap} {locs : List Loc} {ls : Array Slot} {q : St} {z : Nat} {rc2 : Int32 → St → Option St} {v1 : Int32} {S : St} (C0 : sd_Cx RX7 cX7_measure 2 none (Cond.code yX7_measure cX7_measure 2 none :: sd_big) p s m args meth c) (h : sd_Wd D vwCl cA sd_nw (wX ad cA) A s S H locs) (hl : lv_has ls 2 [(0, .ref (ad 1)), (1, .int v1)]) (hrc2 : ∀ (v1 : Int32) (S : St) (H : Heap) (locs : List Loc) (ls : Array Slot), sd_Wd D vwCl cA sd_nw (wX ad cA) A s S H locs → lv_has ls 2 [(0, .ref (ad 1)), (1, .int v1)] → rc2 v1 S = some q → W p l e rX7_measure s m args below meth c H locs 0 0 (MQ below (sd_Qv D vwCl (wX ad cA) A q) args s 0 0 A) (F0 m 2 ls [])) (hm : mX7_measure_2b z rc2 v1 S = some q) : W p l e rX7_measure s m args below meth c H locs 0 0 (MQ below (sd_Qv D vwCl (wX ad cA) A q) args s 0 0 A) (F0 m 2 ls []) := by
  unfold mX7_measure_2b at hm
  have hx := C0.1
  have hb := C0.2.1
  refine lv_iload_n hx hb dX7_measure_2 rfl (lv_at hl 1 rfl) ?_
  refine lv_aload_n hx hb dX7_measure_3 rfl (lv_at hl 0 rfl) ?_
  refine sd_get C0 h (C := RX7) (T := TX7) (N := 4) kcX7 1 (aX_1 ad cA _) rfl 2 (by decide) kfX7_28 (v := .ref (ad 10)) rfl dX7_measure_4 ?_
  refine sd_get C0 h (C := RX6) (T := TX6) (N := 11) kcX6 10 (aX_10 ad cA _) rfl 10 (by decide) kfX7_77 (v := .int (fI S 2)) rfl dX7_measure_7 ?_
  refine lv_icmp_ge (tgt := 30) hx hb dX7_measure_10 (by decide) (fun c1 => ?_) (fun c1 => ?_)
  · replace hm := ip c1 hm
    exact sd_vret C0 h (Option.some.inj hm) dX7_measure_30
  · replace hm := iq c1 hm
    refine lv_aload_n hx hb dX7_measure_13 rfl (lv_at hl 0 rfl) ?_
    refine sd_get C0 h (C := RX7) (T := TX7) (N := 4) kcX7 1 (aX_1 ad cA _) rfl 3 (by decide) kfX7_32 (v := .ref (ad 21)) rfl dX7_measure_14 ?_
    refine lv_iload_n hx hb dX7_measure_17 rfl (lv_at hl 1 rfl) ?_
    refine lv_aload_n hx hb dX7_measure_18 rfl (lv_at hl 0 rfl) ?_
    refine lv_iload_n hx hb dX7_measure_19 rfl (lv_at hl 1 rfl) ?_
    obtain ⟨u2, hu2, hm⟩ := bs hm
    refine sd_Vi C0 h kYX7_corrected kmX7_81 1 (aX_1 ad cA _) rfl [.int v1] (tX7_corrected l D cA ad hu2) rfl hl.1 rfl (Nat.le_of_ble_eq_true rfl) (by decide) dX7_measure_20 (by decide) (fun H locs h => ?_)
    obtain ⟨g3, hg3, hm⟩ := bs hm
    refine sd_wr C0 h (S1 := (sA u2.2 16 g3)) 21 (aX_21 ad cA _) hg3 (eX_21 ad cA _ _) dX7_measure_23 (fun H locs h => ?_)
    refine lv_iinc (v := (v1 + 1)) (lv' := [(1, .int (v1 + 1)), (0, .ref (ad 1))]) hx hb dX7_measure_24 hl (k := 1) rfl rfl (by decide) rfl (fun ls hl => ?_)
    refine lv_goto (tgt := 2) hx hb dX7_measure_27 (by decide) ?_
    exact hrc2 _ _ _ _ _ h (lv_sub hl [1, 0] rfl) hm
def mX7_measure_2 (z : Nat) : Nat → Int32 → St → Option St
  | 0, _, _ => none
  | n + 1, v1, S => mX7_measure_2b z (mX7_measure_2 z n) v1 S
set_option maxHeartbeats 4000000 in
set_option maxRecDepth 100000 in
theorem lX7_measure_2 {p : Program} {l : Launch} {e : Env} {s : State} {m : MethodId} {args : Array Value} {below : List Frame} {meth : Method} {c : Code} {D : va_G} {cA : ClassId} {ad : Nat → Nat} {A : Nat → Prop} {q : St} {z : Nat} (C0 : sd_Cx RX7 cX7_measure 2 none (Cond.code yX7_measure cX7_measure 2 none :: sd_big) p s m args meth c)  : ∀ (n : Nat) (v1 : Int32) (S : St) (H : Heap) (locs : List Loc) (ls : Array Slot), sd_Wd D vwCl cA sd_nw (wX ad cA) A s S H locs → lv_has ls 2 [(0, .ref (ad 1)), (1, .int v1)] → mX7_measure_2 z n v1 S = some q → W p l e rX7_measure s m args below meth c H locs 0 0 (MQ below (sd_Qv D vwCl (wX ad cA) A q) args s 0 0 A) (F0 m 2 ls []) := by
  intro n
  induction n with
  | zero =>
    intro v1 S H locs ls h hl hm
    exact nomatch (show none = some q from hm)
  | succ n ih =>
    intro v1 S H locs ls h hl hm
    exact bX7_measure_2b C0 h hl ih hm
def mX7_measure (z : Nat) (S : St) : Option St :=
  mX7_measure_2 z z 0 S
set_option maxHeartbeats 4000000 in
set_option maxRecDepth 100000 in
theorem bX7_measure {p : Program} {l : Launch} {e : Env} {s : State} {m : MethodId} {args : Array Value} {below : List Frame} {meth : Method} {c : Code} {D : va_G} {cA : ClassId} {ad : Nat → Nat} {A : Nat → Prop} {H : Heap} {locs : List Loc} {ls : Array Slot} {q : St} {z : Nat} {S : St} (C0 : sd_Cx RX7 cX7_measure 2 none (Cond.code yX7_measure cX7_measure 2 none :: sd_big) p s m args meth c) (h : sd_Wd D vwCl cA sd_nw (wX ad cA) A s S H locs) (hl : lv_has ls 2 [(0, .ref (ad 1))])  (hm : mX7_measure z S = some q) : W p l e rX7_measure s m args below meth c H locs 0 0 (MQ below (sd_Qv D vwCl (wX ad cA) A q) args s 0 0 A) (F0 m 0 ls []) := by
  unfold mX7_measure at hm
  have hx := C0.1
  have hb := C0.2.1
  refine lv_iconst (v := 0) hx hb dX7_measure_0 (by decide) ?_
  refine lv_istore_n (lv' := [(1, .int 0), (0, .ref (ad 1))]) hx hb dX7_measure_1 rfl hl (by decide) rfl (fun ls hl => ?_)
  exact lX7_measure_2 C0 _ _ _ _ _ _ h (lv_sub hl [1, 0] rfl) hm
theorem tX7_measure (l : Launch) (D : va_G) (cA : ClassId) (ad : Nat → Nat) {z : Nat} {S : St}  {q : St} (hm : mX7_measure z S = some q) : sd_MV l D vwCl cA sd_nw (wX ad cA) yX7_measure (Cond.code yX7_measure cX7_measure 2 none :: sd_big) rX7_measure [.ref (ad 1)] S q :=
  sd_ofV (by decide +kernel) (Nat.le_of_ble_eq_true rfl) (fun _ _ _ _ _ _ _ _ _ _ C0 h hl => bX7_measure C0 h (lv_sub hl [0] rfl) hm)

def rX3_canCross : Room := { frames := 0, cells := 0, slots := 0, locals := 0 }
def mX3_canCross (S : St) (v1 : Int32) : Option Int32 :=
  (rd (fA S 6) 200 v1).bind fun x1 =>
  if x1 = 2 then
    some 0
  else
    (rd (fA S 16) 200 v1).bind fun x3 =>
    if x3 = (-30000) then
      some 0
    else
      some 1
set_option maxHeartbeats 4000000 in
set_option maxRecDepth 100000 in
theorem bX3_canCross {p : Program} {l : Launch} {e : Env} {s : State} {m : MethodId} {args : Array Value} {below : List Frame} {meth : Method} {c : Code} {D : va_G} {cA : ClassId} {ad : Nat → Nat} {A : Nat → Prop} {H : Heap} {locs : List Loc} {ls : Array Slot} {q : Int32} {S : St} {v1 : Int32} (C0 : sd_Cx RX3 cX3_canCross 2 (some .boolean) (Cond.code yX3_canCross cX3_canCross 2 (some .boolean) :: sd_big) p s m args meth c) (h : sd_Wd D vwCl cA sd_nw (wX ad cA) A s S H locs) (hl : lv_has ls 2 [(0, .ref (ad 47)), (1, .int v1)])  (hm : mX3_canCross S v1 = some q) : W p l e rX3_canCross s m args below meth c H locs 0 0 (MQ below (sd_Qi D vwCl (wX ad cA) A (q, S)) args s 0 0 A) (F0 m 0 ls []) := by
  unfold mX3_canCross at hm
  have hx := C0.1
  have hb := C0.2.1
  refine lv_aload_n hx hb dX3_canCross_0 rfl (lv_at hl 0 rfl) ?_
  refine sd_get C0 h (C := RX3) (T := TX3) (N := 7) kcX3 47 (aX_47 ad cA _) rfl 0 (by decide) kfX3_31 (v := .ref (ad 1)) rfl dX3_canCross_1 ?_
  refine sd_get C0 h (C := RX7) (T := TX7) (N := 4) kcX7 1 (aX_1 ad cA _) rfl 2 (by decide) kfX3_40 (v := .ref (ad 10)) rfl dX3_canCross_4 ?_
  refine sd_get C0 h (C := RX6) (T := TX6) (N := 11) kcX6 10 (aX_10 ad cA _) rfl 0 (by decide) kfX3_56 (v := .ref (ad 11)) rfl dX3_canCross_7 ?_
  refine lv_iload_n hx hb dX3_canCross_10 rfl (lv_at hl 1 rfl) ?_
  obtain ⟨x1, hx1, hm⟩ := bs hm
  refine sd_rd C0 h 11 (aX_11 ad cA _) hx1 dX3_canCross_11 ?_
  refine lv_iconst (v := 2) hx hb dX3_canCross_12 (by decide) ?_
  refine lv_icmp_eq (tgt := 35) hx hb dX3_canCross_13 (by decide) (fun c2 => ?_) (fun c2 => ?_)
  · replace hm := ip c2 hm
    refine lv_iconst (v := 0) hx hb dX3_canCross_35 (by decide) ?_
    exact sd_zret C0 h (congrArg (fun x => (x, S)) (Option.some.inj hm)) rfl dX3_canCross_36
  · replace hm := iq c2 hm
    refine lv_aload_n hx hb dX3_canCross_16 rfl (lv_at hl 0 rfl) ?_
    refine sd_get C0 h (C := RX3) (T := TX3) (N := 7) kcX3 47 (aX_47 ad cA _) rfl 0 (by decide) kfX3_31 (v := .ref (ad 1)) rfl dX3_canCross_17 ?_
    refine sd_get C0 h (C := RX7) (T := TX7) (N := 4) kcX7 1 (aX_1 ad cA _) rfl 3 (by decide) kfX3_59 (v := .ref (ad 21)) rfl dX3_canCross_20 ?_
    refine lv_iload_n hx hb dX3_canCross_23 rfl (lv_at hl 1 rfl) ?_
    obtain ⟨x3, hx3, hm⟩ := bs hm
    refine sd_rd C0 h 21 (aX_21 ad cA _) hx3 dX3_canCross_24 ?_
    refine lv_sipush (v := (-30000)) hx hb dX3_canCross_25 (by decide) ?_
    refine lv_icmp_eq (tgt := 35) hx hb dX3_canCross_28 (by decide) (fun c4 => ?_) (fun c4 => ?_)
    · replace hm := ip c4 hm
      refine lv_iconst (v := 0) hx hb dX3_canCross_35 (by decide) ?_
      exact sd_zret C0 h (congrArg (fun x => (x, S)) (Option.some.inj hm)) rfl dX3_canCross_36
    · replace hm := iq c4 hm
      refine lv_iconst (v := 1) hx hb dX3_canCross_31 (by decide) ?_
      refine lv_goto (tgt := 36) hx hb dX3_canCross_32 (by decide) ?_
      exact sd_zret C0 h (congrArg (fun x => (x, S)) (Option.some.inj hm)) rfl dX3_canCross_36
theorem tX3_canCross (l : Launch) (D : va_G) (cA : ClassId) (ad : Nat → Nat) {S : St} {v1 : Int32} {q : Int32} (hm : mX3_canCross S v1 = some q) : sd_MI l D vwCl cA sd_nw (wX ad cA) yX3_canCross (Cond.code yX3_canCross cX3_canCross 2 (some .boolean) :: sd_big) rX3_canCross [.ref (ad 47), .int v1] S (q, S) :=
  sd_ofI (by decide +kernel) (Nat.le_of_ble_eq_true rfl) (fun _ _ _ _ _ _ _ _ _ _ C0 h hl => bX3_canCross C0 h (lv_sub hl [0, 1] rfl) hm)

def rX3_gather : Room := { frames := 4, cells := 0, slots := 0, locals := 96 }
def mX3_gather_86 (z : Nat) (v1 : Int32) (S : St) : Option St :=
  (wr (fA S 38) 21 20 v1).bind fun g1 =>
  some (sA S 38 g1)
set_option maxHeartbeats 4000000 in
set_option maxRecDepth 100000 in
theorem bX3_gather_86 {p : Program} {l : Launch} {e : Env} {s : State} {m : MethodId} {args : Array Value} {below : List Frame} {meth : Method} {c : Code} {D : va_G} {cA : ClassId} {ad : Nat → Nat} {A : Nat → Prop} {H : Heap} {locs : List Loc} {ls : Array Slot} {q : St} {z : Nat} {v1 : Int32} {S : St} (C0 : sd_Cx RX3 cX3_gather 4 none (Cond.code yX3_gather cX3_gather 4 none :: sd_big) p s m args meth c) (h : sd_Wd D vwCl cA sd_nw (wX ad cA) A s S H locs) (hl : lv_has ls 4 [(0, .ref (ad 47)), (1, .int v1)])  (hm : mX3_gather_86 z v1 S = some q) : W p l e rX3_gather s m args below meth c H locs 0 0 (MQ below (sd_Qv D vwCl (wX ad cA) A q) args s 0 0 A) (F0 m 86 ls []) := by
  unfold mX3_gather_86 at hm
  have hx := C0.1
  have hb := C0.2.1
  refine lv_aload_n hx hb dX3_gather_86 rfl (lv_at hl 0 rfl) ?_
  refine sd_get C0 h (C := RX3) (T := TX3) (N := 7) kcX3 47 (aX_47 ad cA _) rfl 2 (by decide) kfX3_15 (v := .ref (ad 49)) rfl dX3_gather_87 ?_
  refine lv_bipush (v := 20) hx hb dX3_gather_90 (by decide) ?_
  refine lv_iload_n hx hb dX3_gather_92 rfl (lv_at hl 1 rfl) ?_
  obtain ⟨g1, hg1, hm⟩ := bs hm
  refine sd_wr C0 h (S1 := (sA S 38 g1)) 49 (aX_49 ad cA _) hg1 (eX_49 ad cA _ _) dX3_gather_93 (fun H locs h => ?_)
  exact sd_vret C0 h (Option.some.inj hm) dX3_gather_94
def mX3_gather_26b (z : Nat) (rc11 : Int32 → Int32 → St → Option St) (rc26 : Int32 → Int32 → St → Option St) (v2 : Int32) (v1 : Int32) (v3 : Int32) (S : St) : Option St :=
  if (fI S 2) ≤ v3 then
    rc11 v1 (v2 + 1) S
  else
    (rd (fA S 11) 200 v3).bind fun x2 =>
    if x2 = v2 then
      (mX3_canCross S v3).bind fun u4 =>
      if u4 = 0 then
        rc26 v1 (v3 + 1) S
      else
        (wr (fA S 37) 200 v1 v3).bind fun g6 =>
        rc26 (v1 + 1) (v3 + 1) (sA S 37 g6)
    else
      rc26 v1 (v3 + 1) S
set_option maxHeartbeats 4000000 in
set_option maxRecDepth 100000 in
theorem bX3_gather_26b {p : Program} {l : Launch} {e : Env} {s : State} {m : MethodId} {args : Array Value} {below : List Frame} {meth : Method} {c : Code} {D : va_G} {cA : ClassId} {ad : Nat → Nat} {A : Nat → Prop} {H : Heap} {locs : List Loc} {ls : Array Slot} {q : St} {z : Nat} {rc11 : Int32 → Int32 → St → Option St} {rc26 : Int32 → Int32 → St → Option St} {v2 : Int32} {v1 : Int32} {v3 : Int32} {S : St} (C0 : sd_Cx RX3 cX3_gather 4 none (Cond.code yX3_gather cX3_gather 4 none :: sd_big) p s m args meth c) (h : sd_Wd D vwCl cA sd_nw (wX ad cA) A s S H locs) (hl : lv_has ls 4 [(0, .ref (ad 47)), (1, .int v1), (2, .int v2), (3, .int v3)]) (hrc11 : ∀ (v1 : Int32) (v2 : Int32) (S : St) (H : Heap) (locs : List Loc) (ls : Array Slot), sd_Wd D vwCl cA sd_nw (wX ad cA) A s S H locs → lv_has ls 4 [(0, .ref (ad 47)), (1, .int v1), (2, .int v2)] → rc11 v1 v2 S = some q → W p l e rX3_gather s m args below meth c H locs 0 0 (MQ below (sd_Qv D vwCl (wX ad cA) A q) args s 0 0 A) (F0 m 11 ls [])) (hrc26 : ∀ (v1 : Int32) (v3 : Int32) (S : St) (H : Heap) (locs : List Loc) (ls : Array Slot), sd_Wd D vwCl cA sd_nw (wX ad cA) A s S H locs → lv_has ls 4 [(0, .ref (ad 47)), (1, .int v1), (2, .int v2), (3, .int v3)] → rc26 v1 v3 S = some q → W p l e rX3_gather s m args below meth c H locs 0 0 (MQ below (sd_Qv D vwCl (wX ad cA) A q) args s 0 0 A) (F0 m 26 ls [])) (hm : mX3_gather_26b z rc11 rc26 v2 v1 v3 S = some q) : W p l e rX3_gather s m args below meth c H locs 0 0 (MQ below (sd_Qv D vwCl (wX ad cA) A q) args s 0 0 A) (F0 m 26 ls []) := by
  unfold mX3_gather_26b at hm
  have hx := C0.1
  have hb := C0.2.1
  refine lv_iload_n hx hb dX3_gather_26 rfl (lv_at hl 3 rfl) ?_
  refine lv_aload_n hx hb dX3_gather_27 rfl (lv_at hl 0 rfl) ?_
  refine sd_get C0 h (C := RX3) (T := TX3) (N := 7) kcX3 47 (aX_47 ad cA _) rfl 0 (by decide) kfX3_31 (v := .ref (ad 1)) rfl dX3_gather_28 ?_
  refine sd_get C0 h (C := RX7) (T := TX7) (N := 4) kcX7 1 (aX_1 ad cA _) rfl 2 (by decide) kfX3_40 (v := .ref (ad 10)) rfl dX3_gather_31 ?_
  refine sd_get C0 h (C := RX6) (T := TX6) (N := 11) kcX6 10 (aX_10 ad cA _) rfl 10 (by decide) kfX3_44 (v := .int (fI S 2)) rfl dX3_gather_34 ?_
  refine lv_icmp_ge (tgt := 80) hx hb dX3_gather_37 (by decide) (fun c1 => ?_) (fun c1 => ?_)
  · replace hm := ip c1 hm
    refine lv_iinc (v := (v2 + 1)) (lv' := [(2, .int (v2 + 1)), (0, .ref (ad 47)), (1, .int v1), (3, .int v3)]) hx hb dX3_gather_80 hl (k := 2) rfl rfl (by decide) rfl (fun ls hl => ?_)
    refine lv_goto (tgt := 11) hx hb dX3_gather_83 (by decide) ?_
    exact hrc11 _ _ _ _ _ _ h (lv_sub hl [1, 2, 0] rfl) hm
  · replace hm := iq c1 hm
    refine lv_aload_n hx hb dX3_gather_40 rfl (lv_at hl 0 rfl) ?_
    refine sd_get C0 h (C := RX3) (T := TX3) (N := 7) kcX3 47 (aX_47 ad cA _) rfl 0 (by decide) kfX3_31 (v := .ref (ad 1)) rfl dX3_gather_41 ?_
    refine sd_get C0 h (C := RX7) (T := TX7) (N := 4) kcX7 1 (aX_1 ad cA _) rfl 2 (by decide) kfX3_40 (v := .ref (ad 10)) rfl dX3_gather_44 ?_
    refine sd_get C0 h (C := RX6) (T := TX6) (N := 11) kcX6 10 (aX_10 ad cA _) rfl 5 (by decide) kfX3_49 (v := .ref (ad 16)) rfl dX3_gather_47 ?_
    refine lv_iload_n hx hb dX3_gather_50 rfl (lv_at hl 3 rfl) ?_
    obtain ⟨x2, hx2, hm⟩ := bs hm
    refine sd_rd C0 h 16 (aX_16 ad cA _) hx2 dX3_gather_51 ?_
    refine lv_iload_n hx hb dX3_gather_52 rfl (lv_at hl 2 rfl) ?_
    refine lv_icmp_ne (tgt := 74) hx hb dX3_gather_53 (by decide) (fun c3 => ?_) (fun c3 => ?_)
    · replace hm := iq c3 hm
      refine lv_iinc (v := (v3 + 1)) (lv' := [(3, .int (v3 + 1)), (0, .ref (ad 47)), (1, .int v1), (2, .int v2)]) hx hb dX3_gather_74 hl (k := 3) rfl rfl (by decide) rfl (fun ls hl => ?_)
      refine lv_goto (tgt := 26) hx hb dX3_gather_77 (by decide) ?_
      exact hrc26 _ _ _ _ _ _ h (lv_sub hl [1, 2, 3, 0] rfl) hm
    · replace hm := ip c3 hm
      refine lv_aload_n hx hb dX3_gather_56 rfl (lv_at hl 0 rfl) ?_
      refine lv_iload_n hx hb dX3_gather_57 rfl (lv_at hl 3 rfl) ?_
      obtain ⟨u4, hu4, hm⟩ := bs hm
      refine sd_Vi C0 h kYX3_canCross kmX3_52 47 (aX_47 ad cA _) rfl [.int v3] (tX3_canCross l D cA ad hu4) rfl hl.1 rfl (Nat.le_of_ble_eq_true rfl) (by decide) dX3_gather_58 (by decide) (fun H locs h => ?_)
      refine lv_if_eq (tgt := 74) hx hb dX3_gather_61 (by decide) (fun c5 => ?_) (fun c5 => ?_)
      · replace hm := ip c5 hm
        refine lv_iinc (v := (v3 + 1)) (lv' := [(3, .int (v3 + 1)), (0, .ref (ad 47)), (1, .int v1), (2, .int v2)]) hx hb dX3_gather_74 hl (k := 3) rfl rfl (by decide) rfl (fun ls hl => ?_)
        refine lv_goto (tgt := 26) hx hb dX3_gather_77 (by decide) ?_
        exact hrc26 _ _ _ _ _ _ h (lv_sub hl [1, 2, 3, 0] rfl) hm
      · replace hm := iq c5 hm
        refine lv_aload_n hx hb dX3_gather_64 rfl (lv_at hl 0 rfl) ?_
        refine sd_get C0 h (C := RX3) (T := TX3) (N := 7) kcX3 47 (aX_47 ad cA _) rfl 1 (by decide) kfX3_9 (v := .ref (ad 48)) rfl dX3_gather_65 ?_
        refine lv_iload_n hx hb dX3_gather_68 rfl (lv_at hl 1 rfl) ?_
        refine lv_iload_n hx hb dX3_gather_69 rfl (lv_at hl 3 rfl) ?_
        obtain ⟨g6, hg6, hm⟩ := bs hm
        refine sd_wr C0 h (S1 := (sA S 37 g6)) 48 (aX_48 ad cA _) hg6 (eX_48 ad cA _ _) dX3_gather_70 (fun H locs h => ?_)
        refine lv_iinc (v := (v1 + 1)) (lv' := [(1, .int (v1 + 1)), (0, .ref (ad 47)), (2, .int v2), (3, .int v3)]) hx hb dX3_gather_71 hl (k := 1) rfl rfl (by decide) rfl (fun ls hl => ?_)
        refine lv_iinc (v := (v3 + 1)) (lv' := [(3, .int (v3 + 1)), (1, .int (v1 + 1)), (0, .ref (ad 47)), (2, .int v2)]) hx hb dX3_gather_74 hl (k := 3) rfl rfl (by decide) rfl (fun ls hl => ?_)
        refine lv_goto (tgt := 26) hx hb dX3_gather_77 (by decide) ?_
        exact hrc26 _ _ _ _ _ _ h (lv_sub hl [2, 1, 3, 0] rfl) hm
def mX3_gather_26 (z : Nat) (rc11 : Int32 → Int32 → St → Option St) (v2 : Int32) : Nat → Int32 → Int32 → St → Option St
  | 0, _, _, _ => none
  | n + 1, v1, v3, S => mX3_gather_26b z rc11 (mX3_gather_26 z rc11 v2 n) v2 v1 v3 S
set_option maxHeartbeats 4000000 in
set_option maxRecDepth 100000 in
theorem lX3_gather_26 {p : Program} {l : Launch} {e : Env} {s : State} {m : MethodId} {args : Array Value} {below : List Frame} {meth : Method} {c : Code} {D : va_G} {cA : ClassId} {ad : Nat → Nat} {A : Nat → Prop} {q : St} {z : Nat} {rc11 : Int32 → Int32 → St → Option St} {v2 : Int32} (C0 : sd_Cx RX3 cX3_gather 4 none (Cond.code yX3_gather cX3_gather 4 none :: sd_big) p s m args meth c) (hrc11 : ∀ (v1 : Int32) (v2 : Int32) (S : St) (H : Heap) (locs : List Loc) (ls : Array Slot), sd_Wd D vwCl cA sd_nw (wX ad cA) A s S H locs → lv_has ls 4 [(0, .ref (ad 47)), (1, .int v1), (2, .int v2)] → rc11 v1 v2 S = some q → W p l e rX3_gather s m args below meth c H locs 0 0 (MQ below (sd_Qv D vwCl (wX ad cA) A q) args s 0 0 A) (F0 m 11 ls [])) : ∀ (n : Nat) (v1 : Int32) (v3 : Int32) (S : St) (H : Heap) (locs : List Loc) (ls : Array Slot), sd_Wd D vwCl cA sd_nw (wX ad cA) A s S H locs → lv_has ls 4 [(0, .ref (ad 47)), (1, .int v1), (2, .int v2), (3, .int v3)] → mX3_gather_26 z rc11 v2 n v1 v3 S = some q → W p l e rX3_gather s m args below meth c H locs 0 0 (MQ below (sd_Qv D vwCl (wX ad cA) A q) args s 0 0 A) (F0 m 26 ls []) := by
  intro n
  induction n with
  | zero =>
    intro v1 v3 S H locs ls h hl hm
    exact nomatch (show none = some q from hm)
  | succ n ih =>
    intro v1 v3 S H locs ls h hl hm
    exact bX3_gather_26b C0 h hl hrc11 ih hm
def mX3_gather_11b (z : Nat) (rc11 : Int32 → Int32 → St → Option St) (v1 : Int32) (v2 : Int32) (S : St) : Option St :=
  if 20 ≤ v2 then
    mX3_gather_86 z v1 S
  else
    (wr (fA S 38) 21 v2 v1).bind fun g2 =>
    mX3_gather_26 z rc11 v2 z v1 0 (sA S 38 g2)
set_option maxHeartbeats 4000000 in
set_option maxRecDepth 100000 in
theorem bX3_gather_11b {p : Program} {l : Launch} {e : Env} {s : State} {m : MethodId} {args : Array Value} {below : List Frame} {meth : Method} {c : Code} {D : va_G} {cA : ClassId} {ad : Nat → Nat} {A : Nat → Prop} {H : Heap} {locs : List Loc} {ls : Array Slot} {q : St} {z : Nat} {rc11 : Int32 → Int32 → St → Option St} {v1 : Int32} {v2 : Int32} {S : St} (C0 : sd_Cx RX3 cX3_gather 4 none (Cond.code yX3_gather cX3_gather 4 none :: sd_big) p s m args meth c) (h : sd_Wd D vwCl cA sd_nw (wX ad cA) A s S H locs) (hl : lv_has ls 4 [(0, .ref (ad 47)), (1, .int v1), (2, .int v2)]) (hrc11 : ∀ (v1 : Int32) (v2 : Int32) (S : St) (H : Heap) (locs : List Loc) (ls : Array Slot), sd_Wd D vwCl cA sd_nw (wX ad cA) A s S H locs → lv_has ls 4 [(0, .ref (ad 47)), (1, .int v1), (2, .int v2)] → rc11 v1 v2 S = some q → W p l e rX3_gather s m args below meth c H locs 0 0 (MQ below (sd_Qv D vwCl (wX ad cA) A q) args s 0 0 A) (F0 m 11 ls [])) (hm : mX3_gather_11b z rc11 v1 v2 S = some q) : W p l e rX3_gather s m args below meth c H locs 0 0 (MQ below (sd_Qv D vwCl (wX ad cA) A q) args s 0 0 A) (F0 m 11 ls []) := by
  unfold mX3_gather_11b at hm
  have hx := C0.1
  have hb := C0.2.1
  refine lv_iload_n hx hb dX3_gather_11 rfl (lv_at hl 2 rfl) ?_
  refine lv_bipush (v := 20) hx hb dX3_gather_12 (by decide) ?_
  refine lv_icmp_ge (tgt := 86) hx hb dX3_gather_14 (by decide) (fun c1 => ?_) (fun c1 => ?_)
  · replace hm := ip c1 hm
    exact bX3_gather_86 C0 h (lv_sub hl [0, 1] rfl) hm
  · replace hm := iq c1 hm
    refine lv_aload_n hx hb dX3_gather_17 rfl (lv_at hl 0 rfl) ?_
    refine sd_get C0 h (C := RX3) (T := TX3) (N := 7) kcX3 47 (aX_47 ad cA _) rfl 2 (by decide) kfX3_15 (v := .ref (ad 49)) rfl dX3_gather_18 ?_
    refine lv_iload_n hx hb dX3_gather_21 rfl (lv_at hl 2 rfl) ?_
    refine lv_iload_n hx hb dX3_gather_22 rfl (lv_at hl 1 rfl) ?_
    obtain ⟨g2, hg2, hm⟩ := bs hm
    refine sd_wr C0 h (S1 := (sA S 38 g2)) 49 (aX_49 ad cA _) hg2 (eX_49 ad cA _ _) dX3_gather_23 (fun H locs h => ?_)
    refine lv_iconst (v := 0) hx hb dX3_gather_24 (by decide) ?_
    refine lv_istore_n (lv' := [(3, .int 0), (0, .ref (ad 47)), (1, .int v1), (2, .int v2)]) hx hb dX3_gather_25 rfl hl (by decide) rfl (fun ls hl => ?_)
    exact lX3_gather_26 C0 hrc11 _ _ _ _ _ _ _ h (lv_sub hl [1, 2, 3, 0] rfl) hm
def mX3_gather_11 (z : Nat) : Nat → Int32 → Int32 → St → Option St
  | 0, _, _, _ => none
  | n + 1, v1, v2, S => mX3_gather_11b z (mX3_gather_11 z n) v1 v2 S
set_option maxHeartbeats 4000000 in
set_option maxRecDepth 100000 in
theorem lX3_gather_11 {p : Program} {l : Launch} {e : Env} {s : State} {m : MethodId} {args : Array Value} {below : List Frame} {meth : Method} {c : Code} {D : va_G} {cA : ClassId} {ad : Nat → Nat} {A : Nat → Prop} {q : St} {z : Nat} (C0 : sd_Cx RX3 cX3_gather 4 none (Cond.code yX3_gather cX3_gather 4 none :: sd_big) p s m args meth c)  : ∀ (n : Nat) (v1 : Int32) (v2 : Int32) (S : St) (H : Heap) (locs : List Loc) (ls : Array Slot), sd_Wd D vwCl cA sd_nw (wX ad cA) A s S H locs → lv_has ls 4 [(0, .ref (ad 47)), (1, .int v1), (2, .int v2)] → mX3_gather_11 z n v1 v2 S = some q → W p l e rX3_gather s m args below meth c H locs 0 0 (MQ below (sd_Qv D vwCl (wX ad cA) A q) args s 0 0 A) (F0 m 11 ls []) := by
  intro n
  induction n with
  | zero =>
    intro v1 v2 S H locs ls h hl hm
    exact nomatch (show none = some q from hm)
  | succ n ih =>
    intro v1 v2 S H locs ls h hl hm
    exact bX3_gather_11b C0 h hl ih hm
def mX3_gather (z : Nat) (S : St) : Option St :=
  (mX7_measure z S).bind fun u1 =>
  mX3_gather_11 z z 0 0 u1
set_option maxHeartbeats 4000000 in
set_option maxRecDepth 100000 in
theorem bX3_gather {p : Program} {l : Launch} {e : Env} {s : State} {m : MethodId} {args : Array Value} {below : List Frame} {meth : Method} {c : Code} {D : va_G} {cA : ClassId} {ad : Nat → Nat} {A : Nat → Prop} {H : Heap} {locs : List Loc} {ls : Array Slot} {q : St} {z : Nat} {S : St} (C0 : sd_Cx RX3 cX3_gather 4 none (Cond.code yX3_gather cX3_gather 4 none :: sd_big) p s m args meth c) (h : sd_Wd D vwCl cA sd_nw (wX ad cA) A s S H locs) (hl : lv_has ls 4 [(0, .ref (ad 47))])  (hm : mX3_gather z S = some q) : W p l e rX3_gather s m args below meth c H locs 0 0 (MQ below (sd_Qv D vwCl (wX ad cA) A q) args s 0 0 A) (F0 m 0 ls []) := by
  unfold mX3_gather at hm
  have hx := C0.1
  have hb := C0.2.1
  refine lv_aload_n hx hb dX3_gather_0 rfl (lv_at hl 0 rfl) ?_
  refine sd_get C0 h (C := RX3) (T := TX3) (N := 7) kcX3 47 (aX_47 ad cA _) rfl 0 (by decide) kfX3_31 (v := .ref (ad 1)) rfl dX3_gather_1 ?_
  obtain ⟨u1, hu1, hm⟩ := bs hm
  refine sd_Vv C0 h kYX7_measure kmX3_35 1 (aX_1 ad cA _) rfl [] (tX7_measure l D cA ad hu1) rfl hl.1 rfl (Nat.le_of_ble_eq_true rfl) (by decide) dX3_gather_4 (by decide) (fun H locs h => ?_)
  refine lv_iconst (v := 0) hx hb dX3_gather_7 (by decide) ?_
  refine lv_istore_n (lv' := [(1, .int 0), (0, .ref (ad 47))]) hx hb dX3_gather_8 rfl hl (by decide) rfl (fun ls hl => ?_)
  refine lv_iconst (v := 0) hx hb dX3_gather_9 (by decide) ?_
  refine lv_istore_n (lv' := [(2, .int 0), (1, .int 0), (0, .ref (ad 47))]) hx hb dX3_gather_10 rfl hl (by decide) rfl (fun ls hl => ?_)
  exact lX3_gather_11 C0 _ _ _ _ _ _ _ h (lv_sub hl [2, 1, 0] rfl) hm
theorem tX3_gather (l : Launch) (D : va_G) (cA : ClassId) (ad : Nat → Nat) {z : Nat} {S : St}  {q : St} (hm : mX3_gather z S = some q) : sd_MV l D vwCl cA sd_nw (wX ad cA) yX3_gather (Cond.code yX3_gather cX3_gather 4 none :: sd_big) rX3_gather [.ref (ad 47)] S q :=
  sd_ofV (by decide +kernel) (Nat.le_of_ble_eq_true rfl) (fun _ _ _ _ _ _ _ _ _ _ C0 h hl => bX3_gather C0 h (lv_sub hl [0] rfl) hm)

def rX6_apart : Room := { frames := 0, cells := 0, slots := 0, locals := 0 }
def mX6_apart (S : St) (v1 : Int32) (v2 : Int32) : Option Int32 :=
  (rd (fA S 7) 200 v1).bind fun x1 =>
  (rd (fA S 7) 200 v2).bind fun x2 =>
  (rd (fA S 8) 200 v1).bind fun x3 =>
  (rd (fA S 8) 200 v2).bind fun x4 =>
  some (((x1 - x2) * (x1 - x2)) + ((x3 - x4) * (x3 - x4)))
set_option maxHeartbeats 4000000 in
set_option maxRecDepth 100000 in
theorem bX6_apart {p : Program} {l : Launch} {e : Env} {s : State} {m : MethodId} {args : Array Value} {below : List Frame} {meth : Method} {c : Code} {D : va_G} {cA : ClassId} {ad : Nat → Nat} {A : Nat → Prop} {H : Heap} {locs : List Loc} {ls : Array Slot} {q : Int32} {S : St} {v1 : Int32} {v2 : Int32} (C0 : sd_Cx RX6 cX6_apart 5 (some .int) (Cond.code yX6_apart cX6_apart 5 (some .int) :: sd_big) p s m args meth c) (h : sd_Wd D vwCl cA sd_nw (wX ad cA) A s S H locs) (hl : lv_has ls 5 [(0, .ref (ad 10)), (1, .int v1), (2, .int v2)])  (hm : mX6_apart S v1 v2 = some q) : W p l e rX6_apart s m args below meth c H locs 0 0 (MQ below (sd_Qi D vwCl (wX ad cA) A (q, S)) args s 0 0 A) (F0 m 0 ls []) := by
  unfold mX6_apart at hm
  have hx := C0.1
  have hb := C0.2.1
  refine lv_aload_n hx hb dX6_apart_0 rfl (lv_at hl 0 rfl) ?_
  refine sd_get C0 h (C := RX6) (T := TX6) (N := 11) kcX6 10 (aX_10 ad cA _) rfl 1 (by decide) kfX6_15 (v := .ref (ad 12)) rfl dX6_apart_1 ?_
  refine lv_iload_n hx hb dX6_apart_4 rfl (lv_at hl 1 rfl) ?_
  obtain ⟨x1, hx1, hm⟩ := bs hm
  refine sd_rd C0 h 12 (aX_12 ad cA _) hx1 dX6_apart_5 ?_
  refine lv_aload_n hx hb dX6_apart_6 rfl (lv_at hl 0 rfl) ?_
  refine sd_get C0 h (C := RX6) (T := TX6) (N := 11) kcX6 10 (aX_10 ad cA _) rfl 1 (by decide) kfX6_15 (v := .ref (ad 12)) rfl dX6_apart_7 ?_
  refine lv_iload_n hx hb dX6_apart_10 rfl (lv_at hl 2 rfl) ?_
  obtain ⟨x2, hx2, hm⟩ := bs hm
  refine sd_rd C0 h 12 (aX_12 ad cA _) hx2 dX6_apart_11 ?_
  refine lv_isub hx hb dX6_apart_12 ?_
  refine lv_istore_n (lv' := [(3, .int (x1 - x2)), (0, .ref (ad 10)), (1, .int v1), (2, .int v2)]) hx hb dX6_apart_13 rfl hl (by decide) rfl (fun ls hl => ?_)
  refine lv_aload_n hx hb dX6_apart_14 rfl (lv_at hl 1 rfl) ?_
  refine sd_get C0 h (C := RX6) (T := TX6) (N := 11) kcX6 10 (aX_10 ad cA _) rfl 2 (by decide) kfX6_18 (v := .ref (ad 13)) rfl dX6_apart_15 ?_
  refine lv_iload_n hx hb dX6_apart_18 rfl (lv_at hl 2 rfl) ?_
  obtain ⟨x3, hx3, hm⟩ := bs hm
  refine sd_rd C0 h 13 (aX_13 ad cA _) hx3 dX6_apart_19 ?_
  refine lv_aload_n hx hb dX6_apart_20 rfl (lv_at hl 1 rfl) ?_
  refine sd_get C0 h (C := RX6) (T := TX6) (N := 11) kcX6 10 (aX_10 ad cA _) rfl 2 (by decide) kfX6_18 (v := .ref (ad 13)) rfl dX6_apart_21 ?_
  refine lv_iload_n hx hb dX6_apart_24 rfl (lv_at hl 3 rfl) ?_
  obtain ⟨x4, hx4, hm⟩ := bs hm
  refine sd_rd C0 h 13 (aX_13 ad cA _) hx4 dX6_apart_25 ?_
  refine lv_isub hx hb dX6_apart_26 ?_
  refine lv_istore (lv' := [(4, .int (x3 - x4)), (3, .int (x1 - x2)), (0, .ref (ad 10)), (1, .int v1), (2, .int v2)]) hx hb dX6_apart_27 hl (by decide) rfl (fun ls hl => ?_)
  refine lv_iload_n hx hb dX6_apart_29 rfl (lv_at hl 1 rfl) ?_
  refine lv_iload_n hx hb dX6_apart_30 rfl (lv_at hl 1 rfl) ?_
  refine lv_imul hx hb dX6_apart_31 ?_
  refine lv_iload hx hb dX6_apart_32 (lv_at hl 0 rfl) ?_
  refine lv_iload hx hb dX6_apart_34 (lv_at hl 0 rfl) ?_
  refine lv_imul hx hb dX6_apart_36 ?_
  refine lv_iadd hx hb dX6_apart_37 ?_
  exact sd_iret C0 h (congrArg (fun x => (x, S)) (Option.some.inj hm)) dX6_apart_38
theorem tX6_apart (l : Launch) (D : va_G) (cA : ClassId) (ad : Nat → Nat) {S : St} {v1 : Int32} {v2 : Int32} {q : Int32} (hm : mX6_apart S v1 v2 = some q) : sd_MI l D vwCl cA sd_nw (wX ad cA) yX6_apart (Cond.code yX6_apart cX6_apart 5 (some .int) :: sd_big) rX6_apart [.ref (ad 10), .int v1, .int v2] S (q, S) :=
  sd_ofI (by decide +kernel) (Nat.le_of_ble_eq_true rfl) (fun _ _ _ _ _ _ _ _ _ _ C0 h hl => bX6_apart C0 h (lv_sub hl [0, 1, 2] rfl) hm)

def rX3_find : Room := { frames := 1, cells := 0, slots := 0, locals := 24 }
def mX3_find_136 (z : Nat) (S : St) : Option (Int32 × St) :=
  if (fI S 10) = (-1) then
    some (0, S)
  else
    some (1, S)
set_option maxHeartbeats 4000000 in
set_option maxRecDepth 100000 in
theorem bX3_find_136 {p : Program} {l : Launch} {e : Env} {s : State} {m : MethodId} {args : Array Value} {below : List Frame} {meth : Method} {c : Code} {D : va_G} {cA : ClassId} {ad : Nat → Nat} {A : Nat → Prop} {H : Heap} {locs : List Loc} {ls : Array Slot} {q : (Int32 × St)} {z : Nat} {S : St} (C0 : sd_Cx RX3 cX3_find 7 (some .boolean) (Cond.code yX3_find cX3_find 7 (some .boolean) :: sd_big) p s m args meth c) (h : sd_Wd D vwCl cA sd_nw (wX ad cA) A s S H locs) (hl : lv_has ls 7 [(0, .ref (ad 47))])  (hm : mX3_find_136 z S = some q) : W p l e rX3_find s m args below meth c H locs 0 0 (MQ below (sd_Qi D vwCl (wX ad cA) A q) args s 0 0 A) (F0 m 136 ls []) := by
  unfold mX3_find_136 at hm
  have hx := C0.1
  have hb := C0.2.1
  refine lv_aload_n hx hb dX3_find_136 rfl (lv_at hl 0 rfl) ?_
  refine sd_get C0 h (C := RX3) (T := TX3) (N := 7) kcX3 47 (aX_47 ad cA _) rfl 4 (by decide) kfX3_21 (v := .int (fI S 10)) rfl dX3_find_137 ?_
  refine lv_iconst (v := (-1)) hx hb dX3_find_140 (by decide) ?_
  refine lv_icmp_eq (tgt := 148) hx hb dX3_find_141 (by decide) (fun c1 => ?_) (fun c1 => ?_)
  · replace hm := ip c1 hm
    refine lv_iconst (v := 0) hx hb dX3_find_148 (by decide) ?_
    exact sd_zret C0 h (Option.some.inj hm) rfl dX3_find_149
  · replace hm := iq c1 hm
    refine lv_iconst (v := 1) hx hb dX3_find_144 (by decide) ?_
    refine lv_goto (tgt := 149) hx hb dX3_find_145 (by decide) ?_
    exact sd_zret C0 h (Option.some.inj hm) rfl dX3_find_149
def mX3_find_48b (z : Nat) (rc27 : Int32 → St → Option (Int32 × St)) (rc48 : Int32 → St → Option (Int32 × St)) (v1 : Int32) (v2 : Int32) (v4 : Int32) (v5 : Int32) (S : St) : Option (Int32 × St) :=
  (rd (fA S 38) 21 (v2 + 1)).bind fun x1 =>
  if x1 ≤ v5 then
    rc27 (v4 + 1) S
  else
    (rd (fA S 37) 200 v4).bind fun x3 =>
    (rd (fA S 37) 200 v5).bind fun x4 =>
    (mX6_apart S x3 x4).bind fun u5 =>
    if (fI S 12) ≤ u5 then
      rc48 (v5 + 1) S
    else
      (rd (fA (sI S 12 u5) 37) 200 v4).bind fun x7 =>
      (rd (fA (sI (sI S 12 u5) 10 x7) 37) 200 v5).bind fun x8 =>
      rc48 (v5 + 1) (sI (sI (sI S 12 u5) 10 x7) 11 x8)
set_option maxHeartbeats 4000000 in
set_option maxRecDepth 100000 in
theorem bX3_find_48b {p : Program} {l : Launch} {e : Env} {s : State} {m : MethodId} {args : Array Value} {below : List Frame} {meth : Method} {c : Code} {D : va_G} {cA : ClassId} {ad : Nat → Nat} {A : Nat → Prop} {H : Heap} {locs : List Loc} {ls : Array Slot} {q : (Int32 × St)} {z : Nat} {rc27 : Int32 → St → Option (Int32 × St)} {rc48 : Int32 → St → Option (Int32 × St)} {v1 : Int32} {v2 : Int32} {v4 : Int32} {v5 : Int32} {S : St} (C0 : sd_Cx RX3 cX3_find 7 (some .boolean) (Cond.code yX3_find cX3_find 7 (some .boolean) :: sd_big) p s m args meth c) (h : sd_Wd D vwCl cA sd_nw (wX ad cA) A s S H locs) (hl : lv_has ls 7 [(0, .ref (ad 47)), (1, .int v1), (2, .int v2), (4, .int v4), (5, .int v5)]) (hrc27 : ∀ (v4 : Int32) (S : St) (H : Heap) (locs : List Loc) (ls : Array Slot), sd_Wd D vwCl cA sd_nw (wX ad cA) A s S H locs → lv_has ls 7 [(0, .ref (ad 47)), (1, .int v1), (2, .int v2), (4, .int v4)] → rc27 v4 S = some q → W p l e rX3_find s m args below meth c H locs 0 0 (MQ below (sd_Qi D vwCl (wX ad cA) A q) args s 0 0 A) (F0 m 27 ls [])) (hrc48 : ∀ (v5 : Int32) (S : St) (H : Heap) (locs : List Loc) (ls : Array Slot), sd_Wd D vwCl cA sd_nw (wX ad cA) A s S H locs → lv_has ls 7 [(0, .ref (ad 47)), (1, .int v1), (2, .int v2), (4, .int v4), (5, .int v5)] → rc48 v5 S = some q → W p l e rX3_find s m args below meth c H locs 0 0 (MQ below (sd_Qi D vwCl (wX ad cA) A q) args s 0 0 A) (F0 m 48 ls [])) (hm : mX3_find_48b z rc27 rc48 v1 v2 v4 v5 S = some q) : W p l e rX3_find s m args below meth c H locs 0 0 (MQ below (sd_Qi D vwCl (wX ad cA) A q) args s 0 0 A) (F0 m 48 ls []) := by
  unfold mX3_find_48b at hm
  have hx := C0.1
  have hb := C0.2.1
  refine lv_iload hx hb dX3_find_48 (lv_at hl 4 rfl) ?_
  refine lv_aload_n hx hb dX3_find_50 rfl (lv_at hl 0 rfl) ?_
  refine sd_get C0 h (C := RX3) (T := TX3) (N := 7) kcX3 47 (aX_47 ad cA _) rfl 2 (by decide) kfX3_15 (v := .ref (ad 49)) rfl dX3_find_51 ?_
  refine lv_iload_n hx hb dX3_find_54 rfl (lv_at hl 2 rfl) ?_
  refine lv_iconst (v := 1) hx hb dX3_find_55 (by decide) ?_
  refine lv_iadd hx hb dX3_find_56 ?_
  obtain ⟨x1, hx1, hm⟩ := bs hm
  refine sd_rd C0 h 49 (aX_49 ad cA _) hx1 dX3_find_57 ?_
  refine lv_icmp_ge (tgt := 130) hx hb dX3_find_58 (by decide) (fun c2 => ?_) (fun c2 => ?_)
  · replace hm := ip c2 hm
    refine lv_iinc (v := (v4 + 1)) (lv' := [(4, .int (v4 + 1)), (0, .ref (ad 47)), (1, .int v1), (2, .int v2), (5, .int v5)]) hx hb dX3_find_130 hl (k := 3) rfl rfl (by decide) rfl (fun ls hl => ?_)
    refine lv_goto (tgt := 27) hx hb dX3_find_133 (by decide) ?_
    exact hrc27 _ _ _ _ _ h (lv_sub hl [1, 2, 3, 0] rfl) hm
  · replace hm := iq c2 hm
    refine lv_aload_n hx hb dX3_find_61 rfl (lv_at hl 0 rfl) ?_
    refine sd_get C0 h (C := RX3) (T := TX3) (N := 7) kcX3 47 (aX_47 ad cA _) rfl 0 (by decide) kfX3_31 (v := .ref (ad 1)) rfl dX3_find_62 ?_
    refine sd_get C0 h (C := RX7) (T := TX7) (N := 4) kcX7 1 (aX_1 ad cA _) rfl 2 (by decide) kfX3_40 (v := .ref (ad 10)) rfl dX3_find_65 ?_
    refine lv_aload_n hx hb dX3_find_68 rfl (lv_at hl 0 rfl) ?_
    refine sd_get C0 h (C := RX3) (T := TX3) (N := 7) kcX3 47 (aX_47 ad cA _) rfl 1 (by decide) kfX3_9 (v := .ref (ad 48)) rfl dX3_find_69 ?_
    refine lv_iload hx hb dX3_find_72 (lv_at hl 3 rfl) ?_
    obtain ⟨x3, hx3, hm⟩ := bs hm
    refine sd_rd C0 h 48 (aX_48 ad cA _) hx3 dX3_find_74 ?_
    refine lv_aload_n hx hb dX3_find_75 rfl (lv_at hl 0 rfl) ?_
    refine sd_get C0 h (C := RX3) (T := TX3) (N := 7) kcX3 47 (aX_47 ad cA _) rfl 1 (by decide) kfX3_9 (v := .ref (ad 48)) rfl dX3_find_76 ?_
    refine lv_iload hx hb dX3_find_79 (lv_at hl 4 rfl) ?_
    obtain ⟨x4, hx4, hm⟩ := bs hm
    refine sd_rd C0 h 48 (aX_48 ad cA _) hx4 dX3_find_81 ?_
    obtain ⟨u5, hu5, hm⟩ := bs hm
    refine sd_Vi C0 h kYX6_apart kmX3_62 10 (aX_10 ad cA _) rfl [.int x3, .int x4] (tX6_apart l D cA ad hu5) rfl hl.1 rfl (Nat.le_of_ble_eq_true rfl) (by decide) dX3_find_82 (by decide) (fun H locs h => ?_)
    refine lv_istore (lv' := [(6, .int u5), (0, .ref (ad 47)), (1, .int v1), (2, .int v2), (4, .int v4), (5, .int v5)]) hx hb dX3_find_85 hl (by decide) rfl (fun ls hl => ?_)
    refine lv_iload hx hb dX3_find_87 (lv_at hl 0 rfl) ?_
    refine lv_aload_n hx hb dX3_find_89 rfl (lv_at hl 1 rfl) ?_
    refine sd_get C0 h (C := RX3) (T := TX3) (N := 7) kcX3 47 (aX_47 ad cA _) rfl 6 (by decide) kfX3_28 (v := .int (fI S 12)) rfl dX3_find_90 ?_
    refine lv_icmp_ge (tgt := 124) hx hb dX3_find_93 (by decide) (fun c6 => ?_) (fun c6 => ?_)
    · replace hm := ip c6 hm
      refine lv_iinc (v := (v5 + 1)) (lv' := [(5, .int (v5 + 1)), (6, .int u5), (0, .ref (ad 47)), (1, .int v1), (2, .int v2), (4, .int v4)]) hx hb dX3_find_124 hl (k := 5) rfl rfl (by decide) rfl (fun ls hl => ?_)
      refine lv_goto (tgt := 48) hx hb dX3_find_127 (by decide) ?_
      exact hrc48 _ _ _ _ _ h (lv_sub hl [2, 3, 4, 5, 0] rfl) hm
    · replace hm := iq c6 hm
      refine lv_aload_n hx hb dX3_find_96 rfl (lv_at hl 1 rfl) ?_
      refine lv_iload hx hb dX3_find_97 (lv_at hl 0 rfl) ?_
      refine sd_put C0 h (C := RX3) (T := TX3) (N := 7) (S1 := (sI S 12 u5)) kcX3 tyX3 tyX3_ok nmX3 47 (aX_47 ad cA _) rfl 6 (by decide) kfX3_28 rfl (ty := .int) (by decide +kernel) rfl rfl (Nat.le_of_ble_eq_true rfl) (eX_47_6 ad cA _ _) dX3_find_99 (fun H locs h => ?_)
      refine lv_aload_n hx hb dX3_find_102 rfl (lv_at hl 1 rfl) ?_
      refine lv_aload_n hx hb dX3_find_103 rfl (lv_at hl 1 rfl) ?_
      refine sd_get C0 h (C := RX3) (T := TX3) (N := 7) kcX3 47 (aX_47 ad cA _) rfl 1 (by decide) kfX3_9 (v := .ref (ad 48)) rfl dX3_find_104 ?_
      refine lv_iload hx hb dX3_find_107 (lv_at hl 4 rfl) ?_
      obtain ⟨x7, hx7, hm⟩ := bs hm
      refine sd_rd C0 h 48 (aX_48 ad cA _) hx7 dX3_find_109 ?_
      refine sd_put C0 h (C := RX3) (T := TX3) (N := 7) (S1 := (sI (sI S 12 u5) 10 x7)) kcX3 tyX3 tyX3_ok nmX3 47 (aX_47 ad cA _) rfl 4 (by decide) kfX3_21 rfl (ty := .int) (by decide +kernel) rfl rfl (Nat.le_of_ble_eq_true rfl) (eX_47_4 ad cA _ _) dX3_find_110 (fun H locs h => ?_)
      refine lv_aload_n hx hb dX3_find_113 rfl (lv_at hl 1 rfl) ?_
      refine lv_aload_n hx hb dX3_find_114 rfl (lv_at hl 1 rfl) ?_
      refine sd_get C0 h (C := RX3) (T := TX3) (N := 7) kcX3 47 (aX_47 ad cA _) rfl 1 (by decide) kfX3_9 (v := .ref (ad 48)) rfl dX3_find_115 ?_
      refine lv_iload hx hb dX3_find_118 (lv_at hl 5 rfl) ?_
      obtain ⟨x8, hx8, hm⟩ := bs hm
      refine sd_rd C0 h 48 (aX_48 ad cA _) hx8 dX3_find_120 ?_
      refine sd_put C0 h (C := RX3) (T := TX3) (N := 7) (S1 := (sI (sI (sI S 12 u5) 10 x7) 11 x8)) kcX3 tyX3 tyX3_ok nmX3 47 (aX_47 ad cA _) rfl 5 (by decide) kfX3_25 rfl (ty := .int) (by decide +kernel) rfl rfl (Nat.le_of_ble_eq_true rfl) (eX_47_5 ad cA _ _) dX3_find_121 (fun H locs h => ?_)
      refine lv_iinc (v := (v5 + 1)) (lv' := [(5, .int (v5 + 1)), (6, .int u5), (0, .ref (ad 47)), (1, .int v1), (2, .int v2), (4, .int v4)]) hx hb dX3_find_124 hl (k := 5) rfl rfl (by decide) rfl (fun ls hl => ?_)
      refine lv_goto (tgt := 48) hx hb dX3_find_127 (by decide) ?_
      exact hrc48 _ _ _ _ _ h (lv_sub hl [2, 3, 4, 5, 0] rfl) hm
def mX3_find_48 (z : Nat) (rc27 : Int32 → St → Option (Int32 × St)) (v1 : Int32) (v2 : Int32) (v4 : Int32) : Nat → Int32 → St → Option (Int32 × St)
  | 0, _, _ => none
  | n + 1, v5, S => mX3_find_48b z rc27 (mX3_find_48 z rc27 v1 v2 v4 n) v1 v2 v4 v5 S
set_option maxHeartbeats 4000000 in
set_option maxRecDepth 100000 in
theorem lX3_find_48 {p : Program} {l : Launch} {e : Env} {s : State} {m : MethodId} {args : Array Value} {below : List Frame} {meth : Method} {c : Code} {D : va_G} {cA : ClassId} {ad : Nat → Nat} {A : Nat → Prop} {q : (Int32 × St)} {z : Nat} {rc27 : Int32 → St → Option (Int32 × St)} {v1 : Int32} {v2 : Int32} {v4 : Int32} (C0 : sd_Cx RX3 cX3_find 7 (some .boolean) (Cond.code yX3_find cX3_find 7 (some .boolean) :: sd_big) p s m args meth c) (hrc27 : ∀ (v4 : Int32) (S : St) (H : Heap) (locs : List Loc) (ls : Array Slot), sd_Wd D vwCl cA sd_nw (wX ad cA) A s S H locs → lv_has ls 7 [(0, .ref (ad 47)), (1, .int v1), (2, .int v2), (4, .int v4)] → rc27 v4 S = some q → W p l e rX3_find s m args below meth c H locs 0 0 (MQ below (sd_Qi D vwCl (wX ad cA) A q) args s 0 0 A) (F0 m 27 ls [])) : ∀ (n : Nat) (v5 : Int32) (S : St) (H : Heap) (locs : List Loc) (ls : Array Slot), sd_Wd D vwCl cA sd_nw (wX ad cA) A s S H locs → lv_has ls 7 [(0, .ref (ad 47)), (1, .int v1), (2, .int v2), (4, .int v4), (5, .int v5)] → mX3_find_48 z rc27 v1 v2 v4 n v5 S = some q → W p l e rX3_find s m args below meth c H locs 0 0 (MQ below (sd_Qi D vwCl (wX ad cA) A q) args s 0 0 A) (F0 m 48 ls []) := by
  intro n
  induction n with
  | zero =>
    intro v5 S H locs ls h hl hm
    exact nomatch (show none = some q from hm)
  | succ n ih =>
    intro v5 S H locs ls h hl hm
    exact bX3_find_48b C0 h hl hrc27 ih hm
def mX3_find_27b (z : Nat) (rc27 : Int32 → St → Option (Int32 × St)) (v1 : Int32) (v2 : Int32) (v4 : Int32) (S : St) : Option (Int32 × St) :=
  (rd (fA S 38) 21 (v1 + 1)).bind fun x1 =>
  if x1 ≤ v4 then
    mX3_find_136 z S
  else
    (rd (fA S 38) 21 v2).bind fun x3 =>
    mX3_find_48 z rc27 v1 v2 v4 z x3 S
set_option maxHeartbeats 4000000 in
set_option maxRecDepth 100000 in
theorem bX3_find_27b {p : Program} {l : Launch} {e : Env} {s : State} {m : MethodId} {args : Array Value} {below : List Frame} {meth : Method} {c : Code} {D : va_G} {cA : ClassId} {ad : Nat → Nat} {A : Nat → Prop} {H : Heap} {locs : List Loc} {ls : Array Slot} {q : (Int32 × St)} {z : Nat} {rc27 : Int32 → St → Option (Int32 × St)} {v1 : Int32} {v2 : Int32} {v4 : Int32} {S : St} (C0 : sd_Cx RX3 cX3_find 7 (some .boolean) (Cond.code yX3_find cX3_find 7 (some .boolean) :: sd_big) p s m args meth c) (h : sd_Wd D vwCl cA sd_nw (wX ad cA) A s S H locs) (hl : lv_has ls 7 [(0, .ref (ad 47)), (1, .int v1), (2, .int v2), (4, .int v4)]) (hrc27 : ∀ (v4 : Int32) (S : St) (H : Heap) (locs : List Loc) (ls : Array Slot), sd_Wd D vwCl cA sd_nw (wX ad cA) A s S H locs → lv_has ls 7 [(0, .ref (ad 47)), (1, .int v1), (2, .int v2), (4, .int v4)] → rc27 v4 S = some q → W p l e rX3_find s m args below meth c H locs 0 0 (MQ below (sd_Qi D vwCl (wX ad cA) A q) args s 0 0 A) (F0 m 27 ls [])) (hm : mX3_find_27b z rc27 v1 v2 v4 S = some q) : W p l e rX3_find s m args below meth c H locs 0 0 (MQ below (sd_Qi D vwCl (wX ad cA) A q) args s 0 0 A) (F0 m 27 ls []) := by
  unfold mX3_find_27b at hm
  have hx := C0.1
  have hb := C0.2.1
  refine lv_iload hx hb dX3_find_27 (lv_at hl 3 rfl) ?_
  refine lv_aload_n hx hb dX3_find_29 rfl (lv_at hl 0 rfl) ?_
  refine sd_get C0 h (C := RX3) (T := TX3) (N := 7) kcX3 47 (aX_47 ad cA _) rfl 2 (by decide) kfX3_15 (v := .ref (ad 49)) rfl dX3_find_30 ?_
  refine lv_iload_n hx hb dX3_find_33 rfl (lv_at hl 1 rfl) ?_
  refine lv_iconst (v := 1) hx hb dX3_find_34 (by decide) ?_
  refine lv_iadd hx hb dX3_find_35 ?_
  obtain ⟨x1, hx1, hm⟩ := bs hm
  refine sd_rd C0 h 49 (aX_49 ad cA _) hx1 dX3_find_36 ?_
  refine lv_icmp_ge (tgt := 136) hx hb dX3_find_37 (by decide) (fun c2 => ?_) (fun c2 => ?_)
  · replace hm := ip c2 hm
    exact bX3_find_136 C0 h (lv_sub hl [0] rfl) hm
  · replace hm := iq c2 hm
    refine lv_aload_n hx hb dX3_find_40 rfl (lv_at hl 0 rfl) ?_
    refine sd_get C0 h (C := RX3) (T := TX3) (N := 7) kcX3 47 (aX_47 ad cA _) rfl 2 (by decide) kfX3_15 (v := .ref (ad 49)) rfl dX3_find_41 ?_
    refine lv_iload_n hx hb dX3_find_44 rfl (lv_at hl 2 rfl) ?_
    obtain ⟨x3, hx3, hm⟩ := bs hm
    refine sd_rd C0 h 49 (aX_49 ad cA _) hx3 dX3_find_45 ?_
    refine lv_istore (lv' := [(5, .int x3), (0, .ref (ad 47)), (1, .int v1), (2, .int v2), (4, .int v4)]) hx hb dX3_find_46 hl (by decide) rfl (fun ls hl => ?_)
    exact lX3_find_48 C0 hrc27 _ _ _ _ _ _ h (lv_sub hl [1, 2, 3, 4, 0] rfl) hm
def mX3_find_27 (z : Nat) (v1 : Int32) (v2 : Int32) : Nat → Int32 → St → Option (Int32 × St)
  | 0, _, _ => none
  | n + 1, v4, S => mX3_find_27b z (mX3_find_27 z v1 v2 n) v1 v2 v4 S
set_option maxHeartbeats 4000000 in
set_option maxRecDepth 100000 in
theorem lX3_find_27 {p : Program} {l : Launch} {e : Env} {s : State} {m : MethodId} {args : Array Value} {below : List Frame} {meth : Method} {c : Code} {D : va_G} {cA : ClassId} {ad : Nat → Nat} {A : Nat → Prop} {q : (Int32 × St)} {z : Nat} {v1 : Int32} {v2 : Int32} (C0 : sd_Cx RX3 cX3_find 7 (some .boolean) (Cond.code yX3_find cX3_find 7 (some .boolean) :: sd_big) p s m args meth c)  : ∀ (n : Nat) (v4 : Int32) (S : St) (H : Heap) (locs : List Loc) (ls : Array Slot), sd_Wd D vwCl cA sd_nw (wX ad cA) A s S H locs → lv_has ls 7 [(0, .ref (ad 47)), (1, .int v1), (2, .int v2), (4, .int v4)] → mX3_find_27 z v1 v2 n v4 S = some q → W p l e rX3_find s m args below meth c H locs 0 0 (MQ below (sd_Qi D vwCl (wX ad cA) A q) args s 0 0 A) (F0 m 27 ls []) := by
  intro n
  induction n with
  | zero =>
    intro v4 S H locs ls h hl hm
    exact nomatch (show none = some q from hm)
  | succ n ih =>
    intro v4 S H locs ls h hl hm
    exact bX3_find_27b C0 h hl ih hm
def mX3_find (z : Nat) (v1 : Int32) (v2 : Int32) (v3 : Int32) (S : St) : Option (Int32 × St) :=
  (rd (fA (sI (sI (sI S 10 (-1)) 11 (-1)) 12 ((v3 * v3) + 1)) 38) 21 v1).bind fun x1 =>
  mX3_find_27 z v1 v2 z x1 (sI (sI (sI S 10 (-1)) 11 (-1)) 12 ((v3 * v3) + 1))
set_option maxHeartbeats 4000000 in
set_option maxRecDepth 100000 in
theorem bX3_find {p : Program} {l : Launch} {e : Env} {s : State} {m : MethodId} {args : Array Value} {below : List Frame} {meth : Method} {c : Code} {D : va_G} {cA : ClassId} {ad : Nat → Nat} {A : Nat → Prop} {H : Heap} {locs : List Loc} {ls : Array Slot} {q : (Int32 × St)} {z : Nat} {v1 : Int32} {v2 : Int32} {v3 : Int32} {S : St} (C0 : sd_Cx RX3 cX3_find 7 (some .boolean) (Cond.code yX3_find cX3_find 7 (some .boolean) :: sd_big) p s m args meth c) (h : sd_Wd D vwCl cA sd_nw (wX ad cA) A s S H locs) (hl : lv_has ls 7 [(0, .ref (ad 47)), (1, .int v1), (2, .int v2), (3, .int v3)])  (hm : mX3_find z v1 v2 v3 S = some q) : W p l e rX3_find s m args below meth c H locs 0 0 (MQ below (sd_Qi D vwCl (wX ad cA) A q) args s 0 0 A) (F0 m 0 ls []) := by
  unfold mX3_find at hm
  have hx := C0.1
  have hb := C0.2.1
  refine lv_aload_n hx hb dX3_find_0 rfl (lv_at hl 0 rfl) ?_
  refine lv_iconst (v := (-1)) hx hb dX3_find_1 (by decide) ?_
  refine sd_put C0 h (C := RX3) (T := TX3) (N := 7) (S1 := (sI S 10 (-1))) kcX3 tyX3 tyX3_ok nmX3 47 (aX_47 ad cA _) rfl 4 (by decide) kfX3_21 rfl (ty := .int) (by decide +kernel) rfl rfl (Nat.le_of_ble_eq_true rfl) (eX_47_4 ad cA _ _) dX3_find_2 (fun H locs h => ?_)
  refine lv_aload_n hx hb dX3_find_5 rfl (lv_at hl 0 rfl) ?_
  refine lv_iconst (v := (-1)) hx hb dX3_find_6 (by decide) ?_
  refine sd_put C0 h (C := RX3) (T := TX3) (N := 7) (S1 := (sI (sI S 10 (-1)) 11 (-1))) kcX3 tyX3 tyX3_ok nmX3 47 (aX_47 ad cA _) rfl 5 (by decide) kfX3_25 rfl (ty := .int) (by decide +kernel) rfl rfl (Nat.le_of_ble_eq_true rfl) (eX_47_5 ad cA _ _) dX3_find_7 (fun H locs h => ?_)
  refine lv_aload_n hx hb dX3_find_10 rfl (lv_at hl 0 rfl) ?_
  refine lv_iload_n hx hb dX3_find_11 rfl (lv_at hl 3 rfl) ?_
  refine lv_iload_n hx hb dX3_find_12 rfl (lv_at hl 3 rfl) ?_
  refine lv_imul hx hb dX3_find_13 ?_
  refine lv_iconst (v := 1) hx hb dX3_find_14 (by decide) ?_
  refine lv_iadd hx hb dX3_find_15 ?_
  refine sd_put C0 h (C := RX3) (T := TX3) (N := 7) (S1 := (sI (sI (sI S 10 (-1)) 11 (-1)) 12 ((v3 * v3) + 1))) kcX3 tyX3 tyX3_ok nmX3 47 (aX_47 ad cA _) rfl 6 (by decide) kfX3_28 rfl (ty := .int) (by decide +kernel) rfl rfl (Nat.le_of_ble_eq_true rfl) (eX_47_6 ad cA _ _) dX3_find_16 (fun H locs h => ?_)
  refine lv_aload_n hx hb dX3_find_19 rfl (lv_at hl 0 rfl) ?_
  refine sd_get C0 h (C := RX3) (T := TX3) (N := 7) kcX3 47 (aX_47 ad cA _) rfl 2 (by decide) kfX3_15 (v := .ref (ad 49)) rfl dX3_find_20 ?_
  refine lv_iload_n hx hb dX3_find_23 rfl (lv_at hl 1 rfl) ?_
  obtain ⟨x1, hx1, hm⟩ := bs hm
  refine sd_rd C0 h 49 (aX_49 ad cA _) hx1 dX3_find_24 ?_
  refine lv_istore (lv' := [(4, .int x1), (0, .ref (ad 47)), (1, .int v1), (2, .int v2), (3, .int v3)]) hx hb dX3_find_25 hl (by decide) rfl (fun ls hl => ?_)
  exact lX3_find_27 C0 _ _ _ _ _ _ h (lv_sub hl [1, 2, 3, 0] rfl) hm
theorem tX3_find (l : Launch) (D : va_G) (cA : ClassId) (ad : Nat → Nat) {z : Nat} {S : St} {v1 : Int32} {v2 : Int32} {v3 : Int32} {q : (Int32 × St)} (hm : mX3_find z v1 v2 v3 S = some q) : sd_MI l D vwCl cA sd_nw (wX ad cA) yX3_find (Cond.code yX3_find cX3_find 7 (some .boolean) :: sd_big) rX3_find [.ref (ad 47), .int v1, .int v2, .int v3] S q :=
  sd_ofI (by decide +kernel) (Nat.le_of_ble_eq_true rfl) (fun _ _ _ _ _ _ _ _ _ _ C0 h hl => bX3_find C0 h (lv_sub hl [0, 1, 2, 3] rfl) hm)

def rX3_miss : Room := { frames := 0, cells := 0, slots := 0, locals := 0 }
def mX3_miss (S : St) : Option Int32 :=
  if (fI S 10) = (-1) then
    some 0
  else
    if (fI S 11) = (-1) then
      some 0
    else
      (rd (fA S 16) 200 (fI S 10)).bind fun x3 =>
      (rd (fA S 16) 200 (fI S 11)).bind fun x4 =>
      some (x3 - x4)
set_option maxHeartbeats 4000000 in
set_option maxRecDepth 100000 in
theorem bX3_miss {p : Program} {l : Launch} {e : Env} {s : State} {m : MethodId} {args : Array Value} {below : List Frame} {meth : Method} {c : Code} {D : va_G} {cA : ClassId} {ad : Nat → Nat} {A : Nat → Prop} {H : Heap} {locs : List Loc} {ls : Array Slot} {q : Int32} {S : St} (C0 : sd_Cx RX3 cX3_miss 1 (some .int) (Cond.code yX3_miss cX3_miss 1 (some .int) :: sd_big) p s m args meth c) (h : sd_Wd D vwCl cA sd_nw (wX ad cA) A s S H locs) (hl : lv_has ls 1 [(0, .ref (ad 47))])  (hm : mX3_miss S = some q) : W p l e rX3_miss s m args below meth c H locs 0 0 (MQ below (sd_Qi D vwCl (wX ad cA) A (q, S)) args s 0 0 A) (F0 m 0 ls []) := by
  unfold mX3_miss at hm
  have hx := C0.1
  have hb := C0.2.1
  refine lv_aload_n hx hb dX3_miss_0 rfl (lv_at hl 0 rfl) ?_
  refine sd_get C0 h (C := RX3) (T := TX3) (N := 7) kcX3 47 (aX_47 ad cA _) rfl 4 (by decide) kfX3_21 (v := .int (fI S 10)) rfl dX3_miss_1 ?_
  refine lv_iconst (v := (-1)) hx hb dX3_miss_4 (by decide) ?_
  refine lv_icmp_eq (tgt := 16) hx hb dX3_miss_5 (by decide) (fun c1 => ?_) (fun c1 => ?_)
  · replace hm := ip c1 hm
    refine lv_iconst (v := 0) hx hb dX3_miss_16 (by decide) ?_
    refine lv_goto (tgt := 45) hx hb dX3_miss_17 (by decide) ?_
    exact sd_iret C0 h (congrArg (fun x => (x, S)) (Option.some.inj hm)) dX3_miss_45
  · replace hm := iq c1 hm
    refine lv_aload_n hx hb dX3_miss_8 rfl (lv_at hl 0 rfl) ?_
    refine sd_get C0 h (C := RX3) (T := TX3) (N := 7) kcX3 47 (aX_47 ad cA _) rfl 5 (by decide) kfX3_25 (v := .int (fI S 11)) rfl dX3_miss_9 ?_
    refine lv_iconst (v := (-1)) hx hb dX3_miss_12 (by decide) ?_
    refine lv_icmp_ne (tgt := 20) hx hb dX3_miss_13 (by decide) (fun c2 => ?_) (fun c2 => ?_)
    · replace hm := iq c2 hm
      refine lv_aload_n hx hb dX3_miss_20 rfl (lv_at hl 0 rfl) ?_
      refine sd_get C0 h (C := RX3) (T := TX3) (N := 7) kcX3 47 (aX_47 ad cA _) rfl 0 (by decide) kfX3_31 (v := .ref (ad 1)) rfl dX3_miss_21 ?_
      refine sd_get C0 h (C := RX7) (T := TX7) (N := 4) kcX7 1 (aX_1 ad cA _) rfl 3 (by decide) kfX3_59 (v := .ref (ad 21)) rfl dX3_miss_24 ?_
      refine lv_aload_n hx hb dX3_miss_27 rfl (lv_at hl 0 rfl) ?_
      refine sd_get C0 h (C := RX3) (T := TX3) (N := 7) kcX3 47 (aX_47 ad cA _) rfl 4 (by decide) kfX3_21 (v := .int (fI S 10)) rfl dX3_miss_28 ?_
      obtain ⟨x3, hx3, hm⟩ := bs hm
      refine sd_rd C0 h 21 (aX_21 ad cA _) hx3 dX3_miss_31 ?_
      refine lv_aload_n hx hb dX3_miss_32 rfl (lv_at hl 0 rfl) ?_
      refine sd_get C0 h (C := RX3) (T := TX3) (N := 7) kcX3 47 (aX_47 ad cA _) rfl 0 (by decide) kfX3_31 (v := .ref (ad 1)) rfl dX3_miss_33 ?_
      refine sd_get C0 h (C := RX7) (T := TX7) (N := 4) kcX7 1 (aX_1 ad cA _) rfl 3 (by decide) kfX3_59 (v := .ref (ad 21)) rfl dX3_miss_36 ?_
      refine lv_aload_n hx hb dX3_miss_39 rfl (lv_at hl 0 rfl) ?_
      refine sd_get C0 h (C := RX3) (T := TX3) (N := 7) kcX3 47 (aX_47 ad cA _) rfl 5 (by decide) kfX3_25 (v := .int (fI S 11)) rfl dX3_miss_40 ?_
      obtain ⟨x4, hx4, hm⟩ := bs hm
      refine sd_rd C0 h 21 (aX_21 ad cA _) hx4 dX3_miss_43 ?_
      refine lv_isub hx hb dX3_miss_44 ?_
      exact sd_iret C0 h (congrArg (fun x => (x, S)) (Option.some.inj hm)) dX3_miss_45
    · replace hm := ip c2 hm
      refine lv_iconst (v := 0) hx hb dX3_miss_16 (by decide) ?_
      refine lv_goto (tgt := 45) hx hb dX3_miss_17 (by decide) ?_
      exact sd_iret C0 h (congrArg (fun x => (x, S)) (Option.some.inj hm)) dX3_miss_45
theorem tX3_miss (l : Launch) (D : va_G) (cA : ClassId) (ad : Nat → Nat) {S : St}  {q : Int32} (hm : mX3_miss S = some q) : sd_MI l D vwCl cA sd_nw (wX ad cA) yX3_miss (Cond.code yX3_miss cX3_miss 1 (some .int) :: sd_big) rX3_miss [.ref (ad 47)] S (q, S) :=
  sd_ofI (by decide +kernel) (Nat.le_of_ble_eq_true rfl) (fun _ _ _ _ _ _ _ _ _ _ C0 h hl => bX3_miss C0 h (lv_sub hl [0] rfl) hm)

def rX9_cross : Room := { frames := 5, cells := 0, slots := 0, locals := 119 }
def mX9_cross_13 (z : Nat) (v1 : Int32) (v2 : Int32) (v3 : Int32) (v4 : Int32) (t0 : Int32) (S : St) : Option (Int32 × St) :=
  (mX4_has S v1).bind fun u1 =>
  if u1 = 0 then
    some (t0, S)
  else
    (mX4_has S v2).bind fun u3 =>
    if u3 = 0 then
      some (t0, S)
    else
      if v2 ≤ v1 then
        some (t0, S)
      else
        (mX9_isReach S v3).bind fun u6 =>
        if u6 = 0 then
          some (t0, S)
        else
          (mX3_gather z S).bind fun u8 =>
          (mX3_find z v1 v2 v3 u8).bind fun u9 =>
          if u9.1 = 0 then
            some (t0, u9.2)
          else
            if v4 = 0 then
              some ((fI u9.2 12), u9.2)
            else
            if v4 = 1 then
              some ((fI u9.2 10), u9.2)
            else
            if v4 = 2 then
              some ((fI u9.2 11), u9.2)
            else
            if v4 = 3 then
              (mX3_miss u9.2).bind fun u15 =>
              some (u15, u9.2)
            else
              some ((-1), u9.2)
set_option maxHeartbeats 4000000 in
set_option maxRecDepth 100000 in
theorem bX9_cross_13 {p : Program} {l : Launch} {e : Env} {s : State} {m : MethodId} {args : Array Value} {below : List Frame} {meth : Method} {c : Code} {D : va_G} {cA : ClassId} {ad : Nat → Nat} {A : Nat → Prop} {H : Heap} {locs : List Loc} {ls : Array Slot} {q : (Int32 × St)} {z : Nat} {v1 : Int32} {v2 : Int32} {v3 : Int32} {v4 : Int32} {t0 : Int32} {S : St} (C0 : sd_Cx RX9 cX9_cross 6 (some .int) (Cond.code yX9_cross cX9_cross 6 (some .int) :: sd_big) p s m args meth c) (h : sd_Wd D vwCl cA sd_nw (wX ad cA) A s S H locs) (hl : lv_has ls 6 [(0, .ref (ad 0)), (1, .int v1), (2, .int v2), (3, .int v3), (4, .int v4)])  (hm : mX9_cross_13 z v1 v2 v3 v4 t0 S = some q) : W p l e rX9_cross s m args below meth c H locs 0 0 (MQ below (sd_Qi D vwCl (wX ad cA) A q) args s 0 0 A) (F0 m 13 ls [.int t0]) := by
  unfold mX9_cross_13 at hm
  have hx := C0.1
  have hb := C0.2.1
  refine lv_istore (lv' := [(5, .int t0), (0, .ref (ad 0)), (1, .int v1), (2, .int v2), (3, .int v3), (4, .int v4)]) hx hb dX9_cross_13 hl (by decide) rfl (fun ls hl => ?_)
  refine lv_aload_n hx hb dX9_cross_15 rfl (lv_at hl 1 rfl) ?_
  refine sd_get C0 h (C := RX9) (T := TX9) (N := 8) kcX9 0 (aX_0 ad cA _) rfl 0 (by decide) kfX9_10 (v := .ref (ad 1)) rfl dX9_cross_16 ?_
  refine sd_get C0 h (C := RX7) (T := TX7) (N := 4) kcX7 1 (aX_1 ad cA _) rfl 0 (by decide) kfX9_69 (v := .ref (ad 2)) rfl dX9_cross_19 ?_
  refine lv_iload_n hx hb dX9_cross_22 rfl (lv_at hl 2 rfl) ?_
  obtain ⟨u1, hu1, hm⟩ := bs hm
  refine sd_Vi C0 h kYX4_has kmX9_110 2 (aX_2 ad cA _) rfl [.int v1] (tX4_has l D cA ad hu1) rfl hl.1 rfl (Nat.le_of_ble_eq_true rfl) (by decide) dX9_cross_23 (by decide) (fun H locs h => ?_)
  refine lv_if_eq (tgt := 55) hx hb dX9_cross_26 (by decide) (fun c2 => ?_) (fun c2 => ?_)
  · replace hm := ip c2 hm
    refine lv_iload hx hb dX9_cross_55 (lv_at hl 0 rfl) ?_
    exact sd_iret C0 h (Option.some.inj hm) dX9_cross_57
  · replace hm := iq c2 hm
    refine lv_aload_n hx hb dX9_cross_29 rfl (lv_at hl 1 rfl) ?_
    refine sd_get C0 h (C := RX9) (T := TX9) (N := 8) kcX9 0 (aX_0 ad cA _) rfl 0 (by decide) kfX9_10 (v := .ref (ad 1)) rfl dX9_cross_30 ?_
    refine sd_get C0 h (C := RX7) (T := TX7) (N := 4) kcX7 1 (aX_1 ad cA _) rfl 0 (by decide) kfX9_69 (v := .ref (ad 2)) rfl dX9_cross_33 ?_
    refine lv_iload_n hx hb dX9_cross_36 rfl (lv_at hl 3 rfl) ?_
    obtain ⟨u3, hu3, hm⟩ := bs hm
    refine sd_Vi C0 h kYX4_has kmX9_110 2 (aX_2 ad cA _) rfl [.int v2] (tX4_has l D cA ad hu3) rfl hl.1 rfl (Nat.le_of_ble_eq_true rfl) (by decide) dX9_cross_37 (by decide) (fun H locs h => ?_)
    refine lv_if_eq (tgt := 55) hx hb dX9_cross_40 (by decide) (fun c4 => ?_) (fun c4 => ?_)
    · replace hm := ip c4 hm
      refine lv_iload hx hb dX9_cross_55 (lv_at hl 0 rfl) ?_
      exact sd_iret C0 h (Option.some.inj hm) dX9_cross_57
    · replace hm := iq c4 hm
      refine lv_iload_n hx hb dX9_cross_43 rfl (lv_at hl 2 rfl) ?_
      refine lv_iload_n hx hb dX9_cross_44 rfl (lv_at hl 3 rfl) ?_
      refine lv_icmp_ge (tgt := 55) hx hb dX9_cross_45 (by decide) (fun c5 => ?_) (fun c5 => ?_)
      · replace hm := ip c5 hm
        refine lv_iload hx hb dX9_cross_55 (lv_at hl 0 rfl) ?_
        exact sd_iret C0 h (Option.some.inj hm) dX9_cross_57
      · replace hm := iq c5 hm
        refine lv_iload_n hx hb dX9_cross_48 rfl (lv_at hl 4 rfl) ?_
        obtain ⟨u6, hu6, hm⟩ := bs hm
        refine sd_Si C0 h kYX9_isReach kmX9_203 [.int v3] (tX9_isReach l D cA ad hu6) rfl hl.1 rfl (Nat.le_of_ble_eq_true rfl) (by decide) dX9_cross_49 (by decide) (fun H locs h => ?_)
        refine lv_if_ne (tgt := 58) hx hb dX9_cross_52 (by decide) (fun c7 => ?_) (fun c7 => ?_)
        · replace hm := iq c7 hm
          refine lv_aload_n hx hb dX9_cross_58 rfl (lv_at hl 1 rfl) ?_
          refine sd_get C0 h (C := RX9) (T := TX9) (N := 8) kcX9 0 (aX_0 ad cA _) rfl 3 (by decide) kfX9_31 (v := .ref (ad 47)) rfl dX9_cross_59 ?_
          obtain ⟨u8, hu8, hm⟩ := bs hm
          refine sd_Vv C0 h kYX3_gather kmX9_206 47 (aX_47 ad cA _) rfl [] (tX3_gather l D cA ad hu8) rfl hl.1 rfl (Nat.le_of_ble_eq_true rfl) (by decide) dX9_cross_62 (by decide) (fun H locs h => ?_)
          refine lv_aload_n hx hb dX9_cross_65 rfl (lv_at hl 1 rfl) ?_
          refine sd_get C0 h (C := RX9) (T := TX9) (N := 8) kcX9 0 (aX_0 ad cA _) rfl 3 (by decide) kfX9_31 (v := .ref (ad 47)) rfl dX9_cross_66 ?_
          refine lv_iload_n hx hb dX9_cross_69 rfl (lv_at hl 2 rfl) ?_
          refine lv_iload_n hx hb dX9_cross_70 rfl (lv_at hl 3 rfl) ?_
          refine lv_iload_n hx hb dX9_cross_71 rfl (lv_at hl 4 rfl) ?_
          obtain ⟨u9, hu9, hm⟩ := bs hm
          refine sd_Vi C0 h kYX3_find kmX9_209 47 (aX_47 ad cA _) rfl [.int v1, .int v2, .int v3] (tX3_find l D cA ad hu9) rfl hl.1 rfl (Nat.le_of_ble_eq_true rfl) (by decide) dX9_cross_72 (by decide) (fun H locs h => ?_)
          refine lv_if_ne (tgt := 81) hx hb dX9_cross_75 (by decide) (fun c10 => ?_) (fun c10 => ?_)
          · replace hm := iq c10 hm
            refine lv_iload hx hb dX9_cross_81 (lv_at hl 5 rfl) ?_
            by_cases c11 : v4 = 0
            · replace hm := ip c11 hm
              refine lv_tableIn (off := 29) (tgt := 112) hx hb dX9_cross_83 (by rw [c11]; decide) (by rw [c11]; decide) (by rw [c11]; rfl) (by decide) ?_
              refine lv_aload_n hx hb dX9_cross_112 rfl (lv_at hl 1 rfl) ?_
              refine sd_get C0 h (C := RX9) (T := TX9) (N := 8) kcX9 0 (aX_0 ad cA _) rfl 3 (by decide) kfX9_31 (v := .ref (ad 47)) rfl dX9_cross_113 ?_
              refine sd_get C0 h (C := RX3) (T := TX3) (N := 7) kcX3 47 (aX_47 ad cA _) rfl 6 (by decide) kfX9_212 (v := .int (fI u9.2 12)) rfl dX9_cross_116 ?_
              exact sd_iret C0 h (Option.some.inj hm) dX9_cross_119
            · replace hm := iq c11 hm
              by_cases c12 : v4 = 1
              · replace hm := ip c12 hm
                refine lv_tableIn (off := 37) (tgt := 120) hx hb dX9_cross_83 (by rw [c12]; decide) (by rw [c12]; decide) (by rw [c12]; rfl) (by decide) ?_
                refine lv_aload_n hx hb dX9_cross_120 rfl (lv_at hl 1 rfl) ?_
                refine sd_get C0 h (C := RX9) (T := TX9) (N := 8) kcX9 0 (aX_0 ad cA _) rfl 3 (by decide) kfX9_31 (v := .ref (ad 47)) rfl dX9_cross_121 ?_
                refine sd_get C0 h (C := RX3) (T := TX3) (N := 7) kcX3 47 (aX_47 ad cA _) rfl 4 (by decide) kfX9_215 (v := .int (fI u9.2 10)) rfl dX9_cross_124 ?_
                exact sd_iret C0 h (Option.some.inj hm) dX9_cross_127
              · replace hm := iq c12 hm
                by_cases c13 : v4 = 2
                · replace hm := ip c13 hm
                  refine lv_tableIn (off := 45) (tgt := 128) hx hb dX9_cross_83 (by rw [c13]; decide) (by rw [c13]; decide) (by rw [c13]; rfl) (by decide) ?_
                  refine lv_aload_n hx hb dX9_cross_128 rfl (lv_at hl 1 rfl) ?_
                  refine sd_get C0 h (C := RX9) (T := TX9) (N := 8) kcX9 0 (aX_0 ad cA _) rfl 3 (by decide) kfX9_31 (v := .ref (ad 47)) rfl dX9_cross_129 ?_
                  refine sd_get C0 h (C := RX3) (T := TX3) (N := 7) kcX3 47 (aX_47 ad cA _) rfl 5 (by decide) kfX9_218 (v := .int (fI u9.2 11)) rfl dX9_cross_132 ?_
                  exact sd_iret C0 h (Option.some.inj hm) dX9_cross_135
                · replace hm := iq c13 hm
                  by_cases c14 : v4 = 3
                  · replace hm := ip c14 hm
                    refine lv_tableIn (off := 53) (tgt := 136) hx hb dX9_cross_83 (by rw [c14]; decide) (by rw [c14]; decide) (by rw [c14]; rfl) (by decide) ?_
                    refine lv_aload_n hx hb dX9_cross_136 rfl (lv_at hl 1 rfl) ?_
                    refine sd_get C0 h (C := RX9) (T := TX9) (N := 8) kcX9 0 (aX_0 ad cA _) rfl 3 (by decide) kfX9_31 (v := .ref (ad 47)) rfl dX9_cross_137 ?_
                    obtain ⟨u15, hu15, hm⟩ := bs hm
                    refine sd_Vi C0 h kYX3_miss kmX9_221 47 (aX_47 ad cA _) rfl [] (tX3_miss l D cA ad hu15) rfl hl.1 rfl (Nat.le_of_ble_eq_true rfl) (by decide) dX9_cross_140 (by decide) (fun H locs h => ?_)
                    exact sd_iret C0 h (Option.some.inj hm) dX9_cross_143
                  · replace hm := iq c14 hm
                    have c11 := lv_neT c11 (a := 0) (by decide)
                    have c12 := lv_neT c12 (a := 1) (by decide)
                    have c13 := lv_neT c13 (a := 2) (by decide)
                    have c14 := lv_neT c14 (a := 3) (by decide)
                    refine lv_tableOut (tgt := 144) hx hb dX9_cross_83 (by omega) (by decide) ?_
                    refine lv_iconst (v := (-1)) hx hb dX9_cross_144 (by decide) ?_
                    exact sd_iret C0 h (Option.some.inj hm) dX9_cross_145
          · replace hm := ip c10 hm
            refine lv_iload hx hb dX9_cross_78 (lv_at hl 0 rfl) ?_
            exact sd_iret C0 h (Option.some.inj hm) dX9_cross_80
        · replace hm := ip c7 hm
          refine lv_iload hx hb dX9_cross_55 (lv_at hl 0 rfl) ?_
          exact sd_iret C0 h (Option.some.inj hm) dX9_cross_57
def mX9_cross (z : Nat) (v1 : Int32) (v2 : Int32) (v3 : Int32) (v4 : Int32) (S : St) : Option (Int32 × St) :=
  if v4 = 3 then
    mX9_cross_13 z v1 v2 v3 v4 (-30000) S
  else
    mX9_cross_13 z v1 v2 v3 v4 (-1) S
set_option maxHeartbeats 4000000 in
set_option maxRecDepth 100000 in
theorem bX9_cross {p : Program} {l : Launch} {e : Env} {s : State} {m : MethodId} {args : Array Value} {below : List Frame} {meth : Method} {c : Code} {D : va_G} {cA : ClassId} {ad : Nat → Nat} {A : Nat → Prop} {H : Heap} {locs : List Loc} {ls : Array Slot} {q : (Int32 × St)} {z : Nat} {v1 : Int32} {v2 : Int32} {v3 : Int32} {v4 : Int32} {S : St} (C0 : sd_Cx RX9 cX9_cross 6 (some .int) (Cond.code yX9_cross cX9_cross 6 (some .int) :: sd_big) p s m args meth c) (h : sd_Wd D vwCl cA sd_nw (wX ad cA) A s S H locs) (hl : lv_has ls 6 [(0, .ref (ad 0)), (1, .int v1), (2, .int v2), (3, .int v3), (4, .int v4)])  (hm : mX9_cross z v1 v2 v3 v4 S = some q) : W p l e rX9_cross s m args below meth c H locs 0 0 (MQ below (sd_Qi D vwCl (wX ad cA) A q) args s 0 0 A) (F0 m 0 ls []) := by
  unfold mX9_cross at hm
  have hx := C0.1
  have hb := C0.2.1
  refine lv_iload hx hb dX9_cross_0 (lv_at hl 4 rfl) ?_
  refine lv_iconst (v := 3) hx hb dX9_cross_2 (by decide) ?_
  refine lv_icmp_ne (tgt := 12) hx hb dX9_cross_3 (by decide) (fun c1 => ?_) (fun c1 => ?_)
  · replace hm := iq c1 hm
    refine lv_iconst (v := (-1)) hx hb dX9_cross_12 (by decide) ?_
    exact bX9_cross_13 C0 h (lv_sub hl [0, 1, 2, 3, 4] rfl) hm
  · replace hm := ip c1 hm
    refine lv_sipush (v := (-30000)) hx hb dX9_cross_6 (by decide) ?_
    refine lv_goto (tgt := 13) hx hb dX9_cross_9 (by decide) ?_
    exact bX9_cross_13 C0 h (lv_sub hl [0, 1, 2, 3, 4] rfl) hm
theorem tX9_cross (l : Launch) (D : va_G) (cA : ClassId) (ad : Nat → Nat) {z : Nat} {S : St} {v1 : Int32} {v2 : Int32} {v3 : Int32} {v4 : Int32} {q : (Int32 × St)} (hm : mX9_cross z v1 v2 v3 v4 S = some q) : sd_MI l D vwCl cA sd_nw (wX ad cA) yX9_cross (Cond.code yX9_cross cX9_cross 6 (some .int) :: sd_big) rX9_cross [.ref (ad 0), .int v1, .int v2, .int v3, .int v4] S q :=
  sd_ofI (by decide +kernel) (Nat.le_of_ble_eq_true rfl) (fun _ _ _ _ _ _ _ _ _ _ C0 h hl => bX9_cross C0 h (lv_sub hl [0, 1, 2, 3, 4] rfl) hm)

def rJ7_fill_X50 : Room := { frames := 0, cells := 0, slots := 0, locals := 0 }
def mJ7_fill_X50_5b (z : Nat) (rc5 : Int32 → St → Option St) (v1 : Int32) (v3 : Int32) (v2 : Int32) (S : St) : Option St :=
  if v3 ≤ v2 then
    some S
  else
    (wr (fA S 39) 20 v2 v1).bind fun g2 =>
    rc5 (v2 + 1) (sA S 39 g2)
set_option maxHeartbeats 4000000 in
set_option maxRecDepth 100000 in
theorem bJ7_fill_X50_5b {p : Program} {l : Launch} {e : Env} {s : State} {m : MethodId} {args : Array Value} {below : List Frame} {meth : Method} {c : Code} {D : va_G} {cA : ClassId} {ad : Nat → Nat} {A : Nat → Prop} {H : Heap} {locs : List Loc} {ls : Array Slot} {q : St} {z : Nat} {rc5 : Int32 → St → Option St} {v1 : Int32} {v3 : Int32} {v2 : Int32} {S : St} (C0 : sd_Cx RJ7 cJ7_fill_53178 4 none (Cond.code yJ7_fill_53178 cJ7_fill_53178 4 none :: sd_big) p s m args meth c) (h : sd_Wd D vwCl cA sd_nw (wX ad cA) A s S H locs) (hl : lv_has ls 4 [(0, .ref (ad 50)), (1, .int v1), (2, .int v2), (3, .int v3)]) (hrc5 : ∀ (v2 : Int32) (S : St) (H : Heap) (locs : List Loc) (ls : Array Slot), sd_Wd D vwCl cA sd_nw (wX ad cA) A s S H locs → lv_has ls 4 [(0, .ref (ad 50)), (1, .int v1), (2, .int v2), (3, .int v3)] → rc5 v2 S = some q → W p l e rJ7_fill_X50 s m args below meth c H locs 0 0 (MQ below (sd_Qv D vwCl (wX ad cA) A q) args s 0 0 A) (F0 m 5 ls [])) (hm : mJ7_fill_X50_5b z rc5 v1 v3 v2 S = some q) : W p l e rJ7_fill_X50 s m args below meth c H locs 0 0 (MQ below (sd_Qv D vwCl (wX ad cA) A q) args s 0 0 A) (F0 m 5 ls []) := by
  unfold mJ7_fill_X50_5b at hm
  have hx := C0.1
  have hb := C0.2.1
  refine lv_iload_n hx hb dJ7_fill_53178_5 rfl (lv_at hl 2 rfl) ?_
  refine lv_iload_n hx hb dJ7_fill_53178_6 rfl (lv_at hl 3 rfl) ?_
  refine lv_icmp_ge (tgt := 20) hx hb dJ7_fill_53178_7 (by decide) (fun c1 => ?_) (fun c1 => ?_)
  · replace hm := ip c1 hm
    exact sd_vret C0 h (Option.some.inj hm) dJ7_fill_53178_20
  · replace hm := iq c1 hm
    refine lv_aload_n hx hb dJ7_fill_53178_10 rfl (lv_at hl 0 rfl) ?_
    refine lv_iload_n hx hb dJ7_fill_53178_11 rfl (lv_at hl 2 rfl) ?_
    refine lv_iload_n hx hb dJ7_fill_53178_12 rfl (lv_at hl 1 rfl) ?_
    obtain ⟨g2, hg2, hm⟩ := bs hm
    refine sd_wr C0 h (S1 := (sA S 39 g2)) 50 (aX_50 ad cA _) hg2 (eX_50 ad cA _ _) dJ7_fill_53178_13 (fun H locs h => ?_)
    refine lv_iinc (v := (v2 + 1)) (lv' := [(2, .int (v2 + 1)), (0, .ref (ad 50)), (1, .int v1), (3, .int v3)]) hx hb dJ7_fill_53178_14 hl (k := 2) rfl rfl (by decide) rfl (fun ls hl => ?_)
    refine lv_goto (tgt := 5) hx hb dJ7_fill_53178_17 (by decide) ?_
    exact hrc5 _ _ _ _ _ h (lv_sub hl [1, 2, 0, 3] rfl) hm
def mJ7_fill_X50_5 (z : Nat) (v1 : Int32) (v3 : Int32) : Nat → Int32 → St → Option St
  | 0, _, _ => none
  | n + 1, v2, S => mJ7_fill_X50_5b z (mJ7_fill_X50_5 z v1 v3 n) v1 v3 v2 S
set_option maxHeartbeats 4000000 in
set_option maxRecDepth 100000 in
theorem lJ7_fill_X50_5 {p : Program} {l : Launch} {e : Env} {s : State} {m : MethodId} {args : Array Value} {below : List Frame} {meth : Method} {c : Code} {D : va_G} {cA : ClassId} {ad : Nat → Nat} {A : Nat → Prop} {q : St} {z : Nat} {v1 : Int32} {v3 : Int32} (C0 : sd_Cx RJ7 cJ7_fill_53178 4 none (Cond.code yJ7_fill_53178 cJ7_fill_53178 4 none :: sd_big) p s m args meth c)  : ∀ (n : Nat) (v2 : Int32) (S : St) (H : Heap) (locs : List Loc) (ls : Array Slot), sd_Wd D vwCl cA sd_nw (wX ad cA) A s S H locs → lv_has ls 4 [(0, .ref (ad 50)), (1, .int v1), (2, .int v2), (3, .int v3)] → mJ7_fill_X50_5 z v1 v3 n v2 S = some q → W p l e rJ7_fill_X50 s m args below meth c H locs 0 0 (MQ below (sd_Qv D vwCl (wX ad cA) A q) args s 0 0 A) (F0 m 5 ls []) := by
  intro n
  induction n with
  | zero =>
    intro v2 S H locs ls h hl hm
    exact nomatch (show none = some q from hm)
  | succ n ih =>
    intro v2 S H locs ls h hl hm
    exact bJ7_fill_X50_5b C0 h hl ih hm
def mJ7_fill_X50 (z : Nat) (v1 : Int32) (S : St) : Option St :=
  mJ7_fill_X50_5 z v1 20 z 0 S
set_option maxHeartbeats 4000000 in
set_option maxRecDepth 100000 in
theorem bJ7_fill_X50 {p : Program} {l : Launch} {e : Env} {s : State} {m : MethodId} {args : Array Value} {below : List Frame} {meth : Method} {c : Code} {D : va_G} {cA : ClassId} {ad : Nat → Nat} {A : Nat → Prop} {H : Heap} {locs : List Loc} {ls : Array Slot} {q : St} {z : Nat} {v1 : Int32} {S : St} (C0 : sd_Cx RJ7 cJ7_fill_53178 4 none (Cond.code yJ7_fill_53178 cJ7_fill_53178 4 none :: sd_big) p s m args meth c) (h : sd_Wd D vwCl cA sd_nw (wX ad cA) A s S H locs) (hl : lv_has ls 4 [(0, .ref (ad 50)), (1, .int v1)])  (hm : mJ7_fill_X50 z v1 S = some q) : W p l e rJ7_fill_X50 s m args below meth c H locs 0 0 (MQ below (sd_Qv D vwCl (wX ad cA) A q) args s 0 0 A) (F0 m 0 ls []) := by
  unfold mJ7_fill_X50 at hm
  have hx := C0.1
  have hb := C0.2.1
  refine lv_iconst (v := 0) hx hb dJ7_fill_53178_0 (by decide) ?_
  refine lv_istore_n (lv' := [(2, .int 0), (0, .ref (ad 50)), (1, .int v1)]) hx hb dJ7_fill_53178_1 rfl hl (by decide) rfl (fun ls hl => ?_)
  refine lv_aload_n hx hb dJ7_fill_53178_2 rfl (lv_at hl 1 rfl) ?_
  refine sd_len C0 h 50 (aX_50 ad cA _) (v := 20) rfl dJ7_fill_53178_3 ?_
  refine lv_istore_n (lv' := [(3, .int 20), (2, .int 0), (0, .ref (ad 50)), (1, .int v1)]) hx hb dJ7_fill_53178_4 rfl hl (by decide) rfl (fun ls hl => ?_)
  exact lJ7_fill_X50_5 C0 _ _ _ _ _ _ h (lv_sub hl [2, 3, 1, 0] rfl) hm
theorem tJ7_fill_X50 (l : Launch) (D : va_G) (cA : ClassId) (ad : Nat → Nat) {z : Nat} {S : St} {v1 : Int32} {q : St} (hm : mJ7_fill_X50 z v1 S = some q) : sd_MV l D vwCl cA sd_nw (wX ad cA) yJ7_fill_53178 (Cond.code yJ7_fill_53178 cJ7_fill_53178 4 none :: sd_big) rJ7_fill_X50 [.ref (ad 50), .int v1] S q :=
  sd_ofV (by decide +kernel) (Nat.le_of_ble_eq_true rfl) (fun _ _ _ _ _ _ _ _ _ _ C0 h hl => bJ7_fill_X50 C0 h (lv_sub hl [0, 1] rfl) hm)

def rJ9_abs : Room := { frames := 0, cells := 0, slots := 0, locals := 0 }
def mJ9_abs (S : St) (v0 : Int32) : Option Int32 :=
  if 0 ≤ v0 then
    some v0
  else
    some (-v0)
set_option maxHeartbeats 4000000 in
set_option maxRecDepth 100000 in
theorem bJ9_abs {p : Program} {l : Launch} {e : Env} {s : State} {m : MethodId} {args : Array Value} {below : List Frame} {meth : Method} {c : Code} {D : va_G} {cA : ClassId} {ad : Nat → Nat} {A : Nat → Prop} {H : Heap} {locs : List Loc} {ls : Array Slot} {q : Int32} {S : St} {v0 : Int32} (C0 : sd_Cx RJ9 cJ9_abs_0f7a4 1 (some .int) (Cond.code yJ9_abs_0f7a4 cJ9_abs_0f7a4 1 (some .int) :: sd_big) p s m args meth c) (h : sd_Wd D vwCl cA sd_nw (wX ad cA) A s S H locs) (hl : lv_has ls 1 [(0, .int v0)])  (hm : mJ9_abs S v0 = some q) : W p l e rJ9_abs s m args below meth c H locs 0 0 (MQ below (sd_Qi D vwCl (wX ad cA) A (q, S)) args s 0 0 A) (F0 m 0 ls []) := by
  unfold mJ9_abs at hm
  have hx := C0.1
  have hb := C0.2.1
  refine lv_iload_n hx hb dJ9_abs_0f7a4_0 rfl (lv_at hl 0 rfl) ?_
  refine lv_if_ge (tgt := 9) hx hb dJ9_abs_0f7a4_1 (by decide) (fun c1 => ?_) (fun c1 => ?_)
  · replace hm := ip c1 hm
    refine lv_iload_n hx hb dJ9_abs_0f7a4_9 rfl (lv_at hl 0 rfl) ?_
    exact sd_iret C0 h (congrArg (fun x => (x, S)) (Option.some.inj hm)) dJ9_abs_0f7a4_10
  · replace hm := iq c1 hm
    refine lv_iload_n hx hb dJ9_abs_0f7a4_4 rfl (lv_at hl 0 rfl) ?_
    refine lv_ineg hx hb dJ9_abs_0f7a4_5 ?_
    refine lv_goto (tgt := 10) hx hb dJ9_abs_0f7a4_6 (by decide) ?_
    exact sd_iret C0 h (congrArg (fun x => (x, S)) (Option.some.inj hm)) dJ9_abs_0f7a4_10
theorem tJ9_abs (l : Launch) (D : va_G) (cA : ClassId) (ad : Nat → Nat) {S : St} {v0 : Int32} {q : Int32} (hm : mJ9_abs S v0 = some q) : sd_MI l D vwCl cA sd_nw (wX ad cA) yJ9_abs_0f7a4 (Cond.code yJ9_abs_0f7a4 cJ9_abs_0f7a4 1 (some .int) :: sd_big) rJ9_abs [.int v0] S (q, S) :=
  sd_ofIF (by decide +kernel) (Nat.le_of_ble_eq_true rfl) (fun _ _ _ _ _ _ _ _ _ _ C0 h hl => bJ9_abs C0 h (lv_sub hl [0] rfl) hm)

def rX3_addMiss : Room := { frames := 1, cells := 0, slots := 0, locals := 21 }
def mX3_addMiss (v1 : Int32) (S : St) : Option St :=
  (rd (fA S 39) 20 v1).bind fun x1 =>
  (mJ9_max S 0 x1).bind fun u2 =>
  (mX3_miss S).bind fun u3 =>
  (mJ9_abs S u3).bind fun u4 =>
  (wr (fA S 39) 20 v1 (u2 + u4)).bind fun g5 =>
  some (sA S 39 g5)
set_option maxHeartbeats 4000000 in
set_option maxRecDepth 100000 in
theorem bX3_addMiss {p : Program} {l : Launch} {e : Env} {s : State} {m : MethodId} {args : Array Value} {below : List Frame} {meth : Method} {c : Code} {D : va_G} {cA : ClassId} {ad : Nat → Nat} {A : Nat → Prop} {H : Heap} {locs : List Loc} {ls : Array Slot} {q : St} {v1 : Int32} {S : St} (C0 : sd_Cx RX3 cX3_addMiss 2 none (Cond.code yX3_addMiss cX3_addMiss 2 none :: sd_big) p s m args meth c) (h : sd_Wd D vwCl cA sd_nw (wX ad cA) A s S H locs) (hl : lv_has ls 2 [(0, .ref (ad 47)), (1, .int v1)])  (hm : mX3_addMiss v1 S = some q) : W p l e rX3_addMiss s m args below meth c H locs 0 0 (MQ below (sd_Qv D vwCl (wX ad cA) A q) args s 0 0 A) (F0 m 0 ls []) := by
  unfold mX3_addMiss at hm
  have hx := C0.1
  have hb := C0.2.1
  refine lv_aload_n hx hb dX3_addMiss_0 rfl (lv_at hl 0 rfl) ?_
  refine sd_get C0 h (C := RX3) (T := TX3) (N := 7) kcX3 47 (aX_47 ad cA _) rfl 3 (by decide) kfX3_18 (v := .ref (ad 50)) rfl dX3_addMiss_1 ?_
  refine lv_iload_n hx hb dX3_addMiss_4 rfl (lv_at hl 1 rfl) ?_
  refine lv_iconst (v := 0) hx hb dX3_addMiss_5 (by decide) ?_
  refine lv_aload_n hx hb dX3_addMiss_6 rfl (lv_at hl 0 rfl) ?_
  refine sd_get C0 h (C := RX3) (T := TX3) (N := 7) kcX3 47 (aX_47 ad cA _) rfl 3 (by decide) kfX3_18 (v := .ref (ad 50)) rfl dX3_addMiss_7 ?_
  refine lv_iload_n hx hb dX3_addMiss_10 rfl (lv_at hl 1 rfl) ?_
  obtain ⟨x1, hx1, hm⟩ := bs hm
  refine sd_rd C0 h 50 (aX_50 ad cA _) hx1 dX3_addMiss_11 ?_
  obtain ⟨u2, hu2, hm⟩ := bs hm
  refine sd_Si C0 h kYJ9_max_7cf53 kmX3_85 [.int 0, .int x1] (tJ9_max l D cA ad hu2) rfl hl.1 rfl (Nat.le_of_ble_eq_true rfl) (by decide) dX3_addMiss_12 (by decide) (fun H locs h => ?_)
  refine lv_aload_n hx hb dX3_addMiss_15 rfl (lv_at hl 0 rfl) ?_
  obtain ⟨u3, hu3, hm⟩ := bs hm
  refine sd_Vi C0 h kYX3_miss kmX3_90 47 (aX_47 ad cA _) rfl [] (tX3_miss l D cA ad hu3) rfl hl.1 rfl (Nat.le_of_ble_eq_true rfl) (by decide) dX3_addMiss_16 (by decide) (fun H locs h => ?_)
  obtain ⟨u4, hu4, hm⟩ := bs hm
  refine sd_Si C0 h kYJ9_abs_0f7a4 kmX3_94 [.int u3] (tJ9_abs l D cA ad hu4) rfl hl.1 rfl (Nat.le_of_ble_eq_true rfl) (by decide) dX3_addMiss_19 (by decide) (fun H locs h => ?_)
  refine lv_iadd hx hb dX3_addMiss_22 ?_
  obtain ⟨g5, hg5, hm⟩ := bs hm
  refine sd_wr C0 h (S1 := (sA S 39 g5)) 50 (aX_50 ad cA _) hg5 (eX_50 ad cA _ _) dX3_addMiss_23 (fun H locs h => ?_)
  exact sd_vret C0 h (Option.some.inj hm) dX3_addMiss_24
theorem tX3_addMiss (l : Launch) (D : va_G) (cA : ClassId) (ad : Nat → Nat) {S : St} {v1 : Int32} {q : St} (hm : mX3_addMiss v1 S = some q) : sd_MV l D vwCl cA sd_nw (wX ad cA) yX3_addMiss (Cond.code yX3_addMiss cX3_addMiss 2 none :: sd_big) rX3_addMiss [.ref (ad 47), .int v1] S q :=
  sd_ofV (by decide +kernel) (Nat.le_of_ble_eq_true rfl) (fun _ _ _ _ _ _ _ _ _ _ C0 h hl => bX3_addMiss C0 h (lv_sub hl [0, 1] rfl) hm)

def rX3_addMisses : Room := { frames := 2, cells := 0, slots := 0, locals := 50 }
def mX3_addMisses_28b (z : Nat) (rc10 : Int32 → St → Option St) (rc28 : Int32 → St → Option St) (v1 : Int32) (v2 : Int32) (v3 : Int32) (S : St) : Option St :=
  if (fI S 1) ≤ v3 then
    rc10 (v2 + 1) S
  else
    (mX3_find z v2 v3 v1 S).bind fun u2 =>
    if u2.1 = 0 then
      rc28 (v3 + 1) u2.2
    else
      (mX3_addMiss v2 u2.2).bind fun u4 =>
      (mX3_addMiss v3 u4).bind fun u5 =>
      rc28 (v3 + 1) u5
set_option maxHeartbeats 4000000 in
set_option maxRecDepth 100000 in
theorem bX3_addMisses_28b {p : Program} {l : Launch} {e : Env} {s : State} {m : MethodId} {args : Array Value} {below : List Frame} {meth : Method} {c : Code} {D : va_G} {cA : ClassId} {ad : Nat → Nat} {A : Nat → Prop} {H : Heap} {locs : List Loc} {ls : Array Slot} {q : St} {z : Nat} {rc10 : Int32 → St → Option St} {rc28 : Int32 → St → Option St} {v1 : Int32} {v2 : Int32} {v3 : Int32} {S : St} (C0 : sd_Cx RX3 cX3_addMisses 4 none (Cond.code yX3_addMisses cX3_addMisses 4 none :: sd_big) p s m args meth c) (h : sd_Wd D vwCl cA sd_nw (wX ad cA) A s S H locs) (hl : lv_has ls 4 [(0, .ref (ad 47)), (1, .int v1), (2, .int v2), (3, .int v3)]) (hrc10 : ∀ (v2 : Int32) (S : St) (H : Heap) (locs : List Loc) (ls : Array Slot), sd_Wd D vwCl cA sd_nw (wX ad cA) A s S H locs → lv_has ls 4 [(0, .ref (ad 47)), (1, .int v1), (2, .int v2)] → rc10 v2 S = some q → W p l e rX3_addMisses s m args below meth c H locs 0 0 (MQ below (sd_Qv D vwCl (wX ad cA) A q) args s 0 0 A) (F0 m 10 ls [])) (hrc28 : ∀ (v3 : Int32) (S : St) (H : Heap) (locs : List Loc) (ls : Array Slot), sd_Wd D vwCl cA sd_nw (wX ad cA) A s S H locs → lv_has ls 4 [(0, .ref (ad 47)), (1, .int v1), (2, .int v2), (3, .int v3)] → rc28 v3 S = some q → W p l e rX3_addMisses s m args below meth c H locs 0 0 (MQ below (sd_Qv D vwCl (wX ad cA) A q) args s 0 0 A) (F0 m 28 ls [])) (hm : mX3_addMisses_28b z rc10 rc28 v1 v2 v3 S = some q) : W p l e rX3_addMisses s m args below meth c H locs 0 0 (MQ below (sd_Qv D vwCl (wX ad cA) A q) args s 0 0 A) (F0 m 28 ls []) := by
  unfold mX3_addMisses_28b at hm
  have hx := C0.1
  have hb := C0.2.1
  refine lv_iload_n hx hb dX3_addMisses_28 rfl (lv_at hl 3 rfl) ?_
  refine lv_aload_n hx hb dX3_addMisses_29 rfl (lv_at hl 0 rfl) ?_
  refine sd_get C0 h (C := RX3) (T := TX3) (N := 7) kcX3 47 (aX_47 ad cA _) rfl 0 (by decide) kfX3_31 (v := .ref (ad 1)) rfl dX3_addMisses_30 ?_
  refine sd_get C0 h (C := RX7) (T := TX7) (N := 4) kcX7 1 (aX_1 ad cA _) rfl 0 (by decide) kfX3_71 (v := .ref (ad 2)) rfl dX3_addMisses_33 ?_
  refine sd_get C0 h (C := RX4) (T := TX4) (N := 4) kcX4 2 (aX_2 ad cA _) rfl 3 (by decide) kfX3_74 (v := .int (fI S 1)) rfl dX3_addMisses_36 ?_
  refine lv_icmp_ge (tgt := 68) hx hb dX3_addMisses_39 (by decide) (fun c1 => ?_) (fun c1 => ?_)
  · replace hm := ip c1 hm
    refine lv_iinc (v := (v2 + 1)) (lv' := [(2, .int (v2 + 1)), (0, .ref (ad 47)), (1, .int v1), (3, .int v3)]) hx hb dX3_addMisses_68 hl (k := 2) rfl rfl (by decide) rfl (fun ls hl => ?_)
    refine lv_goto (tgt := 10) hx hb dX3_addMisses_71 (by decide) ?_
    exact hrc10 _ _ _ _ _ h (lv_sub hl [1, 2, 0] rfl) hm
  · replace hm := iq c1 hm
    refine lv_aload_n hx hb dX3_addMisses_42 rfl (lv_at hl 0 rfl) ?_
    refine lv_iload_n hx hb dX3_addMisses_43 rfl (lv_at hl 2 rfl) ?_
    refine lv_iload_n hx hb dX3_addMisses_44 rfl (lv_at hl 3 rfl) ?_
    refine lv_iload_n hx hb dX3_addMisses_45 rfl (lv_at hl 1 rfl) ?_
    obtain ⟨u2, hu2, hm⟩ := bs hm
    refine sd_Vi C0 h kYX3_find kmX3_77 47 (aX_47 ad cA _) rfl [.int v2, .int v3, .int v1] (tX3_find l D cA ad hu2) rfl hl.1 rfl (Nat.le_of_ble_eq_true rfl) (by decide) dX3_addMisses_46 (by decide) (fun H locs h => ?_)
    refine lv_if_eq (tgt := 62) hx hb dX3_addMisses_49 (by decide) (fun c3 => ?_) (fun c3 => ?_)
    · replace hm := ip c3 hm
      refine lv_iinc (v := (v3 + 1)) (lv' := [(3, .int (v3 + 1)), (0, .ref (ad 47)), (1, .int v1), (2, .int v2)]) hx hb dX3_addMisses_62 hl (k := 3) rfl rfl (by decide) rfl (fun ls hl => ?_)
      refine lv_goto (tgt := 28) hx hb dX3_addMisses_65 (by decide) ?_
      exact hrc28 _ _ _ _ _ h (lv_sub hl [1, 2, 3, 0] rfl) hm
    · replace hm := iq c3 hm
      refine lv_aload_n hx hb dX3_addMisses_52 rfl (lv_at hl 0 rfl) ?_
      refine lv_iload_n hx hb dX3_addMisses_53 rfl (lv_at hl 2 rfl) ?_
      obtain ⟨u4, hu4, hm⟩ := bs hm
      refine sd_Vv C0 h kYX3_addMiss kmX3_81 47 (aX_47 ad cA _) rfl [.int v2] (tX3_addMiss l D cA ad hu4) rfl hl.1 rfl (Nat.le_of_ble_eq_true rfl) (by decide) dX3_addMisses_54 (by decide) (fun H locs h => ?_)
      refine lv_aload_n hx hb dX3_addMisses_57 rfl (lv_at hl 0 rfl) ?_
      refine lv_iload_n hx hb dX3_addMisses_58 rfl (lv_at hl 3 rfl) ?_
      obtain ⟨u5, hu5, hm⟩ := bs hm
      refine sd_Vv C0 h kYX3_addMiss kmX3_81 47 (aX_47 ad cA _) rfl [.int v3] (tX3_addMiss l D cA ad hu5) rfl hl.1 rfl (Nat.le_of_ble_eq_true rfl) (by decide) dX3_addMisses_59 (by decide) (fun H locs h => ?_)
      refine lv_iinc (v := (v3 + 1)) (lv' := [(3, .int (v3 + 1)), (0, .ref (ad 47)), (1, .int v1), (2, .int v2)]) hx hb dX3_addMisses_62 hl (k := 3) rfl rfl (by decide) rfl (fun ls hl => ?_)
      refine lv_goto (tgt := 28) hx hb dX3_addMisses_65 (by decide) ?_
      exact hrc28 _ _ _ _ _ h (lv_sub hl [1, 2, 3, 0] rfl) hm
def mX3_addMisses_28 (z : Nat) (rc10 : Int32 → St → Option St) (v1 : Int32) (v2 : Int32) : Nat → Int32 → St → Option St
  | 0, _, _ => none
  | n + 1, v3, S => mX3_addMisses_28b z rc10 (mX3_addMisses_28 z rc10 v1 v2 n) v1 v2 v3 S
set_option maxHeartbeats 4000000 in
set_option maxRecDepth 100000 in
theorem lX3_addMisses_28 {p : Program} {l : Launch} {e : Env} {s : State} {m : MethodId} {args : Array Value} {below : List Frame} {meth : Method} {c : Code} {D : va_G} {cA : ClassId} {ad : Nat → Nat} {A : Nat → Prop} {q : St} {z : Nat} {rc10 : Int32 → St → Option St} {v1 : Int32} {v2 : Int32} (C0 : sd_Cx RX3 cX3_addMisses 4 none (Cond.code yX3_addMisses cX3_addMisses 4 none :: sd_big) p s m args meth c) (hrc10 : ∀ (v2 : Int32) (S : St) (H : Heap) (locs : List Loc) (ls : Array Slot), sd_Wd D vwCl cA sd_nw (wX ad cA) A s S H locs → lv_has ls 4 [(0, .ref (ad 47)), (1, .int v1), (2, .int v2)] → rc10 v2 S = some q → W p l e rX3_addMisses s m args below meth c H locs 0 0 (MQ below (sd_Qv D vwCl (wX ad cA) A q) args s 0 0 A) (F0 m 10 ls [])) : ∀ (n : Nat) (v3 : Int32) (S : St) (H : Heap) (locs : List Loc) (ls : Array Slot), sd_Wd D vwCl cA sd_nw (wX ad cA) A s S H locs → lv_has ls 4 [(0, .ref (ad 47)), (1, .int v1), (2, .int v2), (3, .int v3)] → mX3_addMisses_28 z rc10 v1 v2 n v3 S = some q → W p l e rX3_addMisses s m args below meth c H locs 0 0 (MQ below (sd_Qv D vwCl (wX ad cA) A q) args s 0 0 A) (F0 m 28 ls []) := by
  intro n
  induction n with
  | zero =>
    intro v3 S H locs ls h hl hm
    exact nomatch (show none = some q from hm)
  | succ n ih =>
    intro v3 S H locs ls h hl hm
    exact bX3_addMisses_28b C0 h hl hrc10 ih hm
def mX3_addMisses_10b (z : Nat) (rc10 : Int32 → St → Option St) (v1 : Int32) (v2 : Int32) (S : St) : Option St :=
  if (fI S 1) ≤ v2 then
    some S
  else
    mX3_addMisses_28 z rc10 v1 v2 z (v2 + 1) S
set_option maxHeartbeats 4000000 in
set_option maxRecDepth 100000 in
theorem bX3_addMisses_10b {p : Program} {l : Launch} {e : Env} {s : State} {m : MethodId} {args : Array Value} {below : List Frame} {meth : Method} {c : Code} {D : va_G} {cA : ClassId} {ad : Nat → Nat} {A : Nat → Prop} {H : Heap} {locs : List Loc} {ls : Array Slot} {q : St} {z : Nat} {rc10 : Int32 → St → Option St} {v1 : Int32} {v2 : Int32} {S : St} (C0 : sd_Cx RX3 cX3_addMisses 4 none (Cond.code yX3_addMisses cX3_addMisses 4 none :: sd_big) p s m args meth c) (h : sd_Wd D vwCl cA sd_nw (wX ad cA) A s S H locs) (hl : lv_has ls 4 [(0, .ref (ad 47)), (1, .int v1), (2, .int v2)]) (hrc10 : ∀ (v2 : Int32) (S : St) (H : Heap) (locs : List Loc) (ls : Array Slot), sd_Wd D vwCl cA sd_nw (wX ad cA) A s S H locs → lv_has ls 4 [(0, .ref (ad 47)), (1, .int v1), (2, .int v2)] → rc10 v2 S = some q → W p l e rX3_addMisses s m args below meth c H locs 0 0 (MQ below (sd_Qv D vwCl (wX ad cA) A q) args s 0 0 A) (F0 m 10 ls [])) (hm : mX3_addMisses_10b z rc10 v1 v2 S = some q) : W p l e rX3_addMisses s m args below meth c H locs 0 0 (MQ below (sd_Qv D vwCl (wX ad cA) A q) args s 0 0 A) (F0 m 10 ls []) := by
  unfold mX3_addMisses_10b at hm
  have hx := C0.1
  have hb := C0.2.1
  refine lv_iload_n hx hb dX3_addMisses_10 rfl (lv_at hl 2 rfl) ?_
  refine lv_aload_n hx hb dX3_addMisses_11 rfl (lv_at hl 0 rfl) ?_
  refine sd_get C0 h (C := RX3) (T := TX3) (N := 7) kcX3 47 (aX_47 ad cA _) rfl 0 (by decide) kfX3_31 (v := .ref (ad 1)) rfl dX3_addMisses_12 ?_
  refine sd_get C0 h (C := RX7) (T := TX7) (N := 4) kcX7 1 (aX_1 ad cA _) rfl 0 (by decide) kfX3_71 (v := .ref (ad 2)) rfl dX3_addMisses_15 ?_
  refine sd_get C0 h (C := RX4) (T := TX4) (N := 4) kcX4 2 (aX_2 ad cA _) rfl 3 (by decide) kfX3_74 (v := .int (fI S 1)) rfl dX3_addMisses_18 ?_
  refine lv_icmp_ge (tgt := 74) hx hb dX3_addMisses_21 (by decide) (fun c1 => ?_) (fun c1 => ?_)
  · replace hm := ip c1 hm
    exact sd_vret C0 h (Option.some.inj hm) dX3_addMisses_74
  · replace hm := iq c1 hm
    refine lv_iload_n hx hb dX3_addMisses_24 rfl (lv_at hl 2 rfl) ?_
    refine lv_iconst (v := 1) hx hb dX3_addMisses_25 (by decide) ?_
    refine lv_iadd hx hb dX3_addMisses_26 ?_
    refine lv_istore_n (lv' := [(3, .int (v2 + 1)), (0, .ref (ad 47)), (1, .int v1), (2, .int v2)]) hx hb dX3_addMisses_27 rfl hl (by decide) rfl (fun ls hl => ?_)
    exact lX3_addMisses_28 C0 hrc10 _ _ _ _ _ _ h (lv_sub hl [1, 2, 3, 0] rfl) hm
def mX3_addMisses_10 (z : Nat) (v1 : Int32) : Nat → Int32 → St → Option St
  | 0, _, _ => none
  | n + 1, v2, S => mX3_addMisses_10b z (mX3_addMisses_10 z v1 n) v1 v2 S
set_option maxHeartbeats 4000000 in
set_option maxRecDepth 100000 in
theorem lX3_addMisses_10 {p : Program} {l : Launch} {e : Env} {s : State} {m : MethodId} {args : Array Value} {below : List Frame} {meth : Method} {c : Code} {D : va_G} {cA : ClassId} {ad : Nat → Nat} {A : Nat → Prop} {q : St} {z : Nat} {v1 : Int32} (C0 : sd_Cx RX3 cX3_addMisses 4 none (Cond.code yX3_addMisses cX3_addMisses 4 none :: sd_big) p s m args meth c)  : ∀ (n : Nat) (v2 : Int32) (S : St) (H : Heap) (locs : List Loc) (ls : Array Slot), sd_Wd D vwCl cA sd_nw (wX ad cA) A s S H locs → lv_has ls 4 [(0, .ref (ad 47)), (1, .int v1), (2, .int v2)] → mX3_addMisses_10 z v1 n v2 S = some q → W p l e rX3_addMisses s m args below meth c H locs 0 0 (MQ below (sd_Qv D vwCl (wX ad cA) A q) args s 0 0 A) (F0 m 10 ls []) := by
  intro n
  induction n with
  | zero =>
    intro v2 S H locs ls h hl hm
    exact nomatch (show none = some q from hm)
  | succ n ih =>
    intro v2 S H locs ls h hl hm
    exact bX3_addMisses_10b C0 h hl ih hm
def mX3_addMisses (z : Nat) (v1 : Int32) (S : St) : Option St :=
  (mJ7_fill_X50 z (-1) S).bind fun u1 =>
  mX3_addMisses_10 z v1 z 0 u1
set_option maxHeartbeats 4000000 in
set_option maxRecDepth 100000 in
theorem bX3_addMisses {p : Program} {l : Launch} {e : Env} {s : State} {m : MethodId} {args : Array Value} {below : List Frame} {meth : Method} {c : Code} {D : va_G} {cA : ClassId} {ad : Nat → Nat} {A : Nat → Prop} {H : Heap} {locs : List Loc} {ls : Array Slot} {q : St} {z : Nat} {v1 : Int32} {S : St} (C0 : sd_Cx RX3 cX3_addMisses 4 none (Cond.code yX3_addMisses cX3_addMisses 4 none :: sd_big) p s m args meth c) (h : sd_Wd D vwCl cA sd_nw (wX ad cA) A s S H locs) (hl : lv_has ls 4 [(0, .ref (ad 47)), (1, .int v1)])  (hm : mX3_addMisses z v1 S = some q) : W p l e rX3_addMisses s m args below meth c H locs 0 0 (MQ below (sd_Qv D vwCl (wX ad cA) A q) args s 0 0 A) (F0 m 0 ls []) := by
  unfold mX3_addMisses at hm
  have hx := C0.1
  have hb := C0.2.1
  refine lv_aload_n hx hb dX3_addMisses_0 rfl (lv_at hl 0 rfl) ?_
  refine sd_get C0 h (C := RX3) (T := TX3) (N := 7) kcX3 47 (aX_47 ad cA _) rfl 3 (by decide) kfX3_18 (v := .ref (ad 50)) rfl dX3_addMisses_1 ?_
  refine lv_iconst (v := (-1)) hx hb dX3_addMisses_4 (by decide) ?_
  obtain ⟨u1, hu1, hm⟩ := bs hm
  refine sd_Sv C0 h kYJ7_fill_53178 kmX3_65 [.ref (ad 50), .int (-1)] (tJ7_fill_X50 l D cA ad hu1) rfl hl.1 rfl (Nat.le_of_ble_eq_true rfl) (by decide) dX3_addMisses_5 (by decide) (fun H locs h => ?_)
  refine lv_iconst (v := 0) hx hb dX3_addMisses_8 (by decide) ?_
  refine lv_istore_n (lv' := [(2, .int 0), (0, .ref (ad 47)), (1, .int v1)]) hx hb dX3_addMisses_9 rfl hl (by decide) rfl (fun ls hl => ?_)
  exact lX3_addMisses_10 C0 _ _ _ _ _ _ h (lv_sub hl [1, 2, 0] rfl) hm
theorem tX3_addMisses (l : Launch) (D : va_G) (cA : ClassId) (ad : Nat → Nat) {z : Nat} {S : St} {v1 : Int32} {q : St} (hm : mX3_addMisses z v1 S = some q) : sd_MV l D vwCl cA sd_nw (wX ad cA) yX3_addMisses (Cond.code yX3_addMisses cX3_addMisses 4 none :: sd_big) rX3_addMisses [.ref (ad 47), .int v1] S q :=
  sd_ofV (by decide +kernel) (Nat.le_of_ble_eq_true rfl) (fun _ _ _ _ _ _ _ _ _ _ C0 h hl => bX3_addMisses C0 h (lv_sub hl [0, 1] rfl) hm)

def rX3_lineThatMissesMost : Room := { frames := 0, cells := 0, slots := 0, locals := 0 }
def mX3_lineThatMissesMost_6b (z : Nat) (S : St) (rc6 : Int32 → Int32 → Int32 → Option Int32) (v1 : Int32) (v2 : Int32) (v3 : Int32) : Option Int32 :=
  if (fI S 1) ≤ v3 then
    some v2
  else
    (rd (fA S 39) 20 v3).bind fun x2 =>
    if x2 ≤ v1 then
      rc6 v1 v2 (v3 + 1)
    else
      (rd (fA S 39) 20 v3).bind fun x4 =>
      rc6 x4 v3 (v3 + 1)
set_option maxHeartbeats 4000000 in
set_option maxRecDepth 100000 in
theorem bX3_lineThatMissesMost_6b {p : Program} {l : Launch} {e : Env} {s : State} {m : MethodId} {args : Array Value} {below : List Frame} {meth : Method} {c : Code} {D : va_G} {cA : ClassId} {ad : Nat → Nat} {A : Nat → Prop} {H : Heap} {locs : List Loc} {ls : Array Slot} {q : Int32} {z : Nat} {S : St} {rc6 : Int32 → Int32 → Int32 → Option Int32} {v1 : Int32} {v2 : Int32} {v3 : Int32} (C0 : sd_Cx RX3 cX3_lineThatMissesMost 4 (some .int) (Cond.code yX3_lineThatMissesMost cX3_lineThatMissesMost 4 (some .int) :: sd_big) p s m args meth c) (h : sd_Wd D vwCl cA sd_nw (wX ad cA) A s S H locs) (hl : lv_has ls 4 [(0, .ref (ad 47)), (1, .int v1), (2, .int v2), (3, .int v3)]) (hrc6 : ∀ (v1 : Int32) (v2 : Int32) (v3 : Int32) (H : Heap) (locs : List Loc) (ls : Array Slot), sd_Wd D vwCl cA sd_nw (wX ad cA) A s S H locs → lv_has ls 4 [(0, .ref (ad 47)), (1, .int v1), (2, .int v2), (3, .int v3)] → rc6 v1 v2 v3 = some q → W p l e rX3_lineThatMissesMost s m args below meth c H locs 0 0 (MQ below (sd_Qi D vwCl (wX ad cA) A (q, S)) args s 0 0 A) (F0 m 6 ls [])) (hm : mX3_lineThatMissesMost_6b z S rc6 v1 v2 v3 = some q) : W p l e rX3_lineThatMissesMost s m args below meth c H locs 0 0 (MQ below (sd_Qi D vwCl (wX ad cA) A (q, S)) args s 0 0 A) (F0 m 6 ls []) := by
  unfold mX3_lineThatMissesMost_6b at hm
  have hx := C0.1
  have hb := C0.2.1
  refine lv_iload_n hx hb dX3_lineThatMissesMost_6 rfl (lv_at hl 3 rfl) ?_
  refine lv_aload_n hx hb dX3_lineThatMissesMost_7 rfl (lv_at hl 0 rfl) ?_
  refine sd_get C0 h (C := RX3) (T := TX3) (N := 7) kcX3 47 (aX_47 ad cA _) rfl 0 (by decide) kfX3_31 (v := .ref (ad 1)) rfl dX3_lineThatMissesMost_8 ?_
  refine sd_get C0 h (C := RX7) (T := TX7) (N := 4) kcX7 1 (aX_1 ad cA _) rfl 0 (by decide) kfX3_71 (v := .ref (ad 2)) rfl dX3_lineThatMissesMost_11 ?_
  refine sd_get C0 h (C := RX4) (T := TX4) (N := 4) kcX4 2 (aX_2 ad cA _) rfl 3 (by decide) kfX3_74 (v := .int (fI S 1)) rfl dX3_lineThatMissesMost_14 ?_
  refine lv_icmp_ge (tgt := 45) hx hb dX3_lineThatMissesMost_17 (by decide) (fun c1 => ?_) (fun c1 => ?_)
  · replace hm := ip c1 hm
    refine lv_iload_n hx hb dX3_lineThatMissesMost_45 rfl (lv_at hl 2 rfl) ?_
    exact sd_iret C0 h (congrArg (fun x => (x, S)) (Option.some.inj hm)) dX3_lineThatMissesMost_46
  · replace hm := iq c1 hm
    refine lv_aload_n hx hb dX3_lineThatMissesMost_20 rfl (lv_at hl 0 rfl) ?_
    refine sd_get C0 h (C := RX3) (T := TX3) (N := 7) kcX3 47 (aX_47 ad cA _) rfl 3 (by decide) kfX3_18 (v := .ref (ad 50)) rfl dX3_lineThatMissesMost_21 ?_
    refine lv_iload_n hx hb dX3_lineThatMissesMost_24 rfl (lv_at hl 3 rfl) ?_
    obtain ⟨x2, hx2, hm⟩ := bs hm
    refine sd_rd C0 h 50 (aX_50 ad cA _) hx2 dX3_lineThatMissesMost_25 ?_
    refine lv_iload_n hx hb dX3_lineThatMissesMost_26 rfl (lv_at hl 1 rfl) ?_
    refine lv_icmp_le (tgt := 39) hx hb dX3_lineThatMissesMost_27 (by decide) (fun c3 => ?_) (fun c3 => ?_)
    · replace hm := ip c3 hm
      refine lv_iinc (v := (v3 + 1)) (lv' := [(3, .int (v3 + 1)), (0, .ref (ad 47)), (1, .int v1), (2, .int v2)]) hx hb dX3_lineThatMissesMost_39 hl (k := 3) rfl rfl (by decide) rfl (fun ls hl => ?_)
      refine lv_goto (tgt := 6) hx hb dX3_lineThatMissesMost_42 (by decide) ?_
      exact hrc6 _ _ _ _ _ _ h (lv_sub hl [1, 2, 3, 0] rfl) hm
    · replace hm := iq c3 hm
      refine lv_aload_n hx hb dX3_lineThatMissesMost_30 rfl (lv_at hl 0 rfl) ?_
      refine sd_get C0 h (C := RX3) (T := TX3) (N := 7) kcX3 47 (aX_47 ad cA _) rfl 3 (by decide) kfX3_18 (v := .ref (ad 50)) rfl dX3_lineThatMissesMost_31 ?_
      refine lv_iload_n hx hb dX3_lineThatMissesMost_34 rfl (lv_at hl 3 rfl) ?_
      obtain ⟨x4, hx4, hm⟩ := bs hm
      refine sd_rd C0 h 50 (aX_50 ad cA _) hx4 dX3_lineThatMissesMost_35 ?_
      refine lv_istore_n (lv' := [(1, .int x4), (0, .ref (ad 47)), (2, .int v2), (3, .int v3)]) hx hb dX3_lineThatMissesMost_36 rfl hl (by decide) rfl (fun ls hl => ?_)
      refine lv_iload_n hx hb dX3_lineThatMissesMost_37 rfl (lv_at hl 3 rfl) ?_
      refine lv_istore_n (lv' := [(2, .int v3), (1, .int x4), (0, .ref (ad 47)), (3, .int v3)]) hx hb dX3_lineThatMissesMost_38 rfl hl (by decide) rfl (fun ls hl => ?_)
      refine lv_iinc (v := (v3 + 1)) (lv' := [(3, .int (v3 + 1)), (2, .int v3), (1, .int x4), (0, .ref (ad 47))]) hx hb dX3_lineThatMissesMost_39 hl (k := 3) rfl rfl (by decide) rfl (fun ls hl => ?_)
      refine lv_goto (tgt := 6) hx hb dX3_lineThatMissesMost_42 (by decide) ?_
      exact hrc6 _ _ _ _ _ _ h (lv_sub hl [3, 2, 1, 0] rfl) hm
def mX3_lineThatMissesMost_6 (z : Nat) (S : St) : Nat → Int32 → Int32 → Int32 → Option Int32
  | 0, _, _, _ => none
  | n + 1, v1, v2, v3 => mX3_lineThatMissesMost_6b z S (mX3_lineThatMissesMost_6 z S n) v1 v2 v3
set_option maxHeartbeats 4000000 in
set_option maxRecDepth 100000 in
theorem lX3_lineThatMissesMost_6 {p : Program} {l : Launch} {e : Env} {s : State} {m : MethodId} {args : Array Value} {below : List Frame} {meth : Method} {c : Code} {D : va_G} {cA : ClassId} {ad : Nat → Nat} {A : Nat → Prop} {q : Int32} {z : Nat} {S : St} (C0 : sd_Cx RX3 cX3_lineThatMissesMost 4 (some .int) (Cond.code yX3_lineThatMissesMost cX3_lineThatMissesMost 4 (some .int) :: sd_big) p s m args meth c)  : ∀ (n : Nat) (v1 : Int32) (v2 : Int32) (v3 : Int32) (H : Heap) (locs : List Loc) (ls : Array Slot), sd_Wd D vwCl cA sd_nw (wX ad cA) A s S H locs → lv_has ls 4 [(0, .ref (ad 47)), (1, .int v1), (2, .int v2), (3, .int v3)] → mX3_lineThatMissesMost_6 z S n v1 v2 v3 = some q → W p l e rX3_lineThatMissesMost s m args below meth c H locs 0 0 (MQ below (sd_Qi D vwCl (wX ad cA) A (q, S)) args s 0 0 A) (F0 m 6 ls []) := by
  intro n
  induction n with
  | zero =>
    intro v1 v2 v3 H locs ls h hl hm
    exact nomatch (show none = some q from hm)
  | succ n ih =>
    intro v1 v2 v3 H locs ls h hl hm
    exact bX3_lineThatMissesMost_6b C0 h hl ih hm
def mX3_lineThatMissesMost (z : Nat) (S : St) : Option Int32 :=
  mX3_lineThatMissesMost_6 z S z (-1) (-1) 0
set_option maxHeartbeats 4000000 in
set_option maxRecDepth 100000 in
theorem bX3_lineThatMissesMost {p : Program} {l : Launch} {e : Env} {s : State} {m : MethodId} {args : Array Value} {below : List Frame} {meth : Method} {c : Code} {D : va_G} {cA : ClassId} {ad : Nat → Nat} {A : Nat → Prop} {H : Heap} {locs : List Loc} {ls : Array Slot} {q : Int32} {z : Nat} {S : St} (C0 : sd_Cx RX3 cX3_lineThatMissesMost 4 (some .int) (Cond.code yX3_lineThatMissesMost cX3_lineThatMissesMost 4 (some .int) :: sd_big) p s m args meth c) (h : sd_Wd D vwCl cA sd_nw (wX ad cA) A s S H locs) (hl : lv_has ls 4 [(0, .ref (ad 47))])  (hm : mX3_lineThatMissesMost z S = some q) : W p l e rX3_lineThatMissesMost s m args below meth c H locs 0 0 (MQ below (sd_Qi D vwCl (wX ad cA) A (q, S)) args s 0 0 A) (F0 m 0 ls []) := by
  unfold mX3_lineThatMissesMost at hm
  have hx := C0.1
  have hb := C0.2.1
  refine lv_iconst (v := (-1)) hx hb dX3_lineThatMissesMost_0 (by decide) ?_
  refine lv_istore_n (lv' := [(1, .int (-1)), (0, .ref (ad 47))]) hx hb dX3_lineThatMissesMost_1 rfl hl (by decide) rfl (fun ls hl => ?_)
  refine lv_iconst (v := (-1)) hx hb dX3_lineThatMissesMost_2 (by decide) ?_
  refine lv_istore_n (lv' := [(2, .int (-1)), (1, .int (-1)), (0, .ref (ad 47))]) hx hb dX3_lineThatMissesMost_3 rfl hl (by decide) rfl (fun ls hl => ?_)
  refine lv_iconst (v := 0) hx hb dX3_lineThatMissesMost_4 (by decide) ?_
  refine lv_istore_n (lv' := [(3, .int 0), (2, .int (-1)), (1, .int (-1)), (0, .ref (ad 47))]) hx hb dX3_lineThatMissesMost_5 rfl hl (by decide) rfl (fun ls hl => ?_)
  exact lX3_lineThatMissesMost_6 C0 _ _ _ _ _ _ _ h (lv_sub hl [3, 2, 1, 0] rfl) hm
theorem tX3_lineThatMissesMost (l : Launch) (D : va_G) (cA : ClassId) (ad : Nat → Nat) {z : Nat} {S : St}  {q : Int32} (hm : mX3_lineThatMissesMost z S = some q) : sd_MI l D vwCl cA sd_nw (wX ad cA) yX3_lineThatMissesMost (Cond.code yX3_lineThatMissesMost cX3_lineThatMissesMost 4 (some .int) :: sd_big) rX3_lineThatMissesMost [.ref (ad 47)] S (q, S) :=
  sd_ofI (by decide +kernel) (Nat.le_of_ble_eq_true rfl) (fun _ _ _ _ _ _ _ _ _ _ C0 h hl => bX3_lineThatMissesMost C0 h (lv_sub hl [0] rfl) hm)
