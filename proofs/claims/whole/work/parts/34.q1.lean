/-! PURE: CORRECTED on both sides; water, depth, count, sounding, boat -/
theorem sL2_Lo (S : St) (x y : Int64) : Lo S (sL (sL S 1 x) 0 y) := ⟨rfl, rfl⟩
theorem i_of_int {x : Int32} {k : Int} (h : x.toInt = k) (h0 : 0 ≤ k) : x = nI k.toNat := by subst h; exact i_nI h0
theorem x_cor {S : St} {a : Nat → Int32} {z n : Nat} (hz : 10000 ≤ z) (hR : Rel 0 S a) (hW : WF a) (hn : n < ns a) : ∃ (r : Int32) (S' : St), mX7_corrected z (nI n) S = some (r, S') ∧ r.toInt = cor a n ∧ Lo S S' := by
  have hN := (ns_nI hW).2
  obtain ⟨hLn, hL⟩ := nl_nI hW
  obtain ⟨g1, g2, g3, g4, g5, g6, g7, g8, g9, g10⟩ := hW.2.2.2.2.2 n (by omega) hn
  have rs : ∀ j, j < 10 → fA S (6 + j) n = a (2564 + 10 * n + j) := fun j hj => by have := hR.2.2.2.2.2 n j (by omega) hn hj; rw [show 17 * 0 + 6 + j = 6 + j by omega] at this; exact this
  have r9 : fA S 9 n = a (2564 + 10 * n + 3) := rs 3 (by omega)
  have r11 : fA S 11 n = a (2564 + 10 * n + 5) := rs 5 (by omega)
  have r10 : fA S 10 n = a (2564 + 10 * n + 4) := rs 4 (by omega)
  have r12 : fA S 12 n = a (2564 + 10 * n + 6) := rs 6 (by omega)
  have r6 : fA S 6 n = a (2564 + 10 * n + 0) := rs 0 (by omega)
  have s0 : (a (2564 + 10 * n + 0)).toInt = sa a n 0 := rfl
  have s3 : (a (2564 + 10 * n + 3)).toInt = sa a n 3 := rfl
  have s4 : (a (2564 + 10 * n + 4)).toInt = sa a n 4 := rfl
  have s5 : (a (2564 + 10 * n + 5)).toInt = sa a n 5 := rfl
  have s6 : (a (2564 + 10 * n + 6)).toInt = sa a n 6 := rfl
  unfold mX7_corrected cor
  rw [rd_nI (by omega) (by omega), ob, r11, x_has (hR.1.trans hLn) hL, ob, s5]
  by_cases c : 3 ≤ sa a n 0
  · have := g7 c
    rw [if_pos c, if_neg (c := 0 ≤ sa a n 5 ∧ sa a n 5 < (nl a : Int)) (by omega), if_pos rfl, rd_nI (by omega) (by omega), ob, r9]
    exact ⟨_, _, rfl, s3, Lo.rf S⟩
  · have g6' := g6 (by omega)
    rw [if_neg c, if_pos (c := 0 ≤ sa a n 5 ∧ sa a n 5 < (nl a : Int)) (by omega), if_neg one_ne, rd_nI (by omega) (by omega), ob, r10, rd_nI (by omega) (by omega), ob, r12, i_of_int s4 g5.1]
    obtain ⟨t1, t2⟩ := x_seek hz hR hW (d := (sa a n 4).toNat) (by omega) (a (2564 + 10 * n + 6))
    rw [s6] at t1 t2
    cases ht : tide a (sa a n 4).toNat (sa a n 6) with
    | none =>
      rw [t1 ht, ob, if_pos rfl]
      exact ⟨_, _, rfl, rfl, Lo.rf S⟩
    | some v =>
      obtain ⟨o, w⟩ := v
      obtain ⟨L0, L1, e, l0', l1'⟩ := t2 o w ht
      obtain ⟨wb, nb1, nb2, rb, lb, ob', pb⟩ := numr_b hW hn (by omega) ht
      rw [e, ob, if_neg one_ne]
      have ln : ∀ j, j < 3 → fA S j (sa a n 5).toNat = a (4 + 3 * (sa a n 5).toNat + j) := fun j hj => by have := hR.2.2.1 (sa a n 5).toNat j (by omega) (by omega) hj; rw [show 17 * 0 + j = j by omega] at this; exact this
      have key : ∀ t0 : Int64, t0.toInt = rate a n → ∃ (r : Int32) (S' : St), mX7_corrected_92 z (nI n) (a (2564 + 10 * n + 5)) t0 (sL (sL S 1 L1) 0 L0) = some (r, S') ∧ r.toInt = numr a n o w / (w * 2000) ∧ Lo S S' := by
        intro t0 ht0
        unfold mX7_corrected_92
        rw [rd_nI (by omega) (by omega), ob, show fA (sL (sL S 1 L1) 0 L0) 9 n = a (2564 + 10 * n + 3) from r9, i_of_int s5 g6'.2.1, rd_nI (by omega) (by omega), ob, show fA (sL (sL S 1 L1) 0 L0) 2 (sa a n 5).toNat = a (4 + 3 * (sa a n 5).toNat + 2) from ln 2 (by omega)]
        have sl : (a (4 + 3 * (sa a n 5).toNat + 2)).toInt = la a (sa a n 5).toNat 2 := rfl
        have fl1 : fL (sL (sL S 1 L1) 0 L0) 1 = L1 := rfl
        have fl0 : fL (sL (sL S 1 L1) 0 L0) 0 = L0 := rfl
        rw [fl1, fl0]
        have l2000 : (2000 : Int64).toInt = 2000 := rfl
        have m1 : ((a (2564 + 10 * n + 3)).toInt64 * t0).toInt = sa a n 3 * rate a n := by rw [tl_mul (by rw [t64, ht0, s3]; omega) (by rw [t64, ht0, s3]; omega), t64, ht0, s3]
        have m2 : ((a (4 + 3 * (sa a n 5).toNat + 2)).toInt64 * 2000).toInt = la a (sa a n 5).toNat 2 * 2000 := by rw [tl_mul (by rw [t64, l2000, sl]; omega) (by rw [t64, l2000, sl]; omega), t64, l2000, sl]
        have m3 := tl_add (x := (a (2564 + 10 * n + 3)).toInt64 * t0) (y := (a (4 + 3 * (sa a n 5).toNat + 2)).toInt64 * 2000) (by rw [m1, m2]; omega) (by rw [m1, m2]; omega)
        rw [m1, m2] at m3
        have bq1 : -100000 * w ≤ (sa a n 3 * rate a n + la a (sa a n 5).toNat 2 * 2000) * w := Int.mul_le_mul_of_nonneg_right (by omega) (by omega)
        have bq2 : (sa a n 3 * rate a n + la a (sa a n 5).toNat 2 * 2000) * w ≤ 40098000 * w := Int.mul_le_mul_of_nonneg_right (by omega) (by omega)
        have m4 := tl_mul (x := (a (2564 + 10 * n + 3)).toInt64 * t0 + (a (4 + 3 * (sa a n 5).toNat + 2)).toInt64 * 2000) (y := L1) (by rw [m3, l1']; omega) (by rw [m3, l1']; omega)
        rw [m3, l1'] at m4
        have m5 : (L0 * 2000).toInt = o * 2000 := by rw [tl_mul (by rw [l0', l2000]; omega) (by rw [l0', l2000]; omega), l0', l2000]
        have m6 := tl_sub (x := ((a (2564 + 10 * n + 3)).toInt64 * t0 + (a (4 + 3 * (sa a n 5).toNat + 2)).toInt64 * 2000) * L1) (y := L0 * 2000) (by rw [m4, m5]; omega) (by rw [m4, m5]; omega)
        rw [m4, m5] at m6
        have m7 : (L1 * 2000).toInt = w * 2000 := by rw [tl_mul (by rw [l1', l2000]; omega) (by rw [l1', l2000]; omega), l1', l2000]
        have nm : numr a n o w = (sa a n 3 * rate a n + la a (sa a n 5).toNat 2 * 2000) * w - o * 2000 := rfl
        obtain ⟨q, eq, hq⟩ := floorOf_ok (sL (sL S 1 L1) 0 L0) (x := ((a (2564 + 10 * n + 3)).toInt64 * t0 + (a (4 + 3 * (sa a n 5).toNat + 2)).toInt64 * 2000) * L1 - L0 * 2000) (y := L1 * 2000) (by rw [m7]; omega) (by rw [m6]; omega) (by rw [m6]; omega)
        rw [eq, ob]
        rw [m6, m7, ← nm] at hq
        have c1 : -251 ≤ numr a n o w / (w * 2000) := by rw [Int.le_ediv_iff_mul_le (by omega)]; omega
        have c2 : numr a n o w / (w * 2000) < 20201 := by rw [Int.ediv_lt_iff_lt_mul (by omega)]; omega
        exact ⟨_, _, rfl, by rw [t32 (by rw [hq]; omega) (by rw [hq]; omega), hq], sL2_Lo S L1 L0⟩
      rw [rd_nI (by omega) (by omega), ob, show fA (sL (sL S 1 L1) 0 L0) 6 n = a (2564 + 10 * n + 0) from r6]
      by_cases c8 : a (2564 + 10 * n + 0) = 1
      · have c8' : sa a n 0 = 1 := by rw [← s0, c8]; rfl
        rw [if_pos c8]
        have sl1 : (a (4 + 3 * (sa a n 5).toNat + 1)).toInt = la a (sa a n 5).toNat 1 := rfl
        have rr : rd (fA (sL (sL S 1 L1) 0 L0) 1) 20 (a (2564 + 10 * n + 5)) = some (a (4 + 3 * (sa a n 5).toNat + 1)) := by
          rw [i_of_int s5 g6'.2.1, rd_nI (by omega) (by omega), show fA (sL (sL S 1 L1) 0 L0) 1 (sa a n 5).toNat = a (4 + 3 * (sa a n 5).toNat + 1) from ln 1 (by omega)]
        rw [rr, ob]
        exact key _ (by rw [t64, sl1]; unfold rate; rw [if_pos c8'])
      · have c8' : ¬ sa a n 0 = 1 := fun h => c8 (by rw [i_eq, s0, h]; rfl)
        rw [if_neg c8]
        exact key 2000 (by unfold rate; rw [if_neg c8']; rfl)
theorem y_o0 {S : St} {a : Nat → Int32} (e0 : fA S 0 = a) {n : Nat} (hn : n < 200) : mX10_of S (nI n) 0 = some (a (2564 + 10 * n + 0)) := by rw [← e0]; exact y_of (j := 0) hn (by omega)
theorem y_o1 {S : St} {a : Nat → Int32} (e0 : fA S 0 = a) {n : Nat} (hn : n < 200) : mX10_of S (nI n) 1 = some (a (2564 + 10 * n + 1)) := by rw [← e0]; exact y_of (j := 1) hn (by omega)
theorem y_o2 {S : St} {a : Nat → Int32} (e0 : fA S 0 = a) {n : Nat} (hn : n < 200) : mX10_of S (nI n) 2 = some (a (2564 + 10 * n + 2)) := by rw [← e0]; exact y_of (j := 2) hn (by omega)
theorem y_o3 {S : St} {a : Nat → Int32} (e0 : fA S 0 = a) {n : Nat} (hn : n < 200) : mX10_of S (nI n) 3 = some (a (2564 + 10 * n + 3)) := by rw [← e0]; exact y_of (j := 3) hn (by omega)
theorem y_o4 {S : St} {a : Nat → Int32} (e0 : fA S 0 = a) {n : Nat} (hn : n < 200) : mX10_of S (nI n) 4 = some (a (2564 + 10 * n + 4)) := by rw [← e0]; exact y_of (j := 4) hn (by omega)
theorem y_o5 {S : St} {a : Nat → Int32} (e0 : fA S 0 = a) {n : Nat} (hn : n < 200) : mX10_of S (nI n) 5 = some (a (2564 + 10 * n + 5)) := by rw [← e0]; exact y_of (j := 5) hn (by omega)
theorem y_o6 {S : St} {a : Nat → Int32} (e0 : fA S 0 = a) {n : Nat} (hn : n < 200) : mX10_of S (nI n) 6 = some (a (2564 + 10 * n + 6)) := by rw [← e0]; exact y_of (j := 6) hn (by omega)
theorem y_o7 {S : St} {a : Nat → Int32} (e0 : fA S 0 = a) {n : Nat} (hn : n < 200) : mX10_of S (nI n) 7 = some (a (2564 + 10 * n + 7)) := by rw [← e0]; exact y_of (j := 7) hn (by omega)
theorem y_o8 {S : St} {a : Nat → Int32} (e0 : fA S 0 = a) {n : Nat} (hn : n < 200) : mX10_of S (nI n) 8 = some (a (2564 + 10 * n + 8)) := by rw [← e0]; exact y_of (j := 8) hn (by omega)
theorem y_o9 {S : St} {a : Nat → Int32} (e0 : fA S 0 = a) {n : Nat} (hn : n < 200) : mX10_of S (nI n) 9 = some (a (2564 + 10 * n + 9)) := by rw [← e0]; exact y_of (j := 9) hn (by omega)
theorem y_waits {S : St} {a : Nat → Int32} {z n : Nat} (hz : 10000 ≤ z) (e0 : fA S 0 = a) (hW : WF a) (hn : n < ns a) : ∃ (r : Int32) (S' : St), mX10_waits z (nI n) S = some (r, S') ∧ Lo S S' ∧ ((wts a n ∧ r = 1) ∨ (¬ wts a n ∧ r = 0)) := by
  have hN := (ns_nI hW).2
  obtain ⟨g1, g2, g3, g4, g5, g6, g7, g8, g9, g10⟩ := hW.2.2.2.2.2 n (by omega) hn
  have s0 : (a (2564 + 10 * n + 0)).toInt = sa a n 0 := rfl
  have s4 : (a (2564 + 10 * n + 4)).toInt = sa a n 4 := rfl
  have s6 : (a (2564 + 10 * n + 6)).toInt = sa a n 6 := rfl
  have z3 : (3 : Int32).toInt = 3 := rfl
  unfold mX10_waits
  rw [y_o0 e0 (by omega), ob]
  by_cases c : 3 ≤ sa a n 0
  · rw [if_pos (by rw [i_le, s0]; omega)]
    exact ⟨_, _, rfl, Lo.rf S, Or.inr ⟨fun h => by have := h.1; omega, rfl⟩⟩
  · rw [if_neg (by rw [i_le, s0]; omega), y_o4 e0 (by omega), ob, y_o6 e0 (by omega), ob, i_of_int s4 g5.1]
    obtain ⟨t1, t2⟩ := y_seek hz e0 hW (d := (sa a n 4).toNat) (by omega) (a (2564 + 10 * n + 6))
    rw [s6] at t1 t2
    cases ht : tide a (sa a n 4).toNat (sa a n 6) with
    | none =>
      rw [t1 ht, ob, if_pos rfl]
      exact ⟨_, _, rfl, Lo.rf S, Or.inl ⟨⟨by omega, ht⟩, rfl⟩⟩
    | some v =>
      obtain ⟨o, w⟩ := v
      obtain ⟨L0, L1, e, -, -⟩ := t2 o w ht
      rw [e, ob, if_neg one_ne]
      exact ⟨_, _, rfl, sL2_Lo S L1 L0, Or.inr ⟨fun h => (by rw [h.2] at ht; cases ht), rfl⟩⟩
theorem y_cor {S : St} {a : Nat → Int32} {z n : Nat} (hz : 10000 ≤ z) (e0 : fA S 0 = a) (hW : WF a) (hn : n < ns a) : ∃ (r : Int32) (S' : St), mX10_corrected z (nI n) S = some (r, S') ∧ r.toInt = cor a n ∧ Lo S S' := by
  have hN := (ns_nI hW).2
  obtain ⟨hLn, hL⟩ := nl_nI hW
  obtain ⟨g1, g2, g3, g4, g5, g6, g7, g8, g9, g10⟩ := hW.2.2.2.2.2 n (by omega) hn
  have s0 : (a (2564 + 10 * n + 0)).toInt = sa a n 0 := rfl
  have s3 : (a (2564 + 10 * n + 3)).toInt = sa a n 3 := rfl
  have s4 : (a (2564 + 10 * n + 4)).toInt = sa a n 4 := rfl
  have s5 : (a (2564 + 10 * n + 5)).toInt = sa a n 5 := rfl
  have s6 : (a (2564 + 10 * n + 6)).toInt = sa a n 6 := rfl
  have z3 : (3 : Int32).toInt = 3 := rfl
  unfold mX10_corrected cor
  rw [y_o0 e0 (by omega), ob]
  by_cases c : 3 ≤ sa a n 0
  · rw [if_pos c, if_neg (by rw [i_lt, s0]; omega), y_o3 e0 (by omega), ob]
    exact ⟨_, _, rfl, s3, Lo.rf S⟩
  · have g6' := g6 (by omega)
    rw [if_neg c, if_pos (by rw [i_lt, s0]; omega), y_o4 e0 (by omega), ob, y_o6 e0 (by omega), ob, i_of_int s4 g5.1]
    obtain ⟨t1, t2⟩ := y_seek hz e0 hW (d := (sa a n 4).toNat) (by omega) (a (2564 + 10 * n + 6))
    rw [s6] at t1 t2
    cases ht : tide a (sa a n 4).toNat (sa a n 6) with
    | none =>
      rw [t1 ht, ob, if_pos rfl]
      exact ⟨_, _, rfl, rfl, Lo.rf S⟩
    | some v =>
      obtain ⟨o, w⟩ := v
      obtain ⟨L0, L1, e, l0', l1'⟩ := t2 o w ht
      obtain ⟨wb, nb1, nb2, rb, lb, ob', pb⟩ := numr_b hW hn (by omega) ht
      have e1 : fA (sL (sL S 1 L1) 0 L0) 0 = a := e0
      rw [e, ob, if_neg one_ne, y_o5 e1 (by omega), ob, y_o0 e1 (by omega), ob]
      have ln : ∀ j, j < 3 → mX10_lineOf (sL (sL S 1 L1) 0 L0) (a (2564 + 10 * n + 5)) (nI j) = some (a (4 + 3 * (sa a n 5).toNat + j)) := fun j hj => by rw [i_of_int s5 g6'.2.1, y_lineOf (by omega) hj, e1]
      have key : ∀ t0 : Int64, t0.toInt = rate a n → ∃ (r : Int32) (S' : St), mX10_corrected_71 z (nI n) (a (2564 + 10 * n + 5)) t0 (sL (sL S 1 L1) 0 L0) = some (r, S') ∧ r.toInt = numr a n o w / (w * 2000) ∧ Lo S S' := by
        intro t0 ht0
        unfold mX10_corrected_71
        rw [y_o3 e1 (by omega), ob, show (2 : Int32) = nI 2 from rfl, ln 2 (by omega), ob]
        have sl : (a (4 + 3 * (sa a n 5).toNat + 2)).toInt = la a (sa a n 5).toNat 2 := rfl
        have fl1 : fL (sL (sL S 1 L1) 0 L0) 1 = L1 := rfl
        have fl0 : fL (sL (sL S 1 L1) 0 L0) 0 = L0 := rfl
        rw [fl1, fl0]
        generalize hx3 : (a (2564 + 10 * n + 3)).toInt64 = X3
        generalize hxl : (a (4 + 3 * (sa a n 5).toNat + 2)).toInt64 = XL
        have x3 : X3.toInt = sa a n 3 := by rw [← hx3, t64, s3]
        have xl : XL.toInt = la a (sa a n 5).toNat 2 := by rw [← hxl, t64, sl]
        have l2000 : (2000 : Int64).toInt = 2000 := rfl
        have m1 : (X3 * t0).toInt = sa a n 3 * rate a n := by rw [tl_mul (by rw [x3, ht0]; omega) (by rw [x3, ht0]; omega), x3, ht0]
        have bq0 : 0 ≤ sa a n 3 * rate a n * w := Int.mul_nonneg pb.1 (by omega)
        have bq2 : sa a n 3 * rate a n * w ≤ 39998000 * w := Int.mul_le_mul_of_nonneg_right (by omega) (by omega)
        have m2 : (X3 * t0 * L1).toInt = sa a n 3 * rate a n * w := by rw [tl_mul (by rw [m1, l1']; omega) (by rw [m1, l1']; omega), m1, l1']
        have m3 : (2000 * XL).toInt = 2000 * la a (sa a n 5).toNat 2 := by rw [tl_mul (by rw [xl, l2000]; omega) (by rw [xl, l2000]; omega), xl, l2000]
        have bs1 : -100000 * w ≤ 2000 * la a (sa a n 5).toNat 2 * w := Int.mul_le_mul_of_nonneg_right (by omega) (by omega)
        have bs2 : 2000 * la a (sa a n 5).toNat 2 * w ≤ 100000 * w := Int.mul_le_mul_of_nonneg_right (by omega) (by omega)
        have m4 : (2000 * XL * L1).toInt = 2000 * la a (sa a n 5).toNat 2 * w := by rw [tl_mul (by rw [m3, l1']; omega) (by rw [m3, l1']; omega), m3, l1']
        have m5 : (2000 * L0).toInt = 2000 * o := by rw [tl_mul (by rw [l0', l2000]; omega) (by rw [l0', l2000]; omega), l0', l2000]
        have m6 : (X3 * t0 * L1 + 2000 * XL * L1).toInt = sa a n 3 * rate a n * w + 2000 * la a (sa a n 5).toNat 2 * w := by rw [tl_add (by rw [m2, m4]; omega) (by rw [m2, m4]; omega), m2, m4]
        have nm : numr a n o w = sa a n 3 * rate a n * w + 2000 * la a (sa a n 5).toNat 2 * w - 2000 * o := by
          unfold numr; rw [Int.add_mul, Int.mul_comm (la a (sa a n 5).toNat 2) 2000]; omega
        have m7 : (X3 * t0 * L1 + 2000 * XL * L1 - 2000 * L0).toInt = numr a n o w := by rw [tl_sub (by rw [m6, m5]; omega) (by rw [m6, m5]; omega), m6, m5, nm]
        have m8 : (2000 * L1).toInt = w * 2000 := by rw [tl_mul (by rw [l1', l2000]; omega) (by rw [l1', l2000]; omega), l1', l2000]; omega
        obtain ⟨q, eq, hq⟩ := below_ok (sL (sL S 1 L1) 0 L0) (x := X3 * t0 * L1 + 2000 * XL * L1 - 2000 * L0) (y := 2000 * L1) (by rw [m8]; omega) (by rw [m7]; omega) (by rw [m7]; omega)
        rw [eq, ob]
        rw [m7, m8] at hq
        have c1 : -251 ≤ numr a n o w / (w * 2000) := by rw [Int.le_ediv_iff_mul_le (by omega)]; omega
        have c2 : numr a n o w / (w * 2000) < 20201 := by rw [Int.ediv_lt_iff_lt_mul (by omega)]; omega
        exact ⟨_, _, rfl, by rw [t32 (by rw [hq]; omega) (by rw [hq]; omega), hq], sL2_Lo S L1 L0⟩
      by_cases c8 : a (2564 + 10 * n + 0) = 1
      · have c8' : sa a n 0 = 1 := by rw [← s0, c8]; rfl
        have sl1 : (a (4 + 3 * (sa a n 5).toNat + 1)).toInt = la a (sa a n 5).toNat 1 := rfl
        rw [if_pos c8, show (1 : Int32) = nI 1 from rfl, ln 1 (by omega), ob]
        exact key _ (by rw [t64, sl1]; unfold rate; rw [if_pos c8'])
      · have c8' : ¬ sa a n 0 = 1 := fun h => c8 (by rw [i_eq, s0, h]; rfl)
        rw [if_neg c8]
        exact key 2000 (by unfold rate; rw [if_neg c8']; rfl)
theorem p_depth {z : Nat} (hz : 10000 ≤ z) : ok_depth z Inv := by
  intro Sx Sy v1 hI
  obtain ⟨e1, hn⟩ := ns_nI hI.2.1
  unfold mX9_depth mX10_depth
  rw [x_hasS (hI.1.2.1.trans e1) hn, ob, y_isSnd e1 hn, ob]
  by_cases c1 : 0 ≤ v1.toInt ∧ v1.toInt < ns (fA Sy 0)
  · obtain ⟨k, rfl, hk⟩ := i_ex c1.1
    rw [if_pos c1, if_neg one_ne, if_neg one_ne]
    obtain ⟨r, X, ex, hr, lx⟩ := x_cor hz hI.1 hI.2.1 (n := k) (by omega)
    obtain ⟨r', Y, ey', hr', ly⟩ := y_cor hz rfl hI.2.1 (n := k) (by omega)
    rw [ex, ob, ey', ob]
    exact ⟨_, _, rfl, rfl, (by rw [i_eq]; exact hr.trans hr'.symm), hI.keep lx.px ly.py⟩
  · rw [if_neg c1, if_pos rfl, if_pos rfl]
    exact ⟨_, _, rfl, rfl, rfl, hI⟩
