/-! PURE: water, count, sounding, boat -/
theorem p_water {z : Nat} (hz : 10000 ≤ z) : ok_water z Inv := by
  intro Sx Sy v1 v2 v3 hI
  unfold mX9_water mX10_water
  rw [x_day, ob, y_in2 (B := 0) (C := 99) rfl rfl, ob]
  by_cases c1 : 0 ≤ v1.toInt ∧ v1.toInt ≤ 99
  · rw [if_pos c1, if_neg one_ne, if_neg one_ne, x_min, ob, y_in2 (B := 0) (C := 1439) rfl rfl, ob]
    by_cases c2 : 0 ≤ v2.toInt ∧ v2.toInt ≤ 1439
    · rw [if_pos c2, if_neg one_ne, if_neg one_ne, x_in2 (B := 1) (C := 1439) rfl rfl, ob, y_in2 (B := 1) (C := 1439) rfl rfl, ob]
      by_cases c3 : 1 ≤ v3.toInt ∧ v3.toInt ≤ 1439
      · rw [if_pos c3, if_neg one_ne, if_neg one_ne]
        obtain ⟨d, rfl, hd'⟩ := i_ex c1.1
        have hd : d < 100 := by omega
        obtain ⟨x1, x2⟩ := x_seek hz hI.1 hI.2.1 hd v2
        obtain ⟨y1, y2⟩ := y_seek (S := Sy) hz rfl hI.2.1 hd v2
        cases ht : tide (fA Sy 0) d v2.toInt with
        | none =>
          rw [x1 ht, ob, y1 ht, ob, if_pos rfl, if_pos rfl]
          exact ⟨_, _, rfl, rfl, rfl, hI⟩
        | some v =>
          obtain ⟨o, w⟩ := v
          obtain ⟨L0, L1, e, l0', l1'⟩ := x2 o w ht
          obtain ⟨M0, M1, e', m0', m1'⟩ := y2 o w ht
          have tb := tide_b hI.2.1 hd ht
          rw [e, ob, e', ob, if_neg one_ne, if_neg one_ne]
          have b1 : -100 * w * 1439 ≤ o * v3.toInt := by
            have q1 : -100 * w * v3.toInt ≤ o * v3.toInt := Int.mul_le_mul_of_nonneg_right (by omega) (by omega)
            have q2 : (-100 * w) * 1439 ≤ (-100 * w) * v3.toInt := Int.mul_le_mul_of_nonpos_left (by omega) (by omega)
            omega
          have b2 : o * v3.toInt ≤ 200 * w * 1439 := by
            have q1 : o * v3.toInt ≤ 200 * w * v3.toInt := Int.mul_le_mul_of_nonneg_right (by omega) (by omega)
            have q2 : 200 * w * v3.toInt ≤ 200 * w * 1439 := Int.mul_le_mul_of_nonneg_left (by omega) (by omega)
            omega
          have fx0 : fL (sL (sL Sx 1 L1) 0 L0) 0 = L0 := rfl
          have fx1 : fL (sL (sL Sx 1 L1) 0 L0) 1 = L1 := rfl
          have fy0 : fL (sL (sL Sy 1 M1) 0 M0) 0 = M0 := rfl
          have fy1 : fL (sL (sL Sy 1 M1) 0 M0) 1 = M1 := rfl
          have mx : (L0 * v3.toInt64).toInt = o * v3.toInt := by rw [tl_mul (by rw [l0', t64]; omega) (by rw [l0', t64]; omega), l0', t64]
          have my : (M0 * v3.toInt64).toInt = o * v3.toInt := by rw [tl_mul (by rw [m0', t64]; omega) (by rw [m0', t64]; omega), m0', t64]
          obtain ⟨q, eq, hq⟩ := floorOf_ok (sL (sL Sx 1 L1) 0 L0) (x := L0 * v3.toInt64) (y := L1) (by rw [l1']; omega) (by rw [mx]; omega) (by rw [mx]; omega)
          obtain ⟨p, ep, hp⟩ := below_ok (sL (sL Sy 1 M1) 0 M0) (x := M0 * v3.toInt64) (y := M1) (by rw [m1']; omega) (by rw [my]; omega) (by rw [my]; omega)
          rw [fx0, fx1, fy0, fy1, eq, ob, ep, ob]
          have qp : q = p := by rw [l_eq, hq, hp, mx, my, l1', m1']
          exact ⟨_, _, rfl, rfl, (by rw [qp]), hI.keep (sL2_Lo Sx L1 L0).px (sL2_Lo Sy M1 M0).py⟩
      · rw [if_neg c3, if_pos rfl, if_pos rfl]
        exact ⟨_, _, rfl, rfl, rfl, hI⟩
    · rw [if_neg c2, if_pos rfl, if_pos rfl]
      exact ⟨_, _, rfl, rfl, rfl, hI⟩
  · rw [if_neg c1, if_pos rfl, if_pos rfl]
    exact ⟨_, _, rfl, rfl, rfl, hI⟩
theorem unk_eq {r : Int32} {k : Int} (h : r.toInt = k) : r = (-30000) ↔ k = -30000 := by
  have z : (-30000 : Int32).toInt = -30000 := rfl
  rw [i_eq, h, z]
theorem Rel.lo {S S' : St} {a : Nat → Int32} (h : Rel 0 S a) (g : Lo S S') : Rel 0 S' a := h.px g.px
/-- how many wait, side by side -/
theorem cnt_both {a : Nat → Int32} {z : Nat} (hz : 10000 ≤ z) (hW : WF a) : ∀ (r k n m : Nat) (v : Int32) (S T : St), k + r = ns a → r < n → r < m → Rel 0 S a → fA T 0 = a → ∃ (q : Int32) (X Y : St), mX7_waiting_4 z n v (nI k) S = some (q, X) ∧ mX10_count_44 z m v (nI k) T = some (q, Y) ∧ Lo S X ∧ Lo T Y := by
  obtain ⟨e1, hN⟩ := ns_nI hW
  intro r
  induction r with
  | zero =>
    intro k n m v S T hk hn hm hR hT
    obtain ⟨n, rfl⟩ : ∃ n', n = n' + 1 := ⟨n - 1, by omega⟩
    obtain ⟨m, rfl⟩ : ∃ n', m = n' + 1 := ⟨m - 1, by omega⟩
    refine ⟨v, S, T, ?_, ?_, Lo.rf S, Lo.rf T⟩
    · rw [mX7_waiting_4]; unfold mX7_waiting_4b
      rw [hR.2.1, e1, if_pos (by rw [nI_leI (by omega) (by omega)]; omega)]
    · rw [mX10_count_44]; unfold mX10_count_44b
      rw [rd_1 (by omega) (by omega), ob, hT, e1, if_pos (by rw [nI_leI (by omega) (by omega)]; omega)]
  | succ r ih =>
    intro k n m v S T hk hn hm hR hT
    obtain ⟨n, rfl⟩ : ∃ n', n = n' + 1 := ⟨n - 1, by omega⟩
    obtain ⟨m, rfl⟩ : ∃ n', m = n' + 1 := ⟨m - 1, by omega⟩
    obtain ⟨c, S1, ec, hc, l1⟩ := x_cor hz hR hW (n := k) (by omega)
    obtain ⟨w, T1, ew, l2, hw⟩ := y_waits hz hT hW (n := k) (by omega)
    have hx : mX7_waiting_4 z (n + 1) v (nI k) S = if c = (-30000) then mX7_waiting_4 z n (v + 1) (nI (k + 1)) S1 else mX7_waiting_4 z n v (nI (k + 1)) S1 := by
      rw [mX7_waiting_4]; unfold mX7_waiting_4b
      rw [hR.2.1, e1, if_neg (by rw [nI_leI (by omega) (by omega)]; omega), ec, ob, nI_1]
    have hy : mX10_count_44 z (m + 1) v (nI k) T = if w = 0 then mX10_count_44 z m (v + 0) (nI (k + 1)) T1 else mX10_count_44 z m (v + 1) (nI (k + 1)) T1 := by
      rw [mX10_count_44]; unfold mX10_count_44b mX10_count_68
      rw [rd_1 (by omega) (by omega), ob, hT, e1, if_neg (by rw [nI_leI (by omega) (by omega)]; omega), ew, ob, nI_1]
    rw [hx, hy]
    have cw := cor_w hW (n := k) (by omega)
    rcases hw with ⟨w1, rfl⟩ | ⟨w1, rfl⟩
    · rw [if_pos ((unk_eq hc).mpr (cw.mpr w1)), if_neg one_ne]
      obtain ⟨q, X, Y, f1, f2, f3, f4⟩ := ih (k + 1) n m (v + 1) S1 T1 (by omega) (by omega) (by omega) (hR.lo l1) ((l2.a 0).trans hT)
      exact ⟨q, X, Y, f1, f2, l1.tr f3, l2.tr f4⟩
    · rw [if_neg (fun h => w1 (cw.mp ((unk_eq hc).mp h))), if_pos rfl, show v + 0 = v by simp]
      obtain ⟨q, X, Y, f1, f2, f3, f4⟩ := ih (k + 1) n m v S1 T1 (by omega) (by omega) (by omega) (hR.lo l1) ((l2.a 0).trans hT)
      exact ⟨q, X, Y, f1, f2, l1.tr f3, l2.tr f4⟩
theorem p_count {z : Nat} (hz : 10000 ≤ z) : ok_count z Inv := by
  intro Sx Sy v1 hI
  have hI' := hI
  obtain ⟨hR, hW, hM, c, nx, ny, hc, hnx, hny, x6, x5, y0, y1, hh⟩ := hI'
  obtain ⟨e1, hn⟩ := ns_nI hW
  unfold mX9_count mX10_count
  by_cases c0 : v1 = 0
  · rw [if_pos c0, if_pos c0, rd_0 (by omega) (by omega), ob]
    exact ⟨_, _, rfl, rfl, hR.1, hI⟩
  rw [if_neg c0, if_neg c0]
  by_cases c1 : v1 = 1
  · rw [if_pos c1, if_pos c1, rd_1 (by omega) (by omega), ob]
    exact ⟨_, _, rfl, rfl, hR.2.1, hI⟩
  rw [if_neg c1, if_neg c1]
  by_cases c3 : v1 = 3
  · subst c3
    rw [if_neg (by decide), if_pos rfl, if_pos rfl]
    exact ⟨_, _, rfl, rfl, x6.trans y0.symm, hI⟩
  rw [if_neg (c := v1 = 3) c3, if_neg (c := v1 = 3) c3]
  by_cases c2 : v1 = 2
  · rw [if_pos c2, if_pos c2]
    obtain ⟨q, X, Y, f1, f2, f3, f4⟩ := cnt_both hz hW (ns (fA Sy 0)) 0 z z 0 Sx Sy (by omega) (by omega) (by omega) hR rfl
    unfold mX7_waiting
    rw [show (0 : Int32) = nI 0 from rfl] at f1 f2 ⊢
    rw [f1, ob, f2]
    exact ⟨_, _, rfl, rfl, rfl, hI.keep f3.px f4.py⟩
  · rw [if_neg c2, if_neg c2]
    exact ⟨_, _, rfl, rfl, rfl, hI⟩
theorem p_sounding {z : Nat} (hz : 10000 ≤ z) : ok_sounding z Inv := by
  intro Sx Sy v1 v2 hI
  obtain ⟨e1, hn⟩ := ns_nI hI.2.1
  unfold mX9_sounding mX10_sounding
  rw [x_hasS (hI.1.2.1.trans e1) hn, ob, y_isSnd e1 hn, ob]
  by_cases c1 : 0 ≤ v1.toInt ∧ v1.toInt < ns (fA Sy 0)
  · obtain ⟨k, rfl, hk⟩ := i_ex c1.1
    rw [if_pos c1, if_neg one_ne, if_neg one_ne, y_in2 (B := 0) (C := 10) rfl rfl, ob]
    have rs : ∀ j, j < 10 → fA Sx (6 + j) k = fA Sy 0 (2564 + 10 * k + j) := fun j hj => by have := hI.1.2.2.2.2.2 k j (by omega) (by omega) hj; rw [show 17 * 0 + 6 + j = 6 + j by omega] at this; exact this
    have yo : ∀ j, j < 10 → mX10_of Sy (nI k) (nI j) = some (fA Sy 0 (2564 + 10 * k + j)) := fun j hj => y_of (by omega) hj
    have sm : ∀ j : Nat, j < 10 → ∀ f : Nat, f = 6 + j → ∃ (q r : Int32 × St), ((rd (fA Sx f) 200 (nI k)).bind fun x => some (x, Sx)) = some q ∧ ((mX10_of Sy (nI k) (nI j)).bind fun u => some (u, Sy)) = some r ∧ q.1 = r.1 ∧ Inv q.2 r.2 := by
      intro j hj f hf
      subst hf
      rw [rd_nI (by omega) (by omega), ob, yo j hj, ob]
      exact ⟨_, _, rfl, rfl, rs j hj, hI⟩
    have z0 : (0 : Int32).toInt = 0 := rfl
    by_cases d10 : v2 = 10
    · subst d10
      rw [if_pos (show (0 : Int) ≤ (10 : Int32).toInt ∧ (10 : Int32).toInt ≤ 10 by decide), if_neg one_ne, if_neg (by decide), if_neg (by decide), if_neg (by decide), if_neg (by decide), if_neg (by decide), if_neg (by decide), if_neg (by decide), if_neg (by decide), if_neg (by decide), if_neg (by decide), if_pos rfl, if_pos rfl]
      obtain ⟨c, S1, ec, hc, l1⟩ := x_cor hz hI.1 hI.2.1 (n := k) (by omega)
      obtain ⟨w, T1, ew, l2, hw⟩ := y_waits (S := Sy) hz rfl hI.2.1 (n := k) (by omega)
      have cw := cor_w hI.2.1 (n := k) (by omega)
      rw [ec, ob, ew, ob]
      rcases hw with ⟨w1, rfl⟩ | ⟨w1, rfl⟩
      · rw [if_pos ((unk_eq hc).mpr (cw.mpr w1)), if_neg one_ne]
        exact ⟨_, _, rfl, rfl, rfl, hI.keep l1.px l2.py⟩
      · rw [if_neg (fun h => w1 (cw.mp ((unk_eq hc).mp h))), if_pos rfl]
        exact ⟨_, _, rfl, rfl, rfl, hI.keep l1.px l2.py⟩
    by_cases c2 : 0 ≤ v2.toInt ∧ v2.toInt ≤ 10
    · obtain ⟨j, rfl, hj⟩ := i_ex c2.1
      have hj10 : j < 10 := by
        have : j ≠ 10 := fun h => d10 (by rw [h]; rfl)
        omega
      rw [if_pos c2, if_neg one_ne, if_neg d10]
      rcases (show j = 0 ∨ j = 1 ∨ j = 2 ∨ j = 3 ∨ j = 4 ∨ j = 5 ∨ j = 6 ∨ j = 7 ∨ j = 8 ∨ j = 9 by omega) with rfl | rfl | rfl | rfl | rfl | rfl | rfl | rfl | rfl | rfl
      · exact sm 0 (by omega) 6 rfl
      · exact sm 1 (by omega) 7 rfl
      · exact sm 2 (by omega) 8 rfl
      · exact sm 3 (by omega) 9 rfl
      · exact sm 4 (by omega) 10 rfl
      · exact sm 5 (by omega) 11 rfl
      · exact sm 6 (by omega) 12 rfl
      · exact sm 7 (by omega) 13 rfl
      · exact sm 8 (by omega) 14 rfl
      · exact sm 9 (by omega) 15 rfl
    · have ne : ∀ m : Nat, m ≤ 10 → ¬ v2 = nI m := fun m hm h => c2 (by rw [h, nI_ti (by omega)]; omega)
      rw [if_neg c2, if_pos rfl, if_neg (show ¬ v2 = 0 from ne 0 (by omega)), if_neg (show ¬ v2 = 1 from ne 1 (by omega)), if_neg (show ¬ v2 = 2 from ne 2 (by omega)), if_neg (show ¬ v2 = 3 from ne 3 (by omega)), if_neg (show ¬ v2 = 4 from ne 4 (by omega)), if_neg (show ¬ v2 = 5 from ne 5 (by omega)), if_neg (show ¬ v2 = 6 from ne 6 (by omega)), if_neg (show ¬ v2 = 7 from ne 7 (by omega)), if_neg (show ¬ v2 = 8 from ne 8 (by omega)), if_neg (show ¬ v2 = 9 from ne 9 (by omega)), if_neg (show ¬ v2 = 10 from ne 10 (by omega))]
      exact ⟨_, _, rfl, rfl, rfl, hI⟩
  · rw [if_neg c1, if_pos rfl, if_pos rfl]
    exact ⟨_, _, rfl, rfl, rfl, hI⟩
theorem line_both {a : Nat → Int32} {z : Nat} (hW : WF a) {S T : St} (hR : Rel 0 S a) (hT : fA T 0 = a) (l : Int32) : ∀ (r k n m : Nat) (v : Int32), k + r = ns a → r < n → r < m → ∃ q : Int32, mX6_ofLine_4 z S l n v (nI k) = some q ∧ mX10_boat_36 z T l m v (nI k) = some q := by
  obtain ⟨e1, hN⟩ := ns_nI hW
  intro r
  induction r with
  | zero =>
    intro k n m v hk hn hm
    obtain ⟨n, rfl⟩ : ∃ n', n = n' + 1 := ⟨n - 1, by omega⟩
    obtain ⟨m, rfl⟩ : ∃ n', m = n' + 1 := ⟨m - 1, by omega⟩
    refine ⟨v, ?_, ?_⟩
    · rw [mX6_ofLine_4]; unfold mX6_ofLine_4b
      rw [hR.2.1, e1, if_pos (by rw [nI_leI (by omega) (by omega)]; omega)]
    · rw [mX10_boat_36]; unfold mX10_boat_36b
      rw [rd_1 (by omega) (by omega), ob, hT, e1, if_pos (by rw [nI_leI (by omega) (by omega)]; omega)]
  | succ r ih =>
    intro k n m v hk hn hm
    obtain ⟨n, rfl⟩ : ∃ n', n = n' + 1 := ⟨n - 1, by omega⟩
    obtain ⟨m, rfl⟩ : ∃ n', m = n' + 1 := ⟨m - 1, by omega⟩
    have r11 : fA S 11 k = a (2564 + 10 * k + 5) := hR.2.2.2.2.2 k 5 (by omega) (by omega) (by omega)
    have hx : mX6_ofLine_4 z S l (n + 1) v (nI k) = if a (2564 + 10 * k + 5) = l then mX6_ofLine_4 z S l n (v + 1) (nI (k + 1)) else mX6_ofLine_4 z S l n v (nI (k + 1)) := by
      rw [mX6_ofLine_4]; unfold mX6_ofLine_4b
      rw [hR.2.1, e1, if_neg (by rw [nI_leI (by omega) (by omega)]; omega), rd_nI (by omega) (by omega), ob, r11, nI_1]
    have hy : mX10_boat_36 z T l (m + 1) v (nI k) = if a (2564 + 10 * k + 5) = l then mX10_boat_36 z T l m (v + 1) (nI (k + 1)) else mX10_boat_36 z T l m (v + 0) (nI (k + 1)) := by
      rw [mX10_boat_36]; unfold mX10_boat_36b mX10_boat_64
      rw [rd_1 (by omega) (by omega), ob, hT, e1, if_neg (by rw [nI_leI (by omega) (by omega)]; omega), y_o5 hT (by omega), ob, nI_1]
    rw [hx, hy]
    by_cases c : a (2564 + 10 * k + 5) = l
    · rw [if_pos c, if_pos c]; exact ih (k + 1) n m (v + 1) (by omega) (by omega) (by omega)
    · rw [if_neg c, if_neg c, show v + 0 = v by simp]; exact ih (k + 1) n m v (by omega) (by omega) (by omega)
theorem p_boat {z : Nat} (hz : 10000 ≤ z) : ok_boat z Inv := by
  intro Sx Sy v1 v2 hI
  obtain ⟨e0, hl⟩ := nl_nI hI.2.1
  obtain ⟨e1, hn⟩ := ns_nI hI.2.1
  unfold mX9_boat mX10_boat
  rw [x_has (hI.1.1.trans e0) hl, ob, y_isLine e0 hl, ob]
  by_cases c1 : 0 ≤ v1.toInt ∧ v1.toInt < nl (fA Sy 0)
  · obtain ⟨k, rfl, hk⟩ := i_ex c1.1
    rw [if_pos c1, if_neg one_ne, if_neg one_ne, y_in2 (B := 0) (C := 3) rfl rfl, ob]
    have rs : ∀ j, j < 3 → fA Sx j k = fA Sy 0 (4 + 3 * k + j) := fun j hj => by have := hI.1.2.2.1 k j (by omega) (by omega) hj; rw [show 17 * 0 + j = j by omega] at this; exact this
    have z3 : (3 : Int32).toInt = 3 := rfl
    by_cases c2 : 0 ≤ v2.toInt ∧ v2.toInt ≤ 3
    · obtain ⟨j, rfl, hj⟩ := i_ex c2.1
      rw [if_pos c2, if_neg one_ne]
      have sm : ∀ j : Nat, j < 3 → ∃ (q r : Int32), ((rd (fA Sx j) 20 (nI k)).bind fun x => some x) = some q ∧ ((mX10_lineOf Sy (nI k) (nI j)).bind fun u => some u) = some r ∧ q = r ∧ Inv Sx Sy := by
        intro j hj
        rw [rd_nI (by omega) (by omega), ob, y_lineOf (by omega) hj, ob]
        exact ⟨_, _, rfl, rfl, rs j hj, hI⟩
      rcases (show j = 0 ∨ j = 1 ∨ j = 2 ∨ j = 3 by omega) with rfl | rfl | rfl | rfl
      · exact sm 0 (by omega)
      · exact sm 1 (by omega)
      · exact sm 2 (by omega)
      · show ∃ q r, ((mX6_ofLine z Sx (nI k)).bind fun u10 => some u10) = some q ∧ mX10_boat_36 z Sy (nI k) z 0 0 = some r ∧ q = r ∧ Inv Sx Sy
        obtain ⟨q, f1, f2⟩ := line_both (z := z) hI.2.1 hI.1 (T := Sy) rfl (nI k) (ns (fA Sy 0)) 0 z z 0 (by omega) (by omega) (by omega)
        unfold mX6_ofLine
        rw [show (0 : Int32) = nI 0 from rfl] at f1 f2 ⊢
        rw [f1, ob, f2]
        exact ⟨_, _, rfl, rfl, rfl, hI⟩
    · have ne : ∀ m : Nat, m ≤ 3 → ¬ v2 = nI m := fun m hm h => c2 (by rw [h, nI_ti (by omega)]; omega)
      rw [if_neg c2, if_pos rfl, if_neg (show ¬ v2 = 0 from ne 0 (by omega)), if_neg (show ¬ v2 = 1 from ne 1 (by omega)), if_neg (show ¬ v2 = 2 from ne 2 (by omega)), if_neg (show ¬ v2 = 3 from ne 3 (by omega))]
      exact ⟨_, _, rfl, rfl, rfl, hI⟩
  · rw [if_neg c1, if_pos rfl, if_pos rfl]
    exact ⟨_, _, rfl, rfl, rfl, hI⟩
